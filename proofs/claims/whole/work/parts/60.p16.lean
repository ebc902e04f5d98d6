/-! ===== one row of each sort ===== -/
theorem ff_le {n : Nat} : ∀ {l : List (Bool × Nat)}, (∀ x, x ∈ l → x.2 ≤ n) → ∀ p, ff l = some p → p ≤ n := by
  intro l
  induction l with
  | nil => intro _ p h; cases h
  | cons x l ih =>
    intro hx p h
    obtain ⟨a, k⟩ := x
    cases a with
    | true => exact ih (fun y hy => hx y (List.mem_cons_of_mem _ hy)) p h
    | false =>
      have : k = p := Option.some.inj h
      rw [← this]
      exact hx (false, k) (List.mem_cons_self)
theorem NwM_app2 {N m s c d o w h x0 x1 bn : Nat} {so cc dd oo ww hh cr ns ls pl pl' : Nat → Nat} {pc pc' : Nat → Nat → Nat} {md0 md : T6} {rr : Option T6} {k : Bool} {C D : Int64} {O W Hh : Int32} {pat ps : Nat → Int32} {pC pD : Int32} {b e : Nat} (hM : rr = some (mFin (mX (mS md N s) N C D O W Hh pat ps pC pD b e (nI 1)) N m k)) (h0 : LV md0 md) (H : NwM md N m so cc dd oo ww hh pl pc cr ns ls) (hN : N < 40) (hcr : ∀ k, k < m → cr k < N) (hs : s < 10) (hm : m ≤ 12) (hkm : k = true → m < 12)
    (hC : s ≤ 3 → C = lN c ∧ c < 2 ^ 40) (hD : 1 ≤ s → s ≤ 3 → D = lN d ∧ d < 2 ^ 40) (hO : ¬ s = 3 → ¬ s = 4 → O = nI o ∧ o < 1000000) (hW : s ≤ 2 → W = nI w ∧ w < 1000000) (hH : s = 0 → Hh = nI h ∧ h < 1000000)
    (fs : ∀ j, j < 3 * (40 + N) → ps j = mPs md j) (fp : ∀ i, i < 16 * (3 * (40 + N)) → pat i = mPat md i)
    (pt : ∀ i, i < 3 → pl' (3 * N + i) ≤ 16 ∧ ps (3 * (40 + N) + i) = nI (pl' (3 * N + i)) ∧ ∀ q, q < pl' (3 * N + i) → pat (16 * (3 * (40 + N) + i) + q) = nI (pc' (3 * N + i) q) ∧ pc' (3 * N + i) q < 128)
    (fl : ∀ j, j < 3 * N → pl' j = pl j) (fc : ∀ j, j < 3 * N → pc' j = pc j)
    (hpC : k = true → pC = nI bn) (hp3 : s = 3 → pC = nI x0 ∧ pD = nI x1) (hp1 : s = 1 ∨ s = 2 → pD = nI x0) :
    LV md0 (mFin (mX (mS md N s) N C D O W Hh pat ps pC pD b e (nI 1)) N m k) ∧ NwM (mFin (mX (mS md N s) N C D O W Hh pat ps pC pD b e (nI 1)) N m k) (N + 1) (if k = true then m + 1 else m) (gu so N s) (gu cc N c) (gu dd N d) (gu oo N o) (gu ww N w) (gu hh N h) pl' pc' (gu cr m N) (gu ns m bn) (gu (gu ls (2 * N) x0) (2 * N + 1) x1) ∧ (mFin (mX (mS md N s) N C D O W Hh pat ps pC pD b e (nI 1)) N m k).2.2.2.1.1 = nI b ∧ (mFin (mX (mS md N s) N C D O W Hh pat ps pC pD b e (nI 1)) N m k).2.2.2.1.2.1 = nI e ∧ (mFin (mX (mS md N s) N C D O W Hh pat ps pC pD b e (nI 1)) N m k).2.2.2.1.2.2.1 = nI 1 :=
  NwM_app h0 H hN hcr k hs hm hkm rfl hC hD hO hW hH fs fp pt fl fc hpC hp3 hp1

section St
variable {F n N m b0 e0 e : Nat} {t : Nat → Nat} {tp : T4} {sh : T3} {rd : T2} {ck : T0} {md0 md : T6} {so va cc dd oo ww hh cr ns nl ls ll pl : Nat → Nat} {pc : Nat → Nat → Nat}
theorem step0 (hF : 5000 < F) (HT : TpC tp t n) (HM : TpM md t n) (H : IV t n e N m so va cc dd oo ww hh cr ns nl ls ll pl pc rd sh ck md0 md) (hN : N < 40) (hb0 : b0 = wb t n e) (he0 : e0 = we t n b0) (hbn : b0 < n) (si : f2_sortInHand F (rW rd b0 e0) tp = some (nI 0)) (hs : bnd (f6_wordName F md) (fun u => f6_sortOf F u) = some (nI 0)) (hnm : nmw t b0 e0 = true) (hk : cdw t b0 (e0 - b0) = kc 0) : SR F t n N b0 e0 tp rd sh ck md0 md := by
  obtain ⟨HG, HS, hc, hlen, hre, hen, HR, HK, h0, HW, mb, me, mr⟩ := id H
  obtain ⟨k1, h59⟩ := nmw_c hnm
  have tlt : ∀ i, i < n → t i < 128 := fun i hi => (HT.2.2 i hi).2
  have hm := HG.2.1
  have hcr : ∀ k, k < m → cr k < N := fun k hk => (HG.2.2.2.1 k hk).1
  have sp := wb_spec t n e hen
  rw [← hb0] at sp mb me
  rw [← he0] at me
  obtain ⟨s1, s2, op, pw, R, W⟩ := openRow (s := 0) (rd := rd) hF HT HS hc (txt_end so cc dd oo ww hh pl pc N) hlen sp.1 hbn (sp.2.2 hbn) h59 he0 (by omega) hN
  have ge0 := W.le
  have nk : nt (kc 0) = wl t b0 (e0 - b0) := by rw [← hk]; exact nt_code _ (nmw_spec hnm).2.2.1 (by omega)
  have hnr := HW.2.2.2.2.1
  have hnc := HW.2.2.2.2.2
  obtain ⟨b1, hb1⟩ : ∃ x, x = wb t n e0 := ⟨_, rfl⟩
  obtain ⟨e1, he1⟩ : ∃ x, x = we t n b1 := ⟨_, rfl⟩
  obtain ⟨g1a, g1b, g1c⟩ := w_ok (t := t) ge0
  rw [← hb1, ← he1] at g1b g1c
  obtain ⟨b2', hb2⟩ : ∃ x, x = wb t n e1 := ⟨_, rfl⟩
  obtain ⟨e2, he2⟩ : ∃ x, x = we t n b2' := ⟨_, rfl⟩
  obtain ⟨g2a, g2b, g2c⟩ := w_ok (t := t) g1c
  rw [← hb2, ← he2] at g2b g2c
  obtain ⟨b3, hb3⟩ : ∃ x, x = wb t n e2 := ⟨_, rfl⟩
  obtain ⟨e3, he3⟩ : ∃ x, x = we t n b3 := ⟨_, rfl⟩
  obtain ⟨g3a, g3b, g3c⟩ := w_ok (t := t) g2c
  rw [← hb3, ← he3] at g3b g3c
  obtain ⟨b4, hb4⟩ : ∃ x, x = wb t n e3 := ⟨_, rfl⟩
  obtain ⟨e4, he4⟩ : ∃ x, x = we t n b4 := ⟨_, rfl⟩
  obtain ⟨g4a, g4b, g4c⟩ := w_ok (t := t) g3c
  rw [← hb4, ← he4] at g4b g4c
  obtain ⟨b5, hb5⟩ : ∃ x, x = wb t n e4 := ⟨_, rfl⟩
  obtain ⟨e5, he5⟩ : ∃ x, x = we t n b5 := ⟨_, rfl⟩
  obtain ⟨g5a, g5b, g5c⟩ := w_ok (t := t) g4c
  rw [← hb5, ← he5] at g5b g5c
  obtain ⟨b6, hb6⟩ : ∃ x, x = wb t n e5 := ⟨_, rfl⟩
  obtain ⟨e6, he6⟩ : ∃ x, x = we t n b6 := ⟨_, rfl⟩
  obtain ⟨g6a, g6b, g6c⟩ := w_ok (t := t) g5c
  rw [← hb6, ← he6] at g6b g6c
  have exq : ∃ q : Option Nat, (nmw t b1 e1 = true → (∀ sh, f2_clockNamed F (nI b1) (nI (e1 - b1)) (rW rd b1 e1) sh ck tp = some (pI q)) ∧ (∀ md' : T6, md'.2.2.1 = md.2.2.1 → md'.2.2.2.1.2.2.2.2.1 = nI m → (∀ k, k < m → md'.2.1.2.2.1 (40 + cr k) = lN (cdw t (ns k) (nl k))) → f6_clockOf F (lN (nmc t b1 e1)) md' = some (pI q)) ∧ (q = none → ∀ k, k < m → ¬ cdw t (ns k) (nl k) = cdw t b1 (e1 - b1))) ∧ (∀ k, q = some k → k < 100) := by
    cases hv : nmw t b1 e1 with
    | false => exact ⟨none, (fun h => by cases h), (fun k h => by cases h)⟩
    | true =>
      obtain ⟨z1, z2, z3, z4, z5⟩ := nmw_spec hv
      obtain ⟨q, a1, a2, a3, a4⟩ := clockNamed_all hF HT H.nm (by omega) HK.1 (st := b1) (ln := e1 - b1) (by omega) (by omega) z3 z4
      have e9 : nmc t b1 e1 = cdw t b1 (e1 - b1) := if_pos hv
      refine ⟨q, fun _ => ⟨fun sh => a1 sh (nI b1) (nI e1), fun md' x1 x2 x3 => by rw [e9]; exact a2 md' x1 x2 x3, a4⟩, fun k hk => ?_⟩
      have := (a3 k hk).1
      omega
  obtain ⟨q, hq, hq'⟩ := exq
  have hqc : nmw t b1 e1 = true → ∀ sh, f2_clockNamed F (nI b1) (nI (e1 - b1)) (rW rd b1 e1) sh ck tp = some (pI q) := fun h => (hq h).1
  have hqm : nmw t b1 e1 = true → ∀ pC, f6_clockOf F (lN (nmc t b1 e1)) (mX (mS md N 0) N (mNC md (40 + N)) (mND md (40 + N)) (nI 0) (mTwo md (40 + N)) (mThr md (40 + N)) (mPat md) (ps3 (mPs md) N) pC (md.2.2.2.1.2.2.2.2.2.2 N) b1 e1 (nI 1)) = some (pI q) := by
    intro h pC
    refine (hq h).2.1 _ rfl hnc (fun k hk => ?_)
    have h1 := hcr k hk
    show vp_updL (mNC md) (40 + N) (mNC md (40 + N)) (40 + cr k) = _
    rw [pk_uLn (by omega)]
    exact (H.nm.2.1 k hk).2.2.2.2.2.2
  have C := crow0 hF HT si op pw R W hN HK.1 hm hb1 he1 hb2 he2 hb3 he3 hb4 he4 hb5 he5 hb6 he6 hqc hq'
  have M := mrow0 hF HM mb me mr ge0 hnr hN hnc hm hs hb1 he1 hb2 he2 hb3 he3 hb4 he4 hb5 he5 hb6 he6 hqm hq'
  cases hf : ff [(nwo t b1 e1 m q, b1), (btw (whw t b2' e2) 1 999999, b2'), (btw (whw t b3 e3) 0 (gz (whw t b2' e2) - 1), b3), (btw (whw t b4 e4) 0 (gz (whw t b2' e2) - 1) && decide (¬ whw t b4 e4 = whw t b3 e3), b4), (ptw t b5 e5, b5), (smc t b6 e6, b6)] with
  | some p =>
    have hf' : ff ([(nwo t b1 e1 m q, b1), (btw (whw t b2' e2) 1 999999, b2'), (btw (whw t b3 e3) 0 (gz (whw t b2' e2) - 1), b3), (btw (whw t b4 e4) 0 (gz (whw t b2' e2) - 1) && decide (¬ whw t b4 e4 = whw t b3 e3), b4), (ptw t b5 e5, b5)] ++ [(smc t b6 e6, b6)]) = some p := hf
    rw [hf] at C
    rw [hf'] at M
    obtain ⟨X, x1, x2⟩ := M
    exact Or.inl ⟨p, C, ff_le (n := n) (by
      intro x hx
      simp only [List.mem_append, List.mem_cons, List.not_mem_nil, or_false, or_assoc] at hx
      rcases hx with rfl|rfl|rfl|rfl|rfl|rfl <;> (show _ ≤ n; omega)) p hf', X, x1, fl_flm h0 x2⟩
  | none =>
    have hf' : ff ([(nwo t b1 e1 m q, b1), (btw (whw t b2' e2) 1 999999, b2'), (btw (whw t b3 e3) 0 (gz (whw t b2' e2) - 1), b3), (btw (whw t b4 e4) 0 (gz (whw t b2' e2) - 1) && decide (¬ whw t b4 e4 = whw t b3 e3), b4), (ptw t b5 e5, b5)] ++ [(smc t b6 e6, b6)]) = none := hf
    rw [hf] at C
    rw [hf'] at M
    obtain ⟨sh', c1, c2, c3, c4, c5⟩ := C
    obtain ⟨o1, f1⟩ := ffn hf
    obtain ⟨o2, f2⟩ := ffn f1
    obtain ⟨o3, f3⟩ := ffn f2
    obtain ⟨o4, f4⟩ := ffn f3
    obtain ⟨o5, _⟩ := ffn f4
    unfold nwo at o1
    rw [Bool.and_eq_true, Bool.and_eq_true] at o1
    obtain ⟨⟨nv, m12⟩, qn⟩ := o1
    have m12 := of_decide_eq_true m12
    have qn : q = none := by cases q with
      | none => rfl
      | some k => cases qn
    obtain ⟨z1, z2, z3, z4, z5⟩ := nmw_spec nv
    have e9 : nmc t b1 e1 = cdw t b1 (e1 - b1) := if_pos nv
    have n1 : nt (cdw t b1 (e1 - b1)) = wl t b1 (e1 - b1) := nt_code _ z3 (by omega)
    obtain ⟨p1, p2, p3⟩ := ptw_c o5
    have PQ := ptq1 (md := md) (N := N) (pl := pl) (pc := pc) (t := t) (b := b5) (k := e5 - b5) (by omega) (fun q hq => tlt _ (by omega))
    have px : ptx (gu (cut0 pl (3 * N)) (3 * N) (e5 - b5)) (gu pc (3 * N) (fun i => t (b5 + i))) (3 * N) = 32 :: wl t b5 (e5 - b5) := by
      unfold ptx
      rw [gu_s, gu_s, if_neg (by omega)]
      rfl
    obtain ⟨v2, q2, l2, u2⟩ := btw_some o2
    have G2 : gz (whw t b2' e2) = v2 := by rw [q2]; rfl
    rw [G2] at o3 o4
    obtain ⟨v3, q3, l3, u3⟩ := btw_some o3
    have G3 : gz (whw t b3 e3) = v3 := by rw [q3]; rfl
    rw [Bool.and_eq_true] at o4
    obtain ⟨v4, q4, l4, u4⟩ := btw_some o4.1
    have G4 : gz (whw t b4 e4) = v4 := by rw [q4]; rfl
    have RG : RowG t n 0 0 (cdw t b1 (e1 - b1)) 0 (gz (whw t b2' e2)) (gz (whw t b3 e3)) (gz (whw t b4 e4)) 0 0 0 0 := ⟨by omega, rfl, by omega, fun _ => by omega, fun h => by omega, fun h => by omega, fun _ _ _ => ⟨rfl, rfl⟩⟩
    have tx : txt (gu so N 0) (gu cc N (cdw t b1 (e1 - b1))) (gu dd N 0) (gu oo N (gz (whw t b2' e2))) (gu ww N (gz (whw t b3 e3))) (gu hh N (gz (whw t b4 e4))) (gu (cut0 pl (3 * N)) (3 * N) (e5 - b5)) (gu pc (3 * N) (fun i => t (b5 + i))) (N + 1) = txt so cc dd oo ww hh pl pc N ++ wl t b0 (e0 - b0) ++ [32] ++ wl t b1 (e1 - b1) ++ [32] ++ dt (gz (whw t b2' e2)) ++ [32] ++ dt (gz (whw t b3 e3)) ++ [32] ++ dt (gz (whw t b4 e4)) ++ [32] ++ wl t b5 (e5 - b5) ++ [59, 10] := by
      show txt _ _ _ _ _ _ _ _ N ++ txr _ _ _ _ _ _ _ _ N = _
      rw [txt_congr N (fun r hr => ⟨gu_lt hr, gu_lt hr, gu_lt hr, gu_lt hr, gu_lt hr, gu_lt hr⟩) (fun j hj => ⟨PQ.2.2.2.1 j hj, PQ.2.2.2.2 j hj⟩)]
      unfold txr ptt
      simp (config := { decide := true }) only [gu_s, nk, n1, px, ↓reduceIte, List.append_assoc, List.cons_append, List.nil_append, List.append_nil]
    refine Or.inr ⟨_, sh', _, _, e6, c1, M, m + 1, gu so N 0, gu va N 0, gu cc N (cdw t b1 (e1 - b1)), gu dd N 0, gu oo N (gz (whw t b2' e2)), gu ww N (gz (whw t b3 e3)), gu hh N (gz (whw t b4 e4)), gu cr m N, gu ns m b1, gu nl m (e1 - b1), gu (gu ls (2 * N) 0) (2 * N + 1) 0, gu (gu ll (2 * N) 0) (2 * N + 1) 0, (gu (cut0 pl (3 * N)) (3 * N) (e5 - b5)), (gu pc (3 * N) (fun i => t (b5 + i))), ?_⟩
    have MA := NwM_app2 (md0 := md0) (md := md) (s := 0) (c := (cdw t b1 (e1 - b1))) (d := 0) (o := (gz (whw t b2' e2))) (w := (gz (whw t b3 e3))) (h := (gz (whw t b4 e4))) (x0 := 0) (x1 := 0) (bn := b1) (pl' := (gu (cut0 pl (3 * N)) (3 * N) (e5 - b5))) (pc' := (gu pc (3 * N) (fun i => t (b5 + i)))) M h0 HW hN hcr (by omega) hm (fun _ => m12) (fun _ => ⟨congrArg lN e9, z4⟩) (fun h _ => by omega) (fun _ _ => ⟨rfl, by omega⟩) (fun _ => ⟨rfl, by omega⟩) (fun _ => ⟨rfl, by omega⟩) PQ.1 PQ.2.1 PQ.2.2.1 PQ.2.2.2.1 PQ.2.2.2.2 (fun _ => rfl) (fun h => by omega) (fun h => by omega)
    obtain ⟨m1, m2, m3, m4, m5⟩ := MA
    rw [← tx] at c2 c3 c4
    refine ⟨GG_app (s := 0) (bn := b1) (en := e1) HG hN true (fun _ => ⟨m12, by omega, rfl, nv, g1c, g1b, (hq nv).2.2 qn⟩) RG, c2, c3, c4, rfl, c5, RdI_app (bn := b1) (en := e1) (x0 := 0) (y0 := 0) (x1 := 0) (y1 := 0) HR hN true (fun j hj => ⟨pk_un (by omega), pk_un (by omega)⟩) (fun _ => ⟨pk_us, pk_us⟩) (fun i hi => ⟨rfl, rfl⟩) ⟨(HR.2.2 (2 * N) (by omega) (by omega)), fun h => absurd h (Nat.lt_irrefl 0)⟩ ⟨(HR.2.2 (2 * N + 1) (by omega) (by omega)), fun h => absurd h (Nat.lt_irrefl 0)⟩ (fun i _ _ => rfl), CkI_times HK hcr rfl, m1, m2, m3, m4, m5⟩
theorem step1 (hF : 5000 < F) (HT : TpC tp t n) (HM : TpM md t n) (H : IV t n e N m so va cc dd oo ww hh cr ns nl ls ll pl pc rd sh ck md0 md) (hN : N < 40) (hb0 : b0 = wb t n e) (he0 : e0 = we t n b0) (hbn : b0 < n) (si : f2_sortInHand F (rW rd b0 e0) tp = some (nI 1)) (hs : bnd (f6_wordName F md) (fun u => f6_sortOf F u) = some (nI 1)) (hnm : nmw t b0 e0 = true) (hk : cdw t b0 (e0 - b0) = kc 1) : SR F t n N b0 e0 tp rd sh ck md0 md := by
  obtain ⟨HG, HS, hc, hlen, hre, hen, HR, HK, h0, HW, mb, me, mr⟩ := id H
  obtain ⟨k1, h59⟩ := nmw_c hnm
  have tlt : ∀ i, i < n → t i < 128 := fun i hi => (HT.2.2 i hi).2
  have hm := HG.2.1
  have hcr : ∀ k, k < m → cr k < N := fun k hk => (HG.2.2.2.1 k hk).1
  have sp := wb_spec t n e hen
  rw [← hb0] at sp mb me
  rw [← he0] at me
  obtain ⟨s1, s2, op, pw, R, W⟩ := openRow (s := 1) (rd := rd) hF HT HS hc (txt_end so cc dd oo ww hh pl pc N) hlen sp.1 hbn (sp.2.2 hbn) h59 he0 (by omega) hN
  have ge0 := W.le
  have nk : nt (kc 1) = wl t b0 (e0 - b0) := by rw [← hk]; exact nt_code _ (nmw_spec hnm).2.2.1 (by omega)
  have hnr := HW.2.2.2.2.1
  have hnc := HW.2.2.2.2.2
  obtain ⟨b1, hb1⟩ : ∃ x, x = wb t n e0 := ⟨_, rfl⟩
  obtain ⟨e1, he1⟩ : ∃ x, x = we t n b1 := ⟨_, rfl⟩
  obtain ⟨g1a, g1b, g1c⟩ := w_ok (t := t) ge0
  rw [← hb1, ← he1] at g1b g1c
  obtain ⟨b2', hb2⟩ : ∃ x, x = wb t n e1 := ⟨_, rfl⟩
  obtain ⟨e2, he2⟩ : ∃ x, x = we t n b2' := ⟨_, rfl⟩
  obtain ⟨g2a, g2b, g2c⟩ := w_ok (t := t) g1c
  rw [← hb2, ← he2] at g2b g2c
  obtain ⟨b3, hb3⟩ : ∃ x, x = wb t n e2 := ⟨_, rfl⟩
  obtain ⟨e3, he3⟩ : ∃ x, x = we t n b3 := ⟨_, rfl⟩
  obtain ⟨g3a, g3b, g3c⟩ := w_ok (t := t) g2c
  rw [← hb3, ← he3] at g3b g3c
  obtain ⟨b4, hb4⟩ : ∃ x, x = wb t n e3 := ⟨_, rfl⟩
  obtain ⟨e4, he4⟩ : ∃ x, x = we t n b4 := ⟨_, rfl⟩
  obtain ⟨g4a, g4b, g4c⟩ := w_ok (t := t) g3c
  rw [← hb4, ← he4] at g4b g4c
  obtain ⟨b5, hb5⟩ : ∃ x, x = wb t n e4 := ⟨_, rfl⟩
  obtain ⟨e5, he5⟩ : ∃ x, x = we t n b5 := ⟨_, rfl⟩
  obtain ⟨g5a, g5b, g5c⟩ := w_ok (t := t) g4c
  rw [← hb5, ← he5] at g5b g5c
  obtain ⟨b6, hb6⟩ : ∃ x, x = wb t n e5 := ⟨_, rfl⟩
  obtain ⟨e6, he6⟩ : ∃ x, x = we t n b6 := ⟨_, rfl⟩
  obtain ⟨g6a, g6b, g6c⟩ := w_ok (t := t) g5c
  rw [← hb6, ← he6] at g6b g6c
  have exq : ∃ q : Option Nat, (nmw t b1 e1 = true → (∀ sh, f2_clockNamed F (nI b1) (nI (e1 - b1)) (rW rd b1 e1) sh ck tp = some (pI q)) ∧ (∀ md' : T6, md'.2.2.1 = md.2.2.1 → md'.2.2.2.1.2.2.2.2.1 = nI m → (∀ k, k < m → md'.2.1.2.2.1 (40 + cr k) = lN (cdw t (ns k) (nl k))) → f6_clockOf F (lN (nmc t b1 e1)) md' = some (pI q)) ∧ (q = none → ∀ k, k < m → ¬ cdw t (ns k) (nl k) = cdw t b1 (e1 - b1))) ∧ (∀ k, q = some k → k < 100) := by
    cases hv : nmw t b1 e1 with
    | false => exact ⟨none, (fun h => by cases h), (fun k h => by cases h)⟩
    | true =>
      obtain ⟨z1, z2, z3, z4, z5⟩ := nmw_spec hv
      obtain ⟨q, a1, a2, a3, a4⟩ := clockNamed_all hF HT H.nm (by omega) HK.1 (st := b1) (ln := e1 - b1) (by omega) (by omega) z3 z4
      have e9 : nmc t b1 e1 = cdw t b1 (e1 - b1) := if_pos hv
      refine ⟨q, fun _ => ⟨fun sh => a1 sh (nI b1) (nI e1), fun md' x1 x2 x3 => by rw [e9]; exact a2 md' x1 x2 x3, a4⟩, fun k hk => ?_⟩
      have := (a3 k hk).1
      omega
  obtain ⟨q, hq, hq'⟩ := exq
  have hqc : nmw t b1 e1 = true → ∀ sh, f2_clockNamed F (nI b1) (nI (e1 - b1)) (rW rd b1 e1) sh ck tp = some (pI q) := fun h => (hq h).1
  have hqm : nmw t b1 e1 = true → ∀ pC, f6_clockOf F (lN (nmc t b1 e1)) (mX (mS md N 1) N (mNC md (40 + N)) (mND md (40 + N)) (nI 0) (mTwo md (40 + N)) (mThr md (40 + N)) (mPat md) (ps3 (mPs md) N) pC (md.2.2.2.1.2.2.2.2.2.2 N) b1 e1 (nI 1)) = some (pI q) := by
    intro h pC
    refine (hq h).2.1 _ rfl hnc (fun k hk => ?_)
    have h1 := hcr k hk
    show vp_updL (mNC md) (40 + N) (mNC md (40 + N)) (40 + cr k) = _
    rw [pk_uLn (by omega)]
    exact (H.nm.2.1 k hk).2.2.2.2.2.2
  have C := crow1 hF HT si op pw R W hN hb1 he1 hb2 he2 hb3 he3 hb4 he4 hb5 he5 hb6 he6 HK.1 hm hqc hq'
  have M := mrow1 hF HM mb me mr ge0 hnr hN hnc hm hs hb1 he1 hb2 he2 hb3 he3 hb4 he4 hb5 he5 hb6 he6 hqm hq'
  cases hf : ff [(nwo t b1 e1 m q, b1), (nmw t b2' e2, b2'), (btw (whw t b3 e3) 1 1000, b3), (btw (whw t b4 e4) 1 1000, b4), (ptw t b5 e5, b5), (smc t b6 e6, b6)] with
  | some p =>
    have hf' : ff ([(nwo t b1 e1 m q, b1), (nmw t b2' e2, b2'), (btw (whw t b3 e3) 1 1000, b3), (btw (whw t b4 e4) 1 1000, b4), (ptw t b5 e5, b5)] ++ [(smc t b6 e6, b6)]) = some p := hf
    rw [hf] at C
    rw [hf'] at M
    obtain ⟨X, x1, x2⟩ := M
    exact Or.inl ⟨p, C, ff_le (n := n) (by
      intro x hx
      simp only [List.mem_append, List.mem_cons, List.not_mem_nil, or_false, or_assoc] at hx
      rcases hx with rfl|rfl|rfl|rfl|rfl|rfl <;> (show _ ≤ n; omega)) p hf', X, x1, fl_flm h0 x2⟩
  | none =>
    have hf' : ff ([(nwo t b1 e1 m q, b1), (nmw t b2' e2, b2'), (btw (whw t b3 e3) 1 1000, b3), (btw (whw t b4 e4) 1 1000, b4), (ptw t b5 e5, b5)] ++ [(smc t b6 e6, b6)]) = none := hf
    rw [hf] at C
    rw [hf'] at M
    obtain ⟨sh', c1, c2, c3, c4, c5⟩ := C
    obtain ⟨o1, f1⟩ := ffn hf
    obtain ⟨o2, f2⟩ := ffn f1
    obtain ⟨o3, f3⟩ := ffn f2
    obtain ⟨o4, f4⟩ := ffn f3
    obtain ⟨o5, _⟩ := ffn f4
    unfold nwo at o1
    rw [Bool.and_eq_true, Bool.and_eq_true] at o1
    obtain ⟨⟨nv, m12⟩, qn⟩ := o1
    have m12 := of_decide_eq_true m12
    have qn : q = none := by cases q with
      | none => rfl
      | some k => cases qn
    obtain ⟨z1, z2, z3, z4, z5⟩ := nmw_spec nv
    have e9 : nmc t b1 e1 = cdw t b1 (e1 - b1) := if_pos nv
    have n1 : nt (cdw t b1 (e1 - b1)) = wl t b1 (e1 - b1) := nt_code _ z3 (by omega)
    obtain ⟨p1, p2, p3⟩ := ptw_c o5
    have PQ := ptq1 (md := md) (N := N) (pl := pl) (pc := pc) (t := t) (b := b5) (k := e5 - b5) (by omega) (fun q hq => tlt _ (by omega))
    have px : ptx (gu (cut0 pl (3 * N)) (3 * N) (e5 - b5)) (gu pc (3 * N) (fun i => t (b5 + i))) (3 * N) = 32 :: wl t b5 (e5 - b5) := by
      unfold ptx
      rw [gu_s, gu_s, if_neg (by omega)]
      rfl
    obtain ⟨y1, y2, y3, y4, y5⟩ := nmw_spec o2
    have e8 : nmc t b2' e2 = cdw t b2' (e2 - b2') := if_pos o2
    have n2 : nt (cdw t b2' (e2 - b2')) = wl t b2' (e2 - b2') := nt_code _ y3 (by omega)
    obtain ⟨v3, q3, l3, u3⟩ := btw_some o3
    have G3 : gz (whw t b3 e3) = v3 := by rw [q3]; rfl
    obtain ⟨v4, q4, l4, u4⟩ := btw_some o4
    have G4 : gz (whw t b4 e4) = v4 := by rw [q4]; rfl
    have RG : RowG t n 1 0 (cdw t b1 (e1 - b1)) (cdw t b2' (e2 - b2')) (gz (whw t b3 e3)) (gz (whw t b4 e4)) 0 b2' (e2 - b2') 0 0 := ⟨by omega, rfl, by omega, fun h => by omega, fun _ => ⟨by omega, by omega, by omega, by omega, by omega, rfl, by rw [show b2' + (e2 - b2') = e2 by omega]; exact o2, by omega, rfl⟩, fun h => by omega, fun h1 h2 h3 => by omega⟩
    have tx : txt (gu so N 1) (gu cc N (cdw t b1 (e1 - b1))) (gu dd N (cdw t b2' (e2 - b2'))) (gu oo N (gz (whw t b3 e3))) (gu ww N (gz (whw t b4 e4))) (gu hh N 0) (gu (cut0 pl (3 * N)) (3 * N) (e5 - b5)) (gu pc (3 * N) (fun i => t (b5 + i))) (N + 1) = txt so cc dd oo ww hh pl pc N ++ wl t b0 (e0 - b0) ++ [32] ++ wl t b1 (e1 - b1) ++ [32] ++ wl t b2' (e2 - b2') ++ [32] ++ dt (gz (whw t b3 e3)) ++ [32] ++ dt (gz (whw t b4 e4)) ++ [32] ++ wl t b5 (e5 - b5) ++ [59, 10] := by
      show txt _ _ _ _ _ _ _ _ N ++ txr _ _ _ _ _ _ _ _ N = _
      rw [txt_congr N (fun r hr => ⟨gu_lt hr, gu_lt hr, gu_lt hr, gu_lt hr, gu_lt hr, gu_lt hr⟩) (fun j hj => ⟨PQ.2.2.2.1 j hj, PQ.2.2.2.2 j hj⟩)]
      unfold txr ptt
      simp (config := { decide := true }) only [gu_s, nk, n1, n2, px, ↓reduceIte, List.append_assoc, List.cons_append, List.nil_append, List.append_nil]
    refine Or.inr ⟨_, sh', _, _, e6, c1, M, m + 1, gu so N 1, gu va N 0, gu cc N (cdw t b1 (e1 - b1)), gu dd N (cdw t b2' (e2 - b2')), gu oo N (gz (whw t b3 e3)), gu ww N (gz (whw t b4 e4)), gu hh N 0, gu cr m N, gu ns m b1, gu nl m (e1 - b1), gu (gu ls (2 * N) b2') (2 * N + 1) 0, gu (gu ll (2 * N) (e2 - b2')) (2 * N + 1) 0, (gu (cut0 pl (3 * N)) (3 * N) (e5 - b5)), (gu pc (3 * N) (fun i => t (b5 + i))), ?_⟩
    have MA := NwM_app2 (md0 := md0) (md := md) (s := 1) (c := (cdw t b1 (e1 - b1))) (d := (cdw t b2' (e2 - b2'))) (o := (gz (whw t b3 e3))) (w := (gz (whw t b4 e4))) (h := 0) (x0 := b2') (x1 := 0) (bn := b1) (pl' := (gu (cut0 pl (3 * N)) (3 * N) (e5 - b5))) (pc' := (gu pc (3 * N) (fun i => t (b5 + i)))) M h0 HW hN hcr (by omega) hm (fun _ => m12) (fun _ => ⟨congrArg lN e9, z4⟩) (fun _ _ => ⟨congrArg lN e8, y4⟩) (fun _ _ => ⟨rfl, by omega⟩) (fun _ => ⟨rfl, by omega⟩) (fun h => by omega) PQ.1 PQ.2.1 PQ.2.2.1 PQ.2.2.2.1 PQ.2.2.2.2 (fun _ => rfl) (fun h => by omega) (fun _ => rfl)
    obtain ⟨m1, m2, m3, m4, m5⟩ := MA
    rw [← tx] at c2 c3 c4
    refine ⟨GG_app (s := 1) (bn := b1) (en := e1) HG hN true (fun _ => ⟨m12, by omega, rfl, nv, g1c, g1b, (hq nv).2.2 qn⟩) RG, c2, c3, c4, rfl, c5, RdI_app (bn := b1) (en := e1) (x0 := b2') (y0 := (e2 - b2')) (x1 := 0) (y1 := 0) HR hN true (fun j hj => ⟨pk_un (by omega), pk_un (by omega)⟩) (fun _ => ⟨pk_us, pk_us⟩) (fun i hi => ⟨pk_un (by omega), pk_un (by omega)⟩) ⟨pk_us, fun _ => pk_us⟩ ⟨by show upd rd.2.2.2.1 (2 * N) _ (2 * N + 1) = _; rw [pk_un (by omega)]; exact (HR.2.2 (2 * N + 1) (by omega) (by omega)), fun h => absurd h (Nat.lt_irrefl 0)⟩ (fun i _ _ => pk_un (by omega)), CkI_ratio HK hcr (f := false) rfl, m1, m2, m3, m4, m5⟩
theorem step2 (hF : 5000 < F) (HT : TpC tp t n) (HM : TpM md t n) (H : IV t n e N m so va cc dd oo ww hh cr ns nl ls ll pl pc rd sh ck md0 md) (hN : N < 40) (hb0 : b0 = wb t n e) (he0 : e0 = we t n b0) (hbn : b0 < n) (si : f2_sortInHand F (rW rd b0 e0) tp = some (nI 2)) (hs : bnd (f6_wordName F md) (fun u => f6_sortOf F u) = some (nI 2)) (hnm : nmw t b0 e0 = true) (hk : cdw t b0 (e0 - b0) = kc 2) : SR F t n N b0 e0 tp rd sh ck md0 md := by
  obtain ⟨HG, HS, hc, hlen, hre, hen, HR, HK, h0, HW, mb, me, mr⟩ := id H
  obtain ⟨k1, h59⟩ := nmw_c hnm
  have tlt : ∀ i, i < n → t i < 128 := fun i hi => (HT.2.2 i hi).2
  have hm := HG.2.1
  have hcr : ∀ k, k < m → cr k < N := fun k hk => (HG.2.2.2.1 k hk).1
  have sp := wb_spec t n e hen
  rw [← hb0] at sp mb me
  rw [← he0] at me
  obtain ⟨s1, s2, op, pw, R, W⟩ := openRow (s := 2) (rd := rd) hF HT HS hc (txt_end so cc dd oo ww hh pl pc N) hlen sp.1 hbn (sp.2.2 hbn) h59 he0 (by omega) hN
  have ge0 := W.le
  have nk : nt (kc 2) = wl t b0 (e0 - b0) := by rw [← hk]; exact nt_code _ (nmw_spec hnm).2.2.1 (by omega)
  have hnr := HW.2.2.2.2.1
  have hnc := HW.2.2.2.2.2
  obtain ⟨b1, hb1⟩ : ∃ x, x = wb t n e0 := ⟨_, rfl⟩
  obtain ⟨e1, he1⟩ : ∃ x, x = we t n b1 := ⟨_, rfl⟩
  obtain ⟨g1a, g1b, g1c⟩ := w_ok (t := t) ge0
  rw [← hb1, ← he1] at g1b g1c
  obtain ⟨b2', hb2⟩ : ∃ x, x = wb t n e1 := ⟨_, rfl⟩
  obtain ⟨e2, he2⟩ : ∃ x, x = we t n b2' := ⟨_, rfl⟩
  obtain ⟨g2a, g2b, g2c⟩ := w_ok (t := t) g1c
  rw [← hb2, ← he2] at g2b g2c
  obtain ⟨b3, hb3⟩ : ∃ x, x = wb t n e2 := ⟨_, rfl⟩
  obtain ⟨e3, he3⟩ : ∃ x, x = we t n b3 := ⟨_, rfl⟩
  obtain ⟨g3a, g3b, g3c⟩ := w_ok (t := t) g2c
  rw [← hb3, ← he3] at g3b g3c
  obtain ⟨b4, hb4⟩ : ∃ x, x = wb t n e3 := ⟨_, rfl⟩
  obtain ⟨e4, he4⟩ : ∃ x, x = we t n b4 := ⟨_, rfl⟩
  obtain ⟨g4a, g4b, g4c⟩ := w_ok (t := t) g3c
  rw [← hb4, ← he4] at g4b g4c
  obtain ⟨b5, hb5⟩ : ∃ x, x = wb t n e4 := ⟨_, rfl⟩
  obtain ⟨e5, he5⟩ : ∃ x, x = we t n b5 := ⟨_, rfl⟩
  obtain ⟨g5a, g5b, g5c⟩ := w_ok (t := t) g4c
  rw [← hb5, ← he5] at g5b g5c
  obtain ⟨b6, hb6⟩ : ∃ x, x = wb t n e5 := ⟨_, rfl⟩
  obtain ⟨e6, he6⟩ : ∃ x, x = we t n b6 := ⟨_, rfl⟩
  obtain ⟨g6a, g6b, g6c⟩ := w_ok (t := t) g5c
  rw [← hb6, ← he6] at g6b g6c
  have exq : ∃ q : Option Nat, (nmw t b1 e1 = true → (∀ sh, f2_clockNamed F (nI b1) (nI (e1 - b1)) (rW rd b1 e1) sh ck tp = some (pI q)) ∧ (∀ md' : T6, md'.2.2.1 = md.2.2.1 → md'.2.2.2.1.2.2.2.2.1 = nI m → (∀ k, k < m → md'.2.1.2.2.1 (40 + cr k) = lN (cdw t (ns k) (nl k))) → f6_clockOf F (lN (nmc t b1 e1)) md' = some (pI q)) ∧ (q = none → ∀ k, k < m → ¬ cdw t (ns k) (nl k) = cdw t b1 (e1 - b1))) ∧ (∀ k, q = some k → k < 100) := by
    cases hv : nmw t b1 e1 with
    | false => exact ⟨none, (fun h => by cases h), (fun k h => by cases h)⟩
    | true =>
      obtain ⟨z1, z2, z3, z4, z5⟩ := nmw_spec hv
      obtain ⟨q, a1, a2, a3, a4⟩ := clockNamed_all hF HT H.nm (by omega) HK.1 (st := b1) (ln := e1 - b1) (by omega) (by omega) z3 z4
      have e9 : nmc t b1 e1 = cdw t b1 (e1 - b1) := if_pos hv
      refine ⟨q, fun _ => ⟨fun sh => a1 sh (nI b1) (nI e1), fun md' x1 x2 x3 => by rw [e9]; exact a2 md' x1 x2 x3, a4⟩, fun k hk => ?_⟩
      have := (a3 k hk).1
      omega
  obtain ⟨q, hq, hq'⟩ := exq
  have hqc : nmw t b1 e1 = true → ∀ sh, f2_clockNamed F (nI b1) (nI (e1 - b1)) (rW rd b1 e1) sh ck tp = some (pI q) := fun h => (hq h).1
  have hqm : nmw t b1 e1 = true → ∀ pC, f6_clockOf F (lN (nmc t b1 e1)) (mX (mS md N 2) N (mNC md (40 + N)) (mND md (40 + N)) (nI 0) (mTwo md (40 + N)) (mThr md (40 + N)) (mPat md) (ps3 (mPs md) N) pC (md.2.2.2.1.2.2.2.2.2.2 N) b1 e1 (nI 1)) = some (pI q) := by
    intro h pC
    refine (hq h).2.1 _ rfl hnc (fun k hk => ?_)
    have h1 := hcr k hk
    show vp_updL (mNC md) (40 + N) (mNC md (40 + N)) (40 + cr k) = _
    rw [pk_uLn (by omega)]
    exact (H.nm.2.1 k hk).2.2.2.2.2.2
  have C := crow2 hF HT si op pw R W hN hb1 he1 hb2 he2 hb3 he3 hb4 he4 hb5 he5 hb6 he6 HK.1 hm hqc hq'
  have M := mrow2 hF HM mb me mr ge0 hnr hN hnc hm hs hb1 he1 hb2 he2 hb3 he3 hb4 he4 hb5 he5 hb6 he6 hqm hq'
  cases hf : ff [(nwo t b1 e1 m q, b1), (nmw t b2' e2, b2'), (btw (whw t b3 e3) 1 1000, b3), (btw (whw t b4 e4) 1 1000, b4), (ptw t b5 e5, b5), (smc t b6 e6, b6)] with
  | some p =>
    have hf' : ff ([(nwo t b1 e1 m q, b1), (nmw t b2' e2, b2'), (btw (whw t b3 e3) 1 1000, b3), (btw (whw t b4 e4) 1 1000, b4), (ptw t b5 e5, b5)] ++ [(smc t b6 e6, b6)]) = some p := hf
    rw [hf] at C
    rw [hf'] at M
    obtain ⟨X, x1, x2⟩ := M
    exact Or.inl ⟨p, C, ff_le (n := n) (by
      intro x hx
      simp only [List.mem_append, List.mem_cons, List.not_mem_nil, or_false, or_assoc] at hx
      rcases hx with rfl|rfl|rfl|rfl|rfl|rfl <;> (show _ ≤ n; omega)) p hf', X, x1, fl_flm h0 x2⟩
  | none =>
    have hf' : ff ([(nwo t b1 e1 m q, b1), (nmw t b2' e2, b2'), (btw (whw t b3 e3) 1 1000, b3), (btw (whw t b4 e4) 1 1000, b4), (ptw t b5 e5, b5)] ++ [(smc t b6 e6, b6)]) = none := hf
    rw [hf] at C
    rw [hf'] at M
    obtain ⟨sh', c1, c2, c3, c4, c5⟩ := C
    obtain ⟨o1, f1⟩ := ffn hf
    obtain ⟨o2, f2⟩ := ffn f1
    obtain ⟨o3, f3⟩ := ffn f2
    obtain ⟨o4, f4⟩ := ffn f3
    obtain ⟨o5, _⟩ := ffn f4
    unfold nwo at o1
    rw [Bool.and_eq_true, Bool.and_eq_true] at o1
    obtain ⟨⟨nv, m12⟩, qn⟩ := o1
    have m12 := of_decide_eq_true m12
    have qn : q = none := by cases q with
      | none => rfl
      | some k => cases qn
    obtain ⟨z1, z2, z3, z4, z5⟩ := nmw_spec nv
    have e9 : nmc t b1 e1 = cdw t b1 (e1 - b1) := if_pos nv
    have n1 : nt (cdw t b1 (e1 - b1)) = wl t b1 (e1 - b1) := nt_code _ z3 (by omega)
    obtain ⟨p1, p2, p3⟩ := ptw_c o5
    have PQ := ptq1 (md := md) (N := N) (pl := pl) (pc := pc) (t := t) (b := b5) (k := e5 - b5) (by omega) (fun q hq => tlt _ (by omega))
    have px : ptx (gu (cut0 pl (3 * N)) (3 * N) (e5 - b5)) (gu pc (3 * N) (fun i => t (b5 + i))) (3 * N) = 32 :: wl t b5 (e5 - b5) := by
      unfold ptx
      rw [gu_s, gu_s, if_neg (by omega)]
      rfl
    obtain ⟨y1, y2, y3, y4, y5⟩ := nmw_spec o2
    have e8 : nmc t b2' e2 = cdw t b2' (e2 - b2') := if_pos o2
    have n2 : nt (cdw t b2' (e2 - b2')) = wl t b2' (e2 - b2') := nt_code _ y3 (by omega)
    obtain ⟨v3, q3, l3, u3⟩ := btw_some o3
    have G3 : gz (whw t b3 e3) = v3 := by rw [q3]; rfl
    obtain ⟨v4, q4, l4, u4⟩ := btw_some o4
    have G4 : gz (whw t b4 e4) = v4 := by rw [q4]; rfl
    have RG : RowG t n 2 0 (cdw t b1 (e1 - b1)) (cdw t b2' (e2 - b2')) (gz (whw t b3 e3)) (gz (whw t b4 e4)) 0 b2' (e2 - b2') 0 0 := ⟨by omega, rfl, by omega, fun h => by omega, fun _ => ⟨by omega, by omega, by omega, by omega, by omega, rfl, by rw [show b2' + (e2 - b2') = e2 by omega]; exact o2, by omega, rfl⟩, fun h => by omega, fun h1 h2 h3 => by omega⟩
    have tx : txt (gu so N 2) (gu cc N (cdw t b1 (e1 - b1))) (gu dd N (cdw t b2' (e2 - b2'))) (gu oo N (gz (whw t b3 e3))) (gu ww N (gz (whw t b4 e4))) (gu hh N 0) (gu (cut0 pl (3 * N)) (3 * N) (e5 - b5)) (gu pc (3 * N) (fun i => t (b5 + i))) (N + 1) = txt so cc dd oo ww hh pl pc N ++ wl t b0 (e0 - b0) ++ [32] ++ wl t b1 (e1 - b1) ++ [32] ++ wl t b2' (e2 - b2') ++ [32] ++ dt (gz (whw t b3 e3)) ++ [32] ++ dt (gz (whw t b4 e4)) ++ [32] ++ wl t b5 (e5 - b5) ++ [59, 10] := by
      show txt _ _ _ _ _ _ _ _ N ++ txr _ _ _ _ _ _ _ _ N = _
      rw [txt_congr N (fun r hr => ⟨gu_lt hr, gu_lt hr, gu_lt hr, gu_lt hr, gu_lt hr, gu_lt hr⟩) (fun j hj => ⟨PQ.2.2.2.1 j hj, PQ.2.2.2.2 j hj⟩)]
      unfold txr ptt
      simp (config := { decide := true }) only [gu_s, nk, n1, n2, px, ↓reduceIte, List.append_assoc, List.cons_append, List.nil_append, List.append_nil]
    refine Or.inr ⟨_, sh', _, _, e6, c1, M, m + 1, gu so N 2, gu va N 0, gu cc N (cdw t b1 (e1 - b1)), gu dd N (cdw t b2' (e2 - b2')), gu oo N (gz (whw t b3 e3)), gu ww N (gz (whw t b4 e4)), gu hh N 0, gu cr m N, gu ns m b1, gu nl m (e1 - b1), gu (gu ls (2 * N) b2') (2 * N + 1) 0, gu (gu ll (2 * N) (e2 - b2')) (2 * N + 1) 0, (gu (cut0 pl (3 * N)) (3 * N) (e5 - b5)), (gu pc (3 * N) (fun i => t (b5 + i))), ?_⟩
    have MA := NwM_app2 (md0 := md0) (md := md) (s := 2) (c := (cdw t b1 (e1 - b1))) (d := (cdw t b2' (e2 - b2'))) (o := (gz (whw t b3 e3))) (w := (gz (whw t b4 e4))) (h := 0) (x0 := b2') (x1 := 0) (bn := b1) (pl' := (gu (cut0 pl (3 * N)) (3 * N) (e5 - b5))) (pc' := (gu pc (3 * N) (fun i => t (b5 + i)))) M h0 HW hN hcr (by omega) hm (fun _ => m12) (fun _ => ⟨congrArg lN e9, z4⟩) (fun _ _ => ⟨congrArg lN e8, y4⟩) (fun _ _ => ⟨rfl, by omega⟩) (fun _ => ⟨rfl, by omega⟩) (fun h => by omega) PQ.1 PQ.2.1 PQ.2.2.1 PQ.2.2.2.1 PQ.2.2.2.2 (fun _ => rfl) (fun h => by omega) (fun _ => rfl)
    obtain ⟨m1, m2, m3, m4, m5⟩ := MA
    rw [← tx] at c2 c3 c4
    refine ⟨GG_app (s := 2) (bn := b1) (en := e1) HG hN true (fun _ => ⟨m12, by omega, rfl, nv, g1c, g1b, (hq nv).2.2 qn⟩) RG, c2, c3, c4, rfl, c5, RdI_app (bn := b1) (en := e1) (x0 := b2') (y0 := (e2 - b2')) (x1 := 0) (y1 := 0) HR hN true (fun j hj => ⟨pk_un (by omega), pk_un (by omega)⟩) (fun _ => ⟨pk_us, pk_us⟩) (fun i hi => ⟨pk_un (by omega), pk_un (by omega)⟩) ⟨pk_us, fun _ => pk_us⟩ ⟨by show upd rd.2.2.2.1 (2 * N) _ (2 * N + 1) = _; rw [pk_un (by omega)]; exact (HR.2.2 (2 * N + 1) (by omega) (by omega)), fun h => absurd h (Nat.lt_irrefl 0)⟩ (fun i _ _ => pk_un (by omega)), CkI_ratio HK hcr (f := true) rfl, m1, m2, m3, m4, m5⟩
theorem step3 (hF : 5000 < F) (HT : TpC tp t n) (HM : TpM md t n) (H : IV t n e N m so va cc dd oo ww hh cr ns nl ls ll pl pc rd sh ck md0 md) (hN : N < 40) (hb0 : b0 = wb t n e) (he0 : e0 = we t n b0) (hbn : b0 < n) (si : f2_sortInHand F (rW rd b0 e0) tp = some (nI 3)) (hs : bnd (f6_wordName F md) (fun u => f6_sortOf F u) = some (nI 3)) (hnm : nmw t b0 e0 = true) (hk : cdw t b0 (e0 - b0) = kc 3) : SR F t n N b0 e0 tp rd sh ck md0 md := by
  obtain ⟨HG, HS, hc, hlen, hre, hen, HR, HK, h0, HW, mb, me, mr⟩ := id H
  obtain ⟨k1, h59⟩ := nmw_c hnm
  have tlt : ∀ i, i < n → t i < 128 := fun i hi => (HT.2.2 i hi).2
  have hm := HG.2.1
  have hcr : ∀ k, k < m → cr k < N := fun k hk => (HG.2.2.2.1 k hk).1
  have sp := wb_spec t n e hen
  rw [← hb0] at sp mb me
  rw [← he0] at me
  obtain ⟨s1, s2, op, pw, R, W⟩ := openRow (s := 3) (rd := rd) hF HT HS hc (txt_end so cc dd oo ww hh pl pc N) hlen sp.1 hbn (sp.2.2 hbn) h59 he0 (by omega) hN
  have ge0 := W.le
  have nk : nt (kc 3) = wl t b0 (e0 - b0) := by rw [← hk]; exact nt_code _ (nmw_spec hnm).2.2.1 (by omega)
  have hnr := HW.2.2.2.2.1
  have hnc := HW.2.2.2.2.2
  obtain ⟨b1, hb1⟩ : ∃ x, x = wb t n e0 := ⟨_, rfl⟩
  obtain ⟨e1, he1⟩ : ∃ x, x = we t n b1 := ⟨_, rfl⟩
  obtain ⟨g1a, g1b, g1c⟩ := w_ok (t := t) ge0
  rw [← hb1, ← he1] at g1b g1c
  obtain ⟨b2', hb2⟩ : ∃ x, x = wb t n e1 := ⟨_, rfl⟩
  obtain ⟨e2, he2⟩ : ∃ x, x = we t n b2' := ⟨_, rfl⟩
  obtain ⟨g2a, g2b, g2c⟩ := w_ok (t := t) g1c
  rw [← hb2, ← he2] at g2b g2c
  obtain ⟨b3, hb3⟩ : ∃ x, x = wb t n e2 := ⟨_, rfl⟩
  obtain ⟨e3, he3⟩ : ∃ x, x = we t n b3 := ⟨_, rfl⟩
  obtain ⟨g3a, g3b, g3c⟩ := w_ok (t := t) g2c
  rw [← hb3, ← he3] at g3b g3c
  have C := crow3 (ck := ck) hF HT si op pw R W hN hb1 he1 hb2 he2 hb3 he3
  have M := mrow3 hF HM mb me mr ge0 hnr hN hnc hm hs hb1 he1 hb2 he2 hb3 he3
  cases hf : ff [(nmw t b1 e1, b1), (nmw t b2' e2, b2'), (smc t b3 e3, b3)] with
  | some p =>
    have hf' : ff ([(nmw t b1 e1, b1), (nmw t b2' e2, b2')] ++ [(smc t b3 e3, b3)]) = some p := hf
    rw [hf] at C
    rw [hf'] at M
    obtain ⟨X, x1, x2⟩ := M
    exact Or.inl ⟨p, C, ff_le (n := n) (by
      intro x hx
      simp only [List.mem_append, List.mem_cons, List.not_mem_nil, or_false, or_assoc] at hx
      rcases hx with rfl|rfl|rfl <;> (show _ ≤ n; omega)) p hf', X, x1, fl_flm h0 x2⟩
  | none =>
    have hf' : ff ([(nmw t b1 e1, b1), (nmw t b2' e2, b2')] ++ [(smc t b3 e3, b3)]) = none := hf
    rw [hf] at C
    rw [hf'] at M
    obtain ⟨sh', c1, c2, c3, c4, c5⟩ := C
    obtain ⟨o1, f1⟩ := ffn hf
    obtain ⟨o2, f2⟩ := ffn f1
    obtain ⟨z1, z2, z3, z4, z5⟩ := nmw_spec o1
    have e9 : nmc t b1 e1 = cdw t b1 (e1 - b1) := if_pos o1
    have n1 : nt (cdw t b1 (e1 - b1)) = wl t b1 (e1 - b1) := nt_code _ z3 (by omega)
    obtain ⟨y1, y2, y3, y4, y5⟩ := nmw_spec o2
    have e8 : nmc t b2' e2 = cdw t b2' (e2 - b2') := if_pos o2
    have n2 : nt (cdw t b2' (e2 - b2')) = wl t b2' (e2 - b2') := nt_code _ y3 (by omega)
    have PQ := ptq0 (md := md) (N := N) (pl := pl) (pc := pc)
    have RG : RowG t n 3 0 (cdw t b1 (e1 - b1)) (cdw t b2' (e2 - b2')) 0 0 0 b1 (e1 - b1) b2' (e2 - b2') := ⟨by omega, rfl, by omega, fun h => by omega, fun h => by omega, fun _ => ⟨by omega, rfl, by rw [show b1 + (e1 - b1) = e1 by omega]; exact o1, by omega, by omega, rfl, by rw [show b2' + (e2 - b2') = e2 by omega]; exact o2, by omega⟩, fun h1 h2 h3 => by omega⟩
    have tx : txt (gu so N 3) (gu cc N (cdw t b1 (e1 - b1))) (gu dd N (cdw t b2' (e2 - b2'))) (gu oo N 0) (gu ww N 0) (gu hh N 0) (cut0 pl (3 * N)) pc (N + 1) = txt so cc dd oo ww hh pl pc N ++ wl t b0 (e0 - b0) ++ [32] ++ wl t b1 (e1 - b1) ++ [32] ++ wl t b2' (e2 - b2') ++ [59, 10] := by
      show txt _ _ _ _ _ _ _ _ N ++ txr _ _ _ _ _ _ _ _ N = _
      rw [txt_congr N (fun r hr => ⟨gu_lt hr, gu_lt hr, gu_lt hr, gu_lt hr, gu_lt hr, gu_lt hr⟩) (fun j hj => ⟨PQ.2.2.2.1 j hj, PQ.2.2.2.2 j hj⟩)]
      unfold txr ptt
      simp (config := { decide := true }) only [gu_s, nk, n1, n2, ↓reduceIte, List.append_assoc, List.cons_append, List.nil_append, List.append_nil]
    refine Or.inr ⟨_, sh', _, _, e3, c1, M, m, gu so N 3, gu va N 0, gu cc N (cdw t b1 (e1 - b1)), gu dd N (cdw t b2' (e2 - b2')), gu oo N 0, gu ww N 0, gu hh N 0, gu cr m N, gu ns m 0, gu nl m (0 - 0), gu (gu ls (2 * N) b1) (2 * N + 1) b2', gu (gu ll (2 * N) (e1 - b1)) (2 * N + 1) (e2 - b2'), (cut0 pl (3 * N)), pc, ?_⟩
    have MA := NwM_app2 (md0 := md0) (md := md) (s := 3) (c := (cdw t b1 (e1 - b1))) (d := (cdw t b2' (e2 - b2'))) (o := 0) (w := 0) (h := 0) (x0 := b1) (x1 := b2') (bn := 0) (pl' := (cut0 pl (3 * N))) (pc' := pc) M h0 HW hN hcr (by omega) hm (fun h => by cases h) (fun _ => ⟨congrArg lN e9, z4⟩) (fun _ _ => ⟨congrArg lN e8, y4⟩) (fun h _ => by omega) (fun h => by omega) (fun h => by omega) PQ.1 PQ.2.1 PQ.2.2.1 PQ.2.2.2.1 PQ.2.2.2.2 (fun h => by cases h) (fun _ => ⟨rfl, rfl⟩) (fun h => by omega)
    obtain ⟨m1, m2, m3, m4, m5⟩ := MA
    rw [← tx] at c2 c3 c4
    refine ⟨GG_app (s := 3) (bn := 0) (en := 0) HG hN false (fun h => by cases h) RG, c2, c3, c4, rfl, c5, RdI_app (bn := 0) (en := 0) (x0 := b1) (y0 := (e1 - b1)) (x1 := b2') (y1 := (e2 - b2')) HR hN false (fun j hj => ⟨rfl, rfl⟩) (fun h => by cases h) (fun i hi => ⟨by show upd (upd _ _ _) _ _ i = _; rw [pk_un (by omega), pk_un (by omega)], by show upd (upd _ _ _) _ _ i = _; rw [pk_un (by omega), pk_un (by omega)]⟩) ⟨by show upd (upd _ _ _) _ _ (2 * N) = _; rw [pk_un (by omega), pk_us], fun _ => by show upd (upd _ _ _) _ _ (2 * N) = _; rw [pk_un (by omega), pk_us]⟩ ⟨pk_us, fun _ => pk_us⟩ (fun i _ _ => by show upd (upd _ _ _) _ _ i = _; rw [pk_un (by omega), pk_un (by omega)]), CkI_old HK hcr, m1, m2, m3, m4, m5⟩
theorem step4 (hF : 5000 < F) (HT : TpC tp t n) (HM : TpM md t n) (H : IV t n e N m so va cc dd oo ww hh cr ns nl ls ll pl pc rd sh ck md0 md) (hN : N < 40) (hb0 : b0 = wb t n e) (he0 : e0 = we t n b0) (hbn : b0 < n) (si : f2_sortInHand F (rW rd b0 e0) tp = some (nI 4)) (hs : bnd (f6_wordName F md) (fun u => f6_sortOf F u) = some (nI 4)) (hnm : nmw t b0 e0 = true) (hk : cdw t b0 (e0 - b0) = kc 4) : SR F t n N b0 e0 tp rd sh ck md0 md := by
  obtain ⟨HG, HS, hc, hlen, hre, hen, HR, HK, h0, HW, mb, me, mr⟩ := id H
  obtain ⟨k1, h59⟩ := nmw_c hnm
  have tlt : ∀ i, i < n → t i < 128 := fun i hi => (HT.2.2 i hi).2
  have hm := HG.2.1
  have hcr : ∀ k, k < m → cr k < N := fun k hk => (HG.2.2.2.1 k hk).1
  have sp := wb_spec t n e hen
  rw [← hb0] at sp mb me
  rw [← he0] at me
  obtain ⟨s1, s2, op, pw, R, W⟩ := openRow (s := 4) (rd := rd) hF HT HS hc (txt_end so cc dd oo ww hh pl pc N) hlen sp.1 hbn (sp.2.2 hbn) h59 he0 (by omega) hN
  have ge0 := W.le
  have nk : nt (kc 4) = wl t b0 (e0 - b0) := by rw [← hk]; exact nt_code _ (nmw_spec hnm).2.2.1 (by omega)
  have hnr := HW.2.2.2.2.1
  have hnc := HW.2.2.2.2.2
  obtain ⟨b1, hb1⟩ : ∃ x, x = wb t n e0 := ⟨_, rfl⟩
  obtain ⟨e1, he1⟩ : ∃ x, x = we t n b1 := ⟨_, rfl⟩
  obtain ⟨g1a, g1b, g1c⟩ := w_ok (t := t) ge0
  rw [← hb1, ← he1] at g1b g1c
  obtain ⟨b2', hb2⟩ : ∃ x, x = wb t n e1 := ⟨_, rfl⟩
  obtain ⟨e2, he2⟩ : ∃ x, x = we t n b2' := ⟨_, rfl⟩
  obtain ⟨g2a, g2b, g2c⟩ := w_ok (t := t) g1c
  rw [← hb2, ← he2] at g2b g2c
  obtain ⟨b3, hb3⟩ : ∃ x, x = wb t n e2 := ⟨_, rfl⟩
  obtain ⟨e3, he3⟩ : ∃ x, x = we t n b3 := ⟨_, rfl⟩
  obtain ⟨g3a, g3b, g3c⟩ := w_ok (t := t) g2c
  rw [← hb3, ← he3] at g3b g3c
  obtain ⟨b4, hb4⟩ : ∃ x, x = wb t n e3 := ⟨_, rfl⟩
  obtain ⟨e4, he4⟩ : ∃ x, x = we t n b4 := ⟨_, rfl⟩
  obtain ⟨g4a, g4b, g4c⟩ := w_ok (t := t) g3c
  rw [← hb4, ← he4] at g4b g4c
  have z0 : ∀ s, s < 3 → cut0 pl (3 * N) (3 * N + s) = 0 := fun s _ => cut_ge (by omega)
  have C := crow4 (ck := ck) hF HT si op pw R W hN hb1 he1 hb2 he2 hb3 he3 hb4 he4 z0
  have M := mrow4 hF HM mb me mr ge0 hnr hN hnc hm hs hb1 he1 hb2 he2 hb3 he3 hb4 he4
  cases hf : ff ([(pto t b1 e1 true, b1), (pto t b2' e2 true, b2'), (c3o t b1 e1 b2' e2 b3 e3, b3)] ++ [(smc t b4 e4, b4)]) with
  | some p =>
    have hf' : ff ([(pto t b1 e1 true, b1), (pto t b2' e2 true, b2'), (c3o t b1 e1 b2' e2 b3 e3, b3)] ++ [(smc t b4 e4, b4)]) = some p := hf
    rw [hf] at C
    rw [hf'] at M
    obtain ⟨X, x1, x2⟩ := M
    exact Or.inl ⟨p, C, ff_le (n := n) (by
      intro x hx
      simp only [List.mem_append, List.mem_cons, List.not_mem_nil, or_false, or_assoc] at hx
      rcases hx with rfl|rfl|rfl|rfl <;> (show _ ≤ n; omega)) p hf', X, x1, fl_flm h0 x2⟩
  | none =>
    have hf' : ff ([(pto t b1 e1 true, b1), (pto t b2' e2 true, b2'), (c3o t b1 e1 b2' e2 b3 e3, b3)] ++ [(smc t b4 e4, b4)]) = none := hf
    rw [hf] at C
    rw [hf'] at M
    obtain ⟨sh', c1, c2, c3, c4, c5⟩ := C
    obtain ⟨o1, f1⟩ := ffn hf
    obtain ⟨o2, f2⟩ := ffn f1
    obtain ⟨o3, f3⟩ := ffn f2
    have PQ := ptq3 (md := md) (N := N) (pl := pl) (pc := pc) (t := t) (pnl_lt (e := e1) (b := b1) tlt g1c) (pnl_lt (e := e2) (b := b2') tlt g2c) (pnl_lt (e := e3) (b := b3) tlt g3c)
    have px1 : ptx (pln (pln (pln (cut0 pl (3 * N)) (3 * N) t b1 e1) (3 * N + 1) t b2' e2) (3 * N + 2) t b3 e3) (pcn (pcn (pcn pc (3 * N) t b1 e1) (3 * N + 1) t b2' e2) (3 * N + 2) t b3 e3) (3 * N) = 32 :: wl t b1 (e1 - b1) := ptx_word (by unfold pln; rw [gu_n (by omega), gu_n (by omega), gu_s]) (by unfold pcn; rw [gu_n (by omega), gu_n (by omega), gu_s]) o1
    have px2 : ptx (pln (pln (pln (cut0 pl (3 * N)) (3 * N) t b1 e1) (3 * N + 1) t b2' e2) (3 * N + 2) t b3 e3) (pcn (pcn (pcn pc (3 * N) t b1 e1) (3 * N + 1) t b2' e2) (3 * N + 2) t b3 e3) (3 * N + 1) = 32 :: wl t b2' (e2 - b2') := ptx_word (by unfold pln; rw [gu_n (by omega), gu_s]) (by unfold pcn; rw [gu_n (by omega), gu_s]) o2
    have px3 : ptx (pln (pln (pln (cut0 pl (3 * N)) (3 * N) t b1 e1) (3 * N + 1) t b2' e2) (3 * N + 2) t b3 e3) (pcn (pcn (pcn pc (3 * N) t b1 e1) (3 * N + 1) t b2' e2) (3 * N + 2) t b3 e3) (3 * N + 2) = 32 :: wl t b3 (e3 - b3) := ptx_word gu_s gu_s (c3o_pto o3)
    have RG : RowG t n 4 0 0 0 0 0 0 0 0 0 0 := ⟨by omega, rfl, by omega, fun h => by omega, fun h => by omega, fun h => by omega, fun _ _ _ => ⟨rfl, rfl⟩⟩
    have tx : txt (gu so N 4) (gu cc N 0) (gu dd N 0) (gu oo N 0) (gu ww N 0) (gu hh N 0) (pln (pln (pln (cut0 pl (3 * N)) (3 * N) t b1 e1) (3 * N + 1) t b2' e2) (3 * N + 2) t b3 e3) (pcn (pcn (pcn pc (3 * N) t b1 e1) (3 * N + 1) t b2' e2) (3 * N + 2) t b3 e3) (N + 1) = txt so cc dd oo ww hh pl pc N ++ wl t b0 (e0 - b0) ++ [32] ++ wl t b1 (e1 - b1) ++ [32] ++ wl t b2' (e2 - b2') ++ [32] ++ wl t b3 (e3 - b3) ++ [59, 10] := by
      show txt _ _ _ _ _ _ _ _ N ++ txr _ _ _ _ _ _ _ _ N = _
      rw [txt_congr N (fun r hr => ⟨gu_lt hr, gu_lt hr, gu_lt hr, gu_lt hr, gu_lt hr, gu_lt hr⟩) (fun j hj => ⟨PQ.2.2.2.1 j hj, PQ.2.2.2.2 j hj⟩)]
      unfold txr ptt
      simp (config := { decide := true }) only [gu_s, nk, px1, px2, px3, ↓reduceIte, List.append_assoc, List.cons_append, List.nil_append, List.append_nil]
    refine Or.inr ⟨_, sh', _, _, e4, c1, M, m, gu so N 4, gu va N 0, gu cc N 0, gu dd N 0, gu oo N 0, gu ww N 0, gu hh N 0, gu cr m N, gu ns m 0, gu nl m (0 - 0), gu (gu ls (2 * N) 0) (2 * N + 1) 0, gu (gu ll (2 * N) 0) (2 * N + 1) 0, (pln (pln (pln (cut0 pl (3 * N)) (3 * N) t b1 e1) (3 * N + 1) t b2' e2) (3 * N + 2) t b3 e3), (pcn (pcn (pcn pc (3 * N) t b1 e1) (3 * N + 1) t b2' e2) (3 * N + 2) t b3 e3), ?_⟩
    have MA := NwM_app2 (md0 := md0) (md := md) (s := 4) (c := 0) (d := 0) (o := 0) (w := 0) (h := 0) (x0 := 0) (x1 := 0) (bn := 0) (pl' := (pln (pln (pln (cut0 pl (3 * N)) (3 * N) t b1 e1) (3 * N + 1) t b2' e2) (3 * N + 2) t b3 e3)) (pc' := (pcn (pcn (pcn pc (3 * N) t b1 e1) (3 * N + 1) t b2' e2) (3 * N + 2) t b3 e3)) M h0 HW hN hcr (by omega) hm (fun h => by cases h) (fun h => by omega) (fun _ h => by omega) (fun _ h => by omega) (fun h => by omega) (fun h => by omega) PQ.1 PQ.2.1 PQ.2.2.1 PQ.2.2.2.1 PQ.2.2.2.2 (fun h => by cases h) (fun h => by omega) (fun h => by omega)
    obtain ⟨m1, m2, m3, m4, m5⟩ := MA
    rw [← tx] at c2 c3 c4
    refine ⟨GG_app (s := 4) (bn := 0) (en := 0) HG hN false (fun h => by cases h) RG, c2, c3, c4, rfl, c5, RdI_app (bn := 0) (en := 0) (x0 := 0) (y0 := 0) (x1 := 0) (y1 := 0) HR hN false (fun j hj => ⟨rfl, rfl⟩) (fun h => by cases h) (fun i hi => ⟨rfl, rfl⟩) ⟨(HR.2.2 (2 * N) (by omega) (by omega)), fun h => absurd h (Nat.lt_irrefl 0)⟩ ⟨(HR.2.2 (2 * N + 1) (by omega) (by omega)), fun h => absurd h (Nat.lt_irrefl 0)⟩ (fun i _ _ => rfl), CkI_old HK hcr, m1, m2, m3, m4, m5⟩
theorem step5 (hF : 5000 < F) (HT : TpC tp t n) (HM : TpM md t n) (H : IV t n e N m so va cc dd oo ww hh cr ns nl ls ll pl pc rd sh ck md0 md) (hN : N < 40) (hb0 : b0 = wb t n e) (he0 : e0 = we t n b0) (hbn : b0 < n) (si : f2_sortInHand F (rW rd b0 e0) tp = some (nI 5)) (hs : bnd (f6_wordName F md) (fun u => f6_sortOf F u) = some (nI 5)) (hnm : nmw t b0 e0 = true) (hk : cdw t b0 (e0 - b0) = kc 5) : SR F t n N b0 e0 tp rd sh ck md0 md := by
  obtain ⟨HG, HS, hc, hlen, hre, hen, HR, HK, h0, HW, mb, me, mr⟩ := id H
  obtain ⟨k1, h59⟩ := nmw_c hnm
  have tlt : ∀ i, i < n → t i < 128 := fun i hi => (HT.2.2 i hi).2
  have hm := HG.2.1
  have hcr : ∀ k, k < m → cr k < N := fun k hk => (HG.2.2.2.1 k hk).1
  have sp := wb_spec t n e hen
  rw [← hb0] at sp mb me
  rw [← he0] at me
  obtain ⟨s1, s2, op, pw, R, W⟩ := openRow (s := 5) (rd := rd) hF HT HS hc (txt_end so cc dd oo ww hh pl pc N) hlen sp.1 hbn (sp.2.2 hbn) h59 he0 (by omega) hN
  have ge0 := W.le
  have nk : nt (kc 5) = wl t b0 (e0 - b0) := by rw [← hk]; exact nt_code _ (nmw_spec hnm).2.2.1 (by omega)
  have hnr := HW.2.2.2.2.1
  have hnc := HW.2.2.2.2.2
  obtain ⟨b1, hb1⟩ : ∃ x, x = wb t n e0 := ⟨_, rfl⟩
  obtain ⟨e1, he1⟩ : ∃ x, x = we t n b1 := ⟨_, rfl⟩
  obtain ⟨g1a, g1b, g1c⟩ := w_ok (t := t) ge0
  rw [← hb1, ← he1] at g1b g1c
  obtain ⟨b2', hb2⟩ : ∃ x, x = wb t n e1 := ⟨_, rfl⟩
  obtain ⟨e2, he2⟩ : ∃ x, x = we t n b2' := ⟨_, rfl⟩
  obtain ⟨g2a, g2b, g2c⟩ := w_ok (t := t) g1c
  rw [← hb2, ← he2] at g2b g2c
  obtain ⟨b3, hb3⟩ : ∃ x, x = wb t n e2 := ⟨_, rfl⟩
  obtain ⟨e3, he3⟩ : ∃ x, x = we t n b3 := ⟨_, rfl⟩
  obtain ⟨g3a, g3b, g3c⟩ := w_ok (t := t) g2c
  rw [← hb3, ← he3] at g3b g3c
  obtain ⟨b4, hb4⟩ : ∃ x, x = wb t n e3 := ⟨_, rfl⟩
  obtain ⟨e4, he4⟩ : ∃ x, x = we t n b4 := ⟨_, rfl⟩
  obtain ⟨g4a, g4b, g4c⟩ := w_ok (t := t) g3c
  rw [← hb4, ← he4] at g4b g4c
  obtain ⟨b5, hb5⟩ : ∃ x, x = wb t n e4 := ⟨_, rfl⟩
  obtain ⟨e5, he5⟩ : ∃ x, x = we t n b5 := ⟨_, rfl⟩
  obtain ⟨g5a, g5b, g5c⟩ := w_ok (t := t) g4c
  rw [← hb5, ← he5] at g5b g5c
  have z0 : ∀ s, s < 3 → cut0 pl (3 * N) (3 * N + s) = 0 := fun s _ => cut_ge (by omega)
  have C := crow5 (ck := ck) hF HT si op pw R W hN hb1 he1 hb2 he2 hb3 he3 hb4 he4 hb5 he5 z0
  have M := mrow5 hF HM mb me mr ge0 hnr hN hnc hm hs hb1 he1 hb2 he2 hb3 he3 hb4 he4 hb5 he5
  cases hf : ff ((btw (whw t b1 e1) 2 100, b1) :: ([(pto t b2' e2 true, b2'), (pto t b3 e3 true, b3), (c3o t b2' e2 b3 e3 b4 e4, b4)] ++ [(smc t b5 e5, b5)])) with
  | some p =>
    have hf' : ff (((btw (whw t b1 e1) 2 100, b1) :: [(pto t b2' e2 true, b2'), (pto t b3 e3 true, b3), (c3o t b2' e2 b3 e3 b4 e4, b4)]) ++ [(smc t b5 e5, b5)]) = some p := hf
    rw [hf] at C
    rw [hf'] at M
    obtain ⟨X, x1, x2⟩ := M
    exact Or.inl ⟨p, C, ff_le (n := n) (by
      intro x hx
      simp only [List.mem_append, List.mem_cons, List.not_mem_nil, or_false, or_assoc] at hx
      rcases hx with rfl|rfl|rfl|rfl|rfl <;> (show _ ≤ n; omega)) p hf', X, x1, fl_flm h0 x2⟩
  | none =>
    have hf' : ff (((btw (whw t b1 e1) 2 100, b1) :: [(pto t b2' e2 true, b2'), (pto t b3 e3 true, b3), (c3o t b2' e2 b3 e3 b4 e4, b4)]) ++ [(smc t b5 e5, b5)]) = none := hf
    rw [hf] at C
    rw [hf'] at M
    obtain ⟨sh', c1, c2, c3, c4, c5⟩ := C
    obtain ⟨o0, f0⟩ := ffn hf
    obtain ⟨o1, f1⟩ := ffn f0
    obtain ⟨v1, q1, l1, u1⟩ := btw_some o0
    have G1 : gz (whw t b1 e1) = v1 := by rw [q1]; rfl
    obtain ⟨o2, f2⟩ := ffn f1
    obtain ⟨o3, f3⟩ := ffn f2
    have PQ := ptq3 (md := md) (N := N) (pl := pl) (pc := pc) (t := t) (pnl_lt (e := e2) (b := b2') tlt g2c) (pnl_lt (e := e3) (b := b3) tlt g3c) (pnl_lt (e := e4) (b := b4) tlt g4c)
    have px1 : ptx (pln (pln (pln (cut0 pl (3 * N)) (3 * N) t b2' e2) (3 * N + 1) t b3 e3) (3 * N + 2) t b4 e4) (pcn (pcn (pcn pc (3 * N) t b2' e2) (3 * N + 1) t b3 e3) (3 * N + 2) t b4 e4) (3 * N) = 32 :: wl t b2' (e2 - b2') := ptx_word (by unfold pln; rw [gu_n (by omega), gu_n (by omega), gu_s]) (by unfold pcn; rw [gu_n (by omega), gu_n (by omega), gu_s]) o1
    have px2 : ptx (pln (pln (pln (cut0 pl (3 * N)) (3 * N) t b2' e2) (3 * N + 1) t b3 e3) (3 * N + 2) t b4 e4) (pcn (pcn (pcn pc (3 * N) t b2' e2) (3 * N + 1) t b3 e3) (3 * N + 2) t b4 e4) (3 * N + 1) = 32 :: wl t b3 (e3 - b3) := ptx_word (by unfold pln; rw [gu_n (by omega), gu_s]) (by unfold pcn; rw [gu_n (by omega), gu_s]) o2
    have px3 : ptx (pln (pln (pln (cut0 pl (3 * N)) (3 * N) t b2' e2) (3 * N + 1) t b3 e3) (3 * N + 2) t b4 e4) (pcn (pcn (pcn pc (3 * N) t b2' e2) (3 * N + 1) t b3 e3) (3 * N + 2) t b4 e4) (3 * N + 2) = 32 :: wl t b4 (e4 - b4) := ptx_word gu_s gu_s (c3o_pto o3)
    have RG : RowG t n 5 (gz (whw t b1 e1)) 0 0 (gz (whw t b1 e1)) 0 0 0 0 0 0 := ⟨by omega, rfl, by omega, fun h => by omega, fun h => by omega, fun h => by omega, fun _ _ _ => ⟨rfl, rfl⟩⟩
    have tx : txt (gu so N 5) (gu cc N 0) (gu dd N 0) (gu oo N (gz (whw t b1 e1))) (gu ww N 0) (gu hh N 0) (pln (pln (pln (cut0 pl (3 * N)) (3 * N) t b2' e2) (3 * N + 1) t b3 e3) (3 * N + 2) t b4 e4) (pcn (pcn (pcn pc (3 * N) t b2' e2) (3 * N + 1) t b3 e3) (3 * N + 2) t b4 e4) (N + 1) = txt so cc dd oo ww hh pl pc N ++ wl t b0 (e0 - b0) ++ [32] ++ dt (gz (whw t b1 e1)) ++ [32] ++ wl t b2' (e2 - b2') ++ [32] ++ wl t b3 (e3 - b3) ++ [32] ++ wl t b4 (e4 - b4) ++ [59, 10] := by
      show txt _ _ _ _ _ _ _ _ N ++ txr _ _ _ _ _ _ _ _ N = _
      rw [txt_congr N (fun r hr => ⟨gu_lt hr, gu_lt hr, gu_lt hr, gu_lt hr, gu_lt hr, gu_lt hr⟩) (fun j hj => ⟨PQ.2.2.2.1 j hj, PQ.2.2.2.2 j hj⟩)]
      unfold txr ptt
      simp (config := { decide := true }) only [gu_s, nk, px1, px2, px3, ↓reduceIte, List.append_assoc, List.cons_append, List.nil_append, List.append_nil]
    refine Or.inr ⟨_, sh', _, _, e5, c1, M, m, gu so N 5, gu va N (gz (whw t b1 e1)), gu cc N 0, gu dd N 0, gu oo N (gz (whw t b1 e1)), gu ww N 0, gu hh N 0, gu cr m N, gu ns m 0, gu nl m (0 - 0), gu (gu ls (2 * N) 0) (2 * N + 1) 0, gu (gu ll (2 * N) 0) (2 * N + 1) 0, (pln (pln (pln (cut0 pl (3 * N)) (3 * N) t b2' e2) (3 * N + 1) t b3 e3) (3 * N + 2) t b4 e4), (pcn (pcn (pcn pc (3 * N) t b2' e2) (3 * N + 1) t b3 e3) (3 * N + 2) t b4 e4), ?_⟩
    have MA := NwM_app2 (md0 := md0) (md := md) (s := 5) (c := 0) (d := 0) (o := (gz (whw t b1 e1))) (w := 0) (h := 0) (x0 := 0) (x1 := 0) (bn := 0) (pl' := (pln (pln (pln (cut0 pl (3 * N)) (3 * N) t b2' e2) (3 * N + 1) t b3 e3) (3 * N + 2) t b4 e4)) (pc' := (pcn (pcn (pcn pc (3 * N) t b2' e2) (3 * N + 1) t b3 e3) (3 * N + 2) t b4 e4)) M h0 HW hN hcr (by omega) hm (fun h => by cases h) (fun h => by omega) (fun _ h => by omega) (fun _ _ => ⟨rfl, by omega⟩) (fun h => by omega) (fun h => by omega) PQ.1 PQ.2.1 PQ.2.2.1 PQ.2.2.2.1 PQ.2.2.2.2 (fun h => by cases h) (fun h => by omega) (fun h => by omega)
    obtain ⟨m1, m2, m3, m4, m5⟩ := MA
    rw [← tx] at c2 c3 c4
    refine ⟨GG_app (s := 5) (bn := 0) (en := 0) HG hN false (fun h => by cases h) RG, c2.congr (fun _ _ => rfl) (fun r _ => by by_cases c : r = N <;> simp only [gu, c, if_true, if_false]) (fun _ _ => rfl) (fun _ _ _ _ _ => rfl), c3, c4, rfl, c5, RdI_app (bn := 0) (en := 0) (x0 := 0) (y0 := 0) (x1 := 0) (y1 := 0) HR hN false (fun j hj => ⟨rfl, rfl⟩) (fun h => by cases h) (fun i hi => ⟨rfl, rfl⟩) ⟨(HR.2.2 (2 * N) (by omega) (by omega)), fun h => absurd h (Nat.lt_irrefl 0)⟩ ⟨(HR.2.2 (2 * N + 1) (by omega) (by omega)), fun h => absurd h (Nat.lt_irrefl 0)⟩ (fun i _ _ => rfl), CkI_old HK hcr, m1, m2, m3, m4, m5⟩
theorem step6 (hF : 5000 < F) (HT : TpC tp t n) (HM : TpM md t n) (H : IV t n e N m so va cc dd oo ww hh cr ns nl ls ll pl pc rd sh ck md0 md) (hN : N < 40) (hb0 : b0 = wb t n e) (he0 : e0 = we t n b0) (hbn : b0 < n) (si : f2_sortInHand F (rW rd b0 e0) tp = some (nI 6)) (hs : bnd (f6_wordName F md) (fun u => f6_sortOf F u) = some (nI 6)) (hnm : nmw t b0 e0 = true) (hk : cdw t b0 (e0 - b0) = kc 6) : SR F t n N b0 e0 tp rd sh ck md0 md := by
  obtain ⟨HG, HS, hc, hlen, hre, hen, HR, HK, h0, HW, mb, me, mr⟩ := id H
  obtain ⟨k1, h59⟩ := nmw_c hnm
  have tlt : ∀ i, i < n → t i < 128 := fun i hi => (HT.2.2 i hi).2
  have hm := HG.2.1
  have hcr : ∀ k, k < m → cr k < N := fun k hk => (HG.2.2.2.1 k hk).1
  have sp := wb_spec t n e hen
  rw [← hb0] at sp mb me
  rw [← he0] at me
  obtain ⟨s1, s2, op, pw, R, W⟩ := openRow (s := 6) (rd := rd) hF HT HS hc (txt_end so cc dd oo ww hh pl pc N) hlen sp.1 hbn (sp.2.2 hbn) h59 he0 (by omega) hN
  have ge0 := W.le
  have nk : nt (kc 6) = wl t b0 (e0 - b0) := by rw [← hk]; exact nt_code _ (nmw_spec hnm).2.2.1 (by omega)
  have hnr := HW.2.2.2.2.1
  have hnc := HW.2.2.2.2.2
  obtain ⟨b1, hb1⟩ : ∃ x, x = wb t n e0 := ⟨_, rfl⟩
  obtain ⟨e1, he1⟩ : ∃ x, x = we t n b1 := ⟨_, rfl⟩
  obtain ⟨g1a, g1b, g1c⟩ := w_ok (t := t) ge0
  rw [← hb1, ← he1] at g1b g1c
  obtain ⟨b2', hb2⟩ : ∃ x, x = wb t n e1 := ⟨_, rfl⟩
  obtain ⟨e2, he2⟩ : ∃ x, x = we t n b2' := ⟨_, rfl⟩
  obtain ⟨g2a, g2b, g2c⟩ := w_ok (t := t) g1c
  rw [← hb2, ← he2] at g2b g2c
  obtain ⟨b3, hb3⟩ : ∃ x, x = wb t n e2 := ⟨_, rfl⟩
  obtain ⟨e3, he3⟩ : ∃ x, x = we t n b3 := ⟨_, rfl⟩
  obtain ⟨g3a, g3b, g3c⟩ := w_ok (t := t) g2c
  rw [← hb3, ← he3] at g3b g3c
  obtain ⟨b4, hb4⟩ : ∃ x, x = wb t n e3 := ⟨_, rfl⟩
  obtain ⟨e4, he4⟩ : ∃ x, x = we t n b4 := ⟨_, rfl⟩
  obtain ⟨g4a, g4b, g4c⟩ := w_ok (t := t) g3c
  rw [← hb4, ← he4] at g4b g4c
  obtain ⟨b5, hb5⟩ : ∃ x, x = wb t n e4 := ⟨_, rfl⟩
  obtain ⟨e5, he5⟩ : ∃ x, x = we t n b5 := ⟨_, rfl⟩
  obtain ⟨g5a, g5b, g5c⟩ := w_ok (t := t) g4c
  rw [← hb5, ← he5] at g5b g5c
  have z0 : ∀ s, s < 3 → cut0 pl (3 * N) (3 * N + s) = 0 := fun s _ => cut_ge (by omega)
  have C := crow6 (ck := ck) hF HT si op pw R W hN hb1 he1 hb2 he2 hb3 he3 hb4 he4 hb5 he5 z0
  have M := mrow6 hF HM mb me mr ge0 hnr hN hnc hm hs hb1 he1 hb2 he2 hb3 he3 hb4 he4 hb5 he5
  cases hf : ff ((btw (whw t b1 e1) 0 999999, b1) :: ([(pto t b2' e2 true, b2'), (pto t b3 e3 true, b3), (c3o t b2' e2 b3 e3 b4 e4, b4)] ++ [(smc t b5 e5, b5)])) with
  | some p =>
    have hf' : ff (((btw (whw t b1 e1) 0 999999, b1) :: [(pto t b2' e2 true, b2'), (pto t b3 e3 true, b3), (c3o t b2' e2 b3 e3 b4 e4, b4)]) ++ [(smc t b5 e5, b5)]) = some p := hf
    rw [hf] at C
    rw [hf'] at M
    obtain ⟨X, x1, x2⟩ := M
    exact Or.inl ⟨p, C, ff_le (n := n) (by
      intro x hx
      simp only [List.mem_append, List.mem_cons, List.not_mem_nil, or_false, or_assoc] at hx
      rcases hx with rfl|rfl|rfl|rfl|rfl <;> (show _ ≤ n; omega)) p hf', X, x1, fl_flm h0 x2⟩
  | none =>
    have hf' : ff (((btw (whw t b1 e1) 0 999999, b1) :: [(pto t b2' e2 true, b2'), (pto t b3 e3 true, b3), (c3o t b2' e2 b3 e3 b4 e4, b4)]) ++ [(smc t b5 e5, b5)]) = none := hf
    rw [hf] at C
    rw [hf'] at M
    obtain ⟨sh', c1, c2, c3, c4, c5⟩ := C
    obtain ⟨o0, f0⟩ := ffn hf
    obtain ⟨o1, f1⟩ := ffn f0
    obtain ⟨v1, q1, l1, u1⟩ := btw_some o0
    have G1 : gz (whw t b1 e1) = v1 := by rw [q1]; rfl
    obtain ⟨o2, f2⟩ := ffn f1
    obtain ⟨o3, f3⟩ := ffn f2
    have PQ := ptq3 (md := md) (N := N) (pl := pl) (pc := pc) (t := t) (pnl_lt (e := e2) (b := b2') tlt g2c) (pnl_lt (e := e3) (b := b3) tlt g3c) (pnl_lt (e := e4) (b := b4) tlt g4c)
    have px1 : ptx (pln (pln (pln (cut0 pl (3 * N)) (3 * N) t b2' e2) (3 * N + 1) t b3 e3) (3 * N + 2) t b4 e4) (pcn (pcn (pcn pc (3 * N) t b2' e2) (3 * N + 1) t b3 e3) (3 * N + 2) t b4 e4) (3 * N) = 32 :: wl t b2' (e2 - b2') := ptx_word (by unfold pln; rw [gu_n (by omega), gu_n (by omega), gu_s]) (by unfold pcn; rw [gu_n (by omega), gu_n (by omega), gu_s]) o1
    have px2 : ptx (pln (pln (pln (cut0 pl (3 * N)) (3 * N) t b2' e2) (3 * N + 1) t b3 e3) (3 * N + 2) t b4 e4) (pcn (pcn (pcn pc (3 * N) t b2' e2) (3 * N + 1) t b3 e3) (3 * N + 2) t b4 e4) (3 * N + 1) = 32 :: wl t b3 (e3 - b3) := ptx_word (by unfold pln; rw [gu_n (by omega), gu_s]) (by unfold pcn; rw [gu_n (by omega), gu_s]) o2
    have px3 : ptx (pln (pln (pln (cut0 pl (3 * N)) (3 * N) t b2' e2) (3 * N + 1) t b3 e3) (3 * N + 2) t b4 e4) (pcn (pcn (pcn pc (3 * N) t b2' e2) (3 * N + 1) t b3 e3) (3 * N + 2) t b4 e4) (3 * N + 2) = 32 :: wl t b4 (e4 - b4) := ptx_word gu_s gu_s (c3o_pto o3)
    have RG : RowG t n 6 (gz (whw t b1 e1)) 0 0 (gz (whw t b1 e1)) 0 0 0 0 0 0 := ⟨by omega, rfl, by omega, fun h => by omega, fun h => by omega, fun h => by omega, fun _ _ _ => ⟨rfl, rfl⟩⟩
    have tx : txt (gu so N 6) (gu cc N 0) (gu dd N 0) (gu oo N (gz (whw t b1 e1))) (gu ww N 0) (gu hh N 0) (pln (pln (pln (cut0 pl (3 * N)) (3 * N) t b2' e2) (3 * N + 1) t b3 e3) (3 * N + 2) t b4 e4) (pcn (pcn (pcn pc (3 * N) t b2' e2) (3 * N + 1) t b3 e3) (3 * N + 2) t b4 e4) (N + 1) = txt so cc dd oo ww hh pl pc N ++ wl t b0 (e0 - b0) ++ [32] ++ dt (gz (whw t b1 e1)) ++ [32] ++ wl t b2' (e2 - b2') ++ [32] ++ wl t b3 (e3 - b3) ++ [32] ++ wl t b4 (e4 - b4) ++ [59, 10] := by
      show txt _ _ _ _ _ _ _ _ N ++ txr _ _ _ _ _ _ _ _ N = _
      rw [txt_congr N (fun r hr => ⟨gu_lt hr, gu_lt hr, gu_lt hr, gu_lt hr, gu_lt hr, gu_lt hr⟩) (fun j hj => ⟨PQ.2.2.2.1 j hj, PQ.2.2.2.2 j hj⟩)]
      unfold txr ptt
      simp (config := { decide := true }) only [gu_s, nk, px1, px2, px3, ↓reduceIte, List.append_assoc, List.cons_append, List.nil_append, List.append_nil]
    refine Or.inr ⟨_, sh', _, _, e5, c1, M, m, gu so N 6, gu va N (gz (whw t b1 e1)), gu cc N 0, gu dd N 0, gu oo N (gz (whw t b1 e1)), gu ww N 0, gu hh N 0, gu cr m N, gu ns m 0, gu nl m (0 - 0), gu (gu ls (2 * N) 0) (2 * N + 1) 0, gu (gu ll (2 * N) 0) (2 * N + 1) 0, (pln (pln (pln (cut0 pl (3 * N)) (3 * N) t b2' e2) (3 * N + 1) t b3 e3) (3 * N + 2) t b4 e4), (pcn (pcn (pcn pc (3 * N) t b2' e2) (3 * N + 1) t b3 e3) (3 * N + 2) t b4 e4), ?_⟩
    have MA := NwM_app2 (md0 := md0) (md := md) (s := 6) (c := 0) (d := 0) (o := (gz (whw t b1 e1))) (w := 0) (h := 0) (x0 := 0) (x1 := 0) (bn := 0) (pl' := (pln (pln (pln (cut0 pl (3 * N)) (3 * N) t b2' e2) (3 * N + 1) t b3 e3) (3 * N + 2) t b4 e4)) (pc' := (pcn (pcn (pcn pc (3 * N) t b2' e2) (3 * N + 1) t b3 e3) (3 * N + 2) t b4 e4)) M h0 HW hN hcr (by omega) hm (fun h => by cases h) (fun h => by omega) (fun _ h => by omega) (fun _ _ => ⟨rfl, by omega⟩) (fun h => by omega) (fun h => by omega) PQ.1 PQ.2.1 PQ.2.2.1 PQ.2.2.2.1 PQ.2.2.2.2 (fun h => by cases h) (fun h => by omega) (fun h => by omega)
    obtain ⟨m1, m2, m3, m4, m5⟩ := MA
    rw [← tx] at c2 c3 c4
    refine ⟨GG_app (s := 6) (bn := 0) (en := 0) HG hN false (fun h => by cases h) RG, c2.congr (fun _ _ => rfl) (fun r _ => by by_cases c : r = N <;> simp only [gu, c, if_true, if_false]) (fun _ _ => rfl) (fun _ _ _ _ _ => rfl), c3, c4, rfl, c5, RdI_app (bn := 0) (en := 0) (x0 := 0) (y0 := 0) (x1 := 0) (y1 := 0) HR hN false (fun j hj => ⟨rfl, rfl⟩) (fun h => by cases h) (fun i hi => ⟨rfl, rfl⟩) ⟨(HR.2.2 (2 * N) (by omega) (by omega)), fun h => absurd h (Nat.lt_irrefl 0)⟩ ⟨(HR.2.2 (2 * N + 1) (by omega) (by omega)), fun h => absurd h (Nat.lt_irrefl 0)⟩ (fun i _ _ => rfl), CkI_old HK hcr, m1, m2, m3, m4, m5⟩
theorem step7 (hF : 5000 < F) (HT : TpC tp t n) (HM : TpM md t n) (H : IV t n e N m so va cc dd oo ww hh cr ns nl ls ll pl pc rd sh ck md0 md) (hN : N < 40) (hb0 : b0 = wb t n e) (he0 : e0 = we t n b0) (hbn : b0 < n) (si : f2_sortInHand F (rW rd b0 e0) tp = some (nI 7)) (hs : bnd (f6_wordName F md) (fun u => f6_sortOf F u) = some (nI 7)) (hnm : nmw t b0 e0 = true) (hk : cdw t b0 (e0 - b0) = kc 7) : SR F t n N b0 e0 tp rd sh ck md0 md := by
  obtain ⟨HG, HS, hc, hlen, hre, hen, HR, HK, h0, HW, mb, me, mr⟩ := id H
  obtain ⟨k1, h59⟩ := nmw_c hnm
  have tlt : ∀ i, i < n → t i < 128 := fun i hi => (HT.2.2 i hi).2
  have hm := HG.2.1
  have hcr : ∀ k, k < m → cr k < N := fun k hk => (HG.2.2.2.1 k hk).1
  have sp := wb_spec t n e hen
  rw [← hb0] at sp mb me
  rw [← he0] at me
  obtain ⟨s1, s2, op, pw, R, W⟩ := openRow (s := 7) (rd := rd) hF HT HS hc (txt_end so cc dd oo ww hh pl pc N) hlen sp.1 hbn (sp.2.2 hbn) h59 he0 (by omega) hN
  have ge0 := W.le
  have nk : nt (kc 7) = wl t b0 (e0 - b0) := by rw [← hk]; exact nt_code _ (nmw_spec hnm).2.2.1 (by omega)
  have hnr := HW.2.2.2.2.1
  have hnc := HW.2.2.2.2.2
  obtain ⟨b1, hb1⟩ : ∃ x, x = wb t n e0 := ⟨_, rfl⟩
  obtain ⟨e1, he1⟩ : ∃ x, x = we t n b1 := ⟨_, rfl⟩
  obtain ⟨g1a, g1b, g1c⟩ := w_ok (t := t) ge0
  rw [← hb1, ← he1] at g1b g1c
  obtain ⟨b2', hb2⟩ : ∃ x, x = wb t n e1 := ⟨_, rfl⟩
  obtain ⟨e2, he2⟩ : ∃ x, x = we t n b2' := ⟨_, rfl⟩
  obtain ⟨g2a, g2b, g2c⟩ := w_ok (t := t) g1c
  rw [← hb2, ← he2] at g2b g2c
  obtain ⟨b3, hb3⟩ : ∃ x, x = wb t n e2 := ⟨_, rfl⟩
  obtain ⟨e3, he3⟩ : ∃ x, x = we t n b3 := ⟨_, rfl⟩
  obtain ⟨g3a, g3b, g3c⟩ := w_ok (t := t) g2c
  rw [← hb3, ← he3] at g3b g3c
  obtain ⟨b4, hb4⟩ : ∃ x, x = wb t n e3 := ⟨_, rfl⟩
  obtain ⟨e4, he4⟩ : ∃ x, x = we t n b4 := ⟨_, rfl⟩
  obtain ⟨g4a, g4b, g4c⟩ := w_ok (t := t) g3c
  rw [← hb4, ← he4] at g4b g4c
  obtain ⟨b5, hb5⟩ : ∃ x, x = wb t n e4 := ⟨_, rfl⟩
  obtain ⟨e5, he5⟩ : ∃ x, x = we t n b5 := ⟨_, rfl⟩
  obtain ⟨g5a, g5b, g5c⟩ := w_ok (t := t) g4c
  rw [← hb5, ← he5] at g5b g5c
  have z0 : ∀ s, s < 3 → cut0 pl (3 * N) (3 * N + s) = 0 := fun s _ => cut_ge (by omega)
  have C := crow7 (ck := ck) hF HT si op pw R W hN hb1 he1 hb2 he2 hb3 he3 hb4 he4 hb5 he5 z0
  have M := mrow7 hF HM mb me mr ge0 hnr hN hnc hm hs hb1 he1 hb2 he2 hb3 he3 hb4 he4 hb5 he5
  cases hf : ff ((btw (whw t b1 e1) 0 999999, b1) :: ([(pto t b2' e2 true, b2'), (pto t b3 e3 true, b3), (c3o t b2' e2 b3 e3 b4 e4, b4)] ++ [(smc t b5 e5, b5)])) with
  | some p =>
    have hf' : ff (((btw (whw t b1 e1) 0 999999, b1) :: [(pto t b2' e2 true, b2'), (pto t b3 e3 true, b3), (c3o t b2' e2 b3 e3 b4 e4, b4)]) ++ [(smc t b5 e5, b5)]) = some p := hf
    rw [hf] at C
    rw [hf'] at M
    obtain ⟨X, x1, x2⟩ := M
    exact Or.inl ⟨p, C, ff_le (n := n) (by
      intro x hx
      simp only [List.mem_append, List.mem_cons, List.not_mem_nil, or_false, or_assoc] at hx
      rcases hx with rfl|rfl|rfl|rfl|rfl <;> (show _ ≤ n; omega)) p hf', X, x1, fl_flm h0 x2⟩
  | none =>
    have hf' : ff (((btw (whw t b1 e1) 0 999999, b1) :: [(pto t b2' e2 true, b2'), (pto t b3 e3 true, b3), (c3o t b2' e2 b3 e3 b4 e4, b4)]) ++ [(smc t b5 e5, b5)]) = none := hf
    rw [hf] at C
    rw [hf'] at M
    obtain ⟨sh', c1, c2, c3, c4, c5⟩ := C
    obtain ⟨o0, f0⟩ := ffn hf
    obtain ⟨o1, f1⟩ := ffn f0
    obtain ⟨v1, q1, l1, u1⟩ := btw_some o0
    have G1 : gz (whw t b1 e1) = v1 := by rw [q1]; rfl
    obtain ⟨o2, f2⟩ := ffn f1
    obtain ⟨o3, f3⟩ := ffn f2
    have PQ := ptq3 (md := md) (N := N) (pl := pl) (pc := pc) (t := t) (pnl_lt (e := e2) (b := b2') tlt g2c) (pnl_lt (e := e3) (b := b3) tlt g3c) (pnl_lt (e := e4) (b := b4) tlt g4c)
    have px1 : ptx (pln (pln (pln (cut0 pl (3 * N)) (3 * N) t b2' e2) (3 * N + 1) t b3 e3) (3 * N + 2) t b4 e4) (pcn (pcn (pcn pc (3 * N) t b2' e2) (3 * N + 1) t b3 e3) (3 * N + 2) t b4 e4) (3 * N) = 32 :: wl t b2' (e2 - b2') := ptx_word (by unfold pln; rw [gu_n (by omega), gu_n (by omega), gu_s]) (by unfold pcn; rw [gu_n (by omega), gu_n (by omega), gu_s]) o1
    have px2 : ptx (pln (pln (pln (cut0 pl (3 * N)) (3 * N) t b2' e2) (3 * N + 1) t b3 e3) (3 * N + 2) t b4 e4) (pcn (pcn (pcn pc (3 * N) t b2' e2) (3 * N + 1) t b3 e3) (3 * N + 2) t b4 e4) (3 * N + 1) = 32 :: wl t b3 (e3 - b3) := ptx_word (by unfold pln; rw [gu_n (by omega), gu_s]) (by unfold pcn; rw [gu_n (by omega), gu_s]) o2
    have px3 : ptx (pln (pln (pln (cut0 pl (3 * N)) (3 * N) t b2' e2) (3 * N + 1) t b3 e3) (3 * N + 2) t b4 e4) (pcn (pcn (pcn pc (3 * N) t b2' e2) (3 * N + 1) t b3 e3) (3 * N + 2) t b4 e4) (3 * N + 2) = 32 :: wl t b4 (e4 - b4) := ptx_word gu_s gu_s (c3o_pto o3)
    have RG : RowG t n 7 (gz (whw t b1 e1)) 0 0 (gz (whw t b1 e1)) 0 0 0 0 0 0 := ⟨by omega, rfl, by omega, fun h => by omega, fun h => by omega, fun h => by omega, fun _ _ _ => ⟨rfl, rfl⟩⟩
    have tx : txt (gu so N 7) (gu cc N 0) (gu dd N 0) (gu oo N (gz (whw t b1 e1))) (gu ww N 0) (gu hh N 0) (pln (pln (pln (cut0 pl (3 * N)) (3 * N) t b2' e2) (3 * N + 1) t b3 e3) (3 * N + 2) t b4 e4) (pcn (pcn (pcn pc (3 * N) t b2' e2) (3 * N + 1) t b3 e3) (3 * N + 2) t b4 e4) (N + 1) = txt so cc dd oo ww hh pl pc N ++ wl t b0 (e0 - b0) ++ [32] ++ dt (gz (whw t b1 e1)) ++ [32] ++ wl t b2' (e2 - b2') ++ [32] ++ wl t b3 (e3 - b3) ++ [32] ++ wl t b4 (e4 - b4) ++ [59, 10] := by
      show txt _ _ _ _ _ _ _ _ N ++ txr _ _ _ _ _ _ _ _ N = _
      rw [txt_congr N (fun r hr => ⟨gu_lt hr, gu_lt hr, gu_lt hr, gu_lt hr, gu_lt hr, gu_lt hr⟩) (fun j hj => ⟨PQ.2.2.2.1 j hj, PQ.2.2.2.2 j hj⟩)]
      unfold txr ptt
      simp (config := { decide := true }) only [gu_s, nk, px1, px2, px3, ↓reduceIte, List.append_assoc, List.cons_append, List.nil_append, List.append_nil]
    refine Or.inr ⟨_, sh', _, _, e5, c1, M, m, gu so N 7, gu va N (gz (whw t b1 e1)), gu cc N 0, gu dd N 0, gu oo N (gz (whw t b1 e1)), gu ww N 0, gu hh N 0, gu cr m N, gu ns m 0, gu nl m (0 - 0), gu (gu ls (2 * N) 0) (2 * N + 1) 0, gu (gu ll (2 * N) 0) (2 * N + 1) 0, (pln (pln (pln (cut0 pl (3 * N)) (3 * N) t b2' e2) (3 * N + 1) t b3 e3) (3 * N + 2) t b4 e4), (pcn (pcn (pcn pc (3 * N) t b2' e2) (3 * N + 1) t b3 e3) (3 * N + 2) t b4 e4), ?_⟩
    have MA := NwM_app2 (md0 := md0) (md := md) (s := 7) (c := 0) (d := 0) (o := (gz (whw t b1 e1))) (w := 0) (h := 0) (x0 := 0) (x1 := 0) (bn := 0) (pl' := (pln (pln (pln (cut0 pl (3 * N)) (3 * N) t b2' e2) (3 * N + 1) t b3 e3) (3 * N + 2) t b4 e4)) (pc' := (pcn (pcn (pcn pc (3 * N) t b2' e2) (3 * N + 1) t b3 e3) (3 * N + 2) t b4 e4)) M h0 HW hN hcr (by omega) hm (fun h => by cases h) (fun h => by omega) (fun _ h => by omega) (fun _ _ => ⟨rfl, by omega⟩) (fun h => by omega) (fun h => by omega) PQ.1 PQ.2.1 PQ.2.2.1 PQ.2.2.2.1 PQ.2.2.2.2 (fun h => by cases h) (fun h => by omega) (fun h => by omega)
    obtain ⟨m1, m2, m3, m4, m5⟩ := MA
    rw [← tx] at c2 c3 c4
    refine ⟨GG_app (s := 7) (bn := 0) (en := 0) HG hN false (fun h => by cases h) RG, c2.congr (fun _ _ => rfl) (fun r _ => by by_cases c : r = N <;> simp only [gu, c, if_true, if_false]) (fun _ _ => rfl) (fun _ _ _ _ _ => rfl), c3, c4, rfl, c5, RdI_app (bn := 0) (en := 0) (x0 := 0) (y0 := 0) (x1 := 0) (y1 := 0) HR hN false (fun j hj => ⟨rfl, rfl⟩) (fun h => by cases h) (fun i hi => ⟨rfl, rfl⟩) ⟨(HR.2.2 (2 * N) (by omega) (by omega)), fun h => absurd h (Nat.lt_irrefl 0)⟩ ⟨(HR.2.2 (2 * N + 1) (by omega) (by omega)), fun h => absurd h (Nat.lt_irrefl 0)⟩ (fun i _ _ => rfl), CkI_old HK hcr, m1, m2, m3, m4, m5⟩
theorem step8 (hF : 5000 < F) (HT : TpC tp t n) (HM : TpM md t n) (H : IV t n e N m so va cc dd oo ww hh cr ns nl ls ll pl pc rd sh ck md0 md) (hN : N < 40) (hb0 : b0 = wb t n e) (he0 : e0 = we t n b0) (hbn : b0 < n) (si : f2_sortInHand F (rW rd b0 e0) tp = some (nI 8)) (hs : bnd (f6_wordName F md) (fun u => f6_sortOf F u) = some (nI 8)) (hnm : nmw t b0 e0 = true) (hk : cdw t b0 (e0 - b0) = kc 8) : SR F t n N b0 e0 tp rd sh ck md0 md := by
  obtain ⟨HG, HS, hc, hlen, hre, hen, HR, HK, h0, HW, mb, me, mr⟩ := id H
  obtain ⟨k1, h59⟩ := nmw_c hnm
  have tlt : ∀ i, i < n → t i < 128 := fun i hi => (HT.2.2 i hi).2
  have hm := HG.2.1
  have hcr : ∀ k, k < m → cr k < N := fun k hk => (HG.2.2.2.1 k hk).1
  have sp := wb_spec t n e hen
  rw [← hb0] at sp mb me
  rw [← he0] at me
  obtain ⟨s1, s2, op, pw, R, W⟩ := openRow (s := 8) (rd := rd) hF HT HS hc (txt_end so cc dd oo ww hh pl pc N) hlen sp.1 hbn (sp.2.2 hbn) h59 he0 (by omega) hN
  have ge0 := W.le
  have nk : nt (kc 8) = wl t b0 (e0 - b0) := by rw [← hk]; exact nt_code _ (nmw_spec hnm).2.2.1 (by omega)
  have hnr := HW.2.2.2.2.1
  have hnc := HW.2.2.2.2.2
  obtain ⟨b1, hb1⟩ : ∃ x, x = wb t n e0 := ⟨_, rfl⟩
  obtain ⟨e1, he1⟩ : ∃ x, x = we t n b1 := ⟨_, rfl⟩
  obtain ⟨g1a, g1b, g1c⟩ := w_ok (t := t) ge0
  rw [← hb1, ← he1] at g1b g1c
  obtain ⟨b2', hb2⟩ : ∃ x, x = wb t n e1 := ⟨_, rfl⟩
  obtain ⟨e2, he2⟩ : ∃ x, x = we t n b2' := ⟨_, rfl⟩
  obtain ⟨g2a, g2b, g2c⟩ := w_ok (t := t) g1c
  rw [← hb2, ← he2] at g2b g2c
  obtain ⟨b3, hb3⟩ : ∃ x, x = wb t n e2 := ⟨_, rfl⟩
  obtain ⟨e3, he3⟩ : ∃ x, x = we t n b3 := ⟨_, rfl⟩
  obtain ⟨g3a, g3b, g3c⟩ := w_ok (t := t) g2c
  rw [← hb3, ← he3] at g3b g3c
  have C := crow8 (ck := ck) hF HT si op pw R W hN hb1 he1 hb2 he2 hb3 he3
  have M := mrow8 hF HM mb me mr ge0 hnr hN hnc hm hs hb1 he1 hb2 he2 hb3 he3
  cases hf : ff [(btw (whw t b1 e1) 0 999999, b1), (ptw t b2' e2, b2'), (smc t b3 e3, b3)] with
  | some p =>
    have hf' : ff ([(btw (whw t b1 e1) 0 999999, b1), (ptw t b2' e2, b2')] ++ [(smc t b3 e3, b3)]) = some p := hf
    rw [hf] at C
    rw [hf'] at M
    obtain ⟨X, x1, x2⟩ := M
    exact Or.inl ⟨p, C, ff_le (n := n) (by
      intro x hx
      simp only [List.mem_append, List.mem_cons, List.not_mem_nil, or_false, or_assoc] at hx
      rcases hx with rfl|rfl|rfl <;> (show _ ≤ n; omega)) p hf', X, x1, fl_flm h0 x2⟩
  | none =>
    have hf' : ff ([(btw (whw t b1 e1) 0 999999, b1), (ptw t b2' e2, b2')] ++ [(smc t b3 e3, b3)]) = none := hf
    rw [hf] at C
    rw [hf'] at M
    obtain ⟨sh', c1, c2, c3, c4, c5⟩ := C
    obtain ⟨o1, f1⟩ := ffn hf
    obtain ⟨o2, f2⟩ := ffn f1
    obtain ⟨v1, q1, l1, u1⟩ := btw_some o1
    have G1 : gz (whw t b1 e1) = v1 := by rw [q1]; rfl
    obtain ⟨p1, p2, p3⟩ := ptw_c o2
    have PQ := ptq1 (md := md) (N := N) (pl := pl) (pc := pc) (t := t) (b := b2') (k := e2 - b2') (by omega) (fun q hq => tlt _ (by omega))
    have px : ptx (gu (cut0 pl (3 * N)) (3 * N) (e2 - b2')) (gu pc (3 * N) (fun i => t (b2' + i))) (3 * N) = 32 :: wl t b2' (e2 - b2') := by
      unfold ptx
      rw [gu_s, gu_s, if_neg (by omega)]
      rfl
    have RG : RowG t n 8 (gz (whw t b1 e1)) 0 0 (gz (whw t b1 e1)) 0 0 0 0 0 0 := ⟨by omega, rfl, by omega, fun h => by omega, fun h => by omega, fun h => by omega, fun _ _ _ => ⟨rfl, rfl⟩⟩
    have tx : txt (gu so N 8) (gu cc N 0) (gu dd N 0) (gu oo N (gz (whw t b1 e1))) (gu ww N 0) (gu hh N 0) (gu (cut0 pl (3 * N)) (3 * N) (e2 - b2')) (gu pc (3 * N) (fun i => t (b2' + i))) (N + 1) = txt so cc dd oo ww hh pl pc N ++ wl t b0 (e0 - b0) ++ [32] ++ dt (gz (whw t b1 e1)) ++ [32] ++ wl t b2' (e2 - b2') ++ [59, 10] := by
      show txt _ _ _ _ _ _ _ _ N ++ txr _ _ _ _ _ _ _ _ N = _
      rw [txt_congr N (fun r hr => ⟨gu_lt hr, gu_lt hr, gu_lt hr, gu_lt hr, gu_lt hr, gu_lt hr⟩) (fun j hj => ⟨PQ.2.2.2.1 j hj, PQ.2.2.2.2 j hj⟩)]
      unfold txr ptt
      simp (config := { decide := true }) only [gu_s, nk, px, ↓reduceIte, List.append_assoc, List.cons_append, List.nil_append, List.append_nil]
    refine Or.inr ⟨_, sh', _, _, e3, c1, M, m, gu so N 8, gu va N (gz (whw t b1 e1)), gu cc N 0, gu dd N 0, gu oo N (gz (whw t b1 e1)), gu ww N 0, gu hh N 0, gu cr m N, gu ns m 0, gu nl m (0 - 0), gu (gu ls (2 * N) 0) (2 * N + 1) 0, gu (gu ll (2 * N) 0) (2 * N + 1) 0, (gu (cut0 pl (3 * N)) (3 * N) (e2 - b2')), (gu pc (3 * N) (fun i => t (b2' + i))), ?_⟩
    have MA := NwM_app2 (md0 := md0) (md := md) (s := 8) (c := 0) (d := 0) (o := (gz (whw t b1 e1))) (w := 0) (h := 0) (x0 := 0) (x1 := 0) (bn := 0) (pl' := (gu (cut0 pl (3 * N)) (3 * N) (e2 - b2'))) (pc' := (gu pc (3 * N) (fun i => t (b2' + i)))) M h0 HW hN hcr (by omega) hm (fun h => by cases h) (fun h => by omega) (fun _ h => by omega) (fun _ _ => ⟨rfl, by omega⟩) (fun h => by omega) (fun h => by omega) PQ.1 PQ.2.1 PQ.2.2.1 PQ.2.2.2.1 PQ.2.2.2.2 (fun h => by cases h) (fun h => by omega) (fun h => by omega)
    obtain ⟨m1, m2, m3, m4, m5⟩ := MA
    rw [← tx] at c2 c3 c4
    refine ⟨GG_app (s := 8) (bn := 0) (en := 0) HG hN false (fun h => by cases h) RG, c2.congr (fun _ _ => rfl) (fun r _ => by by_cases c : r = N <;> simp only [gu, c, if_true, if_false]) (fun _ _ => rfl) (fun _ _ _ _ _ => rfl), c3, c4, rfl, c5, RdI_app (bn := 0) (en := 0) (x0 := 0) (y0 := 0) (x1 := 0) (y1 := 0) HR hN false (fun j hj => ⟨rfl, rfl⟩) (fun h => by cases h) (fun i hi => ⟨rfl, rfl⟩) ⟨(HR.2.2 (2 * N) (by omega) (by omega)), fun h => absurd h (Nat.lt_irrefl 0)⟩ ⟨(HR.2.2 (2 * N + 1) (by omega) (by omega)), fun h => absurd h (Nat.lt_irrefl 0)⟩ (fun i _ _ => rfl), CkI_old HK hcr, m1, m2, m3, m4, m5⟩
theorem step9 (hF : 5000 < F) (HT : TpC tp t n) (HM : TpM md t n) (H : IV t n e N m so va cc dd oo ww hh cr ns nl ls ll pl pc rd sh ck md0 md) (hN : N < 40) (hb0 : b0 = wb t n e) (he0 : e0 = we t n b0) (hbn : b0 < n) (si : f2_sortInHand F (rW rd b0 e0) tp = some (nI 9)) (hs : bnd (f6_wordName F md) (fun u => f6_sortOf F u) = some (nI 9)) (hnm : nmw t b0 e0 = true) (hk : cdw t b0 (e0 - b0) = kc 9) : SR F t n N b0 e0 tp rd sh ck md0 md := by
  obtain ⟨HG, HS, hc, hlen, hre, hen, HR, HK, h0, HW, mb, me, mr⟩ := id H
  obtain ⟨k1, h59⟩ := nmw_c hnm
  have tlt : ∀ i, i < n → t i < 128 := fun i hi => (HT.2.2 i hi).2
  have hm := HG.2.1
  have hcr : ∀ k, k < m → cr k < N := fun k hk => (HG.2.2.2.1 k hk).1
  have sp := wb_spec t n e hen
  rw [← hb0] at sp mb me
  rw [← he0] at me
  obtain ⟨s1, s2, op, pw, R, W⟩ := openRow (s := 9) (rd := rd) hF HT HS hc (txt_end so cc dd oo ww hh pl pc N) hlen sp.1 hbn (sp.2.2 hbn) h59 he0 (by omega) hN
  have ge0 := W.le
  have nk : nt (kc 9) = wl t b0 (e0 - b0) := by rw [← hk]; exact nt_code _ (nmw_spec hnm).2.2.1 (by omega)
  have hnr := HW.2.2.2.2.1
  have hnc := HW.2.2.2.2.2
  obtain ⟨b1, hb1⟩ : ∃ x, x = wb t n e0 := ⟨_, rfl⟩
  obtain ⟨e1, he1⟩ : ∃ x, x = we t n b1 := ⟨_, rfl⟩
  obtain ⟨g1a, g1b, g1c⟩ := w_ok (t := t) ge0
  rw [← hb1, ← he1] at g1b g1c
  obtain ⟨b2', hb2⟩ : ∃ x, x = wb t n e1 := ⟨_, rfl⟩
  obtain ⟨e2, he2⟩ : ∃ x, x = we t n b2' := ⟨_, rfl⟩
  obtain ⟨g2a, g2b, g2c⟩ := w_ok (t := t) g1c
  rw [← hb2, ← he2] at g2b g2c
  obtain ⟨b3, hb3⟩ : ∃ x, x = wb t n e2 := ⟨_, rfl⟩
  obtain ⟨e3, he3⟩ : ∃ x, x = we t n b3 := ⟨_, rfl⟩
  obtain ⟨g3a, g3b, g3c⟩ := w_ok (t := t) g2c
  rw [← hb3, ← he3] at g3b g3c
  have C := crow9 (ck := ck) hF HT si op pw R W hN hb1 he1 hb2 he2 hb3 he3
  have M := mrow9 hF HM mb me mr ge0 hnr hN hnc hm hs hb1 he1 hb2 he2 hb3 he3
  cases hf : ff [(btw (whw t b1 e1) 0 999999, b1), (ptw t b2' e2, b2'), (smc t b3 e3, b3)] with
  | some p =>
    have hf' : ff ([(btw (whw t b1 e1) 0 999999, b1), (ptw t b2' e2, b2')] ++ [(smc t b3 e3, b3)]) = some p := hf
    rw [hf] at C
    rw [hf'] at M
    obtain ⟨X, x1, x2⟩ := M
    exact Or.inl ⟨p, C, ff_le (n := n) (by
      intro x hx
      simp only [List.mem_append, List.mem_cons, List.not_mem_nil, or_false, or_assoc] at hx
      rcases hx with rfl|rfl|rfl <;> (show _ ≤ n; omega)) p hf', X, x1, fl_flm h0 x2⟩
  | none =>
    have hf' : ff ([(btw (whw t b1 e1) 0 999999, b1), (ptw t b2' e2, b2')] ++ [(smc t b3 e3, b3)]) = none := hf
    rw [hf] at C
    rw [hf'] at M
    obtain ⟨sh', c1, c2, c3, c4, c5⟩ := C
    obtain ⟨o1, f1⟩ := ffn hf
    obtain ⟨o2, f2⟩ := ffn f1
    obtain ⟨v1, q1, l1, u1⟩ := btw_some o1
    have G1 : gz (whw t b1 e1) = v1 := by rw [q1]; rfl
    obtain ⟨p1, p2, p3⟩ := ptw_c o2
    have PQ := ptq1 (md := md) (N := N) (pl := pl) (pc := pc) (t := t) (b := b2') (k := e2 - b2') (by omega) (fun q hq => tlt _ (by omega))
    have px : ptx (gu (cut0 pl (3 * N)) (3 * N) (e2 - b2')) (gu pc (3 * N) (fun i => t (b2' + i))) (3 * N) = 32 :: wl t b2' (e2 - b2') := by
      unfold ptx
      rw [gu_s, gu_s, if_neg (by omega)]
      rfl
    have RG : RowG t n 9 (gz (whw t b1 e1)) 0 0 (gz (whw t b1 e1)) 0 0 0 0 0 0 := ⟨by omega, rfl, by omega, fun h => by omega, fun h => by omega, fun h => by omega, fun _ _ _ => ⟨rfl, rfl⟩⟩
    have tx : txt (gu so N 9) (gu cc N 0) (gu dd N 0) (gu oo N (gz (whw t b1 e1))) (gu ww N 0) (gu hh N 0) (gu (cut0 pl (3 * N)) (3 * N) (e2 - b2')) (gu pc (3 * N) (fun i => t (b2' + i))) (N + 1) = txt so cc dd oo ww hh pl pc N ++ wl t b0 (e0 - b0) ++ [32] ++ dt (gz (whw t b1 e1)) ++ [32] ++ wl t b2' (e2 - b2') ++ [59, 10] := by
      show txt _ _ _ _ _ _ _ _ N ++ txr _ _ _ _ _ _ _ _ N = _
      rw [txt_congr N (fun r hr => ⟨gu_lt hr, gu_lt hr, gu_lt hr, gu_lt hr, gu_lt hr, gu_lt hr⟩) (fun j hj => ⟨PQ.2.2.2.1 j hj, PQ.2.2.2.2 j hj⟩)]
      unfold txr ptt
      simp (config := { decide := true }) only [gu_s, nk, px, ↓reduceIte, List.append_assoc, List.cons_append, List.nil_append, List.append_nil]
    refine Or.inr ⟨_, sh', _, _, e3, c1, M, m, gu so N 9, gu va N (gz (whw t b1 e1)), gu cc N 0, gu dd N 0, gu oo N (gz (whw t b1 e1)), gu ww N 0, gu hh N 0, gu cr m N, gu ns m 0, gu nl m (0 - 0), gu (gu ls (2 * N) 0) (2 * N + 1) 0, gu (gu ll (2 * N) 0) (2 * N + 1) 0, (gu (cut0 pl (3 * N)) (3 * N) (e2 - b2')), (gu pc (3 * N) (fun i => t (b2' + i))), ?_⟩
    have MA := NwM_app2 (md0 := md0) (md := md) (s := 9) (c := 0) (d := 0) (o := (gz (whw t b1 e1))) (w := 0) (h := 0) (x0 := 0) (x1 := 0) (bn := 0) (pl' := (gu (cut0 pl (3 * N)) (3 * N) (e2 - b2'))) (pc' := (gu pc (3 * N) (fun i => t (b2' + i)))) M h0 HW hN hcr (by omega) hm (fun h => by cases h) (fun h => by omega) (fun _ h => by omega) (fun _ _ => ⟨rfl, by omega⟩) (fun h => by omega) (fun h => by omega) PQ.1 PQ.2.1 PQ.2.2.1 PQ.2.2.2.1 PQ.2.2.2.2 (fun h => by cases h) (fun h => by omega) (fun h => by omega)
    obtain ⟨m1, m2, m3, m4, m5⟩ := MA
    rw [← tx] at c2 c3 c4
    refine ⟨GG_app (s := 9) (bn := 0) (en := 0) HG hN false (fun h => by cases h) RG, c2.congr (fun _ _ => rfl) (fun r _ => by by_cases c : r = N <;> simp only [gu, c, if_true, if_false]) (fun _ _ => rfl) (fun _ _ _ _ _ => rfl), c3, c4, rfl, c5, RdI_app (bn := 0) (en := 0) (x0 := 0) (y0 := 0) (x1 := 0) (y1 := 0) HR hN false (fun j hj => ⟨rfl, rfl⟩) (fun h => by cases h) (fun i hi => ⟨rfl, rfl⟩) ⟨(HR.2.2 (2 * N) (by omega) (by omega)), fun h => absurd h (Nat.lt_irrefl 0)⟩ ⟨(HR.2.2 (2 * N + 1) (by omega) (by omega)), fun h => absurd h (Nat.lt_irrefl 0)⟩ (fun i _ _ => rfl), CkI_old HK hcr, m1, m2, m3, m4, m5⟩
end St
