/-! ===== read ===== -/
def mdS (md : T6) : T6 := ((nI 0, md.1.2.1, md.1.2.2.1, md.1.2.2.2.1, md.1.2.2.2.2), md.2.1, md.2.2.1, (md.2.2.2.1.1, nI 0, nI 1, nI 0, nI 0, md.2.2.2.1.2.2.2.2.2.1, md.2.2.2.1.2.2.2.2.2.2), md.2.2.2.2)
def RQ (md md' : T6) : Prop := md'.1 = (nI 0, md.1.2.1, md.1.2.2.1, md.1.2.2.2.1, nI 0)
section Rd
variable {F n : Nat} {t : Nat → Nat} {tp : T4} {sh sp : T3} {rd : T2} {ck sk : T0} {md : T6} {pn : T1} {sz : Nat → Nat} {nm : Nat → Nat → Nat}
theorem lv_live {md' : T6} (h : LV (mdS md) md') (H : Live sh ck md sz nm) : Live sh ck md' sz nm := H.lv h.2.1 h.2.2.1 h.2.2.2.1 h.2.2.2.2.1 h.2.2.2.2.2.1 h.2.2.2.2.2.2
theorem lv_mV {X : T6} (h : LV (mdS md) X) (H : Live sh ck md sz nm) : Live sh ck (mV X) sz nm := H.lv h.2.1 h.2.2.1 h.2.2.2.1 h.2.2.2.2.1 h.2.2.2.2.2.1 h.2.2.2.2.2.2
theorem lv_mF {X : T6} {f : Nat → Option Nat} {m : Nat} (h : LV (mdS md) X) (H : Live sh ck md sz nm) : Live sh ck (mF (mV X) (srcA f (mFrom X) 12 m)) sz nm := H.lv h.2.1 h.2.2.1 h.2.2.2.1 h.2.2.2.2.1 h.2.2.2.2.2.1 (fun k hk => by
  obtain ⟨a1, a2, a3, a4, a5, a6⟩ := h.2.2.2.2.2.2 k hk
  exact ⟨a1, (srcA_o m k hk).trans a2, a3, a4, a5, a6⟩)
theorem lv_mG {X : T6} {f : Nat → Option Nat} {m : Nat} {V : Nat → VT} {P : Nat → Prop} {per ris fal und : Nat → Int64} {gre : Nat → Int32} (h : LV (mdS md) X) (HA : AV (mF (mV X) (srcA f (mFrom X) 12 m)) m V P per ris fal und gre) (H : Live sh ck md sz nm) : Live sh ck (mG (mF (mV X) (srcA f (mFrom X) 12 m)) per ris fal und gre) sz nm := H.lv h.2.1 h.2.2.1 h.2.2.2.1 h.2.2.2.2.1 h.2.2.2.2.2.1 (fun k hk => by
  obtain ⟨a1, a2, a3, a4, a5, a6⟩ := h.2.2.2.2.2.2 k hk
  obtain ⟨b1, b2', b3, b4⟩ := HA.1 k hk
  exact ⟨a1, (srcA_o m k hk).trans a2, b1.trans a3, b2'.trans a4, b3.trans a5, b4.trans a6⟩)
theorem rq_mV {X : T6} (h : LV (mdS md) X) : (mV X).1 = (nI 0, md.1.2.1, md.1.2.2.1, md.1.2.2.2.1, nI 0) := by
  show (X.1.1, X.1.2.1, X.1.2.2.1, X.1.2.2.2.1, nI 0) = _
  rw [h.1]
  rfl
/-- what reading does to the class, short of the pins -/
theorem start_ok (hn : n ≤ 1200) (HM : TpM md t n) (hF : 5000 < F) : IVx t n 0 0 (rd.1, rd.2.1, rd.2.2.1, fillA rd.2.2.2.1 80 (nI 0), nI 0, nI 0) (sp.1, sp.2.1, sp.2.2.1, sp.2.2.2.1, sp.2.2.2.2.1, sp.2.2.2.2.2.1, sp.2.2.2.2.2.2.1, nI 0, nI 0) (sk.1, sk.2.1, sk.2.2.1, sk.2.2.2.1, sk.2.2.2.2.1, sk.2.2.2.2.2.1, sk.2.2.2.2.2.2.1, sk.2.2.2.2.2.2.2.1, sk.2.2.2.2.2.2.2.2.1, sk.2.2.2.2.2.2.2.2.2.1, sk.2.2.2.2.2.2.2.2.2.2.1, nI 0) (mdS md) (mW (mdS md) (wb t n 0) (we t n (wb t n 0)) (nI 1)) := by
  have z : ∀ {P : Prop} {k : Nat}, k < 0 → P := fun h => absurd h (Nat.not_lt_zero _)
  refine ⟨0, fun _ => 0, fun _ => 0, fun _ => 0, fun _ => 0, fun _ => 0, fun _ => 0, fun _ => 0, fun _ => 0, fun _ => 0, fun _ => 0, fun _ => 0, fun _ => 0, fun _ => 0, fun _ _ => 0, ⟨by omega, by omega, fun r h => z h, fun k h => z h, fun a b h _ _ => z h⟩, ⟨⟨by omega, rfl, fun r h => z h⟩, ⟨by omega, rfl, fun j h => z h⟩, fun j h => z h, fun i h => z h, ⟨by show 0 ≤ 1240; omega, rfl, fun i h => z h⟩⟩, chs_nil, by show 0 ≤ 0 + 0; omega, rfl, by omega, ⟨fun k h => z h, fun i h => z h, fun i _ hi => if_pos hi⟩, ⟨rfl, fun k h => z h⟩, ⟨rfl, rfl, fun _ _ => ⟨rfl, rfl, rfl, rfl, rfl, rfl⟩, fun _ _ => rfl, fun _ _ => rfl, rfl, fun _ _ => ⟨rfl, rfl, rfl, rfl, rfl, rfl⟩⟩, ⟨fun r h => z h, fun j h => z h, fun k h => z h, fun r h => z h, rfl, rfl⟩, rfl, rfl, rfl⟩
theorem m1_sub {p : Nat} (hp : p < 2147483648) : ¬ nI p = im1 := fun h => by rw [m1_e hp] at h; exact h
theorem read_ok (hF : 5000 < F) (HT : TpC tp t n) (HM : TpM md t n) (HP : PnC pn sz nm) :
    ∃ v rd' sp' sk' sh' ck' b md', f5_read F rd sp sk tp sh ck pn = some (v, rd', sp', sk', (tp.1, nI 0), sh', ck', b) ∧ f6_read F md = some (v, md') ∧ RQ md md' ∧ (Live sh ck md sz nm → Live sh' ck' md' sz nm) := by
  have hn := HT.1
  have HM0 : TpM (mdS md) t n := HM
  have nx : f6_next F (((0 : Int32), md.1.2.1, md.1.2.2.1, md.1.2.2.2.1, md.1.2.2.2.2), md.2.1, md.2.2.1, (md.2.2.2.1.1, (0 : Int32), (1 : Int32), (0 : Int32), (0 : Int32), md.2.2.2.1.2.2.2.2.2.1, md.2.2.2.1.2.2.2.2.2.2), md.2.2.2.2) = some (mW (mdS md) (wb t n 0) (we t n (wb t n 0)) (nI 1)) := next_ok (md := mdS md) hF HM0 (Nat.zero_le n) rfl rfl
  have I0 := start_ok (rd := rd) (sp := sp) (sk := sk) hn HM hF
  have lo := loop_ok hF HT HM0 40 0 0 _ _ _ _ F F (by omega) (by omega) (by omega) I0
  -- the class's reading, by the fault
  have wp : f3_wipe sp sk = some ((sp.1, sp.2.1, sp.2.2.1, sp.2.2.2.1, sp.2.2.2.2.1, sp.2.2.2.2.2.1, sp.2.2.2.2.2.2.1, nI 0, nI 0), (sk.1, sk.2.1, sk.2.2.1, sk.2.2.2.1, sk.2.2.2.2.1, sk.2.2.2.2.2.1, sk.2.2.2.2.2.2.1, sk.2.2.2.2.2.2.2.1, sk.2.2.2.2.2.2.2.2.1, sk.2.2.2.2.2.2.2.2.2.1, sk.2.2.2.2.2.2.2.2.2.2.1, nI 0)) := by
    unfold f3_wipe f0_wipe
    simp (disch := omega) only [li, ↓lim1, ↓bnd_m, ↓grd_m, ↓jn_e, ↓cas_m, ↓oc_m, inb_t, nI_add, pk_mul, sub_e, le_t, le_f, lt_t, lt_f, eq_t, eq_f, cl_e, m1_e, m1_e', m1_lt, m1_le, m1_m1, lt_m1, ↓reduceIte, Nat.add_zero, Nat.zero_add]
  have wt : f4_wipe tp = some (tp.1, nI 0) := rfl
  rcases lo with ⟨p, rd', sh', ck', X, hp, l1, l2, l3, l4⟩ | ⟨N, rd', sh', ck', X, l1, l3, m, so, va, cc, dd, oo, ww, hh, cr, ns, nl, ls, ll, pl, pc, I⟩
  · -- a fault in a row
    have ft : f2_faultOfTape F rd sp sk tp = some (nI p, rd', sh', ck') := by
      unfold f2_faultOfTape
      simp (disch := omega) only [li, ↓lim1, ↓bnd_m, ↓grd_m, ↓jn_e, ↓cas_m, ↓oc_m, inb_t, nI_add, pk_mul, sub_e, le_t, le_f, lt_t, lt_f, eq_t, eq_f, cl_e, m1_e, m1_e', m1_lt, m1_le, m1_m1, lt_m1, ↓reduceIte, Nat.add_zero, Nat.zero_add, wp, l1, l2]
    have xb := l4.2.1
    have xr := l4.2.2
    refine ⟨im1 - nI p, rd', sh', ck', sh, ck, false, mV X, ?_, ?_, rq_mV l4.1, lv_mV l4.1⟩
    · unfold f5_read
      simp (disch := omega) only [li, ↓lim1, ↓bnd_m, ↓grd_m, ↓jn_e, ↓cas_m, ↓oc_m, inb_t, nI_add, pk_mul, sub_e, le_t, le_f, lt_t, lt_f, eq_t, eq_f, cl_e, m1_e, m1_e', m1_lt, m1_le, m1_m1, lt_m1, ↓reduceIte, Nat.add_zero, Nat.zero_add, ft, wt]
    · unfold f6_read
      rw [bnd_e nx, bnd_e l3]
      simp (disch := omega) only [li, ↓lim1, ↓bnd_m, ↓grd_m, ↓jn_e, ↓cas_m, ↓oc_m, inb_t, nI_add, pk_mul, sub_e, le_t, le_f, lt_t, lt_f, eq_t, eq_f, cl_e, m1_e, m1_e', m1_lt, m1_le, m1_m1, lt_m1, ↓reduceIte, Nat.add_zero, Nat.zero_add, xr, xb]
      rfl
  · obtain ⟨HG, HS, hc, hlen, hre, hen, HR, HK, h0, HW, mb, me, mr⟩ := id I
    have HN := I.nm
    have hN := HG.1
    have hm := HG.2.1
    have HWv : NwM (mV X) N m so cc dd oo ww hh pl pc cr ns ls := HW
    have HNv : NmR t n N rd' (mV X) m cr ns nl := HN
    have hnc := HW.2.2.2.2.2
    have hncv : (mV X).2.2.2.1.2.2.2.2.1 = nI m := hnc
    have nsl : ∀ k, k < m → ns k < 2147483648 := fun k hk => by have := (HG.2.2.2.1 k hk).2.2.2.2; omega
    rcases @first_or _ (badD t ns nl ls ll m) (2 * N) with hb | ⟨i0, hi, hb, hf⟩
    · -- every name is known
      have bk := bind_ok hF HT HG HR HN HK hnc HS hb
      have uk := unk_ok hF HT HG HNv HK.1 HWv hb
      have ff' := findFrom_ok hF HT HG HNv HK.1 HWv
      obtain ⟨S, hS⟩ : ∃ x, x = src t ns nl ls ll so cr m := ⟨_, rfl⟩
      have hSl : ∀ c k, c < m → src t ns nl ls ll so cr m c = some k → k < m := fun c k _ h => (src_lt h).1
      have hsC : ∀ c, c < m → kSrc (ckS ck' (srcA (src t ns nl ls ll so cr m) (kSrc ck') 0 m)) c = pI (src t ns nl ls ll so cr m c) := fun c hc => ((CV_0 HG hb HK).2 c hc).1
      have hsM : ∀ c, c < m → mFrom (mF (mV X) (srcA (src t ns nl ls ll so cr m) (mFrom (mV X)) 12 m)) (12 + c) = pI (src t ns nl ls ll so cr m c) := fun c hc => srcA_v m c hc
      have hncf : (mF (mV X) (srcA (src t ns nl ls ll so cr m) (mFrom (mV X)) 12 m)).2.2.2.1.2.2.2.2.1 = nI m := hnc
      have rgd : DecidablePred (rng (src t ns nl ls ll so cr m)) := fun c => by
        unfold rng
        exact Nat.decidableExistsLT _ 
      rcases first_or (rng (src t ns nl ls ll so cr m)) m with hr | ⟨c0, hc0, hr0, hr⟩
      · -- no ring
        have nr := noRing_ok (rd := rd') (sh := shL sh' (lkA t ns nl ls ll m (sLnk sh') (2 * N))) hF hm (show kSiz (ckS ck' (srcA (src t ns nl ls ll so cr m) (kSrc ck') 0 m)) = nI m from HK.1) hSl hsC hr
        have mr0 := mring_no hF hm hncf hSl hsM hr
        obtain ⟨ck2, sa1, sa2, sa3⟩ := settleAll_ok hF hSl hm hr (bnd0 HG hb) (bnd1 HG) (CV_0 HG hb HK) (fun c hc h => decide_eq_true (src_none HG hb hc h))
        obtain ⟨per, ris, fal, und, gre, gq, HA⟩ := reckonAll_ok hF hSl hm hr (bnd0 HG hb) (bnd1 HG) (BM_0 HG hb HW) hncf
        rcases first_or (fun c => (VV (src t ns nl ls ll so cr m) (fun c => oo (cr c)) (fun c => ww (cr c)) (fun c => hh (cr c)) (fun c => decide (so (cr c) = 2)) c).1 = true) m with hg | ⟨c0, hc0, hg0, hg⟩
        · -- none is great
          have hg' : ∀ c, c < m → (VV (src t ns nl ls ll so cr m) (fun c => oo (cr c)) (fun c => ww (cr c)) (fun c => hh (cr c)) (fun c => decide (so (cr c) = 2)) c).1 = false := fun c hc => by
            cases e : (VV (src t ns nl ls ll so cr m) (fun c => oo (cr c)) (fun c => ww (cr c)) (fun c => hh (cr c)) (fun c => decide (so (cr c) = 2)) c).1 with
            | false => rfl
            | true => exact absurd e (hg c hc)
          have ng := noneGreat_ok (rd := rd') (sh := shL sh' (lkA t ns nl ls ll m (sLnk sh') (2 * N))) hF hm sa1 sa3 hg'
          have mg := mgreat_no hF hm hncf gq HA hg'
          have HPt : PtsC (shL sh' (lkA t ns nl ls ll m (sLnk sh') (2 * N))) N pl pc := HS.2.1
          obtain ⟨hi, ma1, ma2⟩ := matchAll_ok (sz := sz) (nm := nm) hF HPt HP HS.2.2.1
          have ad := adopt_ok (F := F) (md := mG (mF (mV X) (srcA (src t ns nl ls ll so cr m) (mFrom (mV X)) 12 m)) per ris fal und gre) hF hN hm HW.2.2.2.2.1 hnc
          have ft : f2_faultOfTape F rd sp sk tp = some (im1, rd', shL sh' (lkA t ns nl ls ll m (sLnk sh') (2 * N)), ck2) := by
            unfold f2_faultOfTape
            simp (disch := omega) only [li, ↓lim1, ↓bnd_m, ↓grd_m, ↓jn_e, ↓cas_m, ↓oc_m, inb_t, nI_add, pk_mul, sub_e, le_t, le_f, lt_t, lt_f, eq_t, eq_f, cl_e, m1_e, m1_e', m1_lt, m1_le, m1_m1, lt_m1, ↓reduceIte, Nat.add_zero, Nat.zero_add, wp, l1, bk, nr, ng]
          have hrow : (shH (shL sh' (lkA t ns nl ls ll m (sLnk sh') (2 * N))) hi).2.2.2.2.2.2.2.1 = nI N := HS.1.2.1
          refine ⟨nI N, rd', sh, ck, shH (shL sh' (lkA t ns nl ls ll m (sLnk sh') (2 * N))) hi, ck2, true, mB (mG (mF (mV X) (srcA (src t ns nl ls ll so cr m) (mFrom (mV X)) 12 m)) per ris fal und gre) N m m, ?_, ?_, rq_mV h0, fun _ => new_live HG HS HK HW hb hr ma2 sa2 sa3 HA hg'⟩
          · unfold f5_read
            simp (disch := omega) only [li, ↓lim1, ↓bnd_m, ↓grd_m, ↓jn_e, ↓cas_m, ↓oc_m, inb_t, nI_add, pk_mul, sub_e, le_t, le_f, lt_t, lt_f, eq_t, eq_f, cl_e, m1_e, m1_e', m1_lt, m1_le, m1_m1, lt_m1, ↓reduceIte, Nat.add_zero, Nat.zero_add, ft, wt, ma1, hrow]
          · have uk' : f6_unknown F ((X.1.1, X.1.2.1, X.1.2.2.1, X.1.2.2.2.1, nI 0), X.2.1, X.2.2.1, X.2.2.2.1, X.2.2.2.2) = some im1 := uk
            have ff2 : f6_findFrom F ((X.1.1, X.1.2.1, X.1.2.2.1, X.1.2.2.2.1, nI 0), X.2.1, X.2.2.1, X.2.2.2.1, X.2.2.2.2) = _ := ff'
            unfold f6_read
            rw [bnd_e nx, bnd_e l3]
            simp (disch := omega) only [li, ↓lim1, ↓bnd_m, ↓grd_m, ↓jn_e, ↓cas_m, ↓oc_m, inb_t, nI_add, pk_mul, sub_e, le_t, le_f, lt_t, lt_f, eq_t, eq_f, cl_e, m1_e, m1_e', m1_lt, m1_le, m1_m1, lt_m1, ↓reduceIte, Nat.add_zero, Nat.zero_add, mr, uk', ff2, mr0, mg, ad]
            rfl
        · -- one is great
          have hg' : ∀ c, c < c0 → (VV (src t ns nl ls ll so cr m) (fun c => oo (cr c)) (fun c => ww (cr c)) (fun c => hh (cr c)) (fun c => decide (so (cr c) = 2)) c).1 = false := fun c hc => by
            cases e : (VV (src t ns nl ls ll so cr m) (fun c => oo (cr c)) (fun c => ww (cr c)) (fun c => hh (cr c)) (fun c => decide (so (cr c) = 2)) c).1 with
            | false => rfl
            | true => exact absurd e (hg c hc)
          obtain ⟨rd2, ng, ng2⟩ := isGreat_ok (rd := rd') (sh := shL sh' (lkA t ns nl ls ll m (sLnk sh') (2 * N))) hF hm sa1 sa3 hc0 hg0 hg' (HR.1 c0 hc0).1
          have c40 := (HG.2.2.2.1 c0 hc0).1
          have mg := mgreat_yes hF hm hncf gq HA hc0 hg0 hg' (show cr c0 < 40 by omega) (HW.2.2.1 c0 hc0).1 (HW.2.2.1 c0 hc0).2
          have nlt := nsl c0 hc0
          have ft : f2_faultOfTape F rd sp sk tp = some (nI (ns c0), rd2, shL sh' (lkA t ns nl ls ll m (sLnk sh') (2 * N)), ck2) := by
            unfold f2_faultOfTape
            simp (disch := omega) only [li, ↓lim1, ↓bnd_m, ↓grd_m, ↓jn_e, ↓cas_m, ↓oc_m, inb_t, nI_add, pk_mul, sub_e, le_t, le_f, lt_t, lt_f, eq_t, eq_f, cl_e, m1_e, m1_e', m1_lt, m1_le, m1_m1, lt_m1, ↓reduceIte, Nat.add_zero, Nat.zero_add, wp, l1, bk, nr, ng, ng2]
          refine ⟨im1 - nI (ns c0), rd2, shL sh' (lkA t ns nl ls ll m (sLnk sh') (2 * N)), ck2, sh, ck, false, mG (mF (mV X) (srcA (src t ns nl ls ll so cr m) (mFrom (mV X)) 12 m)) per ris fal und gre, ?_, ?_, rq_mV h0, lv_mG h0 HA⟩
          · unfold f5_read
            simp (disch := omega) only [li, ↓lim1, ↓bnd_m, ↓grd_m, ↓jn_e, ↓cas_m, ↓oc_m, inb_t, nI_add, pk_mul, sub_e, le_t, le_f, lt_t, lt_f, eq_t, eq_f, cl_e, m1_e, m1_e', m1_lt, m1_le, m1_m1, lt_m1, ↓reduceIte, Nat.add_zero, Nat.zero_add, ft, wt]
          · have uk' : f6_unknown F ((X.1.1, X.1.2.1, X.1.2.2.1, X.1.2.2.2.1, nI 0), X.2.1, X.2.2.1, X.2.2.2.1, X.2.2.2.2) = some im1 := uk
            have ff2 : f6_findFrom F ((X.1.1, X.1.2.1, X.1.2.2.1, X.1.2.2.2.1, nI 0), X.2.1, X.2.2.1, X.2.2.2.1, X.2.2.2.2) = _ := ff'
            unfold f6_read
            rw [bnd_e nx, bnd_e l3]
            simp (disch := omega) only [li, ↓lim1, ↓bnd_m, ↓grd_m, ↓jn_e, ↓cas_m, ↓oc_m, inb_t, nI_add, pk_mul, sub_e, le_t, le_f, lt_t, lt_f, eq_t, eq_f, cl_e, m1_e, m1_e', m1_lt, m1_le, m1_m1, lt_m1, ↓reduceIte, Nat.add_zero, Nat.zero_add, mr, uk', ff2, mr0, mg]
      · -- a ring
        obtain ⟨rd2, nr, nr2⟩ := isRing_ok (rd := rd') (sh := shL sh' (lkA t ns nl ls ll m (sLnk sh') (2 * N))) hF hm (show kSiz (ckS ck' (srcA (src t ns nl ls ll so cr m) (kSrc ck') 0 m)) = nI m from HK.1) hSl hsC hc0 hr0 hr (HR.1 c0 hc0).1
        have c40 := (HG.2.2.2.1 c0 hc0).1
        have mr0 := mring_yes hF hm hncf hSl hsM hc0 hr0 hr (show cr c0 < 40 by omega) (HW.2.2.1 c0 hc0).1 (HW.2.2.1 c0 hc0).2
        have nlt := nsl c0 hc0
        have ft : f2_faultOfTape F rd sp sk tp = some (nI (ns c0), rd2, shL sh' (lkA t ns nl ls ll m (sLnk sh') (2 * N)), ckS ck' (srcA (src t ns nl ls ll so cr m) (kSrc ck') 0 m)) := by
          unfold f2_faultOfTape
          simp (disch := omega) only [li, ↓lim1, ↓bnd_m, ↓grd_m, ↓jn_e, ↓cas_m, ↓oc_m, inb_t, nI_add, pk_mul, sub_e, le_t, le_f, lt_t, lt_f, eq_t, eq_f, cl_e, m1_e, m1_e', m1_lt, m1_le, m1_m1, lt_m1, ↓reduceIte, Nat.add_zero, Nat.zero_add, wp, l1, bk, nr, nr2]
        refine ⟨im1 - nI (ns c0), rd2, shL sh' (lkA t ns nl ls ll m (sLnk sh') (2 * N)), ckS ck' (srcA (src t ns nl ls ll so cr m) (kSrc ck') 0 m), sh, ck, false, mF (mV X) (srcA (src t ns nl ls ll so cr m) (mFrom (mV X)) 12 m), ?_, ?_, rq_mV h0, lv_mF h0⟩
        · unfold f5_read
          simp (disch := omega) only [li, ↓lim1, ↓bnd_m, ↓grd_m, ↓jn_e, ↓cas_m, ↓oc_m, inb_t, nI_add, pk_mul, sub_e, le_t, le_f, lt_t, lt_f, eq_t, eq_f, cl_e, m1_e, m1_e', m1_lt, m1_le, m1_m1, lt_m1, ↓reduceIte, Nat.add_zero, Nat.zero_add, ft, wt]
        · have uk' : f6_unknown F ((X.1.1, X.1.2.1, X.1.2.2.1, X.1.2.2.2.1, nI 0), X.2.1, X.2.2.1, X.2.2.2.1, X.2.2.2.2) = some im1 := uk
          have ff2 : f6_findFrom F ((X.1.1, X.1.2.1, X.1.2.2.1, X.1.2.2.2.1, nI 0), X.2.1, X.2.2.1, X.2.2.2.1, X.2.2.2.2) = _ := ff'
          unfold f6_read
          rw [bnd_e nx, bnd_e l3]
          simp (disch := omega) only [li, ↓lim1, ↓bnd_m, ↓grd_m, ↓jn_e, ↓cas_m, ↓oc_m, inb_t, nI_add, pk_mul, sub_e, le_t, le_f, lt_t, lt_f, eq_t, eq_f, cl_e, m1_e, m1_e', m1_lt, m1_le, m1_m1, lt_m1, ↓reduceIte, Nat.add_zero, Nat.zero_add, mr, uk', ff2, mr0]
    · -- a name is unknown
      obtain ⟨rd2, sh2, bk, bk2⟩ := bind_bad hF HT HG HR HN HK hnc HS hi hb hf
      have uk := unk_bad hF HT HG HNv HK.1 HWv hi hb hf
      have lsl : ls i0 < 2147483648 := by have := (link_row HG hi hb.1).2; omega
      have ft : f2_faultOfTape F rd sp sk tp = some (nI (ls i0), rd2, sh2, ck') := by
        unfold f2_faultOfTape
        simp (disch := omega) only [li, ↓lim1, ↓bnd_m, ↓grd_m, ↓jn_e, ↓cas_m, ↓oc_m, inb_t, nI_add, pk_mul, sub_e, le_t, le_f, lt_t, lt_f, eq_t, eq_f, cl_e, m1_e, m1_e', m1_lt, m1_le, m1_m1, lt_m1, ↓reduceIte, Nat.add_zero, Nat.zero_add, wp, l1, bk, bk2]
      refine ⟨im1 - nI (ls i0), rd2, sh2, ck', sh, ck, false, mV X, ?_, ?_, rq_mV h0, lv_mV h0⟩
      · unfold f5_read
        simp (disch := omega) only [li, ↓lim1, ↓bnd_m, ↓grd_m, ↓jn_e, ↓cas_m, ↓oc_m, inb_t, nI_add, pk_mul, sub_e, le_t, le_f, lt_t, lt_f, eq_t, eq_f, cl_e, m1_e, m1_e', m1_lt, m1_le, m1_m1, lt_m1, ↓reduceIte, Nat.add_zero, Nat.zero_add, ft, wt]
      · have uk' : f6_unknown F ((X.1.1, X.1.2.1, X.1.2.2.1, X.1.2.2.2.1, nI 0), X.2.1, X.2.2.1, X.2.2.2.1, X.2.2.2.2) = some (nI (ls i0)) := uk
        unfold f6_read
        rw [bnd_e nx, bnd_e l3]
        simp (disch := omega) only [li, ↓lim1, ↓bnd_m, ↓grd_m, ↓jn_e, ↓cas_m, ↓oc_m, inb_t, nI_add, pk_mul, sub_e, le_t, le_f, lt_t, lt_f, eq_t, eq_f, cl_e, m1_e, m1_e', m1_lt, m1_le, m1_m1, lt_m1, ↓reduceIte, Nat.add_zero, Nat.zero_add, mr, uk']
        rfl
end Rd
/-! ===== the law's loop ===== -/
def RLw (tp : T4) (pn : T1) (sh : T3) (ck : T0) (md : T6) : Prop := ∃ (t : Nat → Nat) (n : Nat) (sz : Nat → Nat) (nm : Nat → Nat → Nat), TpC tp t n ∧ TpM md t n ∧ PnC pn sz nm ∧ PnM md sz nm ∧ Live sh ck md sz nm
theorem RLw.mC {tp : T4} {pn : T1} {sh : T3} {ck : T0} {md : T6} (H : RLw tp pn sh ck md) (c : Int32) (g4 : Int32 × Int32 × Int32 × Int32 × Int32 × (Nat → Int32) × (Nat → Int32)) (g5 : (Nat → Int32) × Int32 × Int32 × Int32) : RLw tp pn sh ck (mC md c g4 g5) := by
  obtain ⟨t, n, sz, nm, h1, h2, h3, h4, h5⟩ := H
  exact ⟨t, n, sz, nm, h1, h2, h3, h4, h5⟩
theorem thr_ok (md : T6) (c : Int32) (g4 : Int32 × Int32 × Int32 × Int32 × Int32 × (Nat → Int32) × (Nat → Int32)) (g5 : (Nat → Int32) × Int32 × Int32 × Int32) : f6_thrown (mC md c g4 g5) = some c := rfl
theorem cmp_self (x : Int64) : (lg_cmp x x = nI 0) = True := by rw [cmp_eq]; exact eq_self x
section Lw
variable {F L : Nat} {xs : Nat → Int32} {rd : T2} {tp : T4} {pn : T1} {sh sp : T3} {ck sk : T0} {md : T6} {ot : T50}
/-- one call -/
def LSw (F L : Nat) (xs : Nat → Int32) (kk : Nat) (rd : T2) (tp : T4) (pn : T1) (sh : T3) (ck : T0) (sp : T3) (sk : T0) (md : T6) (ot : T50) : Prop := ∃ rd' tp' pn' sh' ck' sp' sk' md' ot', fL_law_L23 F L xs (nI (4 * kk), rd, tp, pn, sh, ck, sp, sk, md, ot) = some (.inl (nI (4 * kk + 4), rd', tp', pn', sh', ck', sp', sk', md', ot')) ∧ RLw tp' pn' sh' ck' md'
theorem law0 (hF : 5000 < F) (hL : L ≤ 2048) {kk : Nat} (h4 : 4 * kk + 4 ≤ L) (H : RLw tp pn sh ck md) (c0 : (xs (4 * kk) &&& nI 15 = nI 0) = True) : LSw F L xs kk rd tp pn sh ck sp sk md ot := by
  have eL : (Int32.ofNat L : Int32) = nI L := rfl
  obtain ⟨t, n, sz, nm, h1, h2, h3, h4', h5⟩ := H
  obtain ⟨b, tp', md', t', n', e1, e2, q1, q2, ta, ln, q3⟩ := unit_ok h1 h2 (xs (4 * kk + 1))
  refine ⟨rd, tp', pn, sh, ck, sp, sk, md', ot, ?_, t', n', sz, nm, q1, q2, h3, by rw [q3]; exact h4', by rw [q3]; exact h5⟩
  unfold fL_law_L23
  simp (disch := omega) only [li, ↓lim1, ↓bnd_m, ↓grd_m, ↓jn_e, ↓cas_m, ↓oc_m, inb_t, nI_add, pk_mul, sub_e, le_t, le_f, lt_t, lt_f, eq_t, eq_f, cl_e, m1_e, m1_e', m1_lt, m1_le, m1_m1, lt_m1, ↓reduceIte, Nat.add_zero, Nat.zero_add, eL, c0, e1, e2]
theorem law1 (hF : 5000 < F) (hL : L ≤ 2048) {kk : Nat} (h4 : 4 * kk + 4 ≤ L) (H : RLw tp pn sh ck md) (c0 : (xs (4 * kk) &&& nI 15 = nI 0) = False) (c1 : (xs (4 * kk) &&& nI 15 = nI 1) = True) : LSw F L xs kk rd tp pn sh ck sp sk md ot := by
  have eL : (Int32.ofNat L : Int32) = nI L := rfl
  obtain ⟨t, n, sz, nm, h1, h2, h3, h4', h5⟩ := H
  obtain ⟨b, tp', md', t', n', e1, e2, q1, q2, ta, ln, q3⟩ := units_ok hF h1 h2 (xs (4 * kk + 1))
  refine ⟨rd, tp', pn, sh, ck, sp, sk, md', ot, ?_, t', n', sz, nm, q1, q2, h3, by rw [q3]; exact h4', by rw [q3]; exact h5⟩
  unfold fL_law_L23
  simp (disch := omega) only [li, ↓lim1, ↓bnd_m, ↓grd_m, ↓jn_e, ↓cas_m, ↓oc_m, inb_t, nI_add, pk_mul, sub_e, le_t, le_f, lt_t, lt_f, eq_t, eq_f, cl_e, m1_e, m1_e', m1_lt, m1_le, m1_m1, lt_m1, ↓reduceIte, Nat.add_zero, Nat.zero_add, eL, c0, c1, e1, e2]
theorem law2 (hF : 5000 < F) (hL : L ≤ 2048) {kk : Nat} (h4 : 4 * kk + 4 ≤ L) (H : RLw tp pn sh ck md) (c0 : (xs (4 * kk) &&& nI 15 = nI 0) = False) (c1 : (xs (4 * kk) &&& nI 15 = nI 1) = False) (c2 : (xs (4 * kk) &&& nI 15 = nI 2) = True) : LSw F L xs kk rd tp pn sh ck sp sk md ot := by
  have eL : (Int32.ofNat L : Int32) = nI L := rfl
  obtain ⟨t, n, sz, nm, h1, h2, h3, h4', h5⟩ := H
  obtain ⟨N, m, so, va, cc, dd, oo, ww, hh, pl, pc, cr, fr, pe, ri, fa, un, lx, ly, l1, l2, l3, l4, l5, l6, l7, l8, l9, l10, l11⟩ := h5
  rcases name_ok hF h3 h4' l3 l5 (xs (4 * kk + 1)) (xs (4 * kk + 2)) with ⟨e1, rb, md', e2, q3⟩ | ⟨b, pn', h', sz', nm', md', le, si, e1, e2, q3, p1, p2, p3⟩
  · have th : f6_thrown md' = some (nI 1) := by rw [q3]; rfl
    refine ⟨rd, tp, pn, sh, ck, sp, sk, md', ot, ?_, t, n, sz, nm, h1, by rw [q3]; exact h2, h3, by rw [q3]; exact h4', by rw [q3]; exact ⟨N, m, so, va, cc, dd, oo, ww, hh, pl, pc, cr, fr, pe, ri, fa, un, lx, ly, l1, l2, l3, l4, l5, l6, l7, l8, l9, l10, l11⟩⟩
    unfold fL_law_L23 fL_name
    simp (disch := omega) only [li, ↓lim1, ↓bnd_m, ↓grd_m, ↓jn_e, ↓cas_m, ↓oc_m, inb_t, nI_add, pk_mul, sub_e, le_t, le_f, lt_t, lt_f, eq_t, eq_f, cl_e, m1_e, m1_e', m1_lt, m1_le, m1_m1, lt_m1, ↓reduceIte, Nat.add_zero, Nat.zero_add, eL, c0, c1, c2, e1, e2, th]
  · have th : f6_thrown md' = some (nI 0) := by rw [q3]; rfl
    have rl : RLw tp pn' (shH sh h') ck md' := ⟨t, n, sz', nm', h1, by rw [q3]; exact h2, p1, p2, by rw [q3]; exact ⟨N, m, so, va, cc, dd, oo, ww, hh, pl, pc, cr, fr, pe, ri, fa, un, lx, ly, l1, l2, l3, l4, p3, l6, l7, l8, l9, l10, l11⟩⟩
    cases b with
    | false =>
      rw [b2_f] at e1 e2
      refine ⟨rd, tp, pn', shH sh h', ck, sp, sk, md', vp_updL ot 0 (lN 0), ?_, rl⟩
      unfold fL_law_L23 fL_name
      simp (disch := omega) only [li, ↓lim1, ↓bnd_m, ↓grd_m, ↓jn_e, ↓cas_m, ↓oc_m, inb_t, nI_add, pk_mul, sub_e, le_t, le_f, lt_t, lt_f, eq_t, eq_f, cl_e, m1_e, m1_e', m1_lt, m1_le, m1_m1, lt_m1, ↓reduceIte, Nat.add_zero, Nat.zero_add, eL, c0, c1, c2, e1, e2, th, pk_uLs, cmp_self, liL]
    | true =>
      rw [b2_t] at e1 e2
      refine ⟨rd, tp, pn', shH sh h', ck, sp, sk, md', vp_updL ot 0 (lN 1), ?_, rl⟩
      unfold fL_law_L23 fL_name
      simp (disch := omega) only [li, ↓lim1, ↓bnd_m, ↓grd_m, ↓jn_e, ↓cas_m, ↓oc_m, inb_t, nI_add, pk_mul, sub_e, le_t, le_f, lt_t, lt_f, eq_t, eq_f, cl_e, m1_e, m1_e', m1_lt, m1_le, m1_m1, lt_m1, ↓reduceIte, Nat.add_zero, Nat.zero_add, eL, c0, c1, c2, e1, e2, th, pk_uLs, cmp_self, liL]
theorem law3 (hF : 5000 < F) (hL : L ≤ 2048) {kk : Nat} (h4 : 4 * kk + 4 ≤ L) (H : RLw tp pn sh ck md) (c0 : (xs (4 * kk) &&& nI 15 = nI 0) = False) (c1 : (xs (4 * kk) &&& nI 15 = nI 1) = False) (c2 : (xs (4 * kk) &&& nI 15 = nI 2) = False) (c3 : (xs (4 * kk) &&& nI 15 = nI 3) = True) : LSw F L xs kk rd tp pn sh ck sp sk md ot := by
  have eL : (Int32.ofNat L : Int32) = nI L := rfl
  obtain ⟨t, n, sz, nm, h1, h2, h3, h4', h5⟩ := H
  obtain ⟨v, rd', sp', sk', sh', ck', b, md', e1, e2, q1, q2⟩ := read_ok (rd := rd) (sp := sp) (sk := sk) (sh := sh) (ck := ck) hF h1 h2 h3
  have tpn : TpC (tp.1, nI 0) t 0 := ⟨by omega, rfl, fun i hi => absurd hi (Nat.not_lt_zero i)⟩
  have tmn : TpM md' t 0 := ⟨by omega, by show md'.1.2.2.2.2 = _; rw [q1], fun i hi => absurd hi (Nat.not_lt_zero i)⟩
  have pmn : PnM md' sz nm := by
    intro x hx
    obtain ⟨a1, a2, a3⟩ := h4' x hx
    refine ⟨a1, ?_, fun k hk => ?_⟩
    · show md'.1.2.2.1 x = _
      rw [q1]; exact a2
    · show md'.1.2.1 _ = _ ∧ _
      rw [q1]; exact a3 k hk
  refine ⟨rd', (tp.1, nI 0), pn, sh', ck', sp', sk', md', ot, ?_, t, 0, sz, nm, tpn, tmn, h3, pmn, q2 h5⟩
  unfold fL_law_L23
  simp (disch := omega) only [li, ↓lim1, ↓bnd_m, ↓grd_m, ↓jn_e, ↓cas_m, ↓oc_m, inb_t, nI_add, pk_mul, sub_e, le_t, le_f, lt_t, lt_f, eq_t, eq_f, cl_e, m1_e, m1_e', m1_lt, m1_le, m1_m1, lt_m1, ↓reduceIte, Nat.add_zero, Nat.zero_add, eL, c0, c1, c2, c3, e1, e2]
theorem law4 (hF : 5000 < F) (hL : L ≤ 2048) {kk : Nat} (h4 : 4 * kk + 4 ≤ L) (H : RLw tp pn sh ck md) (c0 : (xs (4 * kk) &&& nI 15 = nI 0) = False) (c1 : (xs (4 * kk) &&& nI 15 = nI 1) = False) (c2 : (xs (4 * kk) &&& nI 15 = nI 2) = False) (c3 : (xs (4 * kk) &&& nI 15 = nI 3) = False) (c4 : (xs (4 * kk) &&& nI 15 = nI 4) = True) : LSw F L xs kk rd tp pn sh ck sp sk md ot := by
  have eL : (Int32.ofNat L : Int32) = nI L := rfl
  obtain ⟨t, n, sz, nm, h1, h2, h3, h4', h5⟩ := id H
  obtain ⟨N, m, so, va, cc, dd, oo, ww, hh, pl, pc, cr, fr, pe, ri, fa, un, lx, ly, l1, l2, l3, l4, l5, l6, l7, l8, l9, l10, l11⟩ := h5
  obtain ⟨ra, rb, md', e1, e2, ⟨g4, g5, hmd⟩, heq⟩ := clock_ok hF l1 l3 l5 l2 l4 h4' l8 l9 l10 (xs (4 * kk + 1)) (xs (4 * kk + 2))
  cases ra with
  | none =>
    have hmd' : md' = mC md (nI 1) g4 g5 := hmd
    have th : f6_thrown md' = some (nI 1) := by rw [hmd']; rfl
    refine ⟨rd, tp, pn, sh, ck, sp, sk, md', ot, ?_, by rw [hmd']; exact H.mC _ g4 g5⟩
    unfold fL_law_L23 fL_clock
    simp (disch := omega) only [li, ↓lim1, ↓bnd_m, ↓grd_m, ↓jn_e, ↓cas_m, ↓oc_m, inb_t, nI_add, pk_mul, sub_e, le_t, le_f, lt_t, lt_f, eq_t, eq_f, cl_e, m1_e, m1_e', m1_lt, m1_le, m1_m1, lt_m1, ↓reduceIte, Nat.add_zero, Nat.zero_add, eL, c0, c1, c2, c3, c4, e1, e2, th]
  | some a =>
    have hmd' : md' = mC md (nI 0) g4 g5 := hmd
    have th : f6_thrown md' = some (nI 0) := by rw [hmd']; rfl
    have hab := heq a rfl
    subst hab
    refine ⟨rd, tp, pn, sh, ck, sp, sk, md', vp_updL ot 0 a.toInt64, ?_, by rw [hmd']; exact H.mC _ g4 g5⟩
    unfold fL_law_L23 fL_clock
    simp (disch := omega) only [li, ↓lim1, ↓bnd_m, ↓grd_m, ↓jn_e, ↓cas_m, ↓oc_m, inb_t, nI_add, pk_mul, sub_e, le_t, le_f, lt_t, lt_f, eq_t, eq_f, cl_e, m1_e, m1_e', m1_lt, m1_le, m1_m1, lt_m1, ↓reduceIte, Nat.add_zero, Nat.zero_add, eL, c0, c1, c2, c3, c4, e1, e2, th, pk_uLs, cmp_self]
theorem law5 (hF : 5000 < F) (hL : L ≤ 2048) {kk : Nat} (h4 : 4 * kk + 4 ≤ L) (H : RLw tp pn sh ck md) (c0 : (xs (4 * kk) &&& nI 15 = nI 0) = False) (c1 : (xs (4 * kk) &&& nI 15 = nI 1) = False) (c2 : (xs (4 * kk) &&& nI 15 = nI 2) = False) (c3 : (xs (4 * kk) &&& nI 15 = nI 3) = False) (c4 : (xs (4 * kk) &&& nI 15 = nI 4) = False) (c5 : (xs (4 * kk) &&& nI 15 = nI 5) = True) : LSw F L xs kk rd tp pn sh ck sp sk md ot := by
  have eL : (Int32.ofNat L : Int32) = nI L := rfl
  obtain ⟨t, n, sz, nm, h1, h2, h3, h4', h5⟩ := id H
  obtain ⟨N, m, so, va, cc, dd, oo, ww, hh, pl, pc, cr, fr, pe, ri, fa, un, lx, ly, l1, l2, l3, l4, l5, l6, l7, l8, l9, l10, l11⟩ := h5
  obtain ⟨ra, rb, md', e1, e2, ⟨g4, g5, hmd⟩, heq⟩ := edge_ok (sh := sh) hF l8 l9 l10 (xs (4 * kk + 1)) (xs (4 * kk + 2)) (xs (4 * kk + 3))
  cases ra with
  | none =>
    have hmd' : md' = mC md (nI 1) g4 g5 := hmd
    have th : f6_thrown md' = some (nI 1) := by rw [hmd']; rfl
    refine ⟨rd, tp, pn, sh, ck, sp, sk, md', ot, ?_, by rw [hmd']; exact H.mC _ g4 g5⟩
    unfold fL_law_L23 fL_edge
    simp (disch := omega) only [li, ↓lim1, ↓bnd_m, ↓grd_m, ↓jn_e, ↓cas_m, ↓oc_m, inb_t, nI_add, pk_mul, sub_e, le_t, le_f, lt_t, lt_f, eq_t, eq_f, cl_e, m1_e, m1_e', m1_lt, m1_le, m1_m1, lt_m1, ↓reduceIte, Nat.add_zero, Nat.zero_add, eL, c0, c1, c2, c3, c4, c5, e1, e2, th]
  | some a =>
    have hmd' : md' = mC md (nI 0) g4 g5 := hmd
    have th : f6_thrown md' = some (nI 0) := by rw [hmd']; rfl
    have hab := heq a rfl
    subst hab
    refine ⟨rd, tp, pn, sh, ck, sp, sk, md', vp_updL ot 0 a, ?_, by rw [hmd']; exact H.mC _ g4 g5⟩
    unfold fL_law_L23 fL_edge
    simp (disch := omega) only [li, ↓lim1, ↓bnd_m, ↓grd_m, ↓jn_e, ↓cas_m, ↓oc_m, inb_t, nI_add, pk_mul, sub_e, le_t, le_f, lt_t, lt_f, eq_t, eq_f, cl_e, m1_e, m1_e', m1_lt, m1_le, m1_m1, lt_m1, ↓reduceIte, Nat.add_zero, Nat.zero_add, eL, c0, c1, c2, c3, c4, c5, e1, e2, th, pk_uLs, cmp_self]
theorem law6 (hF : 5000 < F) (hL : L ≤ 2048) {kk : Nat} (h4 : 4 * kk + 4 ≤ L) (H : RLw tp pn sh ck md) (c0 : (xs (4 * kk) &&& nI 15 = nI 0) = False) (c1 : (xs (4 * kk) &&& nI 15 = nI 1) = False) (c2 : (xs (4 * kk) &&& nI 15 = nI 2) = False) (c3 : (xs (4 * kk) &&& nI 15 = nI 3) = False) (c4 : (xs (4 * kk) &&& nI 15 = nI 4) = False) (c5 : (xs (4 * kk) &&& nI 15 = nI 5) = False) (c6 : (xs (4 * kk) &&& nI 15 = nI 6) = True) : LSw F L xs kk rd tp pn sh ck sp sk md ot := by
  have eL : (Int32.ofNat L : Int32) = nI L := rfl
  obtain ⟨t, n, sz, nm, h1, h2, h3, h4', h5⟩ := id H
  obtain ⟨N, m, so, va, cc, dd, oo, ww, hh, pl, pc, cr, fr, pe, ri, fa, un, lx, ly, l1, l2, l3, l4, l5, l6, l7, l8, l9, l10, l11⟩ := h5
  obtain ⟨ra, rb, md', e1, e2, ⟨g4, g5, hmd⟩, heq⟩ := dist_ok hF l1 l2 l11 l8 l9 l10 (xs (4 * kk + 1)) (xs (4 * kk + 2)) (xs (4 * kk + 3))
  cases ra with
  | none =>
    have hmd' : md' = mC md (nI 1) g4 g5 := hmd
    have th : f6_thrown md' = some (nI 1) := by rw [hmd']; rfl
    refine ⟨rd, tp, pn, sh, ck, sp, sk, md', ot, ?_, by rw [hmd']; exact H.mC _ g4 g5⟩
    unfold fL_law_L23 fL_distance
    simp (disch := omega) only [li, ↓lim1, ↓bnd_m, ↓grd_m, ↓jn_e, ↓cas_m, ↓oc_m, inb_t, nI_add, pk_mul, sub_e, le_t, le_f, lt_t, lt_f, eq_t, eq_f, cl_e, m1_e, m1_e', m1_lt, m1_le, m1_m1, lt_m1, ↓reduceIte, Nat.add_zero, Nat.zero_add, eL, c0, c1, c2, c3, c4, c5, c6, e1, e2, th]
  | some a =>
    have hmd' : md' = mC md (nI 0) g4 g5 := hmd
    have th : f6_thrown md' = some (nI 0) := by rw [hmd']; rfl
    have hab := heq a rfl
    subst hab
    refine ⟨rd, tp, pn, sh, ck, sp, sk, md', vp_updL ot 0 a, ?_, by rw [hmd']; exact H.mC _ g4 g5⟩
    unfold fL_law_L23 fL_distance
    simp (disch := omega) only [li, ↓lim1, ↓bnd_m, ↓grd_m, ↓jn_e, ↓cas_m, ↓oc_m, inb_t, nI_add, pk_mul, sub_e, le_t, le_f, lt_t, lt_f, eq_t, eq_f, cl_e, m1_e, m1_e', m1_lt, m1_le, m1_m1, lt_m1, ↓reduceIte, Nat.add_zero, Nat.zero_add, eL, c0, c1, c2, c3, c4, c5, c6, e1, e2, th, pk_uLs, cmp_self]
theorem law7 (hF : 5000 < F) (hL : L ≤ 2048) {kk : Nat} (h4 : 4 * kk + 4 ≤ L) (H : RLw tp pn sh ck md) (c0 : (xs (4 * kk) &&& nI 15 = nI 0) = False) (c1 : (xs (4 * kk) &&& nI 15 = nI 1) = False) (c2 : (xs (4 * kk) &&& nI 15 = nI 2) = False) (c3 : (xs (4 * kk) &&& nI 15 = nI 3) = False) (c4 : (xs (4 * kk) &&& nI 15 = nI 4) = False) (c5 : (xs (4 * kk) &&& nI 15 = nI 5) = False) (c6 : (xs (4 * kk) &&& nI 15 = nI 6) = False) (c7 : (xs (4 * kk) &&& nI 15 = nI 7) = True) : LSw F L xs kk rd tp pn sh ck sp sk md ot := by
  have eL : (Int32.ofNat L : Int32) = nI L := rfl
  obtain ⟨t, n, sz, nm, h1, h2, h3, h4', h5⟩ := id H
  obtain ⟨N, m, so, va, cc, dd, oo, ww, hh, pl, pc, cr, fr, pe, ri, fa, un, lx, ly, l1, l2, l3, l4, l5, l6, l7, l8, l9, l10, l11⟩ := h5
  obtain ⟨ra, rb, md', e1, e2, ⟨g4, g5, hmd⟩, heq⟩ := exc_ok hF l1 l3 l5 l2 l4 h4' (xs (4 * kk + 1)) (xs (4 * kk + 2)) (xs (4 * kk + 3))
  cases ra with
  | none =>
    have hmd' : md' = mC md (nI 1) g4 g5 := hmd
    have th : f6_thrown md' = some (nI 1) := by rw [hmd']; rfl
    refine ⟨rd, tp, pn, sh, ck, sp, sk, md', ot, ?_, by rw [hmd']; exact H.mC _ g4 g5⟩
    unfold fL_law_L23 fL_exception
    simp (disch := omega) only [li, ↓lim1, ↓bnd_m, ↓grd_m, ↓jn_e, ↓cas_m, ↓oc_m, inb_t, nI_add, pk_mul, sub_e, le_t, le_f, lt_t, lt_f, eq_t, eq_f, cl_e, m1_e, m1_e', m1_lt, m1_le, m1_m1, lt_m1, ↓reduceIte, Nat.add_zero, Nat.zero_add, eL, c0, c1, c2, c3, c4, c5, c6, c7, e1, e2, th]
  | some a =>
    have hmd' : md' = mC md (nI 0) g4 g5 := hmd
    have th : f6_thrown md' = some (nI 0) := by rw [hmd']; rfl
    have hab := heq a rfl
    subst hab
    refine ⟨rd, tp, pn, sh, ck, sp, sk, md', vp_updL ot 0 a.toInt64, ?_, by rw [hmd']; exact H.mC _ g4 g5⟩
    unfold fL_law_L23 fL_exception
    simp (disch := omega) only [li, ↓lim1, ↓bnd_m, ↓grd_m, ↓jn_e, ↓cas_m, ↓oc_m, inb_t, nI_add, pk_mul, sub_e, le_t, le_f, lt_t, lt_f, eq_t, eq_f, cl_e, m1_e, m1_e', m1_lt, m1_le, m1_m1, lt_m1, ↓reduceIte, Nat.add_zero, Nat.zero_add, eL, c0, c1, c2, c3, c4, c5, c6, c7, e1, e2, th, pk_uLs, cmp_self]
theorem law8 (hF : 5000 < F) (hL : L ≤ 2048) {kk : Nat} (h4 : 4 * kk + 4 ≤ L) (H : RLw tp pn sh ck md) (c0 : (xs (4 * kk) &&& nI 15 = nI 0) = False) (c1 : (xs (4 * kk) &&& nI 15 = nI 1) = False) (c2 : (xs (4 * kk) &&& nI 15 = nI 2) = False) (c3 : (xs (4 * kk) &&& nI 15 = nI 3) = False) (c4 : (xs (4 * kk) &&& nI 15 = nI 4) = False) (c5 : (xs (4 * kk) &&& nI 15 = nI 5) = False) (c6 : (xs (4 * kk) &&& nI 15 = nI 6) = False) (c7 : (xs (4 * kk) &&& nI 15 = nI 7) = False) (c8 : (xs (4 * kk) &&& nI 15 = nI 8) = True) : LSw F L xs kk rd tp pn sh ck sp sk md ot := by
  have eL : (Int32.ofNat L : Int32) = nI L := rfl
  obtain ⟨t, n, sz, nm, h1, h2, h3, h4', h5⟩ := id H
  obtain ⟨N, m, so, va, cc, dd, oo, ww, hh, pl, pc, cr, fr, pe, ri, fa, un, lx, ly, l1, l2, l3, l4, l5, l6, l7, l8, l9, l10, l11⟩ := h5
  obtain ⟨ra, rb, md', e1, e2, ⟨g4, g5, hmd⟩, heq⟩ := row_ok l1 l2 (xs (4 * kk + 1)) (xs (4 * kk + 2))
  cases ra with
  | none =>
    have hmd' : md' = mC md (nI 1) g4 g5 := hmd
    have th : f6_thrown md' = some (nI 1) := by rw [hmd']; rfl
    refine ⟨rd, tp, pn, sh, ck, sp, sk, md', ot, ?_, by rw [hmd']; exact H.mC _ g4 g5⟩
    unfold fL_law_L23 fL_row
    simp (disch := omega) only [li, ↓lim1, ↓bnd_m, ↓grd_m, ↓jn_e, ↓cas_m, ↓oc_m, inb_t, nI_add, pk_mul, sub_e, le_t, le_f, lt_t, lt_f, eq_t, eq_f, cl_e, m1_e, m1_e', m1_lt, m1_le, m1_m1, lt_m1, ↓reduceIte, Nat.add_zero, Nat.zero_add, eL, c0, c1, c2, c3, c4, c5, c6, c7, c8, e1, e2, th]
  | some a =>
    have hmd' : md' = mC md (nI 0) g4 g5 := hmd
    have th : f6_thrown md' = some (nI 0) := by rw [hmd']; rfl
    have hab := heq a rfl
    subst hab
    refine ⟨rd, tp, pn, sh, ck, sp, sk, md', vp_updL ot 0 a.toInt64, ?_, by rw [hmd']; exact H.mC _ g4 g5⟩
    unfold fL_law_L23 fL_row
    simp (disch := omega) only [li, ↓lim1, ↓bnd_m, ↓grd_m, ↓jn_e, ↓cas_m, ↓oc_m, inb_t, nI_add, pk_mul, sub_e, le_t, le_f, lt_t, lt_f, eq_t, eq_f, cl_e, m1_e, m1_e', m1_lt, m1_le, m1_m1, lt_m1, ↓reduceIte, Nat.add_zero, Nat.zero_add, eL, c0, c1, c2, c3, c4, c5, c6, c7, c8, e1, e2, th, pk_uLs, cmp_self]
theorem law9 (hF : 5000 < F) (hL : L ≤ 2048) {kk : Nat} (h4 : 4 * kk + 4 ≤ L) (H : RLw tp pn sh ck md) (c0 : (xs (4 * kk) &&& nI 15 = nI 0) = False) (c1 : (xs (4 * kk) &&& nI 15 = nI 1) = False) (c2 : (xs (4 * kk) &&& nI 15 = nI 2) = False) (c3 : (xs (4 * kk) &&& nI 15 = nI 3) = False) (c4 : (xs (4 * kk) &&& nI 15 = nI 4) = False) (c5 : (xs (4 * kk) &&& nI 15 = nI 5) = False) (c6 : (xs (4 * kk) &&& nI 15 = nI 6) = False) (c7 : (xs (4 * kk) &&& nI 15 = nI 7) = False) (c8 : (xs (4 * kk) &&& nI 15 = nI 8) = False) (c9 : (xs (4 * kk) &&& nI 15 = nI 9) = True) : LSw F L xs kk rd tp pn sh ck sp sk md ot := by
  have eL : (Int32.ofNat L : Int32) = nI L := rfl
  obtain ⟨t, n, sz, nm, h1, h2, h3, h4', h5⟩ := id H
  obtain ⟨N, m, so, va, cc, dd, oo, ww, hh, pl, pc, cr, fr, pe, ri, fa, un, lx, ly, l1, l2, l3, l4, l5, l6, l7, l8, l9, l10, l11⟩ := h5
  obtain ⟨ra, rb, md', e1, e2, ⟨g4, g5, hmd⟩, heq⟩ := load_ok hF l1 l3 l5 l2 l4 h4' (xs (4 * kk + 1)) (xs (4 * kk + 2))
  cases ra with
  | none =>
    have hmd' : md' = mC md (nI 1) g4 g5 := hmd
    have th : f6_thrown md' = some (nI 1) := by rw [hmd']; rfl
    refine ⟨rd, tp, pn, sh, ck, sp, sk, md', ot, ?_, by rw [hmd']; exact H.mC _ g4 g5⟩
    unfold fL_law_L23 fL_load
    simp (disch := omega) only [li, ↓lim1, ↓bnd_m, ↓grd_m, ↓jn_e, ↓cas_m, ↓oc_m, inb_t, nI_add, pk_mul, sub_e, le_t, le_f, lt_t, lt_f, eq_t, eq_f, cl_e, m1_e, m1_e', m1_lt, m1_le, m1_m1, lt_m1, ↓reduceIte, Nat.add_zero, Nat.zero_add, eL, c0, c1, c2, c3, c4, c5, c6, c7, c8, c9, e1, e2, th]
  | some a =>
    have hmd' : md' = mC md (nI 0) g4 g5 := hmd
    have th : f6_thrown md' = some (nI 0) := by rw [hmd']; rfl
    have hab := heq a rfl
    subst hab
    refine ⟨rd, tp, pn, sh, ck, sp, sk, md', vp_updL ot 0 a.toInt64, ?_, by rw [hmd']; exact H.mC _ g4 g5⟩
    unfold fL_law_L23 fL_load
    simp (disch := omega) only [li, ↓lim1, ↓bnd_m, ↓grd_m, ↓jn_e, ↓cas_m, ↓oc_m, inb_t, nI_add, pk_mul, sub_e, le_t, le_f, lt_t, lt_f, eq_t, eq_f, cl_e, m1_e, m1_e', m1_lt, m1_le, m1_m1, lt_m1, ↓reduceIte, Nat.add_zero, Nat.zero_add, eL, c0, c1, c2, c3, c4, c5, c6, c7, c8, c9, e1, e2, th, pk_uLs, cmp_self]
theorem law10 (hF : 5000 < F) (hL : L ≤ 2048) {kk : Nat} (h4 : 4 * kk + 4 ≤ L) (H : RLw tp pn sh ck md) (c0 : (xs (4 * kk) &&& nI 15 = nI 0) = False) (c1 : (xs (4 * kk) &&& nI 15 = nI 1) = False) (c2 : (xs (4 * kk) &&& nI 15 = nI 2) = False) (c3 : (xs (4 * kk) &&& nI 15 = nI 3) = False) (c4 : (xs (4 * kk) &&& nI 15 = nI 4) = False) (c5 : (xs (4 * kk) &&& nI 15 = nI 5) = False) (c6 : (xs (4 * kk) &&& nI 15 = nI 6) = False) (c7 : (xs (4 * kk) &&& nI 15 = nI 7) = False) (c8 : (xs (4 * kk) &&& nI 15 = nI 8) = False) (c9 : (xs (4 * kk) &&& nI 15 = nI 9) = False) (c10 : (xs (4 * kk) &&& nI 15 = nI 10) = True) : LSw F L xs kk rd tp pn sh ck sp sk md ot := by
  have eL : (Int32.ofNat L : Int32) = nI L := rfl
  obtain ⟨t, n, sz, nm, h1, h2, h3, h4', h5⟩ := id H
  obtain ⟨N, m, so, va, cc, dd, oo, ww, hh, pl, pc, cr, fr, pe, ri, fa, un, lx, ly, l1, l2, l3, l4, l5, l6, l7, l8, l9, l10, l11⟩ := h5
  obtain ⟨ra, rb, md', e1, e2, ⟨g4, g5, hmd⟩, heq⟩ := unm_ok hF l1 l3 l5 l2 l4 h4' (xs (4 * kk + 1))
  cases ra with
  | none =>
    have hmd' : md' = mC md (nI 1) g4 g5 := hmd
    have th : f6_thrown md' = some (nI 1) := by rw [hmd']; rfl
    refine ⟨rd, tp, pn, sh, ck, sp, sk, md', ot, ?_, by rw [hmd']; exact H.mC _ g4 g5⟩
    unfold fL_law_L23 fL_unmatched
    simp (disch := omega) only [li, ↓lim1, ↓bnd_m, ↓grd_m, ↓jn_e, ↓cas_m, ↓oc_m, inb_t, nI_add, pk_mul, sub_e, le_t, le_f, lt_t, lt_f, eq_t, eq_f, cl_e, m1_e, m1_e', m1_lt, m1_le, m1_m1, lt_m1, ↓reduceIte, Nat.add_zero, Nat.zero_add, eL, c0, c1, c2, c3, c4, c5, c6, c7, c8, c9, c10, e1, e2, th]
  | some a =>
    have hmd' : md' = mC md (nI 0) g4 g5 := hmd
    have th : f6_thrown md' = some (nI 0) := by rw [hmd']; rfl
    have hab := heq a rfl
    subst hab
    refine ⟨rd, tp, pn, sh, ck, sp, sk, md', vp_updL ot 0 a.toInt64, ?_, by rw [hmd']; exact H.mC _ g4 g5⟩
    unfold fL_law_L23 fL_unmatched
    simp (disch := omega) only [li, ↓lim1, ↓bnd_m, ↓grd_m, ↓jn_e, ↓cas_m, ↓oc_m, inb_t, nI_add, pk_mul, sub_e, le_t, le_f, lt_t, lt_f, eq_t, eq_f, cl_e, m1_e, m1_e', m1_lt, m1_le, m1_m1, lt_m1, ↓reduceIte, Nat.add_zero, Nat.zero_add, eL, c0, c1, c2, c3, c4, c5, c6, c7, c8, c9, c10, e1, e2, th, pk_uLs, cmp_self]
theorem law11 (hF : 5000 < F) (hL : L ≤ 2048) {kk : Nat} (h4 : 4 * kk + 4 ≤ L) (H : RLw tp pn sh ck md) (c0 : (xs (4 * kk) &&& nI 15 = nI 0) = False) (c1 : (xs (4 * kk) &&& nI 15 = nI 1) = False) (c2 : (xs (4 * kk) &&& nI 15 = nI 2) = False) (c3 : (xs (4 * kk) &&& nI 15 = nI 3) = False) (c4 : (xs (4 * kk) &&& nI 15 = nI 4) = False) (c5 : (xs (4 * kk) &&& nI 15 = nI 5) = False) (c6 : (xs (4 * kk) &&& nI 15 = nI 6) = False) (c7 : (xs (4 * kk) &&& nI 15 = nI 7) = False) (c8 : (xs (4 * kk) &&& nI 15 = nI 8) = False) (c9 : (xs (4 * kk) &&& nI 15 = nI 9) = False) (c10 : (xs (4 * kk) &&& nI 15 = nI 10) = False) (c11 : (xs (4 * kk) &&& nI 15 = nI 11) = True) : LSw F L xs kk rd tp pn sh ck sp sk md ot := by
  have eL : (Int32.ofNat L : Int32) = nI L := rfl
  obtain ⟨t, n, sz, nm, h1, h2, h3, h4', h5⟩ := id H
  obtain ⟨N, m, so, va, cc, dd, oo, ww, hh, pl, pc, cr, fr, pe, ri, fa, un, lx, ly, l1, l2, l3, l4, l5, l6, l7, l8, l9, l10, l11⟩ := h5
  obtain ⟨ra, rb, md', e1, e2, ⟨g4, g5, hmd⟩, heq⟩ := clash_ok hF l1 l3 l5 l2 l4 h4' (xs (4 * kk + 1)) (xs (4 * kk + 2))
  cases ra with
  | none =>
    have hmd' : md' = mC md (nI 1) g4 g5 := hmd
    have th : f6_thrown md' = some (nI 1) := by rw [hmd']; rfl
    refine ⟨rd, tp, pn, sh, ck, sp, sk, md', ot, ?_, by rw [hmd']; exact H.mC _ g4 g5⟩
    unfold fL_law_L23 fL_clash
    simp (disch := omega) only [li, ↓lim1, ↓bnd_m, ↓grd_m, ↓jn_e, ↓cas_m, ↓oc_m, inb_t, nI_add, pk_mul, sub_e, le_t, le_f, lt_t, lt_f, eq_t, eq_f, cl_e, m1_e, m1_e', m1_lt, m1_le, m1_m1, lt_m1, ↓reduceIte, Nat.add_zero, Nat.zero_add, eL, c0, c1, c2, c3, c4, c5, c6, c7, c8, c9, c10, c11, e1, e2, th]
  | some a =>
    have hmd' : md' = mC md (nI 0) g4 g5 := hmd
    have th : f6_thrown md' = some (nI 0) := by rw [hmd']; rfl
    have hab := heq a rfl
    subst hab
    refine ⟨rd, tp, pn, sh, ck, sp, sk, md', vp_updL ot 0 a.toInt64, ?_, by rw [hmd']; exact H.mC _ g4 g5⟩
    unfold fL_law_L23 fL_clash
    simp (disch := omega) only [li, ↓lim1, ↓bnd_m, ↓grd_m, ↓jn_e, ↓cas_m, ↓oc_m, inb_t, nI_add, pk_mul, sub_e, le_t, le_f, lt_t, lt_f, eq_t, eq_f, cl_e, m1_e, m1_e', m1_lt, m1_le, m1_m1, lt_m1, ↓reduceIte, Nat.add_zero, Nat.zero_add, eL, c0, c1, c2, c3, c4, c5, c6, c7, c8, c9, c10, c11, e1, e2, th, pk_uLs, cmp_self]
theorem law12 (hF : 5000 < F) (hL : L ≤ 2048) {kk : Nat} (h4 : 4 * kk + 4 ≤ L) (H : RLw tp pn sh ck md) (c0 : (xs (4 * kk) &&& nI 15 = nI 0) = False) (c1 : (xs (4 * kk) &&& nI 15 = nI 1) = False) (c2 : (xs (4 * kk) &&& nI 15 = nI 2) = False) (c3 : (xs (4 * kk) &&& nI 15 = nI 3) = False) (c4 : (xs (4 * kk) &&& nI 15 = nI 4) = False) (c5 : (xs (4 * kk) &&& nI 15 = nI 5) = False) (c6 : (xs (4 * kk) &&& nI 15 = nI 6) = False) (c7 : (xs (4 * kk) &&& nI 15 = nI 7) = False) (c8 : (xs (4 * kk) &&& nI 15 = nI 8) = False) (c9 : (xs (4 * kk) &&& nI 15 = nI 9) = False) (c10 : (xs (4 * kk) &&& nI 15 = nI 10) = False) (c11 : (xs (4 * kk) &&& nI 15 = nI 11) = False) (c12 : (xs (4 * kk) &&& nI 15 = nI 12) = True) : LSw F L xs kk rd tp pn sh ck sp sk md ot := by
  have eL : (Int32.ofNat L : Int32) = nI L := rfl
  obtain ⟨t, n, sz, nm, h1, h2, h3, h4', h5⟩ := id H
  obtain ⟨N, m, so, va, cc, dd, oo, ww, hh, pl, pc, cr, fr, pe, ri, fa, un, lx, ly, l1, l2, l3, l4, l5, l6, l7, l8, l9, l10, l11⟩ := h5
  obtain ⟨ra, rb, md', e1, e2, ⟨g4, g5, hmd⟩, heq⟩ := write_ok hF l2 l4 l6 l7 (xs (4 * kk + 1))
  cases ra with
  | none =>
    have hmd' : md' = mC md (nI 1) g4 g5 := hmd
    have th : f6_thrown md' = some (nI 1) := by rw [hmd']; rfl
    refine ⟨rd, tp, pn, sh, ck, sp, sk, md', ot, ?_, by rw [hmd']; exact H.mC _ g4 g5⟩
    unfold fL_law_L23 fL_write
    simp (disch := omega) only [li, ↓lim1, ↓bnd_m, ↓grd_m, ↓jn_e, ↓cas_m, ↓oc_m, inb_t, nI_add, pk_mul, sub_e, le_t, le_f, lt_t, lt_f, eq_t, eq_f, cl_e, m1_e, m1_e', m1_lt, m1_le, m1_m1, lt_m1, ↓reduceIte, Nat.add_zero, Nat.zero_add, eL, c0, c1, c2, c3, c4, c5, c6, c7, c8, c9, c10, c11, c12, e1, e2, th]
  | some a =>
    have hmd' : md' = mC md (nI 0) g4 g5 := hmd
    have th : f6_thrown md' = some (nI 0) := by rw [hmd']; rfl
    have hab := heq a rfl
    subst hab
    refine ⟨rd, tp, pn, sh, ck, sp, sk, md', vp_updL ot 0 a.toInt64, ?_, by rw [hmd']; exact H.mC _ g4 g5⟩
    unfold fL_law_L23 fL_write
    simp (disch := omega) only [li, ↓lim1, ↓bnd_m, ↓grd_m, ↓jn_e, ↓cas_m, ↓oc_m, inb_t, nI_add, pk_mul, sub_e, le_t, le_f, lt_t, lt_f, eq_t, eq_f, cl_e, m1_e, m1_e', m1_lt, m1_le, m1_m1, lt_m1, ↓reduceIte, Nat.add_zero, Nat.zero_add, eL, c0, c1, c2, c3, c4, c5, c6, c7, c8, c9, c10, c11, c12, e1, e2, th, pk_uLs, cmp_self]
theorem law13 (hF : 5000 < F) (hL : L ≤ 2048) {kk : Nat} (h4 : 4 * kk + 4 ≤ L) (H : RLw tp pn sh ck md) (c0 : (xs (4 * kk) &&& nI 15 = nI 0) = False) (c1 : (xs (4 * kk) &&& nI 15 = nI 1) = False) (c2 : (xs (4 * kk) &&& nI 15 = nI 2) = False) (c3 : (xs (4 * kk) &&& nI 15 = nI 3) = False) (c4 : (xs (4 * kk) &&& nI 15 = nI 4) = False) (c5 : (xs (4 * kk) &&& nI 15 = nI 5) = False) (c6 : (xs (4 * kk) &&& nI 15 = nI 6) = False) (c7 : (xs (4 * kk) &&& nI 15 = nI 7) = False) (c8 : (xs (4 * kk) &&& nI 15 = nI 8) = False) (c9 : (xs (4 * kk) &&& nI 15 = nI 9) = False) (c10 : (xs (4 * kk) &&& nI 15 = nI 10) = False) (c11 : (xs (4 * kk) &&& nI 15 = nI 11) = False) (c12 : (xs (4 * kk) &&& nI 15 = nI 12) = False) (c13 : (xs (4 * kk) &&& nI 15 = nI 13) = True) : LSw F L xs kk rd tp pn sh ck sp sk md ot := by
  have eL : (Int32.ofNat L : Int32) = nI L := rfl
  obtain ⟨t, n, sz, nm, h1, h2, h3, h4', h5⟩ := id H
  obtain ⟨N, m, so, va, cc, dd, oo, ww, hh, pl, pc, cr, fr, pe, ri, fa, un, lx, ly, l1, l2, l3, l4, l5, l6, l7, l8, l9, l10, l11⟩ := h5
  obtain ⟨ra, rb, md', e1, e2, ⟨g4, g5, hmd⟩, heq⟩ := count_ok hF l1 l2 l4 l6 l7 l8.2.1 l9.2.1 h1 h2 (xs (4 * kk + 1))
  cases ra with
  | none =>
    have hmd' : md' = mC md (nI 1) g4 g5 := hmd
    have th : f6_thrown md' = some (nI 1) := by rw [hmd']; rfl
    refine ⟨rd, tp, pn, sh, ck, sp, sk, md', ot, ?_, by rw [hmd']; exact H.mC _ g4 g5⟩
    unfold fL_law_L23 fL_count
    simp (disch := omega) only [li, ↓lim1, ↓bnd_m, ↓grd_m, ↓jn_e, ↓cas_m, ↓oc_m, inb_t, nI_add, pk_mul, sub_e, le_t, le_f, lt_t, lt_f, eq_t, eq_f, cl_e, m1_e, m1_e', m1_lt, m1_le, m1_m1, lt_m1, ↓reduceIte, Nat.add_zero, Nat.zero_add, eL, c0, c1, c2, c3, c4, c5, c6, c7, c8, c9, c10, c11, c12, c13, e1, e2, th]
  | some a =>
    have hmd' : md' = mC md (nI 0) g4 g5 := hmd
    have th : f6_thrown md' = some (nI 0) := by rw [hmd']; rfl
    have hab := heq a rfl
    subst hab
    refine ⟨rd, tp, pn, sh, ck, sp, sk, md', vp_updL ot 0 a.toInt64, ?_, by rw [hmd']; exact H.mC _ g4 g5⟩
    unfold fL_law_L23 fL_count
    simp (disch := omega) only [li, ↓lim1, ↓bnd_m, ↓grd_m, ↓jn_e, ↓cas_m, ↓oc_m, inb_t, nI_add, pk_mul, sub_e, le_t, le_f, lt_t, lt_f, eq_t, eq_f, cl_e, m1_e, m1_e', m1_lt, m1_le, m1_m1, lt_m1, ↓reduceIte, Nat.add_zero, Nat.zero_add, eL, c0, c1, c2, c3, c4, c5, c6, c7, c8, c9, c10, c11, c12, c13, e1, e2, th, pk_uLs, cmp_self]
theorem law14 (hF : 5000 < F) (hL : L ≤ 2048) {kk : Nat} (h4 : 4 * kk + 4 ≤ L) (H : RLw tp pn sh ck md) (c0 : (xs (4 * kk) &&& nI 15 = nI 0) = False) (c1 : (xs (4 * kk) &&& nI 15 = nI 1) = False) (c2 : (xs (4 * kk) &&& nI 15 = nI 2) = False) (c3 : (xs (4 * kk) &&& nI 15 = nI 3) = False) (c4 : (xs (4 * kk) &&& nI 15 = nI 4) = False) (c5 : (xs (4 * kk) &&& nI 15 = nI 5) = False) (c6 : (xs (4 * kk) &&& nI 15 = nI 6) = False) (c7 : (xs (4 * kk) &&& nI 15 = nI 7) = False) (c8 : (xs (4 * kk) &&& nI 15 = nI 8) = False) (c9 : (xs (4 * kk) &&& nI 15 = nI 9) = False) (c10 : (xs (4 * kk) &&& nI 15 = nI 10) = False) (c11 : (xs (4 * kk) &&& nI 15 = nI 11) = False) (c12 : (xs (4 * kk) &&& nI 15 = nI 12) = False) (c13 : (xs (4 * kk) &&& nI 15 = nI 13) = False) : LSw F L xs kk rd tp pn sh ck sp sk md ot := by
  have eL : (Int32.ofNat L : Int32) = nI L := rfl
  refine ⟨rd, tp, pn, sh, ck, sp, sk, md, ot, ?_, H⟩
  unfold fL_law_L23
  simp (disch := omega) only [li, ↓lim1, ↓bnd_m, ↓grd_m, ↓jn_e, ↓cas_m, ↓oc_m, inb_t, nI_add, pk_mul, sub_e, le_t, le_f, lt_t, lt_f, eq_t, eq_f, cl_e, m1_e, m1_e', m1_lt, m1_le, m1_m1, lt_m1, ↓reduceIte, Nat.add_zero, Nat.zero_add, eL, c0, c1, c2, c3, c4, c5, c6, c7, c8, c9, c10, c11, c12, c13]
theorem law_step (hF : 5000 < F) (hL : L ≤ 2048) {kk : Nat} (h4 : 4 * kk + 4 ≤ L) (H : RLw tp pn sh ck md) : LSw F L xs kk rd tp pn sh ck sp sk md ot := by
  by_cases c0 : xs (4 * kk) &&& nI 15 = nI 0
  · exact law0 hF hL h4 H  (eq_true c0)
  by_cases c1 : xs (4 * kk) &&& nI 15 = nI 1
  · exact law1 hF hL h4 H (eq_false c0) (eq_true c1)
  by_cases c2 : xs (4 * kk) &&& nI 15 = nI 2
  · exact law2 hF hL h4 H (eq_false c0) (eq_false c1) (eq_true c2)
  by_cases c3 : xs (4 * kk) &&& nI 15 = nI 3
  · exact law3 hF hL h4 H (eq_false c0) (eq_false c1) (eq_false c2) (eq_true c3)
  by_cases c4 : xs (4 * kk) &&& nI 15 = nI 4
  · exact law4 hF hL h4 H (eq_false c0) (eq_false c1) (eq_false c2) (eq_false c3) (eq_true c4)
  by_cases c5 : xs (4 * kk) &&& nI 15 = nI 5
  · exact law5 hF hL h4 H (eq_false c0) (eq_false c1) (eq_false c2) (eq_false c3) (eq_false c4) (eq_true c5)
  by_cases c6 : xs (4 * kk) &&& nI 15 = nI 6
  · exact law6 hF hL h4 H (eq_false c0) (eq_false c1) (eq_false c2) (eq_false c3) (eq_false c4) (eq_false c5) (eq_true c6)
  by_cases c7 : xs (4 * kk) &&& nI 15 = nI 7
  · exact law7 hF hL h4 H (eq_false c0) (eq_false c1) (eq_false c2) (eq_false c3) (eq_false c4) (eq_false c5) (eq_false c6) (eq_true c7)
  by_cases c8 : xs (4 * kk) &&& nI 15 = nI 8
  · exact law8 hF hL h4 H (eq_false c0) (eq_false c1) (eq_false c2) (eq_false c3) (eq_false c4) (eq_false c5) (eq_false c6) (eq_false c7) (eq_true c8)
  by_cases c9 : xs (4 * kk) &&& nI 15 = nI 9
  · exact law9 hF hL h4 H (eq_false c0) (eq_false c1) (eq_false c2) (eq_false c3) (eq_false c4) (eq_false c5) (eq_false c6) (eq_false c7) (eq_false c8) (eq_true c9)
  by_cases c10 : xs (4 * kk) &&& nI 15 = nI 10
  · exact law10 hF hL h4 H (eq_false c0) (eq_false c1) (eq_false c2) (eq_false c3) (eq_false c4) (eq_false c5) (eq_false c6) (eq_false c7) (eq_false c8) (eq_false c9) (eq_true c10)
  by_cases c11 : xs (4 * kk) &&& nI 15 = nI 11
  · exact law11 hF hL h4 H (eq_false c0) (eq_false c1) (eq_false c2) (eq_false c3) (eq_false c4) (eq_false c5) (eq_false c6) (eq_false c7) (eq_false c8) (eq_false c9) (eq_false c10) (eq_true c11)
  by_cases c12 : xs (4 * kk) &&& nI 15 = nI 12
  · exact law12 hF hL h4 H (eq_false c0) (eq_false c1) (eq_false c2) (eq_false c3) (eq_false c4) (eq_false c5) (eq_false c6) (eq_false c7) (eq_false c8) (eq_false c9) (eq_false c10) (eq_false c11) (eq_true c12)
  by_cases c13 : xs (4 * kk) &&& nI 15 = nI 13
  · exact law13 hF hL h4 H (eq_false c0) (eq_false c1) (eq_false c2) (eq_false c3) (eq_false c4) (eq_false c5) (eq_false c6) (eq_false c7) (eq_false c8) (eq_false c9) (eq_false c10) (eq_false c11) (eq_false c12) (eq_true c13)
  exact law14 hF hL h4 H (eq_false c0) (eq_false c1) (eq_false c2) (eq_false c3) (eq_false c4) (eq_false c5) (eq_false c6) (eq_false c7) (eq_false c8) (eq_false c9) (eq_false c10) (eq_false c11) (eq_false c12) (eq_false c13)
theorem law_loopP (hF : 5000 < F) (hL : L ≤ 2048) (H : RLw tp pn sh ck md) : ∃ e, iter (fL_law_L23 F L xs) F (nI 0, rd, tp, pn, sh, ck, sp, sk, md, ot) = some e := by
  have eL : (Int32.ofNat L : Int32) = nI L := rfl
  have key := iter_rule (b := fL_law_L23 F L xs)
    (fun d s => ∃ (kk : Nat) (rd : T2) (tp : T4) (pn : T1) (sh : T3) (ck : T0) (sp : T3) (sk : T0) (md : T6) (ot : T50), d + kk = 600 ∧ 4 * kk ≤ L ∧ s = (nI (4 * kk), rd, tp, pn, sh, ck, sp, sk, md, ot) ∧ RLw tp pn sh ck md)
    (fun _ => True)
    (by
      rintro d s ⟨kk, rd, tp, pn, sh, ck, sp, sk, md, ot, hd, hk, rfl, H⟩
      by_cases h4 : 4 * kk + 4 ≤ L
      · obtain ⟨rd', tp', pn', sh', ck', sp', sk', md', ot', e, H'⟩ := law_step (F := F) (xs := xs) (rd := rd) (sp := sp) (sk := sk) (ot := ot) hF hL h4 H
        exact Or.inl ⟨_, d - 1, by omega, e, kk + 1, rd', tp', pn', sh', ck', sp', sk', md', ot', by omega, by omega, by rw [show 4 * (kk + 1) = 4 * kk + 4 by omega], H'⟩
      · refine Or.inr ⟨(rd, tp, pn, sh, ck, sp, sk, md, ot), ?_, trivial⟩
        have lt : (nI L - nI 4 < nI (4 * kk)) = True := by
          by_cases h : 4 ≤ L
          · rw [sub_e h, lt_t (by omega) (by omega)]
          · have hk0 : kk = 0 := by omega
            subst hk0
            rcases (show L = 0 ∨ L = 1 ∨ L = 2 ∨ L = 3 by omega) with rfl | rfl | rfl | rfl <;> exact eq_true (by decide)
        unfold fL_law_L23
        simp only [li, eL, lt, if_true])
    F 600 (nI 0, rd, tp, pn, sh, ck, sp, sk, md, ot) (by omega) ⟨0, rd, tp, pn, sh, ck, sp, sk, md, ot, by omega, by omega, rfl, H⟩
  obtain ⟨e, he, _⟩ := key
  exact ⟨e, he⟩
end Lw
/-! ===== the law holds of every script ===== -/
def FU : Nat := 6000
theorem law_pure (L : Nat) (hL : L ≤ 2048) (xs : Nat → Int32) : ∃ e23, iter (fL_law_L23 FU L xs) FU ((0 : Int32), z2, z4, z1, z3, z0, z3, z0, z6, fun _ => 0) = some e23 := by
  have z : ∀ {P : Prop} {k : Nat}, k < 0 → P := fun h => absurd h (Nat.not_lt_zero _)
  have rl : RLw z4 z1 z3 z0 z6 := by
    refine ⟨fun _ => 0, 0, fun _ => 0, fun _ _ => 0, ⟨by omega, rfl, fun i h => z h⟩, ⟨by omega, rfl, fun i h => z h⟩, fun x _ => ⟨by show 0 ≤ 16; omega, rfl, fun k h => z h⟩, fun x _ => ⟨by show 0 ≤ 16; omega, rfl, fun k h => z h⟩, ?_⟩
    refine ⟨0, 0, fun _ => 0, fun _ => 0, fun _ => 0, fun _ => 0, fun _ => 0, fun _ => 0, fun _ => 0, fun _ => 0, fun _ _ => 0, fun _ => 0, fun _ => 0, fun _ => 0, fun _ => 0, fun _ => 0, fun _ => 0, fun _ => 0, fun _ => 0, ⟨by omega, rfl, fun r h => z h⟩, ⟨by omega, rfl, fun r h => z h⟩, ⟨by omega, rfl, fun j h => z h⟩, fun j h => z h, fun j h => z h, fun r h => z h, ⟨by show 0 ≤ 1240; omega, rfl, fun i h => z h⟩, ⟨by omega, rfl, fun k h => z h⟩, ⟨by omega, rfl, fun k h => z h⟩, fun k h => z h, ⟨fun a b h _ _ => z h, fun r h _ => z h⟩⟩
  exact law_loopP (F := FU) (by show 5000 < 6000; omega) hL rl
