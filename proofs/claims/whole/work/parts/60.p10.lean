section Sh
variable {F N n b e : Nat} {so va pl : Nat → Nat} {pc : Nat → Nat → Nat} {L : List Nat} {t : Nat → Nat} {tp : T4} {sh : T3} {rd : T2}
/-- no patterns from place k on -/
def cut0 (pl : Nat → Nat) (k : Nat) : Nat → Nat := fun j => if j < k then pl j else 0
theorem open_sh (hF : 5000 < F) (H : ShP sh N so va pl pc L) (hN : N < 40) {s : Nat} (hs : s < 10) : ∃ sh', f3_open F (nI s) sh = some sh' ∧ ShP sh' (N + 1) (gu so N s) (gu va N 0) (cut0 pl (3 * N)) pc L := by
  obtain ⟨⟨r1, r2, r3⟩, ⟨p1, p2, p3⟩, h3, h4, h5⟩ := H
  obtain ⟨G, hG⟩ : ∃ G, F = G + 1 + 1 + 1 + 1 := ⟨F - 4, by omega⟩
  have rc : ∀ a b c d e f g h, sRc (a, b, c, d, e, f, g, sRc sh, h) = nI N := fun _ _ _ _ _ _ _ _ => r2
  obtain ⟨lk, hlk⟩ : ∃ l, l = upd (upd (sLnk sh) (N * 2) im1) (N * 2 + 1) im1 := ⟨_, rfl⟩
  obtain ⟨pn, hpn⟩ : ∃ l, l = upd (upd (upd (sPln sh) (N * 3) (nI 0)) (N * 3 + 1) (nI 0)) (N * 3 + 2) (nI 0) := ⟨_, rfl⟩
  obtain ⟨hi, hhi⟩ : ∃ l, l = vp_updL (vp_updL (vp_updL (sHit sh) (N * 3) 0) (N * 3 + 1) 0) (N * 3 + 2) 0 := ⟨_, rfl⟩
  have l1 : iter f3_open_L31 F (nI 0, (upd sh.1 N (nI s), upd sh.2.1 N (nI 0), sh.2.2.1, sh.2.2.2.1, sh.2.2.2.2.1, sh.2.2.2.2.2.1, sh.2.2.2.2.2.2.1, nI N, sh.2.2.2.2.2.2.2.2)) = some (upd sh.1 N (nI s), upd sh.2.1 N (nI 0), lk, sh.2.2.2.1, sh.2.2.2.2.1, sh.2.2.2.2.2.1, sh.2.2.2.2.2.2.1, nI N, sh.2.2.2.2.2.2.2.2) := by
    conv => lhs; arg 2; rw [hG]
    rw [iter_step (y := (nI 1, (upd sh.1 N (nI s), upd sh.2.1 N (nI 0), upd sh.2.2.1 (N * 2) im1, sh.2.2.2.1, sh.2.2.2.2.1, sh.2.2.2.2.2.1, sh.2.2.2.2.2.2.1, nI N, sh.2.2.2.2.2.2.2.2))), iter_step (y := (nI 2, (upd sh.1 N (nI s), upd sh.2.1 N (nI 0), lk, sh.2.2.2.1, sh.2.2.2.2.1, sh.2.2.2.2.2.1, sh.2.2.2.2.2.2.1, nI N, sh.2.2.2.2.2.2.2.2)))]
    · apply iter_stop
      unfold f3_open_L31
      simp (disch := omega) only [li, ↓lim1, ↓bnd_m, ↓grd_m, ↓jn_e, ↓cas_m, ↓oc_m, inb_t, nI_add, pk_mul, sub_e, le_t, le_f, lt_t, lt_f, eq_t, eq_f, cl_e, m1_e, m1_e', m1_lt, m1_le, m1_m1, lt_m1, ↓reduceIte, Nat.add_zero, Nat.zero_add]
    · unfold f3_open_L31
      simp (disch := omega) only [li, ↓lim1, ↓bnd_m, ↓grd_m, ↓jn_e, ↓cas_m, ↓oc_m, inb_t, nI_add, pk_mul, sub_e, le_t, le_f, lt_t, lt_f, eq_t, eq_f, cl_e, m1_e, m1_e', m1_lt, m1_le, m1_m1, lt_m1, ↓reduceIte, Nat.add_zero, Nat.zero_add]
      rw [hlk]
    · unfold f3_open_L31
      simp (disch := omega) only [li, ↓lim1, ↓bnd_m, ↓grd_m, ↓jn_e, ↓cas_m, ↓oc_m, inb_t, nI_add, pk_mul, sub_e, le_t, le_f, lt_t, lt_f, eq_t, eq_f, cl_e, m1_e, m1_e', m1_lt, m1_le, m1_m1, lt_m1, ↓reduceIte, Nat.add_zero, Nat.zero_add]
  have l2 : iter f3_open_L58 F (nI 0, (upd sh.1 N (nI s), upd sh.2.1 N (nI 0), lk, sh.2.2.2.1, sh.2.2.2.2.1, sh.2.2.2.2.2.1, sh.2.2.2.2.2.2.1, nI N, sh.2.2.2.2.2.2.2.2)) = some (upd sh.1 N (nI s), upd sh.2.1 N (nI 0), lk, sh.2.2.2.1, pn, hi, sh.2.2.2.2.2.2.1, nI N, sh.2.2.2.2.2.2.2.2) := by
    conv => lhs; arg 2; rw [hG]
    rw [iter_step (y := (nI 1, (upd sh.1 N (nI s), upd sh.2.1 N (nI 0), lk, sh.2.2.2.1, upd sh.2.2.2.2.1 (N * 3) (nI 0), vp_updL sh.2.2.2.2.2.1 (N * 3) 0, sh.2.2.2.2.2.2.1, nI N, sh.2.2.2.2.2.2.2.2))), iter_step (y := (nI 2, (upd sh.1 N (nI s), upd sh.2.1 N (nI 0), lk, sh.2.2.2.1, upd (upd sh.2.2.2.2.1 (N * 3) (nI 0)) (N * 3 + 1) (nI 0), vp_updL (vp_updL sh.2.2.2.2.2.1 (N * 3) 0) (N * 3 + 1) 0, sh.2.2.2.2.2.2.1, nI N, sh.2.2.2.2.2.2.2.2))), iter_step (y := (nI 3, (upd sh.1 N (nI s), upd sh.2.1 N (nI 0), lk, sh.2.2.2.1, pn, hi, sh.2.2.2.2.2.2.1, nI N, sh.2.2.2.2.2.2.2.2)))]
    · apply iter_stop
      unfold f3_open_L58
      simp (disch := omega) only [li, ↓lim1, ↓bnd_m, ↓grd_m, ↓jn_e, ↓cas_m, ↓oc_m, inb_t, nI_add, pk_mul, sub_e, le_t, le_f, lt_t, lt_f, eq_t, eq_f, cl_e, m1_e, m1_e', m1_lt, m1_le, m1_m1, lt_m1, ↓reduceIte, Nat.add_zero, Nat.zero_add]
    · unfold f3_open_L58
      simp (disch := omega) only [li, ↓lim1, ↓bnd_m, ↓grd_m, ↓jn_e, ↓cas_m, ↓oc_m, inb_t, nI_add, pk_mul, sub_e, le_t, le_f, lt_t, lt_f, eq_t, eq_f, cl_e, m1_e, m1_e', m1_lt, m1_le, m1_m1, lt_m1, ↓reduceIte, Nat.add_zero, Nat.zero_add]
      rw [hpn, hhi]
    · unfold f3_open_L58
      simp (disch := omega) only [li, ↓lim1, ↓bnd_m, ↓grd_m, ↓jn_e, ↓cas_m, ↓oc_m, inb_t, nI_add, pk_mul, sub_e, le_t, le_f, lt_t, lt_f, eq_t, eq_f, cl_e, m1_e, m1_e', m1_lt, m1_le, m1_m1, lt_m1, ↓reduceIte, Nat.add_zero, Nat.zero_add]
    · unfold f3_open_L58
      simp (disch := omega) only [li, ↓lim1, ↓bnd_m, ↓grd_m, ↓jn_e, ↓cas_m, ↓oc_m, inb_t, nI_add, pk_mul, sub_e, le_t, le_f, lt_t, lt_f, eq_t, eq_f, cl_e, m1_e, m1_e', m1_lt, m1_le, m1_m1, lt_m1, ↓reduceIte, Nat.add_zero, Nat.zero_add]
  refine ⟨(upd sh.1 N (nI s), upd sh.2.1 N (nI 0), lk, sh.2.2.2.1, pn, hi, sh.2.2.2.2.2.2.1, nI (N + 1), sh.2.2.2.2.2.2.2.2), ?_, ⟨by omega, rfl, fun r hr => ?_⟩, ⟨by omega, rfl, fun j hj => ?_⟩, fun j hj => ?_, fun i hi' => ?_, h5⟩
  · have r2' : sh.2.2.2.2.2.2.2.1 = nI N := r2
    unfold f3_open
    simp (disch := omega) only [li, ↓lim1, ↓bnd_m, ↓grd_m, ↓jn_e, ↓cas_m, ↓oc_m, inb_t, nI_add, pk_mul, sub_e, le_t, le_f, lt_t, lt_f, eq_t, eq_f, cl_e, m1_e, m1_e', m1_lt, m1_le, m1_m1, lt_m1, ↓reduceIte, Nat.add_zero, Nat.zero_add, r2', l1, l2]
  · show upd sh.1 N (nI s) r = _ ∧ _ ∧ upd sh.2.1 N (nI 0) r = _ ∧ _
    by_cases er : r = N
    · subst er
      rw [pk_us, pk_us, gu_s, gu_s]
      exact ⟨rfl, hs, rfl, by omega⟩
    · rw [pk_un er, pk_un er, gu_n er, gu_n er]
      exact r3 r (by omega)
  · by_cases cj : j < 3 * N
    · obtain ⟨q1, q2, q3, q4⟩ := p3 j cj
      have e1 : cut0 pl (3 * N) j = pl j := if_pos cj
      rw [e1]
      refine ⟨q1, q2, ?_, q4⟩
      show pn j = _
      rw [hpn, pk_un (by omega), pk_un (by omega), pk_un (by omega)]
      exact q3
    · have e1 : cut0 pl (3 * N) j = 0 := if_neg cj
      rw [e1]
      refine ⟨by omega, by omega, ?_, fun h => absurd h (Nat.lt_irrefl 0)⟩
      show pn j = _
      rw [hpn]
      rcases (show j = N * 3 ∨ j = N * 3 + 1 ∨ j = N * 3 + 2 by omega) with e | e | e
      · rw [pk_un (by omega), pk_un (by omega), e, pk_us]
      · rw [pk_un (by omega), e, pk_us]
      · rw [e, pk_us]
  · show hi j = 0
    rw [hhi]
    by_cases cj : j < 3 * N
    · rw [pk_uLn (by omega), pk_uLn (by omega), pk_uLn (by omega)]
      exact h3 j cj
    · rcases (show j = N * 3 ∨ j = N * 3 + 1 ∨ j = N * 3 + 2 by omega) with e | e | e
      · rw [pk_uLn (by omega), pk_uLn (by omega), e, pk_uLs]
      · rw [pk_uLn (by omega), e, pk_uLs]
      · rw [e, pk_uLs]
  · show lk i = im1
    rw [hlk]
    by_cases ci : i < 2 * N
    · rw [pk_un (by omega), pk_un (by omega)]
      exact h4 i ci
    · rcases (show i = N * 2 ∨ i = N * 2 + 1 by omega) with e | e
      · rw [pk_un (by omega), e, pk_us]
      · rw [e, pk_us]
theorem setValue_sh (H : ShP sh (N + 1) so va pl pc L) {v : Nat} (hv : v < 1000000) : ∃ sh', f3_setValue (nI v) sh = some sh' ∧ ShP sh' (N + 1) so (gu va N v) pl pc L := by
  obtain ⟨⟨r1, r2, r3⟩, h2, h3, h4, h5⟩ := H
  refine ⟨(sh.1, upd sh.2.1 N (nI v), sh.2.2.1, sh.2.2.2.1, sh.2.2.2.2.1, sh.2.2.2.2.2.1, sh.2.2.2.2.2.2.1, sh.2.2.2.2.2.2.2.1, sh.2.2.2.2.2.2.2.2), ?_, ⟨r1, r2, fun r hr => ?_⟩, h2, h3, h4, h5⟩
  · have r2' : sh.2.2.2.2.2.2.2.1 = nI (N + 1) := r2
    unfold f3_setValue
    simp (disch := omega) only [li, ↓lim1, ↓bnd_m, ↓grd_m, ↓jn_e, ↓cas_m, ↓oc_m, inb_t, nI_add, pk_mul, sub_e, le_t, le_f, lt_t, lt_f, eq_t, eq_f, cl_e, m1_e, m1_e', m1_lt, m1_le, m1_m1, lt_m1, ↓reduceIte, Nat.add_zero, Nat.zero_add, r2', Nat.add_sub_cancel]
  · obtain ⟨a1, a2, a3, a4⟩ := r3 r hr
    show sh.1 r = _ ∧ _ ∧ upd sh.2.1 N (nI v) r = _ ∧ _
    refine ⟨a1, a2, ?_⟩
    by_cases er : r = N
    · subst er
      rw [pk_us, gu_s]
      exact ⟨rfl, hv⟩
    · rw [pk_un er, gu_n er]
      exact ⟨a3, a4⟩
theorem setPattern_sh (H : ShP sh (N + 1) so va pl pc (L ++ wl t b e)) {s : Nat} (hs : s < 3) (he : e ≤ 16) (ht : ∀ i, i < e → t (b + i) < 128) : ∃ sh', f3_setPattern (nI s) (nI e) sh = some sh' ∧ ShP sh' (N + 1) so va (gu pl (3 * N + s) e) (gu pc (3 * N + s) (fun i => t (b + i))) (L ++ wl t b e) := by
  obtain ⟨h1, ⟨p1, p2, p3⟩, h3, h4, h5, h6, h7⟩ := H
  have hlen : (L ++ wl t b e).length = L.length + e := by rw [List.length_append, wl_len]
  refine ⟨(sh.1, sh.2.1, sh.2.2.1, upd sh.2.2.2.1 (3 * N + s) (nI L.length), upd sh.2.2.2.2.1 (3 * N + s) (nI e), sh.2.2.2.2.2.1, sh.2.2.2.2.2.2.1, sh.2.2.2.2.2.2.2.1, sh.2.2.2.2.2.2.2.2), ?_, h1, ⟨p1, p2, fun j hj => ?_⟩, h3, h4, h5, h6, h7⟩
  · have p2' : sh.2.2.2.2.2.2.2.1 = nI (N + 1) := p2
    have q := patternOf_n (r := N) (s := s) p2 p1 (by omega) hs
    have h6' : sh.2.2.2.2.2.2.2.2 = nI (L.length + e) := by rw [← hlen]; exact h6
    unfold f3_setPattern
    rw [p2', bnd_e q]
    simp (disch := omega) only [li, ↓lim1, ↓bnd_m, ↓grd_m, ↓jn_e, ↓cas_m, ↓oc_m, inb_t, nI_add, pk_mul, sub_e, le_t, le_f, lt_t, lt_f, eq_t, eq_f, cl_e, m1_e, m1_e', m1_lt, m1_le, m1_m1, lt_m1, ↓reduceIte, Nat.add_zero, Nat.zero_add, h6', Nat.add_sub_cancel]
  · show _ ∧ _ ∧ upd sh.2.2.2.2.1 (3 * N + s) (nI e) j = _ ∧ (_ → ∃ ps PL : Nat, upd sh.2.2.2.1 (3 * N + s) (nI L.length) j = _ ∧ _)
    by_cases ej : j = 3 * N + s
    · subst ej
      rw [pk_us, pk_us, gu_s, gu_s]
      refine ⟨by omega, he, rfl, fun h0 => ⟨L.length, L.length + e, rfl, by rw [← hlen]; exact h6, by omega, by omega, fun i hi => ⟨?_, ht i hi⟩⟩⟩
      have := h7 (L.length + i) (by omega)
      rw [gd_r (by omega), show L.length + i - L.length = i by omega, wl_get hi] at this
      exact this
    · rw [pk_un ej, pk_un ej, gu_n ej, gu_n ej]
      exact p3 j hj
theorem newest_ok (hF : 5000 < F) (H : ShP sh (N + 1) so va pl pc L) : f3_newestHasPattern F sh = some (b2 (decide (0 < pl (3 * N)) || decide (0 < pl (3 * N + 1)) || decide (0 < pl (3 * N + 2)))) := by
  obtain ⟨h1, h2, _⟩ := H
  have p2' : sh.2.2.2.2.2.2.2.1 = nI (N + 1) := h2.2.1
  have q0 : f3_hasPattern (nI (N + 1)) (nI 0) sh = some (b2 (decide (0 < pl (3 * N)))) := hasPattern_n h2 (by omega) (by omega)
  have q1 := hasPattern_n (r := N) (s := 1) h2 (by omega) (by omega)
  have q2 := hasPattern_n (r := N) (s := 2) h2 (by omega) (by omega)
  obtain ⟨G, hG⟩ : ∃ G, F = G + 1 + 1 + 1 + 1 := ⟨F - 4, by omega⟩
  have k : iter (f3_newestHasPattern_L2 sh) F (nI 0) = some (if (decide (0 < pl (3 * N)) || decide (0 < pl (3 * N + 1)) || decide (0 < pl (3 * N + 2))) = true then .inl () else .inr ()) := by
    rw [hG]
    by_cases c0 : 0 < pl (3 * N)
    · rw [decide_eq_true c0, Bool.true_or, Bool.true_or]
      apply iter_stop
      unfold f3_newestHasPattern_L2
      rw [decide_eq_true c0, b2_t] at q0
      simp (disch := omega) only [li, ↓lim1, ↓bnd_m, ↓grd_m, ↓jn_e, ↓cas_m, ↓oc_m, inb_t, nI_add, pk_mul, sub_e, le_t, le_f, lt_t, lt_f, eq_t, eq_f, cl_e, m1_e, m1_e', m1_lt, m1_le, m1_m1, lt_m1, ↓reduceIte, Nat.add_zero, Nat.zero_add, p2', q0, if_true]
    · rw [decide_eq_false c0, b2_f] at q0
      rw [decide_eq_false c0, Bool.false_or, iter_step (y := nI 1)]
      · by_cases c1 : 0 < pl (3 * N + 1)
        · rw [decide_eq_true c1, Bool.true_or]
          apply iter_stop
          unfold f3_newestHasPattern_L2
          rw [decide_eq_true c1, b2_t] at q1
          simp (disch := omega) only [li, ↓lim1, ↓bnd_m, ↓grd_m, ↓jn_e, ↓cas_m, ↓oc_m, inb_t, nI_add, pk_mul, sub_e, le_t, le_f, lt_t, lt_f, eq_t, eq_f, cl_e, m1_e, m1_e', m1_lt, m1_le, m1_m1, lt_m1, ↓reduceIte, Nat.add_zero, Nat.zero_add, p2', q1, if_true]
        · rw [decide_eq_false c1, b2_f] at q1
          rw [decide_eq_false c1, Bool.false_or, iter_step (y := nI 2)]
          · by_cases c2 : 0 < pl (3 * N + 2)
            · rw [decide_eq_true c2]
              apply iter_stop
              unfold f3_newestHasPattern_L2
              rw [decide_eq_true c2, b2_t] at q2
              simp (disch := omega) only [li, ↓lim1, ↓bnd_m, ↓grd_m, ↓jn_e, ↓cas_m, ↓oc_m, inb_t, nI_add, pk_mul, sub_e, le_t, le_f, lt_t, lt_f, eq_t, eq_f, cl_e, m1_e, m1_e', m1_lt, m1_le, m1_m1, lt_m1, ↓reduceIte, Nat.add_zero, Nat.zero_add, p2', q2, if_true]
            · rw [decide_eq_false c2, b2_f] at q2
              rw [decide_eq_false c2, iter_step (y := nI 3)]
              · apply iter_stop
                unfold f3_newestHasPattern_L2
                simp (disch := omega) only [li, ↓lim1, ↓bnd_m, ↓grd_m, ↓jn_e, ↓cas_m, ↓oc_m, inb_t, nI_add, pk_mul, sub_e, le_t, le_f, lt_t, lt_f, eq_t, eq_f, cl_e, m1_e, m1_e', m1_lt, m1_le, m1_m1, lt_m1, ↓reduceIte, Nat.add_zero, Nat.zero_add, Bool.false_eq_true]
              · unfold f3_newestHasPattern_L2
                simp (disch := omega) only [li, ↓lim1, ↓bnd_m, ↓grd_m, ↓jn_e, ↓cas_m, ↓oc_m, inb_t, nI_add, pk_mul, sub_e, le_t, le_f, lt_t, lt_f, eq_t, eq_f, cl_e, m1_e, m1_e', m1_lt, m1_le, m1_m1, lt_m1, ↓reduceIte, Nat.add_zero, Nat.zero_add, p2', q2]
          · unfold f3_newestHasPattern_L2
            simp (disch := omega) only [li, ↓lim1, ↓bnd_m, ↓grd_m, ↓jn_e, ↓cas_m, ↓oc_m, inb_t, nI_add, pk_mul, sub_e, le_t, le_f, lt_t, lt_f, eq_t, eq_f, cl_e, m1_e, m1_e', m1_lt, m1_le, m1_m1, lt_m1, ↓reduceIte, Nat.add_zero, Nat.zero_add, p2', q1]
      · unfold f3_newestHasPattern_L2
        simp (disch := omega) only [li, ↓lim1, ↓bnd_m, ↓grd_m, ↓jn_e, ↓cas_m, ↓oc_m, inb_t, nI_add, pk_mul, sub_e, le_t, le_f, lt_t, lt_f, eq_t, eq_f, cl_e, m1_e, m1_e', m1_lt, m1_le, m1_m1, lt_m1, ↓reduceIte, Nat.add_zero, Nat.zero_add, p2', q0]
  unfold f3_newestHasPattern
  simp (disch := omega) only [li, ↓lim1, ↓bnd_m, ↓grd_m, ↓jn_e, ↓cas_m, ↓oc_m, inb_t, nI_add, pk_mul, sub_e, le_t, le_f, lt_t, lt_f, eq_t, eq_f, cl_e, m1_e, m1_e', m1_lt, m1_le, m1_m1, lt_m1, ↓reduceIte, Nat.add_zero, Nat.zero_add, k]
  cases (decide (0 < pl (3 * N)) || decide (0 < pl (3 * N + 1)) || decide (0 < pl (3 * N + 2))) <;> rfl
end Sh
/-! ===== a row of the model in the making ===== -/
theorem upd_uu (f : Nat → Int32) (k : Nat) (a b : Int32) : upd (upd f k a) k b = upd f k b := by
  funext i
  by_cases h : i = k
  · subst h; rw [pk_us, pk_us]
  · rw [pk_un h, pk_un h, pk_un h]
theorem updL_uu (f : Nat → Int64) (k : Nat) (a b : Int64) : vp_updL (vp_updL f k a) k b = vp_updL f k b := by
  funext i
  by_cases h : i = k
  · subst h; rw [pk_uLs, pk_uLs]
  · rw [pk_uLn h, pk_uLn h, pk_uLn h]
theorem upd_id (f : Nat → Int32) (k : Nat) : upd f k (f k) = f := by
  funext i
  by_cases h : i = k
  · subst h; rw [pk_us]
  · rw [pk_un h]
theorem updL_id (f : Nat → Int64) (k : Nat) : vp_updL f k (f k) = f := by
  funext i
  by_cases h : i = k
  · subst h; rw [pk_uLs]
  · rw [pk_uLn h]
def mX (md : T6) (N : Nat) (c d : Int64) (o w h : Int32) (pat ps : Nat → Int32) (pC pD : Int32) (b e : Nat) (r : Int32) : T6 :=
  (md.1, (md.2.1.1, md.2.1.2.1, vp_updL md.2.1.2.2.1 (40 + N) c, vp_updL md.2.1.2.2.2.1 (40 + N) d, upd md.2.1.2.2.2.2.1 (40 + N) o, upd md.2.1.2.2.2.2.2.1 (40 + N) w, upd md.2.1.2.2.2.2.2.2.1 (40 + N) h, pat, ps), md.2.2.1, (nI b, nI e, r, md.2.2.2.1.2.2.2.1, md.2.2.2.1.2.2.2.2.1, upd md.2.2.2.1.2.2.2.2.2.1 N pC, upd md.2.2.2.1.2.2.2.2.2.2 N pD), md.2.2.2.2)
/-- clocks by name: the reader's names, the model's -/
def NmR (t : Nat → Nat) (n N : Nat) (rd : T2) (md : T6) (m : Nat) (cr ns nl : Nat → Nat) : Prop :=
  m ≤ 12 ∧ (∀ k, k < m → rd.1 k = nI (ns k) ∧ rd.2.1 k = nI (nl k) ∧ ns k + nl k ≤ n ∧ nmw t (ns k) (ns k + nl k) = true ∧ mCr md (12 + k) = nI (cr k) ∧ cr k < N ∧ mNC md (40 + cr k) = lN (cdw t (ns k) (nl k))) ∧ ∀ a b, a < m → b < m → cdw t (ns a) (nl a) = cdw t (ns b) (nl b) → a = b
section It
variable {F n N m b e : Nat} {t cr ns nl : Nat → Nat} {tp : T4} {md : T6} {rd : T2} {sh : T3} {ck : T0}
variable {c d : Int64} {o w h : Int32} {pat ps : Nat → Int32} {pC pD : Int32}
theorem TpM.x (H : TpM md t n) (r : Int32) : TpM (mX md N c d o w h pat ps pC pD b e r) t n := H
theorem mXt (H : TpM md t n) (v : Bool) : mTk (mX md N c d o w h pat ps pC pD b e (nI 1)) t n b e v = if v = true then mX md N c d o w h pat ps pC pD (wb t n e) (we t n (wb t n e)) (nI 1) else mX md N c d o w h pat ps pC pD b e (nI 0) := rfl
theorem nmw_len (b k : Nat) : b + k - b = k := by omega
/-- the clock of a name: both sides -/
theorem clockNamed_ok (hF : 5000 < F) (HT : TpC tp t n) (HN : NmR t n N rd md m cr ns nl) (hN : N ≤ 40) (hsz : kSiz ck = nI m) {st ln : Nat} (h0 : 0 < ln) (hl : st + ln ≤ n) (ha : alb (ltr t) st ln = true) (hw : cdw t st ln < 2 ^ 40)
    (hcr : ∀ k, k < m → md.2.2.1.2.1 (12 + k) = nI (cr k)) {md' : T6} (g1 : md'.2.2.1 = md.2.2.1) (g2 : md'.2.2.2.1.2.2.2.2.1 = nI m) (g3 : ∀ k, k < m → md'.2.1.2.2.1 (40 + cr k) = lN (cdw t (ns k) (nl k))) (x1 x2 : Int32) :
    ∃ q : Option Nat, f2_clockNamed F (nI st) (nI ln) (rd.1, rd.2.1, rd.2.2.1, rd.2.2.2.1, x1, x2) sh ck tp = some (pI q) ∧ f6_clockOf F (lN (cdw t st ln)) md' = some (pI q) ∧ (∀ k, q = some k → k < m ∧ cdw t (ns k) (nl k) = cdw t st ln) ∧ (q = none → ∀ k, k < m → ¬ cdw t (ns k) (nl k) = cdw t st ln) := by
  obtain ⟨hm, hnm, hinj⟩ := HN
  have hn := HT.1
  have spec : ∀ k, k < m → nl k ≤ 8 ∧ 0 < nl k ∧ alb (ltr t) (ns k) (nl k) = true ∧ cdw t (ns k) (nl k) < 2 ^ 40 := fun k hk => by
    obtain ⟨_, _, _, a4, _, _, _⟩ := hnm k hk
    obtain ⟨b1, b2', b3, b4, b5⟩ := nmw_spec a4
    rw [nmw_len] at b3 b4 b5
    exact ⟨by omega, by omega, b3, b4⟩
  -- the text is the same if the number is
  have same : ∀ k, k < m → f2_isSameText F (nI (ns k)) (nI st) (nI (nl k)) (rd.1, rd.2.1, rd.2.2.1, rd.2.2.2.1, x1, x2) tp = some (b2 (decide (nl k ≤ ln ∧ ∀ i, i < nl k → t (ns k + i) = t (st + i)))) ∨ ln < nl k := by
    intro k hk
    by_cases hlk : ln < nl k
    · exact Or.inr hlk
    · left
      have a3 := (hnm k hk).2.2.1
      have key := iter_rule (b := f2_isSameText_L3 (nI (ns k)) (nI st) (nI (nl k)) tp)
        (fun d s => ∃ i : Nat, d + i = nl k ∧ s = nI i ∧ ∀ j, j < i → t (ns k + j) = t (st + j))
        (fun q => (q = .inl () ∧ ¬ ∀ i, i < nl k → t (ns k + i) = t (st + i)) ∨ (q = .inr () ∧ ∀ i, i < nl k → t (ns k + i) = t (st + i)))
        (by
          rintro d s ⟨i, hd, rfl, hi⟩
          by_cases hl2 : nl k ≤ i
          · refine Or.inr ⟨.inr (), ?_, Or.inr ⟨rfl, fun j hj => hi j (by omega)⟩⟩
            unfold f2_isSameText_L3
            simp (disch := omega) only [li, ↓lim1, ↓bnd_m, ↓grd_m, ↓jn_e, ↓cas_m, ↓oc_m, inb_t, nI_add, pk_mul, sub_e, le_t, le_f, lt_t, lt_f, eq_t, eq_f, cl_e, m1_e, m1_e', m1_lt, m1_le, m1_m1, lt_m1, ↓reduceIte, Nat.add_zero, Nat.zero_add]
          · have u1 := (HT.2.2 (ns k + i) (by omega)).2
            have u2 := (HT.2.2 (st + i) (by omega)).2
            by_cases he : t (ns k + i) = t (st + i)
            · refine Or.inl ⟨nI (i + 1), d - 1, by omega, ?_, i + 1, by omega, rfl, fun j hj => ?_⟩
              · unfold f2_isSameText_L3
                simp (disch := omega) only [li, ↓lim1, ↓bnd_m, ↓grd_m, ↓jn_e, ↓cas_m, ↓oc_m, inb_t, nI_add, pk_mul, sub_e, le_t, le_f, lt_t, lt_f, eq_t, eq_f, cl_e, m1_e, m1_e', m1_lt, m1_le, m1_m1, lt_m1, ↓reduceIte, Nat.add_zero, Nat.zero_add, at_n HT (show ns k + i < n by omega), at_n HT (show st + i < n by omega)]
              · by_cases ej : j = i
                · rw [ej]; exact he
                · exact hi j (by omega)
            · refine Or.inr ⟨.inl (), ?_, Or.inl ⟨rfl, fun h => he (h i (by omega))⟩⟩
              unfold f2_isSameText_L3
              simp (disch := omega) only [li, ↓lim1, ↓bnd_m, ↓grd_m, ↓jn_e, ↓cas_m, ↓oc_m, inb_t, nI_add, pk_mul, sub_e, le_t, le_f, lt_t, lt_f, eq_t, eq_f, cl_e, m1_e, m1_e', m1_lt, m1_le, m1_m1, lt_m1, ↓reduceIte, Nat.add_zero, Nat.zero_add, at_n HT (show ns k + i < n by omega), at_n HT (show st + i < n by omega)])
        F (nl k) (nI 0) (by have := (spec k hk).1; omega) ⟨0, by omega, rfl, fun j hj => by omega⟩
      obtain ⟨q, hq, hh⟩ := key
      unfold f2_isSameText
      simp (disch := omega) only [li, ↓lim1, ↓bnd_m, ↓grd_m, ↓jn_e, ↓cas_m, ↓oc_m, inb_t, nI_add, pk_mul, sub_e, le_t, le_f, lt_t, lt_f, eq_t, eq_f, cl_e, m1_e, m1_e', m1_lt, m1_le, m1_m1, lt_m1, ↓reduceIte, Nat.add_zero, Nat.zero_add, hq]
      rcases hh with ⟨rfl, hh⟩ | ⟨rfl, hh⟩
      · rw [decide_eq_false (fun h => hh h.2)]; rfl
      · rw [decide_eq_true ⟨by omega, hh⟩]; rfl
  have eqv : ∀ k, k < m → ((nl k = ln ∧ ∀ i, i < nl k → t (ns k + i) = t (st + i)) ↔ cdw t (ns k) (nl k) = cdw t st ln) := by
    intro k hk
    obtain ⟨s1, s2, s3, s4⟩ := spec k hk
    constructor
    · rintro ⟨e1, e2⟩
      rw [cd_same _ e2, e1]
    · intro e1
      exact cd_inj s3 ha s2 h0 e1
  have step : ∀ k, k < m → f2_clockNamed_L2 F (nI st) (nI ln) (rd.1, rd.2.1, rd.2.2.1, rd.2.2.2.1, x1, x2) ck tp (nI k) = if cdw t (ns k) (nl k) = cdw t st ln then some (.inr (.inl (nI k))) else some (.inl (nI (k + 1))) := by
    intro k hk
    obtain ⟨a1, a2, a3, _, _, _, _⟩ := hnm k hk
    obtain ⟨s1, s2, s3, s4⟩ := spec k hk
    unfold f2_clockNamed_L2
    by_cases hnl : nl k = ln
    · rcases same k hk with sm | sm
      · by_cases hc : cdw t (ns k) (nl k) = cdw t st ln
        · have := (eqv k hk).mpr hc
          rw [decide_eq_true ⟨by omega, this.2⟩, b2_t, hnl] at sm
          rw [if_pos hc]
          simp (disch := omega) only [li, ↓lim1, ↓bnd_m, ↓grd_m, ↓jn_e, ↓cas_m, ↓oc_m, inb_t, nI_add, pk_mul, sub_e, le_t, le_f, lt_t, lt_f, eq_t, eq_f, cl_e, m1_e, m1_e', m1_lt, m1_le, m1_m1, lt_m1, ↓reduceIte, Nat.add_zero, Nat.zero_add, hsz, a1, a2, hnl, sm]
        · have hne : ¬ (nl k ≤ ln ∧ ∀ i, i < nl k → t (ns k + i) = t (st + i)) := fun h => hc ((eqv k hk).mp ⟨hnl, h.2⟩)
          rw [decide_eq_false hne, b2_f, hnl] at sm
          rw [if_neg hc]
          simp (disch := omega) only [li, ↓lim1, ↓bnd_m, ↓grd_m, ↓jn_e, ↓cas_m, ↓oc_m, inb_t, nI_add, pk_mul, sub_e, le_t, le_f, lt_t, lt_f, eq_t, eq_f, cl_e, m1_e, m1_e', m1_lt, m1_le, m1_m1, lt_m1, ↓reduceIte, Nat.add_zero, Nat.zero_add, hsz, a1, a2, hnl, sm]
      · omega
    · have hc : ¬ cdw t (ns k) (nl k) = cdw t st ln := fun h => hnl ((eqv k hk).mpr h).1
      rw [if_neg hc]
      simp (disch := omega) only [li, ↓lim1, ↓bnd_m, ↓grd_m, ↓jn_e, ↓cas_m, ↓oc_m, inb_t, nI_add, pk_mul, sub_e, le_t, le_f, lt_t, lt_f, eq_t, eq_f, cl_e, m1_e, m1_e', m1_lt, m1_le, m1_m1, lt_m1, ↓reduceIte, Nat.add_zero, Nat.zero_add, hsz, a1, a2]
  have cc : ∀ k, k < m → md'.2.2.1.2.1 (12 + k) = nI (cr k) := fun k hk => by rw [g1]; exact hcr k hk
  have mst : ∀ (v : Int32) k, k < m → f6_clockOf_L5 (lN (cdw t st ln)) md' (v, nI k) = some (.inl ((if cdw t (ns k) (nl k) = cdw t st ln then nI k else v), nI (k + 1))) := by
    intro v k hk
    have h6 := (hnm k hk).2.2.2.2.2.1
    have h4 := (spec k hk).2.2.2
    unfold f6_clockOf_L5
    by_cases hc : cdw t (ns k) (nl k) = cdw t st ln
    · rw [if_pos hc]
      simp (disch := omega) only [li, ↓lim1, ↓bnd_m, ↓grd_m, ↓jn_e, ↓cas_m, ↓oc_m, inb_t, nI_add, pk_mul, sub_e, le_t, le_f, lt_t, lt_f, eq_t, eq_f, cl_e, m1_e, m1_e', m1_lt, m1_le, m1_m1, lt_m1, ↓reduceIte, Nat.add_zero, Nat.zero_add, g2, cc k hk, g3 k hk, liL, remL', lN_add, lN_mul, subL, leL_t, leL_f, ltL_t, ltL_f, eqL_t, eqL_f, divL, cmp_le, cmp_ge, cmp_gt, cmp_lt, cmp_eq, not_true_eq_false, not_false_eq_true, decide_true, decide_false, dnz]
    · rw [if_neg hc]
      simp (disch := omega) only [li, ↓lim1, ↓bnd_m, ↓grd_m, ↓jn_e, ↓cas_m, ↓oc_m, inb_t, nI_add, pk_mul, sub_e, le_t, le_f, lt_t, lt_f, eq_t, eq_f, cl_e, m1_e, m1_e', m1_lt, m1_le, m1_m1, lt_m1, ↓reduceIte, Nat.add_zero, Nat.zero_add, g2, cc k hk, g3 k hk, liL, remL', lN_add, lN_mul, subL, leL_t, leL_f, ltL_t, ltL_f, eqL_t, eqL_f, divL, cmp_le, cmp_ge, cmp_gt, cmp_lt, cmp_eq, not_true_eq_false, not_false_eq_true, decide_true, decide_false, dnz]
  by_cases hex : ∃ k, k < m ∧ cdw t (ns k) (nl k) = cdw t st ln
  · obtain ⟨k0, hk0, e0⟩ := hex
    refine ⟨some k0, ?_, ?_, ?_, fun h => by cases h⟩
    · have key := iter_rule (b := f2_clockNamed_L2 F (nI st) (nI ln) (rd.1, rd.2.1, rd.2.2.1, rd.2.2.2.1, x1, x2) ck tp)
        (fun d s => ∃ k : Nat, d + k = k0 ∧ s = nI k)
        (fun q => q = .inl (nI k0))
        (by
          rintro d s ⟨k, hd, rfl⟩
          by_cases hk : k = k0
          · subst hk
            exact Or.inr ⟨_, by rw [step k hk0, if_pos e0], rfl⟩
          · refine Or.inl ⟨nI (k + 1), d - 1, by omega, ?_, k + 1, by omega, rfl⟩
            rw [step k (by omega), if_neg (fun h => hk (hinj k k0 (by omega) hk0 (by rw [h, e0])))])
        F k0 (nI 0) (by omega) ⟨0, by omega, rfl⟩
      obtain ⟨q, hq, rfl⟩ := key
      unfold f2_clockNamed
      simp (disch := omega) only [li, ↓lim1, ↓bnd_m, ↓grd_m, ↓jn_e, ↓cas_m, ↓oc_m, inb_t, nI_add, pk_mul, sub_e, le_t, le_f, lt_t, lt_f, eq_t, eq_f, cl_e, m1_e, m1_e', m1_lt, m1_le, m1_m1, lt_m1, ↓reduceIte, Nat.add_zero, Nat.zero_add, hq]
      rfl
    · have key := iter_rule (b := f6_clockOf_L5 (lN (cdw t st ln)) md')
        (fun d s => ∃ k : Nat, d + k = m ∧ s = ((if k0 < k then nI k0 else im1), nI k))
        (fun q => q = nI k0)
        (by
          rintro d s ⟨k, hd, rfl⟩
          by_cases hk : m ≤ k
          · refine Or.inr ⟨_, ?_, rfl⟩
            have : k0 < k := by omega
            unfold f6_clockOf_L5
            simp (disch := omega) only [li, ↓lim1, ↓bnd_m, ↓grd_m, ↓jn_e, ↓cas_m, ↓oc_m, inb_t, nI_add, pk_mul, sub_e, le_t, le_f, lt_t, lt_f, eq_t, eq_f, cl_e, m1_e, m1_e', m1_lt, m1_le, m1_m1, lt_m1, ↓reduceIte, Nat.add_zero, Nat.zero_add, g2, this, if_true]
          · refine Or.inl ⟨_, d - 1, by omega, mst _ k (by omega), k + 1, by omega, ?_⟩
            by_cases hc : cdw t (ns k) (nl k) = cdw t st ln
            · have : k = k0 := hinj k k0 (by omega) hk0 (by rw [hc, e0])
              rw [if_pos hc, if_pos (by omega), this]
            · rw [if_neg hc]
              have : ¬ k = k0 := fun h => hc (by rw [h]; exact e0)
              by_cases c2 : k0 < k
              · rw [if_pos c2, if_pos (by omega)]
              · rw [if_neg c2, if_neg (by omega)])
        F m (im1, nI 0) (by omega) ⟨0, by omega, rfl⟩
      obtain ⟨q, hq, rfl⟩ := key
      unfold f6_clockOf
      simp (disch := omega) only [li, ↓lim1, ↓bnd_m, ↓grd_m, ↓jn_e, ↓cas_m, ↓oc_m, inb_t, nI_add, pk_mul, sub_e, le_t, le_f, lt_t, lt_f, eq_t, eq_f, cl_e, m1_e, m1_e', m1_lt, m1_le, m1_m1, lt_m1, ↓reduceIte, Nat.add_zero, Nat.zero_add, hq]
      rfl
    · intro k h
      cases h
      exact ⟨hk0, e0⟩
  · have hno : ∀ k, k < m → ¬ cdw t (ns k) (nl k) = cdw t st ln := fun k hk h => hex ⟨k, hk, h⟩
    refine ⟨none, ?_, ?_, (fun k h => by cases h), fun _ => hno⟩
    · have key := iter_rule (b := f2_clockNamed_L2 F (nI st) (nI ln) (rd.1, rd.2.1, rd.2.2.1, rd.2.2.2.1, x1, x2) ck tp)
        (fun d s => ∃ k : Nat, d + k = m ∧ s = nI k)
        (fun q => q = .inr ())
        (by
          rintro d s ⟨k, hd, rfl⟩
          by_cases hk : m ≤ k
          · refine Or.inr ⟨_, ?_, rfl⟩
            unfold f2_clockNamed_L2
            simp (disch := omega) only [li, ↓lim1, ↓bnd_m, ↓grd_m, ↓jn_e, ↓cas_m, ↓oc_m, inb_t, nI_add, pk_mul, sub_e, le_t, le_f, lt_t, lt_f, eq_t, eq_f, cl_e, m1_e, m1_e', m1_lt, m1_le, m1_m1, lt_m1, ↓reduceIte, Nat.add_zero, Nat.zero_add, hsz]
          · refine Or.inl ⟨nI (k + 1), d - 1, by omega, ?_, k + 1, by omega, rfl⟩
            rw [step k (by omega), if_neg (hno k (by omega))])
        F m (nI 0) (by omega) ⟨0, by omega, rfl⟩
      obtain ⟨q, hq, rfl⟩ := key
      unfold f2_clockNamed
      simp (disch := omega) only [li, ↓lim1, ↓bnd_m, ↓grd_m, ↓jn_e, ↓cas_m, ↓oc_m, inb_t, nI_add, pk_mul, sub_e, le_t, le_f, lt_t, lt_f, eq_t, eq_f, cl_e, m1_e, m1_e', m1_lt, m1_le, m1_m1, lt_m1, ↓reduceIte, Nat.add_zero, Nat.zero_add, hq]
      rfl
    · have key := iter_rule (b := f6_clockOf_L5 (lN (cdw t st ln)) md')
        (fun d s => ∃ k : Nat, d + k = m ∧ s = (im1, nI k))
        (fun q => q = im1)
        (by
          rintro d s ⟨k, hd, rfl⟩
          by_cases hk : m ≤ k
          · refine Or.inr ⟨_, ?_, rfl⟩
            unfold f6_clockOf_L5
            simp (disch := omega) only [li, ↓lim1, ↓bnd_m, ↓grd_m, ↓jn_e, ↓cas_m, ↓oc_m, inb_t, nI_add, pk_mul, sub_e, le_t, le_f, lt_t, lt_f, eq_t, eq_f, cl_e, m1_e, m1_e', m1_lt, m1_le, m1_m1, lt_m1, ↓reduceIte, Nat.add_zero, Nat.zero_add, g2]
          · refine Or.inl ⟨_, d - 1, by omega, mst _ k (by omega), k + 1, by omega, ?_⟩
            rw [if_neg (hno k (by omega))])
        F m (im1, nI 0) (by omega) ⟨0, by omega, rfl⟩
      obtain ⟨q, hq, rfl⟩ := key
      unfold f6_clockOf
      simp (disch := omega) only [li, ↓lim1, ↓bnd_m, ↓grd_m, ↓jn_e, ↓cas_m, ↓oc_m, inb_t, nI_add, pk_mul, sub_e, le_t, le_f, lt_t, lt_f, eq_t, eq_f, cl_e, m1_e, m1_e', m1_lt, m1_le, m1_m1, lt_m1, ↓reduceIte, Nat.add_zero, Nat.zero_add, hq]
      rfl
end It
section It
variable {F n N m b e : Nat} {t cr ns nl : Nat → Nat} {tp : T4} {md : T6} {rd : T2} {sh : T3} {ck : T0}
variable {c d : Int64} {o w h : Int32} {pat ps : Nat → Int32} {pC pD : Int32}
/-- the model's state behind a taken word, or at the fault -/
def mXk (md : T6) (N : Nat) (c d : Int64) (o w h : Int32) (pat ps : Nat → Int32) (pC pD : Int32) (t : Nat → Nat) (n b e : Nat) (v : Bool) : T6 := if v = true then mX md N c d o w h pat ps pC pD (wb t n e) (we t n (wb t n e)) (nI 1) else mX md N c d o w h pat ps pC pD b e (nI 0)
theorem take_x (hF : 5000 < F) (H : TpM md t n) (hen : e ≤ n) (v : Bool) : f6_take F (b2 v) (mX md N c d o w h pat ps pC pD b e (nI 1)) = some (mXk md N c d o w h pat ps pC pD t n b e v) := take_ok (md := mX md N c d o w h pat ps pC pD b e (nI 1)) hF H hen rfl rfl rfl v
theorem takeWhole_x (hF : 5000 < F) (H : TpM md t n) (hbe : b ≤ e) (hen : e ≤ n) {lo hi : Nat} (h1 : lo ≤ 1000000) (h2 : hi ≤ 1000000) : f6_takeWhole F (nI lo) (nI hi) (mX md N c d o w h pat ps pC pD b e (nI 1)) = some (pI (whw t b e), mXk md N c d o w h pat ps pC pD t n b e (btw (whw t b e) lo hi)) := mtakeWhole_ok (md := mX md N c d o w h pat ps pC pD b e (nI 1)) hF H hbe hen rfl rfl rfl h1 h2
theorem whole_x (hF : 5000 < F) (H : TpM md t n) (hbe : b ≤ e) (hen : e ≤ n) {r : Int32} : f6_whole F (mX md N c d o w h pat ps pC pD b e r) = some (pI (whw t b e)) := mwhole_ok (md := mX md N c d o w h pat ps pC pD b e r) hF H hbe hen rfl rfl
theorem takeEnd_x (hF : 5000 < F) (H : TpM md t n) (hbe : b ≤ e) (hen : e ≤ n) : f6_takeEnd F (mX md N c d o w h pat ps pC pD b e (nI 1)) = some (mXk md N c d o w h pat ps pC pD t n b e (decide (e = b + 1 ∧ t b = 59))) := takeEnd_ok (md := mX md N c d o w h pat ps pC pD b e (nI 1)) hF H hbe hen rfl rfl rfl
/-- the number of a name; 0 if it is none -/
def nmc (t : Nat → Nat) (b e : Nat) : Nat := if nmw t b e = true then cdw t b (e - b) else 0
theorem nmc_lt (t : Nat → Nat) (b e : Nat) : nmc t b e < 2 ^ 40 := by
  unfold nmc
  split
  · rename_i h; exact (nmw_spec h).2.2.2.1
  · decide
theorem nmc_pos (t : Nat → Nat) (b e : Nat) : (0 < nmc t b e) = (nmw t b e = true) := by
  unfold nmc
  refine propext ⟨fun h => ?_, fun h => ?_⟩
  · split at h
    · assumption
    · omega
  · rw [if_pos h]; exact (nmw_spec h).2.2.2.2
theorem takeOld_x (hF : 5000 < F) (H : TpM md t n) (hbe : b ≤ e) (hen : e ≤ n) (hnr : md.2.2.2.1.2.2.2.1 = nI N) (hN : N < 40) (f : Bool) : f6_takeOld F (nI (40 + N)) (b2 f) (mX md N c d o w h pat ps pC pD b e (nI 1)) = some (if f = true then mXk md N (lN (nmc t b e)) d o w h pat ps (nI b) pD t n b e (nmw t b e) else mXk md N c (lN (nmc t b e)) o w h pat ps pC (nI b) t n b e (nmw t b e)) := by
  have hwn : f6_wordName F (mX md N c d o w h pat ps pC pD b e (nI 1)) = some (lN (nmc t b e)) := wordName_ok (md := mX md N c d o w h pat ps pC pD b e (nI 1)) hF H hbe hen rfl rfl
  have hlt := nmc_lt t b e
  have hpos := nmc_pos t b e
  have t1 : ∀ c d pC pD, f6_take F (nI 1) (mX md N c d o w h pat ps pC pD b e (nI 1)) = some (mXk md N c d o w h pat ps pC pD t n b e true) := fun c d pC pD => take_x hF H hen true
  have t0 : ∀ c d pC pD, f6_take F (nI 0) (mX md N c d o w h pat ps pC pD b e (nI 1)) = some (mXk md N c d o w h pat ps pC pD t n b e false) := fun c d pC pD => take_x hF H hen false
  unfold f6_takeOld
  rw [bnd_e hwn]
  unfold mX at t1 t0 ⊢
  simp only [hnr] at t1 t0
  cases hv : nmw t b e with
  | true =>
    rw [hv] at hpos
    have hp : 0 < nmc t b e := hpos.mpr rfl
    cases f with
    | true => 
      rw [b2_t]
      simp (disch := omega) only [li, ↓lim1, ↓bnd_m, ↓grd_m, ↓jn_e, ↓cas_m, ↓oc_m, inb_t, nI_add, pk_mul, sub_e, le_t, le_f, lt_t, lt_f, eq_t, eq_f, cl_e, m1_e, m1_e', m1_lt, m1_le, m1_m1, lt_m1, ↓reduceIte, Nat.add_zero, Nat.zero_add, hnr, upd_uu, updL_uu, liL, remL', lN_add, lN_mul, subL, leL_t, leL_f, ltL_t, ltL_f, eqL_t, eqL_f, divL, cmp_le, cmp_ge, cmp_gt, cmp_lt, cmp_eq, not_true_eq_false, not_false_eq_true, decide_true, decide_false, dnz, t1, if_true]
    | false => 
      rw [b2_f]
      simp (disch := omega) only [li, ↓lim1, ↓bnd_m, ↓grd_m, ↓jn_e, ↓cas_m, ↓oc_m, inb_t, nI_add, pk_mul, sub_e, le_t, le_f, lt_t, lt_f, eq_t, eq_f, cl_e, m1_e, m1_e', m1_lt, m1_le, m1_m1, lt_m1, ↓reduceIte, Nat.add_zero, Nat.zero_add, hnr, upd_uu, updL_uu, liL, remL', lN_add, lN_mul, subL, leL_t, leL_f, ltL_t, ltL_f, eqL_t, eqL_f, divL, cmp_le, cmp_ge, cmp_gt, cmp_lt, cmp_eq, not_true_eq_false, not_false_eq_true, decide_true, decide_false, dnz, t1, Bool.false_eq_true, if_false]
  | false =>
    rw [hv] at hpos
    have hp : nmc t b e = 0 := by
      have : ¬ 0 < nmc t b e := fun h => by rw [hpos] at h; cases h
      omega
    cases f with
    | true => 
      rw [b2_t]
      simp (disch := omega) only [li, ↓lim1, ↓bnd_m, ↓grd_m, ↓jn_e, ↓cas_m, ↓oc_m, inb_t, nI_add, pk_mul, sub_e, le_t, le_f, lt_t, lt_f, eq_t, eq_f, cl_e, m1_e, m1_e', m1_lt, m1_le, m1_m1, lt_m1, ↓reduceIte, Nat.add_zero, Nat.zero_add, hnr, upd_uu, updL_uu, liL, remL', lN_add, lN_mul, subL, leL_t, leL_f, ltL_t, ltL_f, eqL_t, eqL_f, divL, cmp_le, cmp_ge, cmp_gt, cmp_lt, cmp_eq, not_true_eq_false, not_false_eq_true, decide_true, decide_false, dnz, hp, t0, if_true]
    | false => 
      rw [b2_f]
      simp (disch := omega) only [li, ↓lim1, ↓bnd_m, ↓grd_m, ↓jn_e, ↓cas_m, ↓oc_m, inb_t, nI_add, pk_mul, sub_e, le_t, le_f, lt_t, lt_f, eq_t, eq_f, cl_e, m1_e, m1_e', m1_lt, m1_le, m1_m1, lt_m1, ↓reduceIte, Nat.add_zero, Nat.zero_add, hnr, upd_uu, updL_uu, liL, remL', lN_add, lN_mul, subL, leL_t, leL_f, ltL_t, ltL_f, eqL_t, eqL_f, divL, cmp_le, cmp_ge, cmp_gt, cmp_lt, cmp_eq, not_true_eq_false, not_false_eq_true, decide_true, decide_false, dnz, hp, t0, Bool.false_eq_true, if_false]
/-- may the word in hand be a new clock's name -/
def nwo (t : Nat → Nat) (b e m : Nat) (q : Option Nat) : Bool := nmw t b e && decide (m < 12) && q.isNone
theorem takeNew_x (hF : 5000 < F) (H : TpM md t n) (hbe : b ≤ e) (hen : e ≤ n) (hnr : md.2.2.2.1.2.2.2.1 = nI N) (hN : N < 40) (hnc : md.2.2.2.1.2.2.2.2.1 = nI m) (hm : m ≤ 12) {q : Option Nat} (hq : nmw t b e = true → ∀ pC, f6_clockOf F (lN (nmc t b e)) (mX md N c d o w h pat ps pC pD b e (nI 1)) = some (pI q)) (hq' : ∀ k, q = some k → k < 100) : f6_takeNew F (nI (40 + N)) (mX md N c d o w h pat ps pC pD b e (nI 1)) = some (mXk md N (lN (nmc t b e)) d o w h pat ps (nI b) pD t n b e (nwo t b e m q)) := by
  have hwn : f6_wordName F (mX md N c d o w h pat ps pC pD b e (nI 1)) = some (lN (nmc t b e)) := wordName_ok (md := mX md N c d o w h pat ps pC pD b e (nI 1)) hF H hbe hen rfl rfl
  have hlt := nmc_lt t b e
  have hpos := nmc_pos t b e
  have t1 : ∀ pC, f6_take F (nI 1) (mX md N c d o w h pat ps pC pD b e (nI 1)) = some (mX md N c d o w h pat ps pC pD (wb t n e) (we t n (wb t n e)) (nI 1)) := fun pC => take_x hF H hen true
  have t0 : ∀ pC, f6_take F (nI 0) (mX md N c d o w h pat ps pC pD b e (nI 1)) = some (mX md N c d o w h pat ps pC pD b e (nI 0)) := fun pC => take_x hF H hen false
  unfold f6_takeNew
  rw [bnd_e hwn]
  unfold mX at t1 t0 hq ⊢
  simp only [hnr, hnc] at t1 t0 hq
  cases hv : nmw t b e with
  | true =>
    rw [hv] at hpos
    have hp : 0 < nmc t b e := hpos.mpr rfl
    have hq2 := hq hv
    by_cases h12 : m < 12
    · cases q with
      | none =>
        have e1 : nwo t b e m none = true := by unfold nwo; rw [hv, decide_eq_true h12]; rfl
        have e2 : pI none = im1 := rfl
        rw [e2] at hq2
        rw [e1]
        simp (disch := omega) only [li, ↓lim1, ↓bnd_m, ↓grd_m, ↓jn_e, ↓cas_m, ↓oc_m, inb_t, nI_add, pk_mul, sub_e, le_t, le_f, lt_t, lt_f, eq_t, eq_f, cl_e, m1_e, m1_e', m1_lt, m1_le, m1_m1, lt_m1, ↓reduceIte, Nat.add_zero, Nat.zero_add, hnr, hnc, upd_uu, updL_uu, liL, remL', lN_add, lN_mul, subL, leL_t, leL_f, ltL_t, ltL_f, eqL_t, eqL_f, divL, cmp_le, cmp_ge, cmp_gt, cmp_lt, cmp_eq, not_true_eq_false, not_false_eq_true, decide_true, decide_false, dnz, t1, hq2]
        simp only [mXk, mX, if_true, hnr, hnc]
      | some k =>
        have e1 : nwo t b e m (some k) = false := by unfold nwo; exact Bool.and_false _
        have e2 : pI (some k) = nI k := rfl
        have hk := hq' k rfl
        rw [e2] at hq2
        rw [e1]
        simp (disch := omega) only [li, ↓lim1, ↓bnd_m, ↓grd_m, ↓jn_e, ↓cas_m, ↓oc_m, inb_t, nI_add, pk_mul, sub_e, le_t, le_f, lt_t, lt_f, eq_t, eq_f, cl_e, m1_e, m1_e', m1_lt, m1_le, m1_m1, lt_m1, ↓reduceIte, Nat.add_zero, Nat.zero_add, hnr, hnc, upd_uu, updL_uu, liL, remL', lN_add, lN_mul, subL, leL_t, leL_f, ltL_t, ltL_f, eqL_t, eqL_f, divL, cmp_le, cmp_ge, cmp_gt, cmp_lt, cmp_eq, not_true_eq_false, not_false_eq_true, decide_true, decide_false, dnz, t0, hq2]
        simp only [mXk, mX, Bool.false_eq_true, if_false, hnr, hnc]
    · have e1 : nwo t b e m q = false := by unfold nwo; rw [decide_eq_false h12, Bool.and_false]; rfl
      rw [e1]
      simp (disch := omega) only [li, ↓lim1, ↓bnd_m, ↓grd_m, ↓jn_e, ↓cas_m, ↓oc_m, inb_t, nI_add, pk_mul, sub_e, le_t, le_f, lt_t, lt_f, eq_t, eq_f, cl_e, m1_e, m1_e', m1_lt, m1_le, m1_m1, lt_m1, ↓reduceIte, Nat.add_zero, Nat.zero_add, hnr, hnc, upd_uu, updL_uu, liL, remL', lN_add, lN_mul, subL, leL_t, leL_f, ltL_t, ltL_f, eqL_t, eqL_f, divL, cmp_le, cmp_ge, cmp_gt, cmp_lt, cmp_eq, not_true_eq_false, not_false_eq_true, decide_true, decide_false, dnz, t0]
      simp only [mXk, mX, Bool.false_eq_true, if_false, hnr, hnc]
  | false =>
    rw [hv] at hpos
    have hp : nmc t b e = 0 := by
      have : ¬ 0 < nmc t b e := fun h => by rw [hpos] at h; cases h
      omega
    have e1 : nwo t b e m q = false := by unfold nwo; rw [hv]; rfl
    rw [e1]
    simp (disch := omega) only [li, ↓lim1, ↓bnd_m, ↓grd_m, ↓jn_e, ↓cas_m, ↓oc_m, inb_t, nI_add, pk_mul, sub_e, le_t, le_f, lt_t, lt_f, eq_t, eq_f, cl_e, m1_e, m1_e', m1_lt, m1_le, m1_m1, lt_m1, ↓reduceIte, Nat.add_zero, Nat.zero_add, hnr, hnc, upd_uu, updL_uu, liL, remL', lN_add, lN_mul, subL, leL_t, leL_f, ltL_t, ltL_f, eqL_t, eqL_f, divL, cmp_le, cmp_ge, cmp_gt, cmp_lt, cmp_eq, not_true_eq_false, not_false_eq_true, decide_true, decide_false, dnz, hp, t0]
    simp only [mXk, mX, Bool.false_eq_true, if_false, hnr, hnc]
/-- pattern s of row N, in the model's arrays: a word of the tape -/
def wrP (pat : Nat → Int32) (t : Nat → Nat) (a b : Nat) : Nat → (Nat → Int32)
  | 0 => pat
  | k + 1 => upd (wrP pat t a b k) (a + k) (nI (t (b + k)))
theorem wrP_old {pat : Nat → Int32} {t : Nat → Nat} {a b : Nat} : ∀ k i, i < a → wrP pat t a b k i = pat i := by
  intro k
  induction k with
  | zero => intro i _; rfl
  | succ k ih => intro i hi; show upd _ _ _ i = _; rw [pk_un (by omega)]; exact ih i hi
theorem wrP_new {pat : Nat → Int32} {t : Nat → Nat} {a b : Nat} : ∀ k i, i < k → wrP pat t a b k (a + i) = nI (t (b + i)) := by
  intro k
  induction k with
  | zero => intro i h; omega
  | succ k ih =>
    intro i hi
    show upd _ _ _ (a + i) = _
    by_cases c : i = k
    · subst c; rw [pk_us]
    · rw [pk_un (by omega)]; exact ih i (by omega)
/-- the word at place s of a path: a pattern, or '-' where it may stand -/
def pto (t : Nat → Nat) (b e : Nat) (f : Bool) : Bool := (f && anw t b e) || ptw t b e
def pnl (t : Nat → Nat) (b e : Nat) : Nat := if ptw t b e = true then e - b else 0
theorem any_not_pat {t : Nat → Nat} {b e : Nat} (h : anw t b e = true) : ptw t b e = false := by
  have h1 : e = b + 1 ∧ t b = 45 := of_decide_eq_true h
  obtain ⟨rfl, h2⟩ := h1
  unfold ptw
  rw [alb_f (i := 0) (by omega) (by unfold pch; rw [Nat.add_zero, h2]; decide), Bool.and_false]
theorem takePattern_x (hF : 5000 < F) (H : TpM md t n) (hbe : b ≤ e) (hen : e ≤ n) (hN : N < 40) {s : Nat} (hs : s < 3) (f : Bool) : f6_takePattern F (nI (40 + N)) (nI s) (b2 f) (mX md N c d o w h pat ps pC pD b e (nI 1)) = some (mXk md N c d o w h (wrP pat t (16 * (3 * (40 + N) + s)) b (pnl t b e)) (upd ps (3 * (40 + N) + s) (nI (pnl t b e))) pC pD t n b e (pto t b e f)) := by
  have hn := H.1
  have hmp : ∀ pat ps, f6_isPattern F (mX md N c d o w h pat ps pC pD b e (nI 1)) = some (b2 (ptw t b e)) := fun pat ps => mpat_ok (md := mX md N c d o w h pat ps pC pD b e (nI 1)) hF H hbe hen rfl rfl
  have t1 : ∀ pat ps, f6_take F (nI 1) (mX md N c d o w h pat ps pC pD b e (nI 1)) = some (mX md N c d o w h pat ps pC pD (wb t n e) (we t n (wb t n e)) (nI 1)) := fun pat ps => take_x hF H hen true
  have t0 : ∀ pat ps, f6_take F (nI 0) (mX md N c d o w h pat ps pC pD b e (nI 1)) = some (mX md N c d o w h pat ps pC pD b e (nI 0)) := fun pat ps => take_x hF H hen false
  have ta : ∀ i, i < n → md.1.2.2.2.1 i = nI (t i) := fun i hi => (H.2.2 i hi).1
  have lt : ∀ i, i < n → t i < 128 := fun i hi => (H.2.2 i hi).2
  -- the loop that copies
  have cp : ptw t b e = true → ∃ F', F' = F ∧ iter (f6_takePattern_L59 F (nI (40 + N)) (nI s) (nI 0)) F' (nI b, mX md N c d o w h pat (upd ps (3 * (40 + N) + s) (nI 0)) pC pD b e (nI 1)) = some (mX md N c d o w h (wrP pat t (16 * (3 * (40 + N) + s)) b (e - b)) (upd ps (3 * (40 + N) + s) (nI (e - b))) pC pD b e (nI 1)) := by
    intro hp
    have h16 : b < e ∧ e ≤ b + 16 := by
      unfold ptw at hp
      rw [Bool.and_eq_true] at hp
      exact of_decide_eq_true hp.1
    have hmp1 : ∀ pat ps, f6_isPattern F (mX md N c d o w h pat ps pC pD b e (nI 1)) = some (nI 1) := fun pat ps => by rw [hmp, hp]; rfl
    have key := iter_rule (b := f6_takePattern_L59 F (nI (40 + N)) (nI s) (nI 0))
      (fun z st => ∃ k : Nat, z + k = e - b ∧ st = (nI (b + k), mX md N c d o w h (wrP pat t (16 * (3 * (40 + N) + s)) b k) (upd ps (3 * (40 + N) + s) (nI k)) pC pD b e (nI 1)))
      (fun q => q = mX md N c d o w h (wrP pat t (16 * (3 * (40 + N) + s)) b (e - b)) (upd ps (3 * (40 + N) + s) (nI (e - b))) pC pD b e (nI 1))
      (by
        rintro z st ⟨k, hz, rfl⟩
        by_cases hk : e - b ≤ k
        · have : k = e - b := by omega
          subst this
          refine Or.inr ⟨_, ?_, rfl⟩
          unfold f6_takePattern_L59 mX
          simp (disch := omega) only [li, ↓lim1, ↓bnd_m, ↓grd_m, ↓jn_e, ↓cas_m, ↓oc_m, inb_t, nI_add, pk_mul, sub_e, le_t, le_f, lt_t, lt_f, eq_t, eq_f, cl_e, m1_e, m1_e', m1_lt, m1_le, m1_m1, lt_m1, ↓reduceIte, Nat.add_zero, Nat.zero_add]
        · have hmp2 := hmp1 (wrP pat t (16 * (3 * (40 + N) + s)) b k) (upd ps (3 * (40 + N) + s) (nI k))
          refine Or.inl ⟨(nI (b + (k + 1)), mX md N c d o w h (wrP pat t (16 * (3 * (40 + N) + s)) b (k + 1)) (upd ps (3 * (40 + N) + s) (nI (k + 1))) pC pD b e (nI 1)), z - 1, by omega, ?_, k + 1, by omega, rfl⟩
          have e1 : wrP pat t (16 * (3 * (40 + N) + s)) b (k + 1) = upd (wrP pat t (16 * (3 * (40 + N) + s)) b k) (16 * (3 * (40 + N) + s) + k) (nI (t (b + k))) := rfl
          rw [e1]
          have tk := ta (b + k) (by omega)
          unfold f6_takePattern_L59
          unfold mX at hmp2 ⊢
          simp (disch := omega) only [li, ↓lim1, ↓bnd_m, ↓grd_m, ↓jn_e, ↓cas_m, ↓oc_m, inb_t, nI_add, pk_mul, sub_e, le_t, le_f, lt_t, lt_f, eq_t, eq_f, cl_e, m1_e, m1_e', m1_lt, m1_le, m1_m1, lt_m1, ↓reduceIte, Nat.add_zero, Nat.zero_add, hmp2, pk_us, tk, upd_uu, Nat.add_assoc])
      F (e - b) (nI b, mX md N c d o w h pat (upd ps (3 * (40 + N) + s) (nI 0)) pC pD b e (nI 1)) (by omega) ⟨0, by omega, rfl⟩
    obtain ⟨q, hq, rfl⟩ := key
    exact ⟨F, rfl, hq⟩
  -- the loop that does nothing
  obtain ⟨G, hG⟩ : ∃ G, F = G + 1 := ⟨F - 1, by omega⟩
  have no1 : iter (f6_takePattern_L59 F (nI (40 + N)) (nI s) (nI 1)) F (nI b, mX md N c d o w h pat (upd ps (3 * (40 + N) + s) (nI 0)) pC pD b e (nI 1)) = some (mX md N c d o w h pat (upd ps (3 * (40 + N) + s) (nI 0)) pC pD b e (nI 1)) := by
    conv => lhs; arg 2; rw [hG]
    apply iter_stop
    unfold f6_takePattern_L59 mX
    by_cases hbe' : e ≤ b
    · simp (disch := omega) only [li, ↓lim1, ↓bnd_m, ↓grd_m, ↓jn_e, ↓cas_m, ↓oc_m, inb_t, nI_add, pk_mul, sub_e, le_t, le_f, lt_t, lt_f, eq_t, eq_f, cl_e, m1_e, m1_e', m1_lt, m1_le, m1_m1, lt_m1, ↓reduceIte, Nat.add_zero, Nat.zero_add]
    · simp (disch := omega) only [li, ↓lim1, ↓bnd_m, ↓grd_m, ↓jn_e, ↓cas_m, ↓oc_m, inb_t, nI_add, pk_mul, sub_e, le_t, le_f, lt_t, lt_f, eq_t, eq_f, cl_e, m1_e, m1_e', m1_lt, m1_le, m1_m1, lt_m1, ↓reduceIte, Nat.add_zero, Nat.zero_add]
  have no0 : ptw t b e = false → iter (f6_takePattern_L59 F (nI (40 + N)) (nI s) (nI 0)) F (nI b, mX md N c d o w h pat (upd ps (3 * (40 + N) + s) (nI 0)) pC pD b e (nI 1)) = some (mX md N c d o w h pat (upd ps (3 * (40 + N) + s) (nI 0)) pC pD b e (nI 1)) := by
    intro hp
    have hmp2 := hmp pat (upd ps (3 * (40 + N) + s) (nI 0))
    rw [hp, b2_f] at hmp2
    conv => lhs; arg 2; rw [hG]
    apply iter_stop
    unfold f6_takePattern_L59
    unfold mX at hmp2 ⊢
    by_cases hbe' : e ≤ b
    · simp (disch := omega) only [li, ↓lim1, ↓bnd_m, ↓grd_m, ↓jn_e, ↓cas_m, ↓oc_m, inb_t, nI_add, pk_mul, sub_e, le_t, le_f, lt_t, lt_f, eq_t, eq_f, cl_e, m1_e, m1_e', m1_lt, m1_le, m1_m1, lt_m1, ↓reduceIte, Nat.add_zero, Nat.zero_add]
    · simp (disch := omega) only [li, ↓lim1, ↓bnd_m, ↓grd_m, ↓jn_e, ↓cas_m, ↓oc_m, inb_t, nI_add, pk_mul, sub_e, le_t, le_f, lt_t, lt_f, eq_t, eq_f, cl_e, m1_e, m1_e', m1_lt, m1_le, m1_m1, lt_m1, ↓reduceIte, Nat.add_zero, Nat.zero_add, hmp2]
  unfold f6_takePattern
  cases hp : ptw t b e with
  | true =>
    obtain ⟨_, rfl, hcp⟩ := cp hp
    have e1 : pnl t b e = e - b := by unfold pnl; rw [if_pos hp]
    have e2 : pto t b e f = true := by unfold pto; rw [hp, Bool.or_true]
    have hna : ¬ (e = b + 1 ∧ t b = 45) := fun h => by
      have := any_not_pat (t := t) (decide_eq_true h)
      rw [hp] at this; cases this
    have hmp2 := hmp (wrP pat t (16 * (3 * (40 + N) + s)) b (e - b)) (upd ps (3 * (40 + N) + s) (nI (e - b)))
    rw [hp, b2_t] at hmp2
    rw [e1, e2]
    have hb0 : b < e ∧ e ≤ b + 16 := by
      unfold ptw at hp
      rw [Bool.and_eq_true] at hp
      exact of_decide_eq_true hp.1
    have tb := ta b (by omega)
    have ltb := lt b (by omega)
    unfold mXk
    rw [if_pos rfl]
    unfold mX at hcp t1 t0 hmp2 ⊢
    cases f with
    | false =>
      rw [b2_f]
      simp (disch := omega) only [li, ↓lim1, ↓bnd_m, ↓grd_m, ↓jn_e, ↓cas_m, ↓oc_m, inb_t, nI_add, pk_mul, sub_e, le_t, le_f, lt_t, lt_f, eq_t, eq_f, cl_e, m1_e, m1_e', m1_lt, m1_le, m1_m1, lt_m1, ↓reduceIte, Nat.add_zero, Nat.zero_add, hcp, hmp2, t1]
    | true =>
      rw [b2_t]
      by_cases c1 : e = b + 1
      · have c2 : ¬ t b = 45 := fun h => hna ⟨c1, h⟩
        simp (disch := omega) only [li, ↓lim1, ↓bnd_m, ↓grd_m, ↓jn_e, ↓cas_m, ↓oc_m, inb_t, nI_add, pk_mul, sub_e, le_t, le_f, lt_t, lt_f, eq_t, eq_f, cl_e, m1_e, m1_e', m1_lt, m1_le, m1_m1, lt_m1, ↓reduceIte, Nat.add_zero, Nat.zero_add, tb, hcp, hmp2, t1]
      · simp (disch := omega) only [li, ↓lim1, ↓bnd_m, ↓grd_m, ↓jn_e, ↓cas_m, ↓oc_m, inb_t, nI_add, pk_mul, sub_e, le_t, le_f, lt_t, lt_f, eq_t, eq_f, cl_e, m1_e, m1_e', m1_lt, m1_le, m1_m1, lt_m1, ↓reduceIte, Nat.add_zero, Nat.zero_add, hcp, hmp2, t1]
  | false =>
    have hno0 := no0 hp
    have e1 : pnl t b e = 0 := by unfold pnl; rw [if_neg (by rw [hp]; decide)]
    have hmp2 := hmp pat (upd ps (3 * (40 + N) + s) (nI 0))
    rw [hp, b2_f] at hmp2
    have w0 : wrP pat t (16 * (3 * (40 + N) + s)) b 0 = pat := rfl
    rw [e1, w0]
    unfold mX at hno0 no1 t1 t0 hmp2
    cases f with
    | false =>
      have e2 : pto t b e false = false := by unfold pto; rw [hp]; rfl
      rw [b2_f, e2]
      unfold mXk mX
      simp (disch := omega) only [li, ↓lim1, ↓bnd_m, ↓grd_m, ↓jn_e, ↓cas_m, ↓oc_m, inb_t, nI_add, pk_mul, sub_e, le_t, le_f, lt_t, lt_f, eq_t, eq_f, cl_e, m1_e, m1_e', m1_lt, m1_le, m1_m1, lt_m1, ↓reduceIte, Nat.add_zero, Nat.zero_add, hno0, hmp2, t0, Bool.false_eq_true, if_false]
    | true =>
      rw [b2_t]
      by_cases c1 : e = b + 1
      · have tb := ta b (by omega)
        have ltb := lt b (by omega)
        by_cases c2 : t b = 45
        · have e2 : pto t b e true = true := by unfold pto; rw [show anw t b e = true from decide_eq_true ⟨c1, c2⟩]; rfl
          rw [e2]
          unfold mXk mX
          simp (disch := omega) only [li, ↓lim1, ↓bnd_m, ↓grd_m, ↓jn_e, ↓cas_m, ↓oc_m, inb_t, nI_add, pk_mul, sub_e, le_t, le_f, lt_t, lt_f, eq_t, eq_f, cl_e, m1_e, m1_e', m1_lt, m1_le, m1_m1, lt_m1, ↓reduceIte, Nat.add_zero, Nat.zero_add, tb, no1, t1, if_true]
        · have e2 : pto t b e true = false := by unfold pto; rw [show anw t b e = false from decide_eq_false (fun h => c2 h.2), hp]; rfl
          rw [e2]
          unfold mXk mX
          simp (disch := omega) only [li, ↓lim1, ↓bnd_m, ↓grd_m, ↓jn_e, ↓cas_m, ↓oc_m, inb_t, nI_add, pk_mul, sub_e, le_t, le_f, lt_t, lt_f, eq_t, eq_f, cl_e, m1_e, m1_e', m1_lt, m1_le, m1_m1, lt_m1, ↓reduceIte, Nat.add_zero, Nat.zero_add, tb, hno0, hmp2, t0, Bool.false_eq_true, if_false]
      · have e2 : pto t b e true = false := by unfold pto; rw [show anw t b e = false from decide_eq_false (fun h => c1 h.1), hp]; rfl
        rw [e2]
        unfold mXk mX
        simp (disch := omega) only [li, ↓lim1, ↓bnd_m, ↓grd_m, ↓jn_e, ↓cas_m, ↓oc_m, inb_t, nI_add, pk_mul, sub_e, le_t, le_f, lt_t, lt_f, eq_t, eq_f, cl_e, m1_e, m1_e', m1_lt, m1_le, m1_m1, lt_m1, ↓reduceIte, Nat.add_zero, Nat.zero_add, hno0, hmp2, t0, Bool.false_eq_true, if_false]
end It
