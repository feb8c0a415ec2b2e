/-! ===== course, share ===== -/
theorem x_frGet {h : MH} {r i n : Nat} {x2 : Int32} (R : rtAt h r n) (hn : n ≤ 100) (hi : i < n) : f_X1_get r (nI i) x2 h = some (if x2 = 0 then gL h (r + 1) i else gL h (r + 2) i, h) := by
  unfold f_X1_get
  rw [if_neg (nI_nn (by omega)), R.1, Option.bind_some, R.2.2.1, oN, if_pos (nI_lt hi (by omega))]
  by_cases q : x2 = 0
  · rw [if_pos q, if_pos q, Option.bind_some, ldL_ok (by rw [R.2.2.1]; exact hi) (by omega), Option.bind_some]
  · rw [if_neg q, if_neg q, R.2.1, Option.bind_some, ldL_ok (by rw [R.2.2.2]; exact hi) (by omega), Option.bind_some]
theorem m_course57 {h : MH} {T : List Nat} (L : ML h) (hT : T.length ≤ 16) (e20 : gI h 0 20 = nI T.length) (eT : lrep (gI h 7) 0 T) : Ev (f_X11_course_57 0 FU 0 h) (fun q => q.1 = nI T.length ∧ frm [1] h q.2 ∧ gL q.2 = gL h ∧ (∀ j, j < 495 → gI q.2 1 j = gI h 1 j) ∧ gI q.2 1 495 = nI T.length ∧ lrep (gI q.2 1) 496 T) := by
  unfold f_X11_course_57
  refine Ev_FU (fun m p h1 => ∃ i, i + m = T.length ∧ p = nI i ∧ frm [1] h h1 ∧ gL h1 = gL h ∧ (∀ j, j < 496 → gI h1 1 j = gI h 1 j) ∧ ∀ j, j < i → gI h1 1 (496 + j) = nI (T.getD j 0)) T.length 0 h (by omega) ⟨0, by omega, rfl, frm.rf, rfl, fun _ _ => rfl, fun j hj => absurd hj (Nat.not_lt_zero _)⟩ ?_
  rintro m p h1 rec ⟨i, hi, rfl, f, gl, g1, g2⟩ ih
  have L1 : ML h1 := L.fr f
  unfold f_X11_course_57b
  rw [f.1 0 (by decide), e20]
  by_cases q : i < T.length
  · rw [if_pos (nI_lt q (by omega)), L1.r1, Option.bind_some, L1.r19, Option.bind_some, ldI_ok (by rw [L1.n7]; omega) (by omega), Option.bind_some, show (496 : Int32) + nI i = nI (496 + i) from nI_add 496 i, stI_ok (by rw [L1.n1]; omega) (by omega), Option.bind_some, nI_1, f.1 7 (by decide)]
    have eTi := eT i q
    rw [Nat.zero_add] at eTi
    refine ih (m - 1) _ _ (by omega) ⟨i + 1, by omega, rfl, frm.sI (by decide) f, gl, fun j hj => by rw [gI_sI_nk (by omega)]; exact g1 j hj, fun j hj => ?_⟩
    by_cases q2 : j = i
    · rw [q2, gI_s, eTi]
    · rw [gI_sI_nk (by omega)]; exact g2 j (by omega)
  · have : i = T.length := by omega
    subst this
    rw [if_neg (nI_nlt (Nat.le_refl _) (by omega)), L1.r1, Option.bind_some, show (495 : Int32) = nI 495 from rfl, stI_ok (by rw [L1.n1]; decide) (by decide), Option.bind_some, gI_sI_ne (by decide), f.1 0 (by decide), e20]
    refine Ev_some ⟨rfl, frm.sI (by decide) f, gl, fun j hj => by rw [gI_sI_nk (by omega)]; exact g1 j (by omega), gI_s _ _ _ _, fun j hj => ?_⟩
    rw [gI_sI_nk (by omega)]; exact g2 j hj
theorem ok_course : J_course RR := by
  rintro x1 hx hm ⟨a, w, X, M⟩
  have M0 := M.told (v := 0)
  obtain ⟨mL, mS, -⟩ := MR_iff.mp M0
  have wN := w.1.1
  have hn10 := wN.2.1
  by_cases c1 : 0 ≤ x1.toInt ∧ x1.toInt < nN (sN (aS a))
  · obtain ⟨u, hu, rfl⟩ := ofZ c1.1 c1.2
    obtain ⟨hx', ex, X', K⟩ := x_sent w X hu
    obtain ⟨hm', em, M', f, J⟩ := m_sent (sh := false) (xs := 0) w M0 hu rfl
    have L' := X'.1
    have mL' := M'.1
    obtain ⟨z1, z2, z3, z4, z5, z6, z7⟩ := pkt_end (B := sB (aS a)) wN w.1.2.1 hu w.2.1
    obtain ⟨K1, K2, K3, K4, ⟨T', r1, r2, r3⟩, K6⟩ := K
    obtain ⟨J1, J2, J3, J4, J5, J6, J7⟩ := J
    generalize hr : pkt (sN (aS a)) (sB (aS a)) u (aK a) = r at *
    have ux : f_X10_course 0 (nI u) hx = (if gI hx' 183 11 = 0 then some (-1, hx') else if gI hx' 183 8 = 0 then some (-1, hx') else if 16 < gI hx' 183 8 then some (-1, hx') else (f_X5_copyFrom 18 186 hx').bind fun q_9 => (gR q_9 0 0).bind fun a_10 => (gR q_9 a_10 6).bind fun a_11 => some ((gI q_9 a_11 1), q_9)) := by
      unfold f_X10_course
      rw [ex, Option.bind_some]
      dsimp only
      rw [if_neg (by decide), L'.r14, Option.bind_some, Option.bind_some, Option.bind_some, L'.r0, Option.bind_some, L'.s6, Option.bind_some, Option.bind_some, L'.k1, Option.bind_some]
    have um : f_X11_course 0 (nI u) hm = (if gI hm' 0 17 = 0 then some (-1, hm') else (f_X11_isIn 0 (Int32.toInt64 (gI hm' 0 20)) 1 16 hm').bind fun q_5 => if q_5.1 = 0 then some ((-1 : Int32), q_5.2) else f_X11_course_57 0 FU 0 q_5.2) := by
      unfold f_X11_course
      rw [lt_def, m_isNode mL mS.1 wN, Option.bind_some, if_neg (fun z => bI_0.mp z c1)]
      dsimp only
      rw [mL.r5, Option.bind_some, em, Option.bind_some]
    rw [ux, um]
    by_cases q : pE r.2 = true
    · obtain ⟨r4, r5⟩ := r3 q
      obtain ⟨j1, j2⟩ := J6 q
      rw [K4, if_neg (fun z => bI_0.mp z q), r4, J4, if_neg (fun z => bI_0.mp z q), j1, m_inL (l := 1) (k := 16) rfl rfl, Option.bind_some, nI_toInt (by omega)]
      by_cases q1 : (pT r.2).length = 0
      · refine ⟨-1, hx', hm', ?_, ?_, a, w, X', M'⟩
        · rw [if_pos (by rw [q1]; rfl)]
        · rw [if_pos (bI_0.mpr (by omega))]
      · rw [if_neg (show ¬ nI (pT r.2).length = 0 from fun z => q1 (nI_inj (b := 0) (by omega) (by decide) z))]
        by_cases q2 : 16 < (pT r.2).length
        · refine ⟨-1, hx', hm', ?_, ?_, a, w, X', M'⟩
          · rw [if_pos (show (16 : Int32) < nI (pT r.2).length from nI_lt (a := 16) q2 (by omega))]
          · rw [if_pos (bI_0.mpr (by omega))]
        · rw [if_neg (show ¬ (16 : Int32) < nI (pT r.2).length from nI_nlt (a := 16) (by omega) (by omega)), if_neg (fun z => bI_0.mp z (by omega))]
          rw [List.take_of_length_le (by omega)] at r5
          subst r5
          obtain ⟨hx2, e2, f2, rr2⟩ := x_rowCopy (a := 18) (b := 186) L'.way (show rowAt hx' 186 16 from ⟨L'.y186, L'.z187⟩) r1 r2 r2 (by decide) (by decide)
          obtain ⟨⟨v1, hm2⟩, e3, g1, g2, g3, g4, g5, g6⟩ := m_course57 mL' (show (pT r.2).length ≤ 16 by omega) j1 j2
          dsimp only at g1 g2 g3 g4 g5 g6
          subst g1
          have X2 := X'.way f2 rr2
          refine ⟨nI (pT r.2).length, hx2, hm2, ?_, e3, setW a (pT r.2), w.way (chF_way z6 (by omega)), X2, MR.way w (mL'.fr g2) (fun k _ => by rw [g2.1 0 (by decide)]) g4 g5 g6 (fun b hb => g2.1 b (by simp; omega)) (by rw [g3]) M'⟩
          rw [e2, Option.bind_some, X2.1.r0, Option.bind_some, X2.1.s6, Option.bind_some, rr2.1]
    · refine ⟨-1, hx', hm', ?_, ?_, a, w, X', M'⟩
      · rw [K4, if_pos (bI_0.mpr q)]
      · rw [J4, if_pos (bI_0.mpr q)]
  · refine ⟨-1, hx, sI hm 0 0 0, ?_, ?_, a, w, X, M0⟩
    · unfold f_X10_course
      rw [x_sentNo w X c1, Option.bind_some, if_pos rfl]
    · unfold f_X11_course
      rw [lt_def, m_isNode mL mS.1 wN, Option.bind_some, if_pos (bI_0.mpr c1)]
theorem ok_share : J_share RR := by
  rintro x1 x2 x3 hx hm ⟨a, w, X, M⟩
  obtain ⟨L, S, -⟩ := XR_iff.mp X
  have M0 := M.told (v := 0)
  obtain ⟨mL, mS, -⟩ := MR_iff.mp M0
  have wN := w.1.1
  have hn10 := wN.2.1
  have hm30 := wN.2.2.1
  have e0 : (0 : Int32).toInt = 0 := rfl
  have e1 : (1 : Int32).toInt = 1 := rfl
  by_cases c2 : 0 ≤ x2.toInt ∧ x2.toInt < nM (sN (aS a))
  · by_cases c3 : 0 ≤ x3.toInt ∧ x3.toInt ≤ 1
    · by_cases c1 : 0 ≤ x1.toInt ∧ x1.toInt < nN (sN (aS a))
      · obtain ⟨u, hu, rfl⟩ := ofZ c1.1 c1.2
        obtain ⟨l, hl, rfl⟩ := ofZ c2.1 c2.2
        obtain ⟨hx', ex, X', K⟩ := x_sent w X hu
        obtain ⟨hm', em, M', f, J⟩ := m_sent (sh := true) (xs := 1) w M0 hu rfl
        have L' := X'.1
        have mL' := M'.1
        obtain ⟨a1, a2⟩ := K.2.2.2.2.2 l (by omega)
        obtain ⟨b1, b2⟩ := J.2.2.2.2.2.2 rfl l (by omega)
        refine ⟨if x3 = 0 then gL hx' 189 l else gL hx' 190 l, hx', hm', ?_, ?_, a, w, X', M'⟩
        · unfold f_X10_share
          rw [L.r0, Option.bind_some, L.s0, Option.bind_some, x_hasLink S.1.2.1 (by omega), Option.bind_some, if_neg (fun z => bI_0.mp z c2), if_neg (by rw [zlt, e0]; omega), if_neg (by rw [zlt, e1]; omega)]
          dsimp only
          rw [ex, Option.bind_some]
          dsimp only
          have eg : f_X1_get 188 (nI l) x3 hx' = some (if x3 = 0 then gL hx' 189 l else gL hx' 190 l, hx') := x_frGet (n := 30) ⟨L'.d188, L'.c188, L'.z189, L'.z190⟩ (by decide) (by omega)
          rw [if_neg (by decide), L'.r14, Option.bind_some, L'.k2, Option.bind_some, eg, Option.bind_some]
        · unfold f_X11_share
          rw [lt_def, m_isNode mL mS.1 wN, Option.bind_some, if_neg (fun z => bI_0.mp z c1)]
          dsimp only
          rw [m_isLink mL mS.1 wN, Option.bind_some, if_neg (fun z => bI_0.mp z c2)]
          dsimp only
          rw [m_inL (l := 0) (k := 1) rfl rfl, Option.bind_some, if_neg (fun z => bI_0.mp z (by omega))]
          dsimp only
          rw [mL.r5, Option.bind_some, em, Option.bind_some]
          by_cases q : x3 = 0
          · rw [if_pos q, if_pos q, mL'.r22, Option.bind_some, ldL_ok (by rw [mL'.n8]; omega) (by omega), Option.bind_some, b1, a1]
          · rw [if_neg q, if_neg q, mL'.r23, Option.bind_some, ldL_ok (by rw [mL'.n9]; omega) (by omega), Option.bind_some, b2, a2]
      · refine ⟨-1, hx, sI hm 0 0 0, ?_, ?_, a, w, X, M0⟩
        · unfold f_X10_share f_X10_share_31
          rw [L.r0, Option.bind_some, L.s0, Option.bind_some, x_hasLink S.1.2.1 (by omega), Option.bind_some, if_neg (fun z => bI_0.mp z c2), if_neg (by rw [zlt, e0]; omega), if_neg (by rw [zlt, e1]; omega)]
          dsimp only
          rw [x_sentNo w X c1, Option.bind_some, if_pos rfl]
        · unfold f_X11_share f_X11_share_32
          rw [lt_def, m_isNode mL mS.1 wN, Option.bind_some, if_pos (bI_0.mpr c1)]
    · refine ⟨-1, hx, sI hm 0 0 0, ?_, ?_, a, w, X, M0⟩
      · unfold f_X10_share f_X10_share_31
        rw [L.r0, Option.bind_some, L.s0, Option.bind_some, x_hasLink S.1.2.1 (by omega), Option.bind_some, if_neg (fun z => bI_0.mp z c2)]
        by_cases q : x3 < 0
        · rw [if_pos q]
        · rw [if_neg q, if_pos (by rw [zlt, e0] at q; rw [zlt, e1]; omega)]
      · unfold f_X11_share f_X11_share_32
        rw [lt_def, m_isNode mL mS.1 wN, Option.bind_some]
        by_cases c1 : 0 ≤ x1.toInt ∧ x1.toInt < nN (sN (aS a))
        · rw [if_neg (fun z => bI_0.mp z c1)]
          dsimp only
          rw [m_isLink mL mS.1 wN, Option.bind_some, if_neg (fun z => bI_0.mp z c2)]
          dsimp only
          rw [m_inL (l := 0) (k := 1) rfl rfl, Option.bind_some, if_pos (bI_0.mpr (by omega))]
        · rw [if_pos (bI_0.mpr c1)]
  · refine ⟨-1, hx, sI hm 0 0 0, ?_, ?_, a, w, X, M0⟩
    · unfold f_X10_share f_X10_share_31
      rw [L.r0, Option.bind_some, L.s0, Option.bind_some, x_hasLink S.1.2.1 (by omega), Option.bind_some, if_pos (bI_0.mpr c2)]
    · unfold f_X11_share f_X11_share_32
      rw [lt_def, m_isNode mL mS.1 wN, Option.bind_some]
      by_cases c1 : 0 ≤ x1.toInt ∧ x1.toInt < nN (sN (aS a))
      · rw [if_neg (fun z => bI_0.mp z c1)]
        dsimp only
        rw [m_isLink mL mS.1 wN, Option.bind_some, if_pos (bI_0.mpr c2)]
      · rw [if_pos (bI_0.mpr c1)]
