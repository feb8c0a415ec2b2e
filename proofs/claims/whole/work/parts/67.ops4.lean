theorem ok_state : J_state RR := by
  rintro x1 x2 hx hm hx2 ⟨a, w, X, M⟩
  obtain ⟨L, S, K, D, A, I, P, F, C⟩ := XR_iff.mp X
  obtain ⟨mL, mS, mK', mD, mA', mI', mP', mF', mC'⟩ := MR_iff.mp (M.told (v := 0))
  have wN := w.1.1
  have hm30 := wN.2.2.1
  obtain ⟨xn0, xn1, xn2, xn3, xn4⟩ := S.1
  have eh := x_hasLink (x := x1) xn1 (by omega)
  have el := m_isLink mL mS.1 wN (x := x1)
  by_cases c : 0 ≤ x1.toInt ∧ x1.toInt < nM (sN (aS a))
  · obtain ⟨l, hl, rfl⟩ := ofZ c.1 c.2
    obtain ⟨hx1, ex, X1, e12⟩ := x_beginAct w X
    obtain ⟨hm1, em, M1, e7⟩ := m_keepsAct w (M.told (v := 0))
    obtain ⟨L1, S1, K1, D1, A1, I1, P1, F1, C1⟩ := XR_iff.mp X1
    obtain ⟨mL1, mS1, mK1, mD1, mA1, mI1, mP1, mF1, mC1⟩ := MR_iff.mp M1
    have eS : aS (act a) = aS a := rfl
    rw [eS] at S1 mS1
    have eu := x_isUp xn1 xn2 hm30 hl
    have es := x_setUp (h := hx1) (a := 2) (U := nU (sN (aS a))) (x2 := x2) hl (by omega) (fun i hi hne => by rw [S1.1.2.2.1, bit_setF (by omega)])
    have sx : XS (sI hx1 2 2 (setF (fun j => if j = l then decide (x2 ≠ 0) else nU (sN (aS a)) j) (nM (sN (aS a))))) 1 (stN (aS a) (tUp (sN (aS a)) l (decide (x2 ≠ 0)))) := by
      refine XS.net (h := hx1) (fun j hj hj' => gI_sI_f (by omega)) (XN.net (h := hx1) (t := sN (aS a)) (gI_sI_f (by decide)) (gI_sI_f (by decide)) (gI_sI_f (by decide)) ?_ ?_ ?_ (fun j hj => ⟨?_, ?_, ?_⟩) S1.1) S1
      · rw [gI_sI_nk (by decide)]; exact S1.1.1
      · rw [gI_sI_nk (by decide)]; exact S1.1.2.1
      · rw [gI_s]; rfl
      · rw [gI_sI_ne (by decide)]; exact (S1.1.2.2.2.1 j hj).1
      · rw [gI_sI_ne (by decide)]; exact (S1.1.2.2.2.1 j hj).2.1
      · rw [gI_sI_ne (by decide)]; exact (S1.1.2.2.2.1 j hj).2.2
    have sm : MS (gI (sI hm1 1 (92 + l) (if x2 = 0 then 1 else 0)) 1) (stN (aS a) (tUp (sN (aS a)) l (decide (x2 ≠ 0)))) := by
      refine MS.net (g := gI hm1 1) (fun j hj => gI_sI_nk (by omega)) ⟨?_, ?_, fun j hj => ⟨?_, ?_, ?_, ?_⟩⟩ mS1
      · rw [gI_sI_nk (by omega)]; exact mS1.1.1
      · rw [gI_sI_nk (by omega)]; exact mS1.1.2.1
      all_goals have hj : j < nM (sN (aS a)) := hj
      · rw [gI_sI_nk (by omega)]; exact (mS1.1.2.2 j hj).1
      · rw [gI_sI_nk (by omega)]; exact (mS1.1.2.2 j hj).2.1
      · rw [gI_sI_nk (by omega)]; exact (mS1.1.2.2 j hj).2.2.1
      · show gI (sI hm1 1 (92 + l) (if x2 = 0 then 1 else 0)) 1 (92 + j) = if (if j = l then decide (x2 ≠ 0) else nU (sN (aS a)) j) = true then 0 else 1
        by_cases q : j = l
        · rw [if_pos q, q, gI_s]
          by_cases q2 : x2 = 0
          · rw [if_pos q2, if_neg (by simp [q2])]
          · rw [if_neg q2, if_pos (by simp [q2])]
        · rw [if_neg q, gI_sI_nk (by omega)]; exact (mS1.1.2.2 j hj).2.2.2
    refine ⟨bI (nU (sN (aS a)) l = true), _, sI hm1 1 (92 + l) (if x2 = 0 then 1 else 0), ?_, ?_, setS (act a) (stN (aS a) (tUp (sN (aS a)) l (decide (x2 ≠ 0)))), w.act.st (w.1.net wN rfl (Nat.le_refl _) (fun _ _ => ⟨rfl, rfl⟩)), X1.st (Y := [2]) (frm.sI (by simp) frm.rf) (by simp) sx e12, M1.st (frm.sI (by simp) frm.rf) sm e7⟩
    · unfold f_X10_state f_X10_state_31
      rw [L.r0, Option.bind_some, L.s0, Option.bind_some, eh, Option.bind_some, if_neg (fun q => bI_0.mp q c)]
      dsimp only
      rw [eu, Option.bind_some]
      dsimp only
      by_cases q : nU (sN (aS a)) l = true
      · rw [if_neg (fun z => bI_0.mp z q), ex, Option.bind_some, es, Option.bind_some]; unfold bI; rw [if_pos q]
      · rw [if_pos (bI_0.mpr q), ex, Option.bind_some, es, Option.bind_some]; unfold bI; rw [if_neg q]
    · have e92 : 92 + nI l = nI (92 + l) := nI_add 92 l
      unfold f_X11_state f_X11_state_32 f_X11_state_50
      rw [lt_def, el, Option.bind_some, if_neg (fun q => bI_0.mp q c)]
      dsimp only
      rw [em, Option.bind_some, m_isUp mL1 mS1.1 wN hl, Option.bind_some]
      dsimp only
      by_cases q : nU (sN (aS a)) l = true
      · rw [if_neg (fun z => bI_0.mp z q), mL1.r1, Option.bind_some, e92]; unfold bI; rw [if_pos q]
        by_cases q2 : x2 = 0
        · rw [if_pos q2, if_pos q2, stI_ok (by rw [mL1.n1]; omega) (by omega), Option.bind_some]
        · rw [if_neg q2, if_neg q2, stI_ok (by rw [mL1.n1]; omega) (by omega), Option.bind_some]
      · rw [if_pos (bI_0.mpr q), mL1.r1, Option.bind_some, e92]; unfold bI; rw [if_neg q]
        by_cases q2 : x2 = 0
        · rw [if_pos q2, if_pos q2, stI_ok (by rw [mL1.n1]; omega) (by omega), Option.bind_some]
        · rw [if_neg q2, if_neg q2, stI_ok (by rw [mL1.n1]; omega) (by omega), Option.bind_some]
  · refine ⟨-1, hx, sI hm 0 0 0, ?_, ?_, a, w, X, M.told⟩
    · unfold f_X10_state
      rw [L.r0, Option.bind_some, L.s0, Option.bind_some, eh, Option.bind_some, if_pos (bI_0.mpr c)]
    · unfold f_X11_state
      rw [lt_def, el, Option.bind_some, if_pos (bI_0.mpr c)]
