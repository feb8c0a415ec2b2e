/-! ===== take ===== -/
theorem take_succ' {ls : List Nat} {i : Nat} (h : i < ls.length) : ls.take (i + 1) = ls.take i ++ [ls.getD i 0] := by
  rw [List.take_succ, List.getElem?_eq_getElem h]
  simp [List.getD, List.getElem?_eq_getElem h]
theorem x_copyTo {h : MH} {a c w b w' k : Nat} {ls : List Nat} (A : rowsAt h a c w) (hc : c < 100) (hw : w < 100) (B : rowAt h b w') (hw' : w' < 100) (hk : k < c) (hl : ls.length ≤ w) (hl' : ls.length ≤ w') (e1 : gI h (a + 1) k = nI ls.length) (e2 : lrep (gI h (a + 2)) (w * k) ls) (hab : a ≠ b ∧ a ≠ b + 1 ∧ a + 1 ≠ b ∧ a + 1 ≠ b + 1 ∧ a + 2 ≠ b ∧ a + 2 ≠ b + 1) : ∃ h', f_X6_copyTo a (nI k) b h = some h' ∧ frm [b, b + 1] h h' ∧ rowIs h' b ls := by
  have key : Ev (f_X6_copyTo a (nI k) b h) (fun h' => frm [b, b + 1] h h' ∧ rowIs h' b ls) := by
    unfold f_X6_copyTo f_X6_copyTo_7
    rw [lt_def]
    refine Ev_FU (fun m p h1 => ∃ i, i + m = ls.length ∧ p = nI i ∧ frm [b, b + 1] h h1 ∧ rowIs h1 b (ls.take i)) ls.length 0 _ (by omega) ⟨0, by omega, rfl, frm.sI (by simp) frm.rf, gI_s _ _ _ _, fun i hi => absurd hi (by simp)⟩ ?_
    rintro m p h1 rec ⟨i, hi, rfl, f, r⟩ ih
    have A1 : rowsAt h1 a c w := A.fr f (by simp; omega)
    have B1 : rowAt h1 b w' := B.fr f
    have e1' : gI h1 (a + 1) k = nI ls.length := by rw [f.1 _ (by simp; omega)]; exact e1
    have e2' : lrep (gI h1 (a + 2)) (w * k) ls := by rw [f.1 _ (by simp; omega)]; exact e2
    unfold f_X6_copyTo_7b
    rw [x_sizeOf A1 (by omega) hk, Option.bind_some, e1']
    by_cases q : i < ls.length
    · have ht : (ls.take i).length = i := by rw [List.length_take]; omega
      have e3 := x_rget A1 hc hw hk hl e1' e2' (x := nI i)
      rw [nI_toInt (by omega), if_pos (by omega)] at e3
      obtain ⟨h2, e4, f2, r2⟩ := x_add B1 r (by omega) (by omega) (y := ls.getD i 0)
      rw [if_pos (nI_lt q (by omega))]
      dsimp only
      rw [e3, Option.bind_some]
      dsimp only
      rw [Int.toNat_natCast, e4, Option.bind_some, nI_1]
      refine ih (m - 1) _ _ (by omega) ⟨i + 1, by omega, rfl, frm.tr f f2, ?_⟩
      rw [take_succ' q]; exact r2
    · have : i = ls.length := by omega
      subst this
      rw [if_neg (nI_nlt (Nat.le_refl _) (by omega))]
      rw [List.take_length] at r
      exact Ev_some ⟨f, r⟩
  obtain ⟨h', e, g⟩ := key
  exact ⟨h', e, g⟩
theorem m_take48 {h : MH} {ls : List Nat} {k : Nat} (L : ML h) (hk : k < 12) (hl : ls.length ≤ 16) (e5 : gI h 1 495 = nI ls.length) (e2 : lrep (gI h 1) (303 + 16 * k) ls) : ∃ h', f_X11_take_48 0 (nI k) FU 0 h = some (nI ls.length, h') ∧ frm [1] h h' ∧ lrep (gI h' 1) 496 ls ∧ ∀ j, j < 496 → gI h' 1 j = gI h 1 j := by
  have key : Ev (f_X11_take_48 0 (nI k) FU 0 h) (fun q => q.1 = nI ls.length ∧ frm [1] h q.2 ∧ lrep (gI q.2 1) 496 ls ∧ ∀ j, j < 496 → gI q.2 1 j = gI h 1 j) := by
    unfold f_X11_take_48
    refine Ev_FU (fun m p h1 => ∃ i, i + m = ls.length ∧ p = nI i ∧ frm [1] h h1 ∧ (∀ j, j < i → gI h1 1 (496 + j) = nI (ls.getD j 0)) ∧ ∀ j, j < 496 → gI h1 1 j = gI h 1 j) ls.length 0 h (by omega) ⟨0, by omega, rfl, frm.rf, fun j hj => by omega, fun j hj => rfl⟩ ?_
    rintro m p h1 rec ⟨i, hi, rfl, f, e3, e4⟩ ih
    have L1 := L.fr f
    have e5' : gI h1 1 495 = nI ls.length := by rw [e4 _ (by omega)]; exact e5
    unfold f_X11_take_48b
    rw [m_wayLong L1 e5', Option.bind_some]
    dsimp only
    by_cases q : i < ls.length
    · have e6 : 303 + 16 * nI k + nI i = nI (303 + 16 * k + i) := by
        show nI 303 + nI 16 * nI k + nI i = _
        rw [pk_mul, nI_add, nI_add]
      have e7 : 496 + nI i = nI (496 + i) := nI_add 496 i
      rw [if_pos (nI_lt q (by omega)), L1.r1, Option.bind_some, Option.bind_some, e6, ldI_ok (by rw [L1.n1]; omega) (by omega), Option.bind_some, e7, stI_ok (by rw [L1.n1]; omega) (by omega), Option.bind_some, nI_1, e4 _ (by omega), e2 i q]
      refine ih (m - 1) _ _ (by omega) ⟨i + 1, by omega, rfl, f.sI (by simp), fun j hj => ?_, fun j hj => ?_⟩
      · rw [gI_sI]
        by_cases q' : j = i
        · rw [if_pos ⟨rfl, by omega⟩, q']
        · rw [if_neg (fun z => q' (by omega))]; exact e3 j (by omega)
      · rw [gI_sI_nk (by omega)]; exact e4 j hj
    · rw [if_neg (fun z => q ((nI_ltI (by omega) (by omega)).mp z)), m_wayLong L1 e5', Option.bind_some]
      exact Ev_some ⟨rfl, f, fun j hj => e3 j (by omega), e4⟩
  obtain ⟨⟨r', h'⟩, e, er, g⟩ := key
  dsimp only at er g
  subst er
  exact ⟨h', e, g⟩
theorem ok_take : J_take RR := by
  rintro x1 hx hm ⟨a, w, X, M⟩
  obtain ⟨L, S, K, D, A, I, P, F, C⟩ := XR_iff.mp X
  have M0 := M.told (v := 0)
  obtain ⟨mL, mS, mK', mD, mA', mI', mP', mF', mC'⟩ := MR_iff.mp M0
  have hk12 := w.1.2.2.2.1.1
  have e4 : gI hx 1 4 = nI (sK (aS a)).length := S.2.2.1.1
  have l290 : ldI (sI hm 0 0 0) 1 290 = some (nI (sK (aS a)).length) := by
    rw [show (290 : Int32) = nI 290 from rfl, m_now mL (by omega), mS.2.2.2.1.1]
  have ei := m_inN (h := sI hm 0 0 0) (a := 0) (n := (sK (aS a)).length) (x := x1) (by omega)
  by_cases c : 0 ≤ x1.toInt ∧ x1.toInt < (sK (aS a)).length
  · obtain ⟨k, hk, rfl⟩ := ofZ c.1 c.2
    obtain ⟨y1, y2⟩ := S.2.2.1.2 k hk
    obtain ⟨z1, z2⟩ := mS.2.2.2.1.2 k hk
    have ww := (w.1.2.2.2.1.2 k hk).1
    obtain ⟨hx1, ex, fx, rx⟩ := x_copyTo (ls := (sK (aS a)).getD k []) L.rows15 (by decide) (by decide) L.way (by decide) (by omega) ww.1 ww.1 y1 y2 (by decide)
    have f0 : frm [1] (sI hm 0 0 0) (sI (sI hm 0 0 0) 1 495 (nI ((sK (aS a)).getD k []).length)) := frm.sI (by simp) frm.rf
    have hlen := ww.1
    obtain ⟨hm1, em, fm, lm, gm⟩ := m_take48 (ls := (sK (aS a)).getD k []) (mL.fr f0) (by omega) ww.1 (gI_s _ _ _ _) (z2.mv (fun i hi => gI_sI_nk (by omega)))
    have fz := frm.tr f0 fm
    refine ⟨nI ((sK (aS a)).getD k []).length, hx1, hm1, ?_, ?_, setW a ((sK (aS a)).getD k []), w.way ww, X.way fx rx, MR.way w (mL.fr fz) (fun k _ => by rw [fz.1 0 (by simp)]) (fun j hj => by rw [gm j (by omega), gI_sI_nk (by omega)]) (by rw [gm _ (by omega), gI_s]) lm (fun b hb => fz.1 b (by simp; omega)) (fz.2.1 5 (by simp)) M0⟩
    · unfold f_X10_take
      rw [if_neg (nI_nn (by omega)), L.r0, Option.bind_some, e4, if_pos (nI_lt hk (by omega)), Option.bind_some, L.s5, Option.bind_some, Option.bind_some, L.s6, Option.bind_some, ex, Option.bind_some, fx.2.2.1, L.r0, Option.bind_some, L.s6, Option.bind_some, rx.1]
    · have e291 : 291 + nI k = nI (291 + k) := nI_add 291 k
      have s495 : ∀ v, stI (sI hm 0 0 0) 1 495 v = some (sI (sI hm 0 0 0) 1 495 v) := fun v => stI_ok (i := 495) (by rw [mL.n1]; omega) (by decide)
      unfold f_X11_take
      rw [lt_def, mL.r1, Option.bind_some, l290, Option.bind_some, ei, Option.bind_some, if_neg (fun q => bI_0.mp q c)]
      dsimp only
      rw [mL.r1, Option.bind_some, Option.bind_some, e291, m_now mL (by omega), Option.bind_some, z1, s495, Option.bind_some, em]
  · refine ⟨-1, hx, sI hm 0 0 0, ?_, ?_, a, w, X, M0⟩
    · unfold f_X10_take
      by_cases q : x1 < 0
      · rw [if_pos q]
      · have := ge0 q
        rw [if_neg q, L.r0, Option.bind_some, e4, if_neg]
        rw [zlt, nI_toInt (by omega)]; omega
    · unfold f_X11_take
      rw [lt_def, mL.r1, Option.bind_some, l290, Option.bind_some, ei, Option.bind_some, if_pos (bI_0.mpr c)]
