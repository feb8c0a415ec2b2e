theorem x_addLink {h : MH} {a : Nat} {t : NT} {B : Nat → Option (Nat × List Nat)} (A : netAt h a) (X : XN h a t B) (hm : nM t < 30) {x y c : Nat} {x4 : Int32} (hn : nN t ≤ 10) (hx : x < nN t) (hy : y < nN t) : ∃ h', f_X2_addLink a (nI x) (nI y) (nI c) x4 h = some (nI (nM t), h') ∧ frm [a, a + 1, a + 2, a + 3] h h' ∧ XN h' a (tAdd t x y c (decide (x4 ≠ 0))) B := by
  obtain ⟨a3, a4, a5, a6, a7, n1, n2, n3, n4, ar⟩ := A
  let h1 := sI h (a + 1) (nM t) (nI x)
  let h2 := sI h1 (a + 2) (nM t) (nI y)
  let h3 := sI h2 (a + 3) (nM t) (nI c)
  let h4 := sI h3 a 1 (nI (nM t + 1))
  let h5 := sI h4 a 2 (setF (fun j => if j = nM t then decide (x4 ≠ 0) else nU t j) (nM t + 1))
  have f : frm [a, a + 1, a + 2, a + 3] h h5 := frm.sI (by simp) (frm.sI (by simp) (frm.sI (by simp) (frm.sI (by simp) (frm.sI (by simp) frm.rf))))
  have e1 : gI h3 a 1 = nI (nM t) := by
    show gI (sI (sI (sI h (a + 1) (nM t) (nI x)) (a + 2) (nM t) (nI y)) (a + 3) (nM t) (nI c)) a 1 = _
    rw [gI_sI_ne (by omega), gI_sI_ne (by omega), gI_sI_ne (by omega)]; exact X.2.1
  have e2 : gI h4 a 2 = setF (nU t) (nM t) := by
    show gI (sI (sI (sI (sI h (a + 1) (nM t) (nI x)) (a + 2) (nM t) (nI y)) (a + 3) (nM t) (nI c)) a 1 (nI (nM t + 1))) a 2 = _
    rw [gI_sI_nk (by omega), gI_sI_ne (by omega), gI_sI_ne (by omega), gI_sI_ne (by omega)]; exact X.2.2.1
  have es : f_X2_setUp a (nI (nM t)) x4 h4 = some h5 := x_setUp (h := h4) (a := a) (U := nU t) (x2 := x4) (Nat.lt_succ_self _) (by omega) (fun i hi hne => by
    rw [e2, bit_setF (by omega)]
    congr 1
    have : (i < nM t) = (i < nM t + 1) := propext ⟨fun z => by omega, fun z => by omega⟩
    simp only [this])
  refine ⟨h5, ?_, f, XN.net (h := h) (t := t) (f.1 _ (by simp)) (f.1 _ (by simp)) (f.1 _ (by simp)) ?_ ?_ ?_ (fun j hj => ⟨?_, ?_, ?_⟩) X⟩
  · unfold f_X2_addLink
    rw [X.2.1, if_pos (show nI (nM t) < 30 from (nI_ltI (by omega) (by decide)).mpr hm), x_hasNode X.1 (by omega), Option.bind_some]
    dsimp only
    rw [if_neg (fun z => bI_0.mp z (by rw [nI_toInt (by omega)]; omega)), x_hasNode X.1 (by omega), Option.bind_some]
    dsimp only
    rw [if_neg (fun z => bI_0.mp z (by rw [nI_toInt (by omega)]; omega)), X.2.1, lt_def, a3, Option.bind_some, stI_ok (by omega) (by omega), Option.bind_some]
    show ((gR h a 4).bind _) = _
    rw [a4, Option.bind_some, stI_ok (by show _ < gN h (a + 2); omega) (by omega), Option.bind_some]
    show ((gR h a 5).bind _) = _
    rw [a5, Option.bind_some, stI_ok (by show _ < gN h (a + 3); omega) (by omega), Option.bind_some, lt_def]
    show (f_X2_setUp a (nI (nM t)) x4 (sI h3 a 1 (gI h3 a 1 + 1))).bind _ = _
    rw [e1, nI_1]
    show (f_X2_setUp a (nI (nM t)) x4 h4).bind _ = _
    rw [es, Option.bind_some]
  · show gI (sI h4 a 2 _) a 0 = _
    rw [gI_sI_nk (by omega)]
    show gI (sI h3 a 1 _) a 0 = _
    rw [gI_sI_nk (by omega)]
    show gI (sI (sI (sI h (a + 1) (nM t) (nI x)) (a + 2) (nM t) (nI y)) (a + 3) (nM t) (nI c)) a 0 = _
    rw [gI_sI_ne (by omega), gI_sI_ne (by omega), gI_sI_ne (by omega)]; exact X.1
  · show gI (sI h4 a 2 _) a 1 = _
    rw [gI_sI_nk (by omega)]
    exact gI_s _ _ _ _
  · exact gI_s _ _ _ _
  all_goals
    have hj : j < nM t + 1 := hj
    have g : ∀ k, 1 ≤ k → gI h5 (a + k) j = gI h3 (a + k) j := fun k hk => by
      show gI (sI (sI h3 a 1 _) a 2 _) (a + k) j = _
      rw [gI_sI_ne (by omega), gI_sI_ne (by omega)]
  · rw [g 1 (by omega)]
    show gI (sI (sI (sI h (a + 1) (nM t) (nI x)) (a + 2) (nM t) (nI y)) (a + 3) (nM t) (nI c)) (a + 1) j = nI (if j = nM t then x else nF t j)
    rw [gI_sI_ne (by omega), gI_sI_ne (by omega)]
    by_cases q : j = nM t
    · rw [if_pos q, q, gI_s]
    · rw [if_neg q, gI_sI_nk q]; exact (X.2.2.2.1 j (by omega)).1
  · rw [g 2 (by omega)]
    show gI (sI (sI (sI h (a + 1) (nM t) (nI x)) (a + 2) (nM t) (nI y)) (a + 3) (nM t) (nI c)) (a + 2) j = nI (if j = nM t then y else nT t j)
    rw [gI_sI_ne (by omega)]
    by_cases q : j = nM t
    · rw [if_pos q, q, gI_s]
    · rw [if_neg q, gI_sI_nk q, gI_sI_ne (by omega)]; exact (X.2.2.2.1 j (by omega)).2.1
  · rw [g 3 (by omega)]
    show gI (sI (sI (sI h (a + 1) (nM t) (nI x)) (a + 2) (nM t) (nI y)) (a + 3) (nM t) (nI c)) (a + 3) j = nI (if j = nM t then c else nC t j)
    by_cases q : j = nM t
    · rw [if_pos q, q, gI_s]
    · rw [if_neg q, gI_sI_nk q, gI_sI_ne (by omega), gI_sI_ne (by omega)]; exact (X.2.2.2.1 j (by omega)).2.2
theorem m_lays {h : MH} {t : NT} (L : ML h) (N : MN (gI h 1) t) (hm : nM t < 30) {x y c : Nat} {x4 : Int32} : ∃ h', f_X11_lays 0 (nI x) (nI y) (nI c) x4 h = some h' ∧ frm [1] h h' ∧ (∀ j, 122 ≤ j → gI h' 1 j = gI h 1 j) ∧ MN (gI h' 1) (tAdd t x y c (decide (x4 = 0))) := by
  have e2 : 2 + nI (nM t) = nI (2 + nM t) := nI_add 2 _
  have e3 : 32 + nI (nM t) = nI (32 + nM t) := nI_add 32 _
  have e6 : 62 + nI (nM t) = nI (62 + nM t) := nI_add 62 _
  have e9 : 92 + nI (nM t) = nI (92 + nM t) := nI_add 92 _
  have key : ∀ v : Int32, v = (if decide (x4 = 0) = true then 0 else 1) → ∃ h', f_X11_lays_57 0 (nI (nM t)) 1 (nI (92 + nM t)) v (sI (sI (sI h 1 (2 + nM t) (nI x)) 1 (32 + nM t) (nI y)) 1 (62 + nM t) (nI c)) = some h' ∧ frm [1] h h' ∧ (∀ j, 122 ≤ j → gI h' 1 j = gI h 1 j) ∧ MN (gI h' 1) (tAdd t x y c (decide (x4 = 0))) := by
    intro v hv
    refine ⟨sI (sI (sI (sI (sI h 1 (2 + nM t) (nI x)) 1 (32 + nM t) (nI y)) 1 (62 + nM t) (nI c)) 1 (92 + nM t) v) 1 1 (nI (nM t + 1)), ?_, frm.sI (by simp) (frm.sI (by simp) (frm.sI (by simp) (frm.sI (by simp) (frm.sI (by simp) frm.rf)))), fun j hj => ?_, ?_, ?_, fun j hj => ⟨?_, ?_, ?_, ?_⟩⟩
    · unfold f_X11_lays_57
      rw [stI_ok (by show _ < gN h 1; rw [L.n1]; omega) (by omega), Option.bind_some]
      show ((gR h 0 1).bind _) = _
      rw [L.r1, Option.bind_some, nI_1]
      have e1 : ∀ H : MH, gN H = gN h → ∀ z, stI H 1 1 z = some (sI H 1 1 z) := fun H hH z => stI_ok (i := 1) (by rw [hH, L.n1]; omega) (by decide)
      rw [e1 (sI (sI (sI (sI h 1 (2 + nM t) (nI x)) 1 (32 + nM t) (nI y)) 1 (62 + nM t) (nI c)) 1 (92 + nM t) v) rfl, Option.bind_some]
    · rw [gI_sI_nk (by omega), gI_sI_nk (by omega), gI_sI_nk (by omega), gI_sI_nk (by omega), gI_sI_nk (by omega)]
    · rw [gI_sI_nk (by omega), gI_sI_nk (by omega), gI_sI_nk (by omega), gI_sI_nk (by omega), gI_sI_nk (by omega)]; exact N.1
    · exact gI_s _ _ _ _
    all_goals have hj : j < nM t + 1 := hj
    · show _ = nI (if j = nM t then x else nF t j)
      rw [gI_sI_nk (by omega), gI_sI_nk (by omega), gI_sI_nk (by omega), gI_sI_nk (by omega)]
      by_cases q : j = nM t
      · rw [if_pos q, q, gI_s]
      · rw [if_neg q, gI_sI_nk (by omega)]; exact (N.2.2 j (by omega)).1
    · show _ = nI (if j = nM t then y else nT t j)
      rw [gI_sI_nk (by omega), gI_sI_nk (by omega), gI_sI_nk (by omega)]
      by_cases q : j = nM t
      · rw [if_pos q, q, gI_s]
      · rw [if_neg q, gI_sI_nk (by omega), gI_sI_nk (by omega)]; exact (N.2.2 j (by omega)).2.1
    · show _ = nI (if j = nM t then c else nC t j)
      rw [gI_sI_nk (by omega), gI_sI_nk (by omega)]
      by_cases q : j = nM t
      · rw [if_pos q, q, gI_s]
      · rw [if_neg q, gI_sI_nk (by omega), gI_sI_nk (by omega), gI_sI_nk (by omega)]; exact (N.2.2 j (by omega)).2.2.1
    · show _ = if (if j = nM t then decide (x4 = 0) else nU t j) = true then 0 else 1
      rw [gI_sI_nk (by omega)]
      by_cases q : j = nM t
      · rw [if_pos q, q, gI_s, hv]
      · rw [if_neg q, gI_sI_nk (by omega), gI_sI_nk (by omega), gI_sI_nk (by omega), gI_sI_nk (by omega)]; exact (N.2.2 j (by omega)).2.2.2
  unfold f_X11_lays
  rw [m_links L N, Option.bind_some]
  dsimp only
  rw [e2, e3, e6, e9, L.r1, Option.bind_some, stI_ok (by rw [L.n1]; omega) (by omega), Option.bind_some]
  show ∃ h', ((gR h 0 1).bind _) = _ ∧ _
  rw [L.r1, Option.bind_some, stI_ok (by show _ < gN h 1; rw [L.n1]; omega) (by omega), Option.bind_some]
  show ∃ h', ((gR h 0 1).bind _) = _ ∧ _
  rw [L.r1, Option.bind_some, stI_ok (by show _ < gN h 1; rw [L.n1]; omega) (by omega), Option.bind_some]
  show ∃ h', ((gR h 0 1).bind _) = _ ∧ _
  rw [L.r1, Option.bind_some]
  by_cases q : x4 = 0
  · rw [if_pos q]; exact key 0 (by simp [q])
  · rw [if_neg q]; exact key 1 (by simp [q])
theorem wfN.add {t : NT} {x y c : Nat} {v : Bool} (w : wfN t) (hm : nM t < 30) (hx : x < nN t) (hy : y < nN t) (hxy : x ≠ y) (h1 : 1 ≤ c) (h2 : c ≤ 99) : wfN (tAdd t x y c v) := by
  refine ⟨w.1, w.2.1, hm, fun j hj => ?_⟩
  have hj : j < nM t + 1 := hj
  show (if j = nM t then x else nF t j) < nN t ∧ (if j = nM t then y else nT t j) < nN t ∧ (if j = nM t then x else nF t j) ≠ (if j = nM t then y else nT t j) ∧ 1 ≤ (if j = nM t then c else nC t j) ∧ (if j = nM t then c else nC t j) ≤ 99
  by_cases q : j = nM t
  · simp only [if_pos q]; exact ⟨hx, hy, hxy, h1, h2⟩
  · simp only [if_neg q]; exact w.2.2.2 j (by omega)
theorem ok_link : J_link RR := by
  rintro x1 x2 x3 hx hm ⟨a, w, X, M⟩
  obtain ⟨L, S, K, D, A, I, P, F, C⟩ := XR_iff.mp X
  obtain ⟨mL, mS, mK', mD, mA', mI', mP', mF', mC'⟩ := MR_iff.mp (M.told (v := 0))
  have wN := w.1.1
  have hm30 := wN.2.2.1
  have hn10 := wN.2.1
  obtain ⟨xn0, xn1, xn2, xn3, xn4⟩ := S.1
  have eh := fun x => x_hasNode (x := x) xn0 (by omega)
  have el := fun x => m_isNode mL mS.1 wN (x := x)
  have eb : f_X11_isIn 0 x3.toInt64 1 99 (sI hm 0 0 0) = some (bI ((1 : Int) ≤ x3.toInt ∧ x3.toInt ≤ 99), sI hm 0 0 0) := m_inL (l := 1) (k := 99) rfl rfl
  have bad : (¬ (0 ≤ x1.toInt ∧ x1.toInt < nN (sN (aS a))) ∨ ¬ (0 ≤ x2.toInt ∧ x2.toInt < nN (sN (aS a))) ∨ x1 = x2 ∨ ¬ (1 ≤ x3.toInt ∧ x3.toInt ≤ 99) ∨ nM (sN (aS a)) = 30) → f_X10_link 0 x1 x2 x3 hx = some (-1, hx) ∧ f_X11_link 0 x1 x2 x3 hm = some (-1, sI hm 0 0 0) := by
    intro hb
    unfold f_X10_link f_X11_link
    rw [L.r0, Option.bind_some, L.s0, Option.bind_some, eh, Option.bind_some, lt_def, el, Option.bind_some]
    by_cases c1 : 0 ≤ x1.toInt ∧ x1.toInt < nN (sN (aS a))
    · rw [if_neg (fun q => bI_0.mp q c1), if_neg (fun q => bI_0.mp q c1)]
      dsimp only
      rw [eh, Option.bind_some, el, Option.bind_some]
      by_cases c2 : 0 ≤ x2.toInt ∧ x2.toInt < nN (sN (aS a))
      · rw [if_neg (fun q => bI_0.mp q c2), if_neg (fun q => bI_0.mp q c2)]
        by_cases c3 : x1 = x2
        · rw [if_pos c3, if_pos c3]; exact ⟨rfl, rfl⟩
        · rw [if_neg c3, if_neg c3]
          dsimp only
          rw [x_isAmount, Option.bind_some, eb, Option.bind_some]
          by_cases c4 : 1 ≤ x3.toInt ∧ x3.toInt ≤ 99
          · rw [if_neg (fun q => bI_0.mp q c4), if_neg (fun q => bI_0.mp q c4)]
            have c5 : nM (sN (aS a)) = 30 := by
              rcases hb with q | q | q | q | q
              · exact absurd c1 q
              · exact absurd c2 q
              · exact absurd q c3
              · exact absurd c4 q
              · exact q
            dsimp only
            rw [xn1, c5, if_neg (show ¬ nI 30 < 30 from by decide), m_links mL mS.1, Option.bind_some, c5, if_pos (show nI 30 = 30 from rfl)]
            exact ⟨rfl, rfl⟩
          · rw [if_pos (bI_0.mpr c4), if_pos (bI_0.mpr c4)]; exact ⟨rfl, rfl⟩
      · rw [if_pos (bI_0.mpr c2), if_pos (bI_0.mpr c2)]; exact ⟨rfl, rfl⟩
    · rw [if_pos (bI_0.mpr c1), if_pos (bI_0.mpr c1)]; exact ⟨rfl, rfl⟩
  by_cases c1 : 0 ≤ x1.toInt ∧ x1.toInt < nN (sN (aS a))
  · by_cases c2 : 0 ≤ x2.toInt ∧ x2.toInt < nN (sN (aS a))
    · by_cases c3 : x1 = x2
      · exact ⟨-1, hx, sI hm 0 0 0, (bad (by simp [c3])).1, (bad (by simp [c3])).2, a, w, X, M.told⟩
      · by_cases c4 : 1 ≤ x3.toInt ∧ x3.toInt ≤ 99
        · by_cases c5 : nM (sN (aS a)) = 30
          · exact ⟨-1, hx, sI hm 0 0 0, (bad (Or.inr (Or.inr (Or.inr (Or.inr c5))))).1, (bad (Or.inr (Or.inr (Or.inr (Or.inr c5))))).2, a, w, X, M.told⟩
          · obtain ⟨u, hu, rfl⟩ := ofZ c1.1 c1.2
            obtain ⟨v, hv, rfl⟩ := ofZ c2.1 c2.2
            obtain ⟨k, hk, rfl⟩ := ofZ (n := 100) (x := x3) (by omega) (by omega)
            have c4' := c4
            rw [nI_toInt (by omega)] at c4'
            obtain ⟨hx1, ex, X1, e12⟩ := x_beginAct w X
            obtain ⟨hm1, em, M1, e7⟩ := m_keepsAct w (M.told (v := 0))
            obtain ⟨L1, S1, K1, D1, A1, I1, P1, F1, C1⟩ := XR_iff.mp X1
            obtain ⟨mL1, mS1, mK1, mD1, mA1, mI1, mP1, mF1, mC1⟩ := MR_iff.mp M1
            have eS : aS (act a) = aS a := rfl
            rw [eS] at S1 mS1
            obtain ⟨hx2, ex2, fx, nx⟩ := x_addLink (h := hx1) (x := u) (y := v) (c := k) (x4 := 1) L1.nt S1.1 (by omega) wN.2.1 hu hv
            obtain ⟨hm2, em2, fm, gm, nm⟩ := m_lays (h := hm1) (x := u) (y := v) (c := k) (x4 := 0) mL1 mS1.1 (by omega)
            have huv : u ≠ v := fun z => c3 (by rw [z])
            have wt : wfN (tAdd (sN (aS a)) u v k true) := wN.add (by omega) hu hv huv (by omega) (by omega)
            refine ⟨nI (nM (sN (aS a))), hx2, hm2, ?_, ?_, setS (act a) (stN (aS a) (tAdd (sN (aS a)) u v k true)), w.act.st (w.1.net wt rfl (Nat.le_succ _) (fun l hl => ⟨if_neg (by omega), if_neg (by omega)⟩)), X1.st fx (by simp) (XS.net (h := hx1) (fun j hj hj' => fx.1 _ (by simp; omega)) nx S1) e12, M1.st fm (MS.net (g := gI hm1 1) gm nm mS1) e7⟩
            · unfold f_X10_link
              rw [L.r0, Option.bind_some, L.s0, Option.bind_some, eh, Option.bind_some, if_neg (fun q => bI_0.mp q c1)]
              dsimp only
              rw [eh, Option.bind_some, if_neg (fun q => bI_0.mp q c2), if_neg c3]
              dsimp only
              rw [x_isAmount, Option.bind_some, if_neg (fun q => bI_0.mp q c4)]
              dsimp only
              rw [xn1, if_pos (show nI (nM (sN (aS a))) < 30 from (nI_ltI (by omega) (by decide)).mpr (Nat.lt_of_le_of_ne hm30 c5)), ex, Option.bind_some, ex2, Option.bind_some]
            · unfold f_X11_link
              rw [lt_def, el, Option.bind_some, if_neg (fun q => bI_0.mp q c1)]
              dsimp only
              rw [el, Option.bind_some, if_neg (fun q => bI_0.mp q c2), if_neg c3]
              dsimp only
              rw [eb, Option.bind_some, if_neg (fun q => bI_0.mp q c4)]
              dsimp only
              rw [m_links mL mS.1, Option.bind_some, if_neg (show ¬ nI (nM (sN (aS a))) = 30 from fun z => c5 ((nI_eq (by omega) (by decide)).mp z))]
              dsimp only
              rw [em, Option.bind_some, em2, Option.bind_some, m_links (mL1.fr fm) nm, Option.bind_some]
              show some (nI (nM (sN (aS a)) + 1) - 1, hm2) = _
              rw [← nI_1, Int32.add_sub_cancel]
        · exact ⟨-1, hx, sI hm 0 0 0, (bad (Or.inr (Or.inr (Or.inr (Or.inl c4))))).1, (bad (Or.inr (Or.inr (Or.inr (Or.inl c4))))).2, a, w, X, M.told⟩
    · exact ⟨-1, hx, sI hm 0 0 0, (bad (Or.inr (Or.inl c2))).1, (bad (Or.inr (Or.inl c2))).2, a, w, X, M.told⟩
  · exact ⟨-1, hx, sI hm 0 0 0, (bad (Or.inl c1)).1, (bad (Or.inl c1)).2, a, w, X, M.told⟩
