abbrev plK (K : List Nat) : Prop := ∀ i, i < K.length → K.getD i 0 < 200
theorem x_plain {h : MH} {K : List Nat} (L : XL h) (r : rowIs h 20 K) (hK : stkOK K) : f_X10_canBeBound_26 0 FU 0 h = some (bI (plK K), h) := by
  have h12 := hK.1
  have key : Ev (f_X10_canBeBound_26 0 FU 0 h) (fun q => q = (bI (plK K), h)) := by
    unfold f_X10_canBeBound_26
    refine Ev_FU (fun k p h1 => ∃ i, i + k = K.length ∧ p = nI i ∧ h1 = h ∧ ∀ j, j < i → K.getD j 0 < 200) K.length 0 h (by omega) ⟨0, by omega, rfl, rfl, fun j hj => by omega⟩ ?_
    rintro k p h1 rec ⟨i, hi, rfl, rfl, e1⟩ ih
    unfold f_X10_canBeBound_26b
    rw [L.r1, Option.bind_some, r.1]
    by_cases q : i < K.length
    · have e2 := r.2 i q
      rw [Nat.zero_add] at e2
      have hb : K.getD i 0 < 206 := by rcases hK.2 i q with z | z | z <;> omega
      rw [if_pos (nI_lt q (by omega)), Option.bind_some, x_getN L.stk r h12 (by decide) q, Option.bind_some]
      dsimp only
      by_cases q2 : K.getD i 0 < 200
      · rw [if_pos (show nI (K.getD i 0) < 200 from (nI_ltI (by omega) (by decide)).mpr q2), nI_1]
        refine ih (k - 1) _ _ (by omega) ⟨i + 1, by omega, rfl, rfl, fun j hj => ?_⟩
        by_cases q3 : j = i
        · rw [q3]; exact q2
        · exact e1 j (by omega)
      · rw [if_neg (show ¬ nI (K.getD i 0) < 200 from fun z => q2 ((nI_ltI (by omega) (by decide)).mp z))]
        refine Ev_some ?_
        unfold bI
        rw [if_neg (fun z => q2 (z i q))]
    · rw [if_neg (fun z => q ((nI_ltI (by omega) (by omega)).mp z))]
      refine Ev_some ?_
      unfold bI
      rw [if_pos (fun j hj => e1 j (by omega))]
  obtain ⟨q, e, rfl⟩ := key
  exact e
theorem m_plain {h : MH} {K : List Nat} (L : ML h) (r : mK h K) (hK : stkOK K) : f_X11_isPlain 0 h = some (bI (plK K), h) := by
  have h12 := hK.1
  have key : Ev (f_X11_isPlain 0 h) (fun q => q = (bI (plK K), h)) := by
    unfold f_X11_isPlain f_X11_isPlain_2
    refine Ev_FU (fun k p h1 => ∃ i, i + k = K.length ∧ p = nI i ∧ h1 = h ∧ ∀ j, j < i → K.getD j 0 < 200) K.length 0 h (by omega) ⟨0, by omega, rfl, rfl, fun j hj => by omega⟩ ?_
    rintro k p h1 rec ⟨i, hi, rfl, rfl, e1⟩ ih
    unfold f_X11_isPlain_2b
    rw [r.1]
    by_cases q : i < K.length
    · have e2 := r.2 i q
      rw [Nat.zero_add] at e2
      have hb : K.getD i 0 < 206 := by rcases hK.2 i q with z | z | z <;> omega
      rw [if_pos (nI_lt q (by omega)), L.r5, Option.bind_some, ldI_ok (by rw [L.n3]; omega) (by omega), Option.bind_some, e2]
      by_cases q2 : K.getD i 0 < 200
      · rw [if_pos (show nI (K.getD i 0) < 200 from (nI_ltI (by omega) (by decide)).mpr q2), nI_1]
        refine ih (k - 1) _ _ (by omega) ⟨i + 1, by omega, rfl, rfl, fun j hj => ?_⟩
        by_cases q3 : j = i
        · rw [q3]; exact q2
        · exact e1 j (by omega)
      · rw [if_neg (show ¬ nI (K.getD i 0) < 200 from fun z => q2 ((nI_ltI (by omega) (by decide)).mp z))]
        refine Ev_some ?_
        unfold bI
        rw [if_neg (fun z => q2 (z i q))]
    · rw [if_neg (fun z => q ((nI_ltI (by omega) (by omega)).mp z))]
      refine Ev_some ?_
      unfold bI
      rw [if_pos (fun j hj => e1 j (by omega))]
  obtain ⟨q, e, rfl⟩ := key
  exact e
theorem m_bind78 {h : MH} {K : List Nat} {i : Nat} (L : ML h) (r : mK h K) (hi : i < 6) (hK : K.length ≤ 6) : ∃ h', f_X11_bind_78 0 (nI i) FU 0 h = some (1, h') ∧ frm [1] h h' ∧ lrep (gI h' 1) (134 + 6 * i) K ∧ ∀ j, (j < 134 + 6 * i ∨ 140 + 6 * i ≤ j) → gI h' 1 j = gI h 1 j := by
  have key : Ev (f_X11_bind_78 0 (nI i) FU 0 h) (fun q => q.1 = 1 ∧ frm [1] h q.2 ∧ lrep (gI q.2 1) (134 + 6 * i) K ∧ ∀ j, (j < 134 + 6 * i ∨ 140 + 6 * i ≤ j) → gI q.2 1 j = gI h 1 j) := by
    unfold f_X11_bind_78
    refine Ev_FU (fun k p h1 => ∃ m, m + k = K.length ∧ p = nI m ∧ frm [1] h h1 ∧ (∀ j, j < m → gI h1 1 (134 + 6 * i + j) = nI (K.getD j 0)) ∧ ∀ j, (j < 134 + 6 * i ∨ 140 + 6 * i ≤ j) → gI h1 1 j = gI h 1 j) K.length 0 h (by omega) ⟨0, by omega, rfl, frm.rf, fun j hj => by omega, fun j hj => rfl⟩ ?_
    rintro k p h1 rec ⟨m, hm, rfl, f, e1, e2⟩ ih
    have L1 := L.fr f
    have r1 : mK h1 K := r.fr (by rw [f.1 0 (by simp)]) (f.1 3 (by simp))
    unfold f_X11_bind_78b
    rw [r1.1]
    by_cases q : m < K.length
    · have e3 := r1.2 m q
      rw [Nat.zero_add] at e3
      have e4 : 134 + 6 * nI i + nI m = nI (134 + 6 * i + m) := by
        show nI 134 + nI 6 * nI i + nI m = _
        rw [pk_mul, nI_add, nI_add]
      rw [if_pos (nI_lt q (by omega)), L1.r1, Option.bind_some, L1.r5, Option.bind_some, ldI_ok (by rw [L1.n3]; omega) (by omega), Option.bind_some, e3, e4, stI_ok (by rw [L1.n1]; omega) (by omega), Option.bind_some, nI_1]
      refine ih (k - 1) _ _ (by omega) ⟨m + 1, by omega, rfl, f.sI (by simp), fun j hj => ?_, fun j hj => ?_⟩
      · rw [gI_sI]
        by_cases q' : j = m
        · rw [if_pos ⟨rfl, by omega⟩, q']
        · rw [if_neg (fun z => q' (by omega))]; exact e1 j (by omega)
      · rw [gI_sI_nk (by omega)]; exact e2 j hj
    · rw [if_neg (fun z => q ((nI_ltI (by omega) (by omega)).mp z))]
      exact Ev_some ⟨rfl, f, fun j hj => e1 j (by omega), e2⟩
  obtain ⟨⟨r', h'⟩, e, er, g⟩ := key
  dsimp only at er g
  subst er
  exact ⟨h', e, g⟩
theorem ok_bind : J_bind RR := by
  rintro x1 x2 hx hm ⟨a, w, X, M⟩
  obtain ⟨L, S, K, D, A, I, P, F, C⟩ := XR_iff.mp X
  obtain ⟨mL, mS, mK', mD, mA', mI', mP', mF', mC'⟩ := MR_iff.mp (M.told (v := 0))
  have wN := w.1.1
  have hn10 := wN.2.1
  have hk12 := w.2.1.1
  have eh := x_hasNode (x := x2) S.1.1 (by omega)
  have el := m_isNode mL mS.1 wN (x := x2)
  have ep := x_plain L K w.2.1
  have eq := m_plain mL mK' w.2.1
  have ei : f_X11_isIn 0 (gI (sI hm 0 0 0) 0 6).toInt64 1 6 (sI hm 0 0 0) = some (bI ((1 : Int) ≤ (aK a).length ∧ ((aK a).length : Int) ≤ 6), sI hm 0 0 0) := by
    have := m_inL (h := sI hm 0 0 0) (a := 0) (x := gI (sI hm 0 0 0) 0 6) (lo := 1) (hi := 6) (l := 1) (k := 6) rfl rfl
    rw [mK'.1, nI_toInt (by omega)] at this
    rw [mK'.1]; exact this
  have xc : ∀ (k : Int32 × MH → Option (Int32 × MH)), (f_X10_canBeBound 0 hx).bind k = if 1 ≤ (aK a).length ∧ (aK a).length ≤ 6 then k (bI (plK (aK a)), hx) else k (0, hx) := by
    intro k
    unfold f_X10_canBeBound
    rw [L.r1, Option.bind_some, K.1]
    by_cases c0 : (aK a).length = 0
    · rw [if_pos (show nI (aK a).length = 0 from (nI_eq (b := 0) (by omega) (by decide)).mpr c0), Option.bind_some, if_neg (by omega)]
    · rw [if_neg (show ¬ nI (aK a).length = 0 from fun z => c0 ((nI_eq (b := 0) (by omega) (by decide)).mp z)), Option.bind_some, K.1]
      by_cases c6 : 6 < (aK a).length
      · rw [if_pos (show 6 < nI (aK a).length from (nI_ltI (a := 6) (by decide) (by omega)).mpr c6), Option.bind_some, if_neg (by omega)]
      · rw [if_neg (show ¬ 6 < nI (aK a).length from fun z => c6 ((nI_ltI (a := 6) (by decide) (by omega)).mp z)), ep, Option.bind_some, if_pos (by omega)]
  by_cases c1 : 0 ≤ x1.toInt ∧ x1.toInt < 6
  · by_cases c2 : 0 ≤ x2.toInt ∧ x2.toInt < nN (sN (aS a))
    · by_cases c3 : 1 ≤ (aK a).length ∧ (aK a).length ≤ 6
      · have c3' : (1 : Int) ≤ (aK a).length ∧ ((aK a).length : Int) ≤ 6 := by omega
        by_cases c4 : plK (aK a)
        · obtain ⟨i, hi, rfl⟩ := ofZ (n := 6) c1.1 c1.2
          obtain ⟨u, hu, rfl⟩ := ofZ c2.1 c2.2
          obtain ⟨hx1, ex, X1, e12⟩ := x_beginAct w X
          obtain ⟨hm1, em, M1, e7⟩ := m_keepsAct w (M.told (v := 0))
          obtain ⟨L1, S1, K1, D1, A1, I1, P1, F1, C1⟩ := XR_iff.mp X1
          obtain ⟨mL1, mS1, mK1, mD1, mA1, mI1, mP1, mF1, mC1⟩ := MR_iff.mp M1
          have eS : aS (act a) = aS a := rfl
          have eK : aK (act a) = aK a := rfl
          rw [eS] at S1 mS1
          rw [eK] at K1 mK1
          have f2 : frm [6] hx1 (sI hx1 6 i (nI u)) := frm.sI (by simp) frm.rf
          have L2 : XL (sI hx1 6 i (nI u)) := L1.fr f2 (by decide)
          obtain ⟨hx3, ex3, f3, p1, p2, p3, p4⟩ := x_put L2.rows7 (by decide) (by decide) L2.stk (by decide) (K1.fr (f2.1 _ (by decide)) (f2.1 _ (by decide))) c3.2 hk12 hi (by decide)
          have f4 : frm [1] hm1 (sI (sI hm1 1 (122 + i) (nI (u + 1))) 1 (128 + i) (nI (aK a).length)) := frm.sI (by simp) (frm.sI (by simp) frm.rf)
          have mL2 := mL1.fr f4
          obtain ⟨hm3, em3, f5, l1, l2⟩ := m_bind78 (K := aK a) (i := i) mL2 (mK1.fr (by rw [f4.1 0 (by simp)]) (f4.1 3 (by simp))) hi c3.2
          refine ⟨1, hx3, hm3, ?_, ?_, setS (act a) (stBd (aS a) (updB (sB (aS a)) i (some (u, aK a)))), w.act.st (w.1.bnd (fun q e => ?_)), X1.st (Y := [6, 8, 9]) (frm.tr (f2.up (by simp)) (f3.up (by simp))) (by simp) ?_ e12, M1.st (frm.tr f4 f5) ?_ e7⟩
          · unfold f_X10_bind
            rw [x_isBinding, Option.bind_some, if_neg (fun q => bI_0.mp q c1)]
            dsimp only
            rw [L.r0, Option.bind_some, L.s0, Option.bind_some, eh, Option.bind_some, if_neg (fun q => bI_0.mp q c2)]
            dsimp only
            rw [xc, if_pos c3, if_neg (fun q => bI_0.mp q c4)]
            dsimp only
            rw [ex, Option.bind_some, L1.r0, Option.bind_some, L1.s0, Option.bind_some, L1.n6, Option.bind_some, stI_ok (by rw [L1.z6]; exact hi) (by omega), Option.bind_some, L2.r0, Option.bind_some, L2.s0, Option.bind_some, L2.n7, Option.bind_some, L2.r1, Option.bind_some, ex3, Option.bind_some]
          · have e122 : 122 + nI i = nI (122 + i) := nI_add 122 i
            have e128 : 128 + nI i = nI (128 + i) := nI_add 128 i
            unfold f_X11_bind
            rw [lt_def, m_isBinding, Option.bind_some, if_neg (fun q => bI_0.mp q c1)]
            dsimp only
            rw [el, Option.bind_some, if_neg (fun q => bI_0.mp q c2)]
            dsimp only
            rw [ei, Option.bind_some, if_neg (fun q => bI_0.mp q c3')]
            dsimp only
            rw [eq, Option.bind_some, if_neg (fun q => bI_0.mp q c4)]
            dsimp only
            rw [em, Option.bind_some, mL1.r1, Option.bind_some, e122, nI_1, stI_ok (by rw [mL1.n1]; omega) (by omega), Option.bind_some, gR_sI, mL1.r1, Option.bind_some, gI_sI_ne (by decide), mK1.1, e128, stI_ok (by rw [gN_sI, mL1.n1]; omega) (by omega), Option.bind_some, em3]
          · have e := Option.some.inj e
            subst e
            refine ⟨hu, c3.1, c3.2, fun j hj => ?_⟩
            have := c4 j hj
            rcases w.2.1.2 j hj with z | z | z
            · exact Or.inl z
            · exact Or.inr z
            · exact absurd z.1 (by omega)
          · refine XS.bnd (h := hx1) w.1 (fun k hk k5 k7 k8 => ?_) (fun b hb => ?_) (fun b hb => ?_) (fun j hj => ?_) (fun z => nono z.symm) (fun q e => ?_) S1
            · rw [f3.1 _ (by simp; omega), f2.1 _ (by simp; omega)]
            · rw [f3.1 _ (by simp), gI_sI_nk hb]
            · rw [p3 b hb, gI_sI_ne (by decide)]
            · rw [p4 j hj, gI_sI_ne (by decide)]
            · have e := Option.some.inj e
              subst e
              exact ⟨by rw [f3.1 _ (by simp), gI_s], p1, p2⟩
          · refine MS.bnd (g := gI hm1 1) w.1 hi (fun j j1 j2 j3 => ?_) (fun z => nono z.symm) (fun q e => ?_) mS1
            · rw [l2 j j3, gI_sI_nk j2, gI_sI_nk j1]
            · have e := Option.some.inj e
              subst e
              refine ⟨?_, ?_, l1⟩
              · rw [l2 _ (by omega), gI_sI_nk (by omega), gI_s]
              · rw [l2 _ (by omega), gI_s]
        · refine ⟨0, hx, sI hm 0 0 0, ?_, ?_, a, w, X, M.told⟩
          · unfold f_X10_bind
            rw [x_isBinding, Option.bind_some, if_neg (fun q => bI_0.mp q c1)]
            dsimp only
            rw [L.r0, Option.bind_some, L.s0, Option.bind_some, eh, Option.bind_some, if_neg (fun q => bI_0.mp q c2)]
            dsimp only
            rw [xc, if_pos c3, if_pos (bI_0.mpr c4)]
          · unfold f_X11_bind
            rw [lt_def, m_isBinding, Option.bind_some, if_neg (fun q => bI_0.mp q c1)]
            dsimp only
            rw [el, Option.bind_some, if_neg (fun q => bI_0.mp q c2)]
            dsimp only
            rw [ei, Option.bind_some, if_neg (fun q => bI_0.mp q c3')]
            dsimp only
            rw [eq, Option.bind_some, if_pos (bI_0.mpr c4)]
      · refine ⟨0, hx, sI hm 0 0 0, ?_, ?_, a, w, X, M.told⟩
        · unfold f_X10_bind
          rw [x_isBinding, Option.bind_some, if_neg (fun q => bI_0.mp q c1)]
          dsimp only
          rw [L.r0, Option.bind_some, L.s0, Option.bind_some, eh, Option.bind_some, if_neg (fun q => bI_0.mp q c2)]
          dsimp only
          rw [xc, if_neg c3, if_pos rfl]
        · unfold f_X11_bind
          rw [lt_def, m_isBinding, Option.bind_some, if_neg (fun q => bI_0.mp q c1)]
          dsimp only
          rw [el, Option.bind_some, if_neg (fun q => bI_0.mp q c2)]
          dsimp only
          rw [ei, Option.bind_some, if_pos (bI_0.mpr (fun z => c3 (by omega)))]
    · refine ⟨0, hx, sI hm 0 0 0, ?_, ?_, a, w, X, M.told⟩
      · unfold f_X10_bind
        rw [x_isBinding, Option.bind_some, if_neg (fun q => bI_0.mp q c1)]
        dsimp only
        rw [L.r0, Option.bind_some, L.s0, Option.bind_some, eh, Option.bind_some, if_pos (bI_0.mpr c2)]
      · unfold f_X11_bind
        rw [lt_def, m_isBinding, Option.bind_some, if_neg (fun q => bI_0.mp q c1)]
        dsimp only
        rw [el, Option.bind_some, if_pos (bI_0.mpr c2)]
  · refine ⟨0, hx, sI hm 0 0 0, ?_, ?_, a, w, X, M.told⟩
    · unfold f_X10_bind
      rw [x_isBinding, Option.bind_some, if_pos (bI_0.mpr c1)]
    · unfold f_X11_bind
      rw [lt_def, m_isBinding, Option.bind_some, if_pos (bI_0.mpr c1)]
