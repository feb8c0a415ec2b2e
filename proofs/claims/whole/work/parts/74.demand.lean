/-! ===== demand ===== -/
def stD (s : ST) (D : Nat → Option (Nat × Nat × List Nat)) : ST := (s.1, s.2.1, D, s.2.2.2)
theorem XS.dem {h h' : MH} {s : ST} {i : Nat} {v : Option (Nat × Nat × List Nat)} (w : wfS s) (hg : ∀ k, k < 19 → k ≠ 9 → k ≠ 10 → k ≠ 12 → k ≠ 13 → gI h' (1 + k) = gI h (1 + k)) (g9 : ∀ b, b ≠ i → gI h' 10 b = gI h 10 b) (g10 : ∀ b, b ≠ i → gI h' 11 b = gI h 11 b) (g12 : ∀ b, b ≠ i → gI h' 13 b = gI h 13 b) (g13 : ∀ j, j < 12 * i ∨ 12 * i + 12 ≤ j → gI h' 14 j = gI h 14 j) (hn : v = none → gI h' 10 i = -1) (hs : ∀ q, v = some q → gI h' 10 i = nI q.1 ∧ gI h' 11 i = nI q.2.1 ∧ gI h' 13 i = nI q.2.2.length ∧ lrep (gI h' 14) (12 * i) q.2.2) (X : XS h 1 s) : XS h' 1 (stD s (updB (sD s) i v)) := by
  obtain ⟨x1, x2, x3, x4⟩ := X
  have k0 := hg 0 (by omega) (by omega) (by omega) (by omega) (by omega)
  have k15 := hg 15 (by omega) (by omega) (by omega) (by omega) (by omega); have k16 := hg 16 (by omega) (by omega) (by omega) (by omega) (by omega); have k17 := hg 17 (by omega) (by omega) (by omega) (by omega) (by omega); have k18 := hg 18 (by omega) (by omega) (by omega) (by omega) (by omega)
  refine ⟨x1.fr (fun k hk => ?_), fun b hb => ?_, ?_, ?_⟩
  · rw [Nat.add_assoc]; exact hg (1 + k) (by omega) (by omega) (by omega) (by omega) (by omega)
  · show ((if b = i then v else sD s b) = none → gI h' 10 b = -1) ∧ ∀ q, (if b = i then v else sD s b) = some q → gI h' 10 b = nI q.1 ∧ gI h' 11 b = nI q.2.1 ∧ gI h' 13 b = nI q.2.2.length ∧ lrep (gI h' 14) (12 * b) q.2.2
    by_cases q : b = i
    · subst q
      rw [if_pos rfl]
      exact ⟨hn, hs⟩
    · rw [if_neg q, g9 b q, g10 b q, g12 b q]
      refine ⟨(x2 b hb).1, fun z hz => ?_⟩
      obtain ⟨y1, y2, y3, y4⟩ := (x2 b hb).2 z hz
      have := (w.2.2.1 b hb z hz).2.2.2.1
      exact ⟨y1, y2, y3, y4.mv (fun j hj => g13 _ (by omega))⟩
  · show gI h' (1 + 0) 4 = _ ∧ _
    rw [k0, k15, k16]; exact x3
  · rw [k17, k18]; exact x4
theorem MS.dem {g g' : Nat → Int32} {s : ST} {i : Nat} {v : Option (Nat × Nat × List Nat)} (w : wfS s) (hi : i < 8) (hg : ∀ j, j ≠ 170 + i → j ≠ 178 + i → j ≠ 186 + i → (j < 194 + 12 * i ∨ 206 + 12 * i ≤ j) → g' j = g j) (hn : v = none → g' (170 + i) = 0) (hs : ∀ q, v = some q → g' (170 + i) = nI (q.1 + 1) ∧ g' (178 + i) = nI q.2.1 ∧ g' (186 + i) = nI q.2.2.length ∧ lrep g' (194 + 12 * i) q.2.2) (X : MS g s) : MS g' (stD s (updB (sD s) i v)) := by
  obtain ⟨⟨n0, n1, n2⟩, x2, x3, x4, x5⟩ := X
  have hm : nM (sN s) ≤ 30 := w.1.2.2.1
  refine ⟨⟨by rw [hg _ (by omega) (by omega) (by omega) (by omega)]; exact n0, by rw [hg _ (by omega) (by omega) (by omega) (by omega)]; exact n1, fun l hl => ?_⟩, fun d hd => ⟨fun e => ?_, fun q e => ?_⟩, fun b hb => ?_, ⟨?_, fun k hk => ?_⟩, ?_, ?_⟩
  · have hl : l < nM (sN s) := hl
    rw [hg _ (by omega) (by omega) (by omega) (by omega), hg _ (by omega) (by omega) (by omega) (by omega), hg _ (by omega) (by omega) (by omega) (by omega), hg _ (by omega) (by omega) (by omega) (by omega)]; exact n2 l hl
  · rw [hg _ (by omega) (by omega) (by omega) (by omega)]; exact (x2 d hd).1 e
  · obtain ⟨y1, y2, y3⟩ := (x2 d hd).2 q e
    have := (w.2.1 d hd q e).2.2.1
    exact ⟨by rw [hg _ (by omega) (by omega) (by omega) (by omega)]; exact y1, by rw [hg _ (by omega) (by omega) (by omega) (by omega)]; exact y2, y3.mv (fun i hi => hg _ (by omega) (by omega) (by omega) (by omega))⟩
  · show ((if b = i then v else sD s b) = none → g' (170 + b) = 0) ∧ ∀ q, (if b = i then v else sD s b) = some q → g' (170 + b) = nI (q.1 + 1) ∧ g' (178 + b) = nI q.2.1 ∧ g' (186 + b) = nI q.2.2.length ∧ lrep g' (194 + 12 * b) q.2.2
    by_cases q : b = i
    · subst q
      rw [if_pos rfl]
      exact ⟨hn, hs⟩
    · rw [if_neg q, hg _ (by omega) (by omega) (by omega) (by omega), hg _ (by omega) (by omega) (by omega) (by omega), hg _ (by omega) (by omega) (by omega) (by omega)]
      refine ⟨(x3 b hb).1, fun z hz => ?_⟩
      obtain ⟨y1, y2, y3, y4⟩ := (x3 b hb).2 z hz
      have := (w.2.2.1 b hb z hz).2.2.2.1
      exact ⟨y1, y2, y3, y4.mv (fun j hj => hg _ (by omega) (by omega) (by omega) (by omega))⟩
  · rw [hg _ (by omega) (by omega) (by omega) (by omega)]; exact x4.1
  · obtain ⟨y1, y2⟩ := x4.2 k hk
    exact ⟨by rw [hg _ (by omega) (by omega) (by omega) (by omega)]; exact y1, y2.mv (fun i hi => hg _ (by omega) (by omega) (by omega) (by omega))⟩
  · rw [hg _ (by omega) (by omega) (by omega) (by omega)]; exact x5.1
  · exact x5.2.mv (fun i hi => hg _ (by omega) (by omega) (by omega) (by omega))
theorem wfS.dem {s : ST} {i : Nat} {v : Option (Nat × Nat × List Nat)} (w : wfS s) (hv : ∀ q, v = some q → q.1 < nN (sN s) ∧ 1 ≤ q.2.1 ∧ q.2.1 ≤ 99 ∧ q.2.2.length ≤ 12 ∧ ∀ i, i < q.2.2.length → isLab (q.2.2.getD i 0)) : wfS (stD s (updB (sD s) i v)) := by
  refine ⟨w.1, w.2.1, fun b hb q hq => ?_, w.2.2.2⟩
  have hq : (if b = i then v else sD s b) = some q := hq
  by_cases z : b = i
  · rw [if_pos z] at hq; exact hv q hq
  · rw [if_neg z] at hq; exact w.2.2.1 b hb q hq
theorem m_demand81 {h : MH} {K : List Nat} {i : Nat} (L : ML h) (r : mK h K) (hi : i < 8) (hK : K.length ≤ 12) : ∃ h', f_X11_demand_81 0 (nI i) FU 0 h = some (1, h') ∧ frm [1] h h' ∧ lrep (gI h' 1) (194 + 12 * i) K ∧ ∀ j, (j < 194 + 12 * i ∨ 206 + 12 * i ≤ j) → gI h' 1 j = gI h 1 j := by
  have key : Ev (f_X11_demand_81 0 (nI i) FU 0 h) (fun q => q.1 = 1 ∧ frm [1] h q.2 ∧ lrep (gI q.2 1) (194 + 12 * i) K ∧ ∀ j, (j < 194 + 12 * i ∨ 206 + 12 * i ≤ j) → gI q.2 1 j = gI h 1 j) := by
    unfold f_X11_demand_81
    refine Ev_FU (fun k p h1 => ∃ m, m + k = K.length ∧ p = nI m ∧ frm [1] h h1 ∧ (∀ j, j < m → gI h1 1 (194 + 12 * i + j) = nI (K.getD j 0)) ∧ ∀ j, (j < 194 + 12 * i ∨ 206 + 12 * i ≤ j) → gI h1 1 j = gI h 1 j) K.length 0 h (by omega) ⟨0, by omega, rfl, frm.rf, fun j hj => by omega, fun j hj => rfl⟩ ?_
    rintro k p h1 rec ⟨m, hm, rfl, f, e1, e2⟩ ih
    have L1 := L.fr f
    have r1 : mK h1 K := r.fr (by rw [f.1 0 (by simp)]) (f.1 3 (by simp))
    unfold f_X11_demand_81b
    rw [r1.1]
    by_cases q : m < K.length
    · have e3 := r1.2 m q
      rw [Nat.zero_add] at e3
      have e4 : 194 + 12 * nI i + nI m = nI (194 + 12 * i + m) := by
        show nI 194 + nI 12 * nI i + nI m = _
        rw [pk_mul, nI_add, nI_add]
      rw [if_pos (nI_lt q (by omega)), L1.r1, Option.bind_some, L1.r5, Option.bind_some, ldI_ok (by rw [L1.n3]; omega) (by omega), Option.bind_some, e3, e4, stI_ok (by rw [L1.n1]; omega) (by omega), Option.bind_some, nI_1]
      refine ih (k - 1) _ _ (by omega) ⟨m + 1, by omega, rfl, f.sI (by simp), fun j hj => ?_, fun j hj => ?_⟩
      · rw [gI_sI]
        by_cases q' : j = m
        · rw [if_pos ⟨rfl, by omega⟩, q']
        · rw [if_neg (fun z => q' (by omega))]; exact e1 j (by omega)
      · rw [gI_sI_nk (by omega)]; exact e2 j hj
    · rw [if_neg (fun z => q ((nI_ltI (by omega) (by omega)).mp z))]
      exact Ev_some ⟨rfl, f, fun j hj => e1 j (by omega), e2⟩
  obtain ⟨⟨r', h'⟩, e, er, g⟩ := key
  dsimp only at er g
  subst er
  exact ⟨h', e, g⟩
theorem ok_demand : J_demand RR := by
  rintro x1 x2 x3 hx hm ⟨a, w, X, M⟩
  obtain ⟨L, S, K, D, A, I, P, F, C⟩ := XR_iff.mp X
  obtain ⟨mL, mS, mK', mD, mA', mI', mP', mF', mC'⟩ := MR_iff.mp (M.told (v := 0))
  have wN := w.1.1
  have hn10 := wN.2.1
  have hk12 := w.2.1.1
  have eh := x_hasNode (x := x2) S.1.1 (by omega)
  have el := m_isNode mL mS.1 wN (x := x2)
  have eb : f_X11_isIn 0 x3.toInt64 1 99 (sI hm 0 0 0) = some (bI ((1 : Int) ≤ x3.toInt ∧ x3.toInt ≤ 99), sI hm 0 0 0) := m_inL (l := 1) (k := 99) rfl rfl
  by_cases c1 : 0 ≤ x1.toInt ∧ x1.toInt < 8
  · by_cases c2 : 0 ≤ x2.toInt ∧ x2.toInt < nN (sN (aS a))
    · by_cases c3 : 1 ≤ x3.toInt ∧ x3.toInt ≤ 99
      · obtain ⟨i, hi, rfl⟩ := ofZ (n := 8) c1.1 c1.2
        obtain ⟨u, hu, rfl⟩ := ofZ c2.1 c2.2
        obtain ⟨k, hk, rfl⟩ := ofZ (n := 100) (x := x3) (by omega) (by omega)
        have c3' := c3
        rw [nI_toInt (by omega)] at c3'
        obtain ⟨hx1, ex, X1, e12⟩ := x_beginAct w X
        obtain ⟨hm1, em, M1, e7⟩ := m_keepsAct w (M.told (v := 0))
        obtain ⟨L1, S1, K1, D1, A1, I1, P1, F1, C1⟩ := XR_iff.mp X1
        obtain ⟨mL1, mS1, mK1, mD1, mA1, mI1, mP1, mF1, mC1⟩ := MR_iff.mp M1
        have eS : aS (act a) = aS a := rfl
        have eK : aK (act a) = aK a := rfl
        rw [eS] at S1 mS1
        rw [eK] at K1 mK1
        have f2 : frm [10, 11] hx1 (sI (sI hx1 10 i (nI u)) 11 i (nI k)) := frm.sI (by simp) (frm.sI (by simp) frm.rf)
        have L2 : XL (sI (sI hx1 10 i (nI u)) 11 i (nI k)) := L1.fr f2 (by decide)
        obtain ⟨hx3, ex3, f3, p1, p2, p3, p4⟩ := x_put L2.rows12 (by decide) (by decide) L2.stk (by decide) (K1.fr (f2.1 _ (by decide)) (f2.1 _ (by decide))) hk12 hk12 hi (by decide)
        have f4 : frm [1] hm1 (sI (sI (sI hm1 1 (170 + i) (nI (u + 1))) 1 (178 + i) (nI k)) 1 (186 + i) (nI (aK a).length)) := frm.sI (by simp) (frm.sI (by simp) (frm.sI (by simp) frm.rf))
        have mL2 := mL1.fr f4
        obtain ⟨hm3, em3, f5, l1, l2⟩ := m_demand81 (K := aK a) (i := i) mL2 (mK1.fr (by rw [f4.1 0 (by simp)]) (f4.1 3 (by simp))) hi hk12
        refine ⟨1, hx3, hm3, ?_, ?_, setS (act a) (stD (aS a) (updB (sD (aS a)) i (some (u, k, aK a)))), w.act.st (w.1.dem (fun q e => ?_)), X1.st (Y := [10, 11, 13, 14]) (frm.tr (f2.up (by simp)) (f3.up (by simp))) (by simp) ?_ e12, M1.st (frm.tr f4 f5) ?_ e7⟩
        · unfold f_X10_demand
          rw [x_isDemand, Option.bind_some, if_neg (fun q => bI_0.mp q c1)]
          dsimp only
          rw [L.r0, Option.bind_some, L.s0, Option.bind_some, eh, Option.bind_some, if_neg (fun q => bI_0.mp q c2)]
          dsimp only
          rw [x_isAmount, Option.bind_some, if_neg (fun q => bI_0.mp q c3)]
          dsimp only
          rw [ex, Option.bind_some, L1.r0, Option.bind_some, L1.s1, Option.bind_some, stI_ok (by rw [L1.z10]; exact hi) (by omega), Option.bind_some, gR_sI, L1.r0, Option.bind_some, L1.s2, Option.bind_some, stI_ok (by rw [gN_sI, L1.z11]; exact hi) (by omega), Option.bind_some, L2.r0, Option.bind_some, L2.s3, Option.bind_some, L2.r1, Option.bind_some, ex3, Option.bind_some]
        · have e170 : 170 + nI i = nI (170 + i) := nI_add 170 i
          have e178 : 178 + nI i = nI (178 + i) := nI_add 178 i
          have e186 : 186 + nI i = nI (186 + i) := nI_add 186 i
          unfold f_X11_demand
          rw [lt_def, m_isDemand, Option.bind_some, if_neg (fun q => bI_0.mp q c1)]
          dsimp only
          rw [el, Option.bind_some, if_neg (fun q => bI_0.mp q c2)]
          dsimp only
          rw [eb, Option.bind_some, if_neg (fun q => bI_0.mp q c3)]
          dsimp only
          rw [em, Option.bind_some, mL1.r1, Option.bind_some, e170, nI_1, stI_ok (by rw [mL1.n1]; omega) (by omega), Option.bind_some, gR_sI, mL1.r1, Option.bind_some, e178, stI_ok (by rw [gN_sI, mL1.n1]; omega) (by omega), Option.bind_some, gR_sI, gR_sI, mL1.r1, Option.bind_some, gI_sI_ne (by decide), gI_sI_ne (by decide), mK1.1, e186, stI_ok (by rw [gN_sI, gN_sI, mL1.n1]; omega) (by omega), Option.bind_some, em3]
        · have e := Option.some.inj e
          subst e
          exact ⟨hu, by show 1 ≤ k; omega, by show k ≤ 99; omega, hk12, w.2.1.2⟩
        · refine XS.dem (h := hx1) w.1 (fun k hk k5 k7 k8 k9 => ?_) (fun b hb => ?_) (fun b hb => ?_) (fun b hb => ?_) (fun j hj => ?_) (fun z => nono z.symm) (fun q e => ?_) S1
          · rw [f3.1 _ (by simp; omega), f2.1 _ (by simp; omega)]
          · rw [f3.1 _ (by simp), gI_sI_ne (by decide), gI_sI_nk hb]
          · rw [f3.1 _ (by simp), gI_sI_nk hb, gI_sI_ne (by decide)]
          · rw [p3 b hb, gI_sI_ne (by decide), gI_sI_ne (by decide)]
          · rw [p4 j hj, gI_sI_ne (by decide), gI_sI_ne (by decide)]
          · have e := Option.some.inj e
            subst e
            exact ⟨by rw [f3.1 _ (by simp), gI_sI_ne (by decide), gI_s], by rw [f3.1 _ (by simp), gI_s], p1, p2⟩
        · refine MS.dem (g := gI hm1 1) w.1 hi (fun j j1 j2 j3 j4 => ?_) (fun z => nono z.symm) (fun q e => ?_) mS1
          · rw [l2 j j4, gI_sI_nk j3, gI_sI_nk j2, gI_sI_nk j1]
          · have e := Option.some.inj e
            subst e
            refine ⟨?_, ?_, ?_, l1⟩
            · rw [l2 _ (by omega), gI_sI_nk (by omega), gI_sI_nk (by omega), gI_s]
            · rw [l2 _ (by omega), gI_sI_nk (by omega), gI_s]
            · rw [l2 _ (by omega), gI_s]
      · refine ⟨0, hx, sI hm 0 0 0, ?_, ?_, a, w, X, M.told⟩
        · unfold f_X10_demand
          rw [x_isDemand, Option.bind_some, if_neg (fun q => bI_0.mp q c1)]
          dsimp only
          rw [L.r0, Option.bind_some, L.s0, Option.bind_some, eh, Option.bind_some, if_neg (fun q => bI_0.mp q c2)]
          dsimp only
          rw [x_isAmount, Option.bind_some, if_pos (bI_0.mpr c3)]
        · unfold f_X11_demand
          rw [lt_def, m_isDemand, Option.bind_some, if_neg (fun q => bI_0.mp q c1)]
          dsimp only
          rw [el, Option.bind_some, if_neg (fun q => bI_0.mp q c2)]
          dsimp only
          rw [eb, Option.bind_some, if_pos (bI_0.mpr c3)]
    · refine ⟨0, hx, sI hm 0 0 0, ?_, ?_, a, w, X, M.told⟩
      · unfold f_X10_demand
        rw [x_isDemand, Option.bind_some, if_neg (fun q => bI_0.mp q c1)]
        dsimp only
        rw [L.r0, Option.bind_some, L.s0, Option.bind_some, eh, Option.bind_some, if_pos (bI_0.mpr c2)]
      · unfold f_X11_demand
        rw [lt_def, m_isDemand, Option.bind_some, if_neg (fun q => bI_0.mp q c1)]
        dsimp only
        rw [el, Option.bind_some, if_pos (bI_0.mpr c2)]
  · refine ⟨0, hx, sI hm 0 0 0, ?_, ?_, a, w, X, M.told⟩
    · unfold f_X10_demand
      rw [x_isDemand, Option.bind_some, if_pos (bI_0.mpr c1)]
    · unfold f_X11_demand
      rw [lt_def, m_isDemand, Option.bind_some, if_pos (bI_0.mpr c1)]
