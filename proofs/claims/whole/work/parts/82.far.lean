/-! ===== far, paths: from fresh routes (FreshX, FreshM are proved later) ===== -/
def FreshX : Prop := ∀ (h : MH) (a : AB), wfA a → XR h a → ∃ h', f_X10_freshRoutes 0 h = some (169, h') ∧ XR h' a ∧ gI h' 0 12 = 0 ∧ rtIs h' 169 (sN (aS a))
def FreshM : Prop := ∀ (h : MH) (a : AB), wfA a → MR h a → ∃ h', f_X11_laysFar 0 h = some h' ∧ MR h' a ∧ gI h' 0 7 = 1 ∧ farIs h' (sN (aS a))
theorem ix10 (u v : Nat) : nI v * 10 + nI u = nI (10 * v + u) := by
  show nI v * nI 10 + nI u = _
  rw [pk_mul, nI_add, Nat.mul_comm]
theorem ix10' (u v : Nat) : 10 * nI u + nI v = nI (10 * u + v) := by
  show nI 10 * nI u + nI v = _
  rw [pk_mul, nI_add]
theorem ok_far (fX : FreshX) (fM : FreshM) : J_far RR := by
  rintro x1 x2 hx hm ⟨a, w, X, M⟩
  obtain ⟨L, S, K, D, A, I, P, F, C⟩ := XR_iff.mp X
  have M0 := M.told (v := 0)
  obtain ⟨mL, mS, mK', mD, mA', mI', mP', mF', mC'⟩ := MR_iff.mp M0
  have wN := w.1.1
  have hn10 := wN.2.1
  have eh := fun x => x_hasNode (x := x) S.1.1 (by omega)
  have el := fun x => m_isNode mL mS.1 wN (x := x)
  by_cases c1 : 0 ≤ x1.toInt ∧ x1.toInt < nN (sN (aS a))
  · by_cases c2 : 0 ≤ x2.toInt ∧ x2.toInt < nN (sN (aS a))
    · obtain ⟨u, hu, rfl⟩ := ofZ c1.1 c1.2
      obtain ⟨v, hv, rfl⟩ := ofZ c2.1 c2.2
      obtain ⟨hx1, ex, X1, e0, R1⟩ := fX hx a w X
      obtain ⟨hm1, em, M1, e1, R2⟩ := fM _ a w M0
      obtain ⟨L1, -⟩ := XR_iff.mp X1
      obtain ⟨mL1, -⟩ := MR_iff.mp M1
      have d1 : gI hx1 170 (10 * v + u) = nI (dist (sN (aS a)) v u) := (R1 u v hu hv).1
      have d2 : gI hm1 4 (10 * u + v) = nI (dist (sN (aS a)) v u) := (R2 u v hu hv).1
      have g1 : f_X4_distance 169 (nI u) (nI v) hx1 = some (nI (dist (sN (aS a)) v u), hx1) := by
        rw [x_distIn (by omega) (by omega), L1.d169, Option.bind_some, ix10, ldI_ok (by rw [L1.z170]; omega) (by omega), Option.bind_some, d1]
      have g2 : f_X11_far2 0 (nI u) (nI v) hm1 = some (nI (dist (sN (aS a)) v u), hm1) := by
        unfold f_X11_far2
        rw [mL1.r8, Option.bind_some, ix10', ldI_ok (by rw [mL1.n4]; omega) (by omega), Option.bind_some, d2]
      refine ⟨if nI (dist (sN (aS a)) v u) < 1000000 then nI (dist (sN (aS a)) v u) else -1, hx1, hm1, ?_, ?_, a, w, X1, M1⟩
      · unfold f_X10_far
        rw [L.r0, Option.bind_some, L.s0, Option.bind_some, eh, Option.bind_some, if_neg (fun q => bI_0.mp q c1)]
        dsimp only
        rw [L.r0, Option.bind_some, L.s0, Option.bind_some, eh, Option.bind_some, if_neg (fun q => bI_0.mp q c2)]
        dsimp only
        rw [ex, Option.bind_some]
        dsimp only
        rw [g1, Option.bind_some]
        dsimp only
        by_cases q : nI (dist (sN (aS a)) v u) < 1000000
        · rw [if_pos q, if_pos q]
        · rw [if_neg q, if_neg q]
      · unfold f_X11_far
        rw [lt_def, el, Option.bind_some, if_neg (fun q => bI_0.mp q c1)]
        dsimp only
        rw [el, Option.bind_some, if_neg (fun q => bI_0.mp q c2)]
        dsimp only
        rw [em, Option.bind_some, g2, Option.bind_some]
        dsimp only
        by_cases q : nI (dist (sN (aS a)) v u) < 1000000
        · rw [if_pos q, if_pos q, g2, Option.bind_some]
        · rw [if_neg q, if_neg q]
    · refine ⟨-1, hx, sI hm 0 0 0, ?_, ?_, a, w, X, M0⟩
      · unfold f_X10_far
        rw [L.r0, Option.bind_some, L.s0, Option.bind_some, eh, Option.bind_some, if_neg (fun q => bI_0.mp q c1)]
        dsimp only
        rw [L.r0, Option.bind_some, L.s0, Option.bind_some, eh, Option.bind_some, if_pos (bI_0.mpr c2)]
      · unfold f_X11_far
        rw [lt_def, el, Option.bind_some, if_neg (fun q => bI_0.mp q c1)]
        dsimp only
        rw [el, Option.bind_some, if_pos (bI_0.mpr c2)]
  · refine ⟨-1, hx, sI hm 0 0 0, ?_, ?_, a, w, X, M0⟩
    · unfold f_X10_far
      rw [L.r0, Option.bind_some, L.s0, Option.bind_some, eh, Option.bind_some, if_pos (bI_0.mpr c1)]
    · unfold f_X11_far
      rw [lt_def, el, Option.bind_some, if_pos (bI_0.mpr c1)]
theorem ok_paths (fX : FreshX) (fM : FreshM) : J_paths RR := by
  rintro x1 x2 hx hm ⟨a, w, X, M⟩
  obtain ⟨L, S, K, D, A, I, P, F, C⟩ := XR_iff.mp X
  have M0 := M.told (v := 0)
  obtain ⟨mL, mS, mK', mD, mA', mI', mP', mF', mC'⟩ := MR_iff.mp M0
  have wN := w.1.1
  have hn10 := wN.2.1
  have eh := fun x => x_hasNode (x := x) S.1.1 (by omega)
  have el := fun x => m_isNode mL mS.1 wN (x := x)
  by_cases c1 : 0 ≤ x1.toInt ∧ x1.toInt < nN (sN (aS a))
  · by_cases c2 : 0 ≤ x2.toInt ∧ x2.toInt < nN (sN (aS a))
    · obtain ⟨u, hu, rfl⟩ := ofZ c1.1 c1.2
      obtain ⟨v, hv, rfl⟩ := ofZ c2.1 c2.2
      obtain ⟨hx1, ex, X1, e0, R1⟩ := fX hx a w X
      obtain ⟨hm1, em, M1, e1, R2⟩ := fM _ a w M0
      obtain ⟨L1, -⟩ := XR_iff.mp X1
      obtain ⟨mL1, -⟩ := MR_iff.mp M1
      have d1 : gL hx1 171 (10 * v + u) = lN (cnt (sN (aS a)) v u) := (R1 u v hu hv).2
      have d2 : gL hm1 5 (10 * u + v) = lN (cnt (sN (aS a)) v u) := (R2 u v hu hv).2
      have g1 : f_X4_countOf 169 (nI u) (nI v) hx1 = some (lN (cnt (sN (aS a)) v u), hx1) := by
        rw [x_countIn (by omega) (by omega), L1.c169, Option.bind_some, ix10, ldL_ok (by rw [L1.z171]; omega) (by omega), Option.bind_some, d1]
      refine ⟨lN (cnt (sN (aS a)) v u), hx1, hm1, ?_, ?_, a, w, X1, M1⟩
      · unfold f_X10_paths
        rw [L.r0, Option.bind_some, L.s0, Option.bind_some, eh, Option.bind_some, if_neg (fun q => bI_0.mp q c1)]
        dsimp only
        rw [L.r0, Option.bind_some, L.s0, Option.bind_some, eh, Option.bind_some, if_neg (fun q => bI_0.mp q c2)]
        dsimp only
        rw [ex, Option.bind_some]
        dsimp only
        rw [g1, Option.bind_some]
      · unfold f_X11_paths
        rw [lt_def, el, Option.bind_some, if_neg (fun q => bI_0.mp q c1)]
        dsimp only
        rw [el, Option.bind_some, if_neg (fun q => bI_0.mp q c2)]
        dsimp only
        rw [em, Option.bind_some, mL1.r9, Option.bind_some, ix10', ldL_ok (by rw [mL1.n5]; omega) (by omega), Option.bind_some, d2]
    · refine ⟨-1, hx, sI hm 0 0 0, ?_, ?_, a, w, X, M0⟩
      · unfold f_X10_paths f_X10_paths_28
        rw [L.r0, Option.bind_some, L.s0, Option.bind_some, eh, Option.bind_some, if_neg (fun q => bI_0.mp q c1)]
        dsimp only
        rw [L.r0, Option.bind_some, L.s0, Option.bind_some, eh, Option.bind_some, if_pos (bI_0.mpr c2)]
      · unfold f_X11_paths f_X11_paths_21
        rw [lt_def, el, Option.bind_some, if_neg (fun q => bI_0.mp q c1)]
        dsimp only
        rw [el, Option.bind_some, if_pos (bI_0.mpr c2)]
  · refine ⟨-1, hx, sI hm 0 0 0, ?_, ?_, a, w, X, M0⟩
    · unfold f_X10_paths f_X10_paths_28
      rw [L.r0, Option.bind_some, L.s0, Option.bind_some, eh, Option.bind_some, if_pos (bI_0.mpr c1)]
    · unfold f_X11_paths f_X11_paths_21
      rw [lt_def, el, Option.bind_some, if_pos (bI_0.mpr c1)]
