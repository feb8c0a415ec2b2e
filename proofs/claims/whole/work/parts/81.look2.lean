theorem x_wayStart {h : MH} {s : ST} (L : XL h) (S : XS h 1 s) (w : wfS s) : f_X10_wayStart 0 h = some (if (sW s).length = 0 then -1 else nI (nF (sN s) ((sW s).getD 0 0)), h) := by
  have hw := w.2.2.2.2
  have hm := w.1.2.2.1
  have h16 := hw.1
  have eW : gI h 18 1 = nI (sW s).length := S.2.2.2.1
  unfold f_X10_wayStart
  rw [L.r0, Option.bind_some, L.s0, Option.bind_some, Option.bind_some, L.s6, Option.bind_some]
  show (f_X5_get 18 (nI 0) h).bind _ = _
  by_cases c : (sW s).length = 0
  · rw [if_pos c, x_get L.way S.2.2.2 h16 (by decide), Option.bind_some, if_neg (by rw [c]; decide)]
    show (f_X2_fromOf 2 (-1) h).bind _ = _
    rw [x_fromOf_m1, Option.bind_some]
  · have hl := hw.2.1 0 (by omega)
    rw [if_neg c, x_getN L.way S.2.2.2 h16 (by decide) (by omega), Option.bind_some]
    show (f_X2_fromOf 2 (nI ((sW s).getD 0 0)) h).bind _ = _
    rw [x_fromOf L.nt S.1 hm hl, Option.bind_some]
theorem ok_look : J_look RR := by
  rintro x1 hx hm ⟨a, w, X, M⟩
  obtain ⟨L, S, K, D, A, I, P, F, C⟩ := XR_iff.mp X
  have M0 := M.told (v := 0)
  obtain ⟨mL, mS, mK', mD, mA', mI', mP', mF', mC'⟩ := MR_iff.mp M0
  have wN := w.1.1
  have hm30 := wN.2.2.1
  have hn10 := wN.2.1
  have h16 := w.1.2.2.2.2.1
  have hW := w.1.2.2.2.2
  have s0 : gI hx 2 0 = nI (nN (sN (aS a))) := S.1.1
  have s1 : gI hx 2 1 = nI (nM (sN (aS a))) := S.1.2.1
  have s2 : gI hx 2 2 = setF (nU (sN (aS a))) (nM (sN (aS a))) := S.1.2.2.1
  have sw : gI hx 18 1 = nI (sW (aS a)).length := S.2.2.2.1
  have sk : gI hx 1 4 = nI (sK (aS a)).length := S.2.2.1.1
  have fin : ∀ r, f_X10_look 0 x1 hx = some (r, hx) → f_X11_look 0 x1 hm = some (r, sI hm 0 0 0) → ∃ (r : Int32) (hx' hm' : MH), f_X10_look 0 x1 hx = some (r, hx') ∧ f_X11_look 0 x1 hm = some (r, hm') ∧ RR hx' hm' := fun r e1 e2 => ⟨r, hx, sI hm 0 0 0, e1, e2, a, w, X, M0⟩
  have ub : f_X11_setOf 0 92 (nI (nM (sN (aS a)))) (sI hm 0 0 0) = some (setF (fun l => !nU (sN (aS a)) l) (nM (sN (aS a))), sI hm 0 0 0) := by
    refine m_setOf (o := 92) (B := fun l => !nU (sN (aS a)) l) mL hm30 (by omega) (fun i hi h => ?_) (fun i hi h => ?_)
    · rw [(mS.1.2.2 i hi).2.2.2, if_pos (by simpa using h)]; decide
    · rw [(mS.1.2.2 i hi).2.2.2, if_neg (by simpa using h)]; decide
  have bx : f_X10_setOfThere 6 hx = some (setF (fun b => (sB (aS a) b).isSome) 6, hx) := by
    refine x_setOfThere L.z6 (by omega) (fun i hi h => ?_) (fun i hi h => ?_)
    · cases e : sB (aS a) i with
      | none => exact (S.1.2.2.2.2 i hi).1 e
      | some q => rw [e] at h; exact absurd h (by simp)
    · cases e : sB (aS a) i with
      | none => rw [e] at h; exact absurd h (by simp)
      | some q =>
        have e2 : gI hx 6 i = nI q.1 := ((S.1.2.2.2.2 i hi).2 q e).1
        have := (w.1.2.1 i hi q e).1
        rw [e2]; exact nI_m1 (by omega)
  have bm : f_X11_setOf 0 122 6 (sI hm 0 0 0) = some (setF (fun b => (sB (aS a) b).isSome) 6, sI hm 0 0 0) := by
    refine m_setOf (o := 122) (n := 6) mL (by omega) (by omega) (fun i hi h => ?_) (fun i hi h => ?_)
    · cases e : sB (aS a) i with
      | none => rw [(mS.2.1 i hi).1 e]; decide
      | some q => rw [e] at h; exact absurd h (by simp)
    · cases e : sB (aS a) i with
      | none => rw [e] at h; exact absurd h (by simp)
      | some q =>
        have := (w.1.2.1 i hi q e).1
        rw [((mS.2.1 i hi).2 q e).1]; exact (nI_ltI (a := 0) (by decide) (by omega)).mpr (by omega)
  have dx : f_X10_setOfThere 10 hx = some (setF (fun b => (sD (aS a) b).isSome) 8, hx) := by
    refine x_setOfThere L.z10 (by omega) (fun i hi h => ?_) (fun i hi h => ?_)
    · cases e : sD (aS a) i with
      | none => exact (S.2.1 i hi).1 e
      | some q => rw [e] at h; exact absurd h (by simp)
    · cases e : sD (aS a) i with
      | none => rw [e] at h; exact absurd h (by simp)
      | some q =>
        have e2 : gI hx 10 i = nI q.1 := ((S.2.1 i hi).2 q e).1
        have := (w.1.2.2.1 i hi q e).1
        rw [e2]; exact nI_m1 (by omega)
  have dm : f_X11_setOf 0 170 8 (sI hm 0 0 0) = some (setF (fun b => (sD (aS a) b).isSome) 8, sI hm 0 0 0) := by
    refine m_setOf (o := 170) (n := 8) mL (by omega) (by omega) (fun i hi h => ?_) (fun i hi h => ?_)
    · cases e : sD (aS a) i with
      | none => rw [(mS.2.2.1 i hi).1 e]; decide
      | some q => rw [e] at h; exact absurd h (by simp)
    · cases e : sD (aS a) i with
      | none => rw [e] at h; exact absurd h (by simp)
      | some q =>
        have := (w.1.2.2.1 i hi q e).1
        rw [((mS.2.2.1 i hi).2 q e).1]; exact (nI_ltI (a := 0) (by decide) (by omega)).mpr (by omega)
  have l290 : ldI (sI hm 0 0 0) 1 290 = some (nI (sK (aS a)).length) := by
    rw [show (290 : Int32) = nI 290 from rfl, m_now mL (by omega), mS.2.2.2.1.1]
  have wl := m_wayLong mL mS.2.2.2.2.1
  by_cases c0 : x1 = 0
  · subst c0
    refine fin (nI (nN (sN (aS a)))) ?_ ?_
    · unfold f_X10_look
      rw [if_pos rfl, L.r0, Option.bind_some, L.s0, Option.bind_some, s0]
    · unfold f_X11_look
      rw [lt_def, if_pos rfl, m_n mL mS.1 wN, Option.bind_some]
  by_cases c1 : x1 = 1
  · subst c1
    refine fin (nI (nM (sN (aS a)))) ?_ ?_
    · unfold f_X10_look
      rw [if_neg (by decide), if_pos rfl, L.r0, Option.bind_some, L.s0, Option.bind_some, s1]
    · unfold f_X11_look
      rw [lt_def, if_neg (by decide), if_pos rfl, m_links mL mS.1, Option.bind_some]
  by_cases c2 : x1 = 2
  · subst c2
    refine fin (setF (nU (sN (aS a))) (nM (sN (aS a)))) ?_ ?_
    · unfold f_X10_look
      rw [if_neg (by decide), if_neg (by decide), if_pos rfl, L.r0, Option.bind_some, L.s0, Option.bind_some, s2]
    · unfold f_X11_look
      rw [lt_def, if_neg (by decide), if_neg (by decide), if_pos rfl, m_links mL mS.1, Option.bind_some, m_links mL mS.1, Option.bind_some, ub, Option.bind_some, setF_not hm30]
  by_cases c3 : x1 = 3
  · subst c3
    refine fin (nI (aD a)) ?_ ?_
    · unfold f_X10_look
      rw [if_neg (by decide), if_neg (by decide), if_neg (by decide), if_pos rfl, D]
    · unfold f_X11_look
      rw [lt_def, if_neg (by decide), if_neg (by decide), if_neg (by decide), if_pos rfl, mD]
  by_cases c4 : x1 = 4
  · subst c4
    refine fin (nI (sW (aS a)).length) ?_ ?_
    · unfold f_X10_look
      rw [if_neg (by decide), if_neg (by decide), if_neg (by decide), if_neg (by decide), if_pos rfl, L.r0, Option.bind_some, L.s6, Option.bind_some, sw]
    · unfold f_X11_look
      rw [lt_def, if_neg (by decide), if_neg (by decide), if_neg (by decide), if_neg (by decide), if_pos rfl, wl, Option.bind_some]
  by_cases c5 : x1 = 5
  · subst c5
    refine fin (nI (aK a).length) ?_ ?_
    · unfold f_X10_look
      rw [if_neg (by decide), if_neg (by decide), if_neg (by decide), if_neg (by decide), if_neg (by decide), if_pos rfl, L.r1, Option.bind_some, K.1]
    · unfold f_X11_look
      rw [lt_def, if_neg (by decide), if_neg (by decide), if_neg (by decide), if_neg (by decide), if_neg (by decide), if_pos rfl, mK'.1]
  by_cases c6 : x1 = 6
  · subst c6
    refine fin (setF (fun b => (sB (aS a) b).isSome) 6) ?_ ?_
    · unfold f_X10_look
      rw [if_neg (by decide), if_neg (by decide), if_neg (by decide), if_neg (by decide), if_neg (by decide), if_neg (by decide), if_pos rfl, L.r0, Option.bind_some, L.s0, Option.bind_some, L.n6, Option.bind_some, bx, Option.bind_some]
    · unfold f_X11_look
      rw [lt_def, if_neg (by decide), if_neg (by decide), if_neg (by decide), if_neg (by decide), if_neg (by decide), if_neg (by decide), if_pos rfl, bm, Option.bind_some]
  by_cases c7 : x1 = 7
  · subst c7
    refine fin (setF (fun b => (sD (aS a) b).isSome) 8) ?_ ?_
    · unfold f_X10_look
      rw [if_neg (by decide), if_neg (by decide), if_neg (by decide), if_neg (by decide), if_neg (by decide), if_neg (by decide), if_neg (by decide), if_pos rfl, L.r0, Option.bind_some, L.s1, Option.bind_some, dx, Option.bind_some]
    · unfold f_X11_look
      rw [lt_def, if_neg (by decide), if_neg (by decide), if_neg (by decide), if_neg (by decide), if_neg (by decide), if_neg (by decide), if_neg (by decide), if_pos rfl, dm, Option.bind_some]
  by_cases c8 : x1 = 8
  · subst c8
    refine fin (nI (sK (aS a)).length) ?_ ?_
    · unfold f_X10_look
      rw [if_neg (by decide), if_neg (by decide), if_neg (by decide), if_neg (by decide), if_neg (by decide), if_neg (by decide), if_neg (by decide), if_neg (by decide), if_pos rfl, L.r0, Option.bind_some, sk]
    · unfold f_X11_look
      rw [lt_def, if_neg (by decide), if_neg (by decide), if_neg (by decide), if_neg (by decide), if_neg (by decide), if_neg (by decide), if_neg (by decide), if_neg (by decide), if_pos rfl, mL.r1, Option.bind_some, l290, Option.bind_some]
  by_cases c9 : x1 = 9
  · subst c9
    refine fin (nI (aA a).length) ?_ ?_
    · unfold f_X10_look
      rw [if_neg (by decide), if_neg (by decide), if_neg (by decide), if_neg (by decide), if_neg (by decide), if_neg (by decide), if_neg (by decide), if_neg (by decide), if_neg (by decide), if_pos rfl, L.r3, Option.bind_some, A.1]
    · unfold f_X11_look
      rw [lt_def, if_neg (by decide), if_neg (by decide), if_neg (by decide), if_neg (by decide), if_neg (by decide), if_neg (by decide), if_neg (by decide), if_neg (by decide), if_neg (by decide), if_pos rfl, mA'.1]
  by_cases c10 : x1 = 10
  · subst c10
    refine fin (nI (aP a).length) ?_ ?_
    · unfold f_X10_look
      rw [if_neg (by decide), if_neg (by decide), if_neg (by decide), if_neg (by decide), if_neg (by decide), if_neg (by decide), if_neg (by decide), if_neg (by decide), if_neg (by decide), if_neg (by decide), if_pos rfl, L.r8, Option.bind_some, P.1]
    · unfold f_X11_look
      rw [lt_def, if_neg (by decide), if_neg (by decide), if_neg (by decide), if_neg (by decide), if_neg (by decide), if_neg (by decide), if_neg (by decide), if_neg (by decide), if_neg (by decide), if_neg (by decide), if_pos rfl, mP'.1]
  by_cases c11 : x1 = 11
  · subst c11
    refine fin (csum (sN (aS a)) (sW (aS a)) (sW (aS a)).length) ?_ ?_
    · unfold f_X10_look
      rw [if_neg (by decide), if_neg (by decide), if_neg (by decide), if_neg (by decide), if_neg (by decide), if_neg (by decide), if_neg (by decide), if_neg (by decide), if_neg (by decide), if_neg (by decide), if_neg (by decide), if_pos rfl, L.r0, Option.bind_some, L.s0, Option.bind_some, Option.bind_some, L.s6, Option.bind_some, x_costSum L S w.1, Option.bind_some]
    · unfold f_X11_look
      rw [lt_def, if_neg (by decide), if_neg (by decide), if_neg (by decide), if_neg (by decide), if_neg (by decide), if_neg (by decide), if_neg (by decide), if_neg (by decide), if_neg (by decide), if_neg (by decide), if_neg (by decide), if_pos rfl, m_costSum mL mS w.1, Option.bind_some]
  by_cases c12 : x1 = 12
  · subst c12
    refine fin (if (sW (aS a)).length = 0 then -1 else nI (nF (sN (aS a)) ((sW (aS a)).getD 0 0))) ?_ ?_
    · unfold f_X10_look
      rw [if_neg (by decide), if_neg (by decide), if_neg (by decide), if_neg (by decide), if_neg (by decide), if_neg (by decide), if_neg (by decide), if_neg (by decide), if_neg (by decide), if_neg (by decide), if_neg (by decide), if_neg (by decide), if_pos rfl, x_wayStart L S w.1, Option.bind_some]
    · unfold f_X11_look
      rw [lt_def, if_neg (by decide), if_neg (by decide), if_neg (by decide), if_neg (by decide), if_neg (by decide), if_neg (by decide), if_neg (by decide), if_neg (by decide), if_neg (by decide), if_neg (by decide), if_neg (by decide), if_neg (by decide), if_pos rfl, wl, Option.bind_some]
      by_cases c : (sW (aS a)).length = 0
      · rw [if_pos c, if_pos (show nI (sW (aS a)).length = 0 by rw [c]; rfl)]
      · have l0 : f_X11_wayLink 0 0 (sI hm 0 0 0) = some (nI ((sW (aS a)).getD 0 0), sI hm 0 0 0) := (m_wayLink mL (i := 0) (by omega)).trans (by rw [mS.2.2.2.2.2 0 (by omega)])
        rw [if_neg c, if_neg (nI_ne0 (by omega) (by omega))]
        dsimp only
        rw [l0, Option.bind_some]
        dsimp only
        rw [m_from mL mS.1 wN (hW.2.1 0 (by omega)), Option.bind_some]
  by_cases c13 : x1 = 13
  · subst c13
    refine fin (if (sW (aS a)).length = 0 then -1 else nI (nT (sN (aS a)) ((sW (aS a)).getD ((sW (aS a)).length - 1) 0))) ?_ ?_
    · unfold f_X10_look
      rw [if_neg (by decide), if_neg (by decide), if_neg (by decide), if_neg (by decide), if_neg (by decide), if_neg (by decide), if_neg (by decide), if_neg (by decide), if_neg (by decide), if_neg (by decide), if_neg (by decide), if_neg (by decide), if_neg (by decide), if_pos rfl, x_wayEnd L S w.1, Option.bind_some]
    · unfold f_X11_look
      rw [lt_def, if_neg (by decide), if_neg (by decide), if_neg (by decide), if_neg (by decide), if_neg (by decide), if_neg (by decide), if_neg (by decide), if_neg (by decide), if_neg (by decide), if_neg (by decide), if_neg (by decide), if_neg (by decide), if_neg (by decide), if_pos rfl, wl, Option.bind_some]
      by_cases c : (sW (aS a)).length = 0
      · rw [if_pos c, if_neg (show ¬ 0 < nI (sW (aS a)).length by rw [c]; decide)]
      · have l0 : f_X11_wayLink 0 (nI (sW (aS a)).length - 1) (sI hm 0 0 0) = some (nI ((sW (aS a)).getD ((sW (aS a)).length - 1) 0), sI hm 0 0 0) := by
          show f_X11_wayLink 0 (nI (sW (aS a)).length - nI 1) (sI hm 0 0 0) = _
          rw [pk_sub (by omega), m_wayLink mL (by omega), mS.2.2.2.2.2 _ (by omega)]
        rw [if_neg c, if_pos (show 0 < nI (sW (aS a)).length from (nI_ltI (a := 0) (by decide) (by omega)).mpr (by omega))]
        dsimp only
        rw [wl, Option.bind_some]
        dsimp only
        rw [l0, Option.bind_some]
        dsimp only
        rw [m_to mL mS.1 wN (hW.2.1 _ (by omega)), Option.bind_some]
  refine fin (-1) ?_ ?_
  · unfold f_X10_look
    rw [if_neg c0, if_neg c1, if_neg c2, if_neg c3, if_neg c4, if_neg c5, if_neg c6, if_neg c7, if_neg c8, if_neg c9, if_neg c10, if_neg c11, if_neg c12, if_neg c13]
  · unfold f_X11_look
    rw [lt_def, if_neg c0, if_neg c1, if_neg c2, if_neg c3, if_neg c4, if_neg c5, if_neg c6, if_neg c7, if_neg c8, if_neg c9, if_neg c10, if_neg c11, if_neg c12, if_neg c13]
