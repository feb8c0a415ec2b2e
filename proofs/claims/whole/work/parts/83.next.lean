/-! ===== on a shortest way: isOn, next ===== -/
theorem onB_no {t : NT} {v u l : Nat} (h : ¬ onL t v u l) : ¬ onB t v u l = true := fun z => h (onB_iff.mp z)
theorem x_isOn {h : MH} {r a l v : Nat} {t : NT} {B : Nat → Option (Nat × List Nat)} (w : wfN t) (R : rtAt h r 100) (Q : rtIs h r t) (A : netAt h a) (X : XN h a t B) (hl : l < nM t) (hv : v < nN t) : f_X4_isOn r a (nI l) (nI v) h = some (bI (onB t v (nF t l) l = true), h) := by
  have hm30 := w.2.2.1
  have hn10 := w.2.1
  obtain ⟨w1, w2, w3, w4, w5⟩ := w.2.2.2 l hl
  obtain ⟨y1, y2, y3⟩ := X.2.2.2.1 l hl
  have b1 : dist t v (nF t l) ≤ 1000000 := (dist_bel w hv).2.1 _ w1
  have b2 : dist t v (nT t l) ≤ 1000000 := (dist_bel w hv).2.1 _ w2
  have eix : ∀ u, u < nN t → ldI h (r + 1) (nI v * 10 + nI u) = some (nI (dist t v u)) := fun u hu => by
    rw [ix10, ldI_ok (by rw [R.2.2.1]; omega) (by omega), (Q u v hu hv).1]
  unfold f_X4_isOn
  rw [X.2.2.1, lt_def]
  by_cases c1 : nU t l = true
  · rw [if_neg (fun z => by rw [bit_ush (by omega), bit_setF (by omega)] at z; simp [hl, c1] at z), R.1, Option.bind_some, A.1, Option.bind_some, ldI_ok (by rw [A.2.2.2.2.2.1]; omega) (by omega), Option.bind_some, y1, eix _ w1, Option.bind_some]
    by_cases c2 : dist t v (nF t l) < 1000000
    · rw [if_pos (show nI (dist t v (nF t l)) < 1000000 from (nI_ltI (by omega) (by decide)).mpr c2), A.2.2.1, Option.bind_some, ldI_ok (by rw [A.2.2.2.2.2.2.2.1]; omega) (by omega), Option.bind_some, y3, Option.bind_some, A.2.1, Option.bind_some, ldI_ok (by rw [A.2.2.2.2.2.2.1]; omega) (by omega), Option.bind_some, y2, eix _ w2, Option.bind_some, nI_add]
      by_cases c3 : nC t l + dist t v (nT t l) = dist t v (nF t l)
      · rw [if_pos (by rw [c3])]
        unfold bI
        rw [if_pos (onB_iff.mpr ⟨c1, rfl, c2, c3⟩)]
      · rw [if_neg (fun z => c3 (nI_inj (by omega) (by omega) z))]
        unfold bI
        rw [if_neg (onB_no (fun z => c3 z.2.2.2))]
    · rw [if_neg (show ¬ nI (dist t v (nF t l)) < 1000000 from fun z => c2 ((nI_ltI (by omega) (by decide)).mp z))]
      unfold bI
      rw [if_neg (onB_no (fun z => c2 z.2.2.1))]
  · rw [if_pos (by rw [bit_ush (by omega), bit_setF (by omega)]; simp [c1])]
    unfold bI
    rw [if_neg (onB_no (fun z => c1 z.1))]
theorem m_far2 {h : MH} {t : NT} {u v : Nat} (w : wfN t) (L : ML h) (Q : farIs h t) (hu : u < nN t) (hv : v < nN t) : f_X11_far2 0 (nI u) (nI v) h = some (nI (dist t v u), h) := by
  have hn10 := w.2.1
  unfold f_X11_far2
  rw [L.r8, Option.bind_some, ix10', ldI_ok (by rw [L.n4]; omega) (by omega), Option.bind_some, (Q u v hu hv).1]
theorem m_isOn {h : MH} {l u v : Nat} {t : NT} (w : wfN t) (L : ML h) (N : MN (gI h 1) t) (Q : farIs h t) (hl : l < nM t) (hu : u < nN t) (hv : v < nN t) : f_X11_isOn 0 (nI l) (nI u) (nI v) h = some (bI (onB t v u l = true), h) := by
  have hm30 := w.2.2.1
  have hn10 := w.2.1
  obtain ⟨w1, w2, w3, w4, w5⟩ := w.2.2.2 l hl
  have b1 : dist t v u ≤ 1000000 := (dist_bel w hv).2.1 _ hu
  have b2 : dist t v (nT t l) ≤ 1000000 := (dist_bel w hv).2.1 _ w2
  have e0 : dist t v v = 0 := (dist_bel w hv).1
  unfold f_X11_isOn
  rw [m_from L N w hl, Option.bind_some]
  dsimp only
  by_cases c0 : nF t l = u
  · rw [if_pos (by rw [c0]), m_isUp L N w hl, Option.bind_some]
    by_cases c1 : nU t l = true
    · rw [if_neg (fun z => bI_0.mp z c1)]
      dsimp only
      rw [m_far2 w L Q hu hv, Option.bind_some]
      dsimp only
      by_cases c2 : dist t v u < 1000000
      · rw [if_pos (show nI (dist t v u) < 1000000 from (nI_ltI (by omega) (by decide)).mpr c2)]
        by_cases c4 : u = v
        · rw [if_pos (by rw [c4])]
          unfold bI
          rw [if_neg (onB_no (fun z => by have := z.2.2.2; rw [c4, e0] at this; omega))]
        · rw [if_neg (fun z => c4 (nI_inj (by omega) (by omega) z)), m_costOf L N w hl, Option.bind_some]
          dsimp only
          rw [m_to L N w hl, Option.bind_some]
          dsimp only
          rw [m_far2 w L Q w2 hv, Option.bind_some]
          dsimp only
          rw [m_far2 w L Q hu hv, Option.bind_some, nI_add]
          dsimp only
          by_cases c3 : nC t l + dist t v (nT t l) = dist t v u
          · rw [if_pos (by rw [c3])]
            unfold bI
            rw [if_pos (onB_iff.mpr ⟨c1, c0, c2, c3⟩)]
          · rw [if_neg (fun z => c3 (nI_inj (by omega) (by omega) z))]
            unfold bI
            rw [if_neg (onB_no (fun z => c3 z.2.2.2))]
      · rw [if_neg (show ¬ nI (dist t v u) < 1000000 from fun z => c2 ((nI_ltI (by omega) (by decide)).mp z))]
        unfold bI
        rw [if_neg (onB_no (fun z => c2 z.2.2.1))]
    · rw [if_pos (bI_0.mpr c1)]
      unfold bI
      rw [if_neg (onB_no (fun z => c1 z.1))]
  · rw [if_neg (fun z => c0 (nI_inj (by omega) (by omega) z))]
    unfold bI
    rw [if_neg (onB_no (fun z => c0 z.2.1))]
theorem x_onSet {h : MH} {r a u v : Nat} {t : NT} {B : Nat → Option (Nat × List Nat)} (w : wfN t) (R : rtAt h r 100) (Q : rtIs h r t) (A : netAt h a) (X : XN h a t B) (hu : u < nN t) (hv : v < nN t) : f_X4_onSet r a (nI u) (nI v) h = some (setF (onB t v u) (nM t), h) := by
  have hm30 := w.2.2.1
  have hn10 := w.2.1
  have key : Ev (f_X4_onSet r a (nI u) (nI v) h) (fun q => q = (setF (onB t v u) (nM t), h)) := by
    unfold f_X4_onSet f_X4_onSet_6
    refine Ev_FU (fun m p h1 => ∃ i, i + m = nM t ∧ p = (setF (onB t v u) i, nI i) ∧ h1 = h) (nM t) (0, 0) h (by omega) ⟨0, by omega, rfl, rfl⟩ ?_
    rintro m p h1 rec ⟨i, hi, rfl, rfl⟩ ih
    unfold f_X4_onSet_6b f_X4_onSet_46
    dsimp only
    rw [X.2.1]
    by_cases q : i < nM t
    · have w1 := (w.2.2.2 i q).1
      rw [if_pos (nI_lt q (by omega)), A.1, Option.bind_some, ldI_ok (by rw [A.2.2.2.2.2.1]; omega) (by omega), Option.bind_some, (X.2.2.2.1 i q).1, nI_1]
      by_cases c0 : nF t i = u
      · rw [if_pos (by rw [c0]), x_isOn w R Q A X q hv, Option.bind_some, c0]
        by_cases c1 : onB t v u i = true
        · rw [if_neg (fun z => bI_0.mp z c1), lt_def]
          refine ih (m - 1) _ _ (by omega) ⟨i + 1, by omega, ?_, rfl⟩
          show _ = (setF (onB t v u) (i + 1), _)
          rw [setF, if_pos c1]
        · rw [if_pos (bI_0.mpr c1)]
          refine ih (m - 1) _ _ (by omega) ⟨i + 1, by omega, ?_, rfl⟩
          show _ = (setF (onB t v u) (i + 1), _)
          rw [setF, if_neg c1]
      · rw [if_neg (fun z => c0 (nI_inj (by omega) (by omega) z))]
        refine ih (m - 1) _ _ (by omega) ⟨i + 1, by omega, ?_, rfl⟩
        show _ = (setF (onB t v u) (i + 1), _)
        rw [setF, if_neg (onB_no (fun z => c0 z.2.1))]
    · have : i = nM t := by omega
      subst this
      rw [if_neg (nI_nlt (Nat.le_refl _) (by omega))]
      exact Ev_some rfl
  obtain ⟨q, e, rfl⟩ := key
  exact e
theorem m_next32 {h : MH} {u v : Nat} {t : NT} (w : wfN t) (L : ML h) (N : MN (gI h 1) t) (Q : farIs h t) (hu : u < nN t) (hv : v < nN t) : f_X11_next_32 0 (nI u) (nI v) FU (0, 0) h = some (setF (onB t v u) (nM t), h) := by
  have hm30 := w.2.2.1
  have key : Ev (f_X11_next_32 0 (nI u) (nI v) FU (0, 0) h) (fun q => q = (setF (onB t v u) (nM t), h)) := by
    unfold f_X11_next_32
    refine Ev_FU (fun m p h1 => ∃ i, i + m = nM t ∧ p = (setF (onB t v u) i, nI i) ∧ h1 = h) (nM t) (0, 0) h (by omega) ⟨0, by omega, rfl, rfl⟩ ?_
    rintro m p h1 rec ⟨i, hi, rfl, rfl⟩ ih
    unfold f_X11_next_32b f_X11_next_59
    dsimp only
    rw [m_links L N, Option.bind_some]
    dsimp only
    by_cases q : i < nM t
    · rw [if_pos (nI_lt q (by omega)), m_isOn w L N Q q hu hv, Option.bind_some, nI_1]
      by_cases c1 : onB t v u i = true
      · rw [if_neg (fun z => bI_0.mp z c1), lt_def]
        refine ih (m - 1) _ _ (by omega) ⟨i + 1, by omega, ?_, rfl⟩
        show _ = (setF (onB t v u) (i + 1), _)
        rw [setF, if_pos c1]
      · rw [if_pos (bI_0.mpr c1)]
        refine ih (m - 1) _ _ (by omega) ⟨i + 1, by omega, ?_, rfl⟩
        show _ = (setF (onB t v u) (i + 1), _)
        rw [setF, if_neg c1]
    · have : i = nM t := by omega
      subst this
      rw [if_neg (nI_nlt (Nat.le_refl _) (by omega))]
      exact Ev_some rfl
  obtain ⟨q, e, rfl⟩ := key
  exact e
theorem ok_next (fX : FreshX) (fM : FreshM) : J_next RR := by
  rintro x1 x2 hx hm ⟨a, w, X, M⟩
  obtain ⟨L, S, K, D, A, I, P, F, C⟩ := XR_iff.mp X
  have M0 := M.told (v := 0)
  obtain ⟨mL, mS, mK', mD, mA', mI', mP', mF', mC'⟩ := MR_iff.mp M0
  have wN := w.1.1
  have hn10 := wN.2.1
  have eh := fun x => x_hasNode (x := x) S.1.1 (by omega)
  have el := fun x => m_isNode mL mS.1 wN (x := x)
  by_cases c1 : 0 ≤ x1.toInt ∧ x1.toInt < nN (sN (aS a))
  · by_cases c2 : 0 ≤ x2.toInt ∧ x2.toInt < nN (sN (aS a))
    · obtain ⟨u, hu, rfl⟩ := ofZ c1.1 c1.2
      obtain ⟨v, hv, rfl⟩ := ofZ c2.1 c2.2
      obtain ⟨hx1, ex, X1, e0, R1⟩ := fX hx a w X
      obtain ⟨hm1, em, M1, e1, R2⟩ := fM _ a w M0
      obtain ⟨L1, S1, -⟩ := XR_iff.mp X1
      obtain ⟨mL1, mS1, -⟩ := MR_iff.mp M1
      refine ⟨setF (onB (sN (aS a)) v u) (nM (sN (aS a))), hx1, hm1, ?_, ?_, a, w, X1, M1⟩
      · unfold f_X10_next
        rw [L.r0, Option.bind_some, L.s0, Option.bind_some, eh, Option.bind_some, if_neg (fun q => bI_0.mp q c1)]
        dsimp only
        rw [L.r0, Option.bind_some, L.s0, Option.bind_some, eh, Option.bind_some, if_neg (fun q => bI_0.mp q c2)]
        dsimp only
        rw [ex, Option.bind_some]
        dsimp only
        rw [L1.r0, Option.bind_some, L1.s0, Option.bind_some, x_onSet wN L1.rt R1 L1.nt S1.1 hu hv, Option.bind_some]
      · unfold f_X11_next
        rw [lt_def, el, Option.bind_some, if_neg (fun q => bI_0.mp q c1)]
        dsimp only
        rw [el, Option.bind_some, if_neg (fun q => bI_0.mp q c2)]
        dsimp only
        rw [em, Option.bind_some, m_next32 wN mL1 mS1.1 R2 hu hv]
    · refine ⟨0, hx, sI hm 0 0 0, ?_, ?_, a, w, X, M0⟩
      · unfold f_X10_next
        rw [L.r0, Option.bind_some, L.s0, Option.bind_some, eh, Option.bind_some, if_neg (fun q => bI_0.mp q c1)]
        dsimp only
        rw [L.r0, Option.bind_some, L.s0, Option.bind_some, eh, Option.bind_some, if_pos (bI_0.mpr c2)]
      · unfold f_X11_next
        rw [lt_def, el, Option.bind_some, if_neg (fun q => bI_0.mp q c1)]
        dsimp only
        rw [el, Option.bind_some, if_pos (bI_0.mpr c2)]
  · refine ⟨0, hx, sI hm 0 0 0, ?_, ?_, a, w, X, M0⟩
    · unfold f_X10_next
      rw [L.r0, Option.bind_some, L.s0, Option.bind_some, eh, Option.bind_some, if_pos (bI_0.mpr c1)]
    · unfold f_X11_next
      rw [lt_def, el, Option.bind_some, if_pos (bI_0.mpr c1)]
