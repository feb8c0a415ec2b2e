theorem ok_keep : J_keep RR := by
  rintro hx hm ⟨a, w, X, M⟩
  obtain ⟨L, S, K, D, A, I, P, F, C⟩ := XR_iff.mp X
  have M0 := M.told (v := 0)
  obtain ⟨mL, mS, mK', mD, mA', mI', mP', mF', mC'⟩ := MR_iff.mp M0
  have hk12 := w.1.2.2.2.1.1
  have hm30 := w.1.1.2.2.1
  have wW := w.1.2.2.2.2
  have hW16 := wW.1
  have e4 : gI hx 1 4 = nI (sK (aS a)).length := S.2.2.1.1
  have rW : rowIs hx 18 (sW (aS a)) := S.2.2.2
  have l290 : ∀ h', ML h' → gI h' 1 290 = nI (sK (aS a)).length → ldI h' 1 290 = some (nI (sK (aS a)).length) := fun h' L' e => by
    rw [show (290 : Int32) = nI 290 from rfl, m_now L' (by omega), e]
  have b1 : ∀ k, k < (sK (aS a)).length → ∀ i, i < ((sK (aS a)).getD k []).length → ((sK (aS a)).getD k []).getD i 0 < 1000 := fun k hk i hi => by
    have := (w.1.2.2.2.1.2 k hk).1.2.1 i hi; omega
  have b2 : ∀ i, i < (sW (aS a)).length → (sW (aS a)).getD i 0 < 1000 := fun i hi => by have := wW.2.1 i hi; omega
  have ex0 : ∀ k, k < (sK (aS a)).length → f_X6_isSame 15 (nI k) 18 hx = some (bI ((sK (aS a)).getD k [] = sW (aS a)), hx) := fun k hk =>
    x_isSame L.rows15 (by decide) (by decide) L.way (by decide) (by omega) (w.1.2.2.2.1.2 k hk).1.1 hW16 (S.2.2.1.2 k hk).1 (S.2.2.1.2 k hk).2 rW (b1 k hk) b2
  have em0 : ∀ k, k < (sK (aS a)).length → f_X11_isKeptAs 0 (nI k) (sI hm 0 0 0) = some (bI ((sK (aS a)).getD k [] = sW (aS a)), sI hm 0 0 0) := fun k hk =>
    m_isKept mL (by omega) (w.1.2.2.2.1.2 k hk).1.1 hW16 (mS.2.2.2.1.2 k hk).1 (mS.2.2.2.1.2 k hk).2 mS.2.2.2.2.1 mS.2.2.2.2.2 (b1 k hk) b2
  by_cases c0 : (sW (aS a)).length = 0
  · refine ⟨-1, hx, sI hm 0 0 0, ?_, ?_, a, w, X, M0⟩
    · unfold f_X10_keep
      rw [L.r0, Option.bind_some, L.s6, Option.bind_some, rW.1, if_pos (show nI (sW (aS a)).length = 0 from (nI_eq (b := 0) (by omega) (by decide)).mpr c0)]
    · unfold f_X11_keep
      rw [lt_def, m_wayLong mL mS.2.2.2.2.1, Option.bind_some, if_pos (show nI (sW (aS a)).length = 0 from (nI_eq (b := 0) (by omega) (by decide)).mpr c0)]
  · -- the two loops, up to their ends
    have lx : ∀ R : Int32 × MH, (∀ p, p < (sK (aS a)).length → (sK (aS a)).getD p [] = sW (aS a) → (∀ j, j < p → ¬ (sK (aS a)).getD j [] = sW (aS a)) → R = (nI p, hx)) → ((∀ p, p < (sK (aS a)).length → ¬ (sK (aS a)).getD p [] = sW (aS a)) → ∀ k, f_X10_keep_19b 0 18 k (nI (sK (aS a)).length) hx = some R) → f_X10_keep 0 hx = some R := by
      intro R h1 h2
      have key : Ev (f_X10_keep_19 0 18 FU 0 hx) (fun q => q = R) := by
        unfold f_X10_keep_19
        refine Ev_FU (fun m p h => ∃ i, i + m = (sK (aS a)).length ∧ p = nI i ∧ h = hx ∧ ∀ j, j < i → ¬ (sK (aS a)).getD j [] = sW (aS a)) (sK (aS a)).length 0 hx (by omega) ⟨0, by omega, rfl, rfl, fun j hj => by omega⟩ ?_
        rintro m p h rec ⟨i, hi, rfl, rfl, e3⟩ ih
        by_cases q : i < (sK (aS a)).length
        · unfold f_X10_keep_19b
          rw [L.r0, Option.bind_some, e4, if_pos (nI_lt q (by omega)), Option.bind_some, L.s5, Option.bind_some, ex0 i q, Option.bind_some]
          by_cases q2 : (sK (aS a)).getD i [] = sW (aS a)
          · rw [if_neg (fun z => bI_0.mp z q2)]
            exact Ev_some (h1 i q q2 e3).symm
          · rw [if_pos (bI_0.mpr q2), nI_1]
            refine ih (m - 1) _ _ (by omega) ⟨i + 1, by omega, rfl, rfl, fun j hj => ?_⟩
            by_cases q3 : j = i
            · rw [q3]; exact q2
            · exact e3 j (by omega)
        · have : i = (sK (aS a)).length := by omega
          subst this
          exact ⟨R, h2 e3 rec, rfl⟩
      obtain ⟨q, e, rfl⟩ := key
      unfold f_X10_keep
      rw [L.r0, Option.bind_some, L.s6, Option.bind_some, rW.1, if_neg (show ¬ nI (sW (aS a)).length = 0 from fun z => c0 ((nI_eq (b := 0) (by omega) (by decide)).mp z)), e]
    have lm : ∀ R : Int32 × MH, (∀ p, p < (sK (aS a)).length → (sK (aS a)).getD p [] = sW (aS a) → (∀ j, j < p → ¬ (sK (aS a)).getD j [] = sW (aS a)) → R = (nI p, sI hm 0 0 0)) → ((∀ p, p < (sK (aS a)).length → ¬ (sK (aS a)).getD p [] = sW (aS a)) → ∀ k, f_X11_keep_16b 0 k (nI (sK (aS a)).length) (sI hm 0 0 0) = some R) → f_X11_keep 0 hm = some R := by
      intro R h1 h2
      have key : Ev (f_X11_keep_16 0 FU 0 (sI hm 0 0 0)) (fun q => q = R) := by
        unfold f_X11_keep_16
        refine Ev_FU (fun m p h => ∃ i, i + m = (sK (aS a)).length ∧ p = nI i ∧ h = sI hm 0 0 0 ∧ ∀ j, j < i → ¬ (sK (aS a)).getD j [] = sW (aS a)) (sK (aS a)).length 0 _ (by omega) ⟨0, by omega, rfl, rfl, fun j hj => by omega⟩ ?_
        rintro m p h rec ⟨i, hi, rfl, rfl, e3⟩ ih
        by_cases q : i < (sK (aS a)).length
        · unfold f_X11_keep_16b
          rw [mL.r1, Option.bind_some, l290 _ mL mS.2.2.2.1.1, Option.bind_some, if_pos (nI_lt q (by omega)), em0 i q, Option.bind_some]
          by_cases q2 : (sK (aS a)).getD i [] = sW (aS a)
          · rw [if_neg (fun z => bI_0.mp z q2)]
            exact Ev_some (h1 i q q2 e3).symm
          · rw [if_pos (bI_0.mpr q2), nI_1]
            refine ih (m - 1) _ _ (by omega) ⟨i + 1, by omega, rfl, rfl, fun j hj => ?_⟩
            by_cases q3 : j = i
            · rw [q3]; exact q2
            · exact e3 j (by omega)
        · have : i = (sK (aS a)).length := by omega
          subst this
          exact ⟨R, h2 e3 rec, rfl⟩
      obtain ⟨q, e, rfl⟩ := key
      unfold f_X11_keep
      rw [lt_def, m_wayLong mL mS.2.2.2.2.1, Option.bind_some, if_neg (show ¬ nI (sW (aS a)).length = 0 from fun z => c0 ((nI_eq (b := 0) (by omega) (by decide)).mp z)), e]
    by_cases c1 : ∃ p, p < (sK (aS a)).length ∧ (sK (aS a)).getD p [] = sW (aS a)
    · obtain ⟨p0, hp0, ep0⟩ := c1
      obtain ⟨p, ep, hp, hq⟩ := least (P := fun p => (sK (aS a)).getD p [] = sW (aS a)) p0 ep0
      have uq : ∀ p', (sK (aS a)).getD p' [] = sW (aS a) → (∀ j, j < p' → ¬ (sK (aS a)).getD j [] = sW (aS a)) → p' = p := fun p' h1 h2 => by
        rcases Nat.lt_trichotomy p' p with z | z | z
        · exact absurd h1 (hq p' z)
        · exact z
        · exact absurd ep (h2 p z)
      refine ⟨nI p, hx, sI hm 0 0 0, lx _ (fun p' h1 h2 h3 => by rw [uq p' h2 h3]) (fun z => absurd ep0 (z p0 hp0)), lm _ (fun p' h1 h2 h3 => by rw [uq p' h2 h3]) (fun z => absurd ep0 (z p0 hp0)), a, w, X, M0⟩
    · have hno : ∀ p, p < (sK (aS a)).length → ¬ (sK (aS a)).getD p [] = sW (aS a) := fun p hp e => c1 ⟨p, hp, e⟩
      by_cases c2 : (sK (aS a)).length = 12
      · refine ⟨-1, hx, sI hm 0 0 0, lx _ (fun p h1 h2 => absurd h2 (hno p h1)) (fun _ k => ?_), lm _ (fun p h1 h2 => absurd h2 (hno p h1)) (fun _ k => ?_), a, w, X, M0⟩
        · unfold f_X10_keep_19b
          rw [L.r0, Option.bind_some, e4, if_neg (nI_nlt (Nat.le_refl _) (by omega)), Option.bind_some, e4, c2, if_neg (show ¬ nI 12 < 12 by decide)]
        · unfold f_X11_keep_16b
          rw [mL.r1, Option.bind_some, l290 _ mL mS.2.2.2.1.1, Option.bind_some, if_neg (nI_nlt (Nat.le_refl _) (by omega)), Option.bind_some, l290 _ mL mS.2.2.2.1.1, Option.bind_some, c2, if_pos (show nI 12 = 12 from rfl)]
      · have c3 : (sK (aS a)).length < 12 := by omega
        obtain ⟨hx1, ex, X1, e12⟩ := x_beginAct w X
        obtain ⟨hm1, em, M1, e7⟩ := m_keepsAct w M0
        obtain ⟨L1, S1, K1, D1, A1, I1, P1, F1, C1⟩ := XR_iff.mp X1
        obtain ⟨mL1, mS1, mK1, mD1, mA1, mI1, mP1, mF1, mC1⟩ := MR_iff.mp M1
        have eS : aS (act a) = aS a := rfl
        rw [eS] at S1 mS1
        have e4' : gI hx1 1 4 = nI (sK (aS a)).length := S1.2.2.1.1
        obtain ⟨hx3, ex3, f3, p1, p2, p3, p4⟩ := x_put L1.rows15 (by decide) (by decide) L1.way (by decide) S1.2.2.2 hW16 hW16 c3 (by decide)
        have f4 : frm [1] hm1 (sI hm1 1 (291 + (sK (aS a)).length) (nI (sW (aS a)).length)) := frm.sI (by simp) frm.rf
        have mL2 := mL1.fr f4
        obtain ⟨hm3, em3, f5, l0, l1, l2⟩ := m_keep81 (W := sW (aS a)) (k := (sK (aS a)).length) mL2 c3 hW16 (by rw [gI_sI_nk (by omega)]; exact mS1.2.2.2.2.1) (mS1.2.2.2.2.2.mv (fun i hi => gI_sI_nk (by omega)))
        have e5 : gI hx3 1 4 = nI (sK (aS a)).length := by rw [f3.1 1 (by decide)]; exact e4'
        refine ⟨nI (sK (aS a)).length, sI hx3 1 4 (nI ((sK (aS a)).length + 1)), hm3, lx _ (fun p h1 h2 => absurd h2 (hno p h1)) (fun _ k => ?_), lm _ (fun p h1 h2 => absurd h2 (hno p h1)) (fun _ k => ?_), setS (act a) (stKe (aS a) (sK (aS a) ++ [sW (aS a)])), w.act.st (w.1.kep c3 wW (by omega)), X1.st (Y := [1, 16, 17]) (frm.sI (by simp) (f3.up (by simp))) (by simp) ?_ e12, M1.st (frm.tr f4 f5) ?_ e7⟩
        · unfold f_X10_keep_19b
          rw [L.r0, Option.bind_some, e4, if_neg (nI_nlt (Nat.le_refl _) (by omega)), Option.bind_some, e4, if_pos (show nI (sK (aS a)).length < 12 from (nI_ltI (by omega) (by decide)).mpr c3), ex, Option.bind_some, L1.r0, Option.bind_some, e4', lt_def, Option.bind_some, L1.s5, Option.bind_some, ex3, Option.bind_some, f3.2.2.1, L1.r0, Option.bind_some, e5, nI_1, lt_def]
        · have e291 : 291 + nI (sK (aS a)).length = nI (291 + (sK (aS a)).length) := nI_add 291 _
          unfold f_X11_keep_16b
          rw [mL.r1, Option.bind_some, l290 _ mL mS.2.2.2.1.1, Option.bind_some, if_neg (nI_nlt (Nat.le_refl _) (by omega)), Option.bind_some, l290 _ mL mS.2.2.2.1.1, Option.bind_some, if_neg (show ¬ nI (sK (aS a)).length = 12 from fun z => c2 ((nI_eq (b := 12) (by omega) (by decide)).mp z)), em, Option.bind_some, mL1.r1, Option.bind_some, m_wayLong mL1 mS1.2.2.2.2.1, Option.bind_some]
          dsimp only
          rw [e291, stI_ok (by rw [mL1.n1]; omega) (by omega), Option.bind_some, em3]
        · refine XS.kep (h := hx1) w.1 (fun k k1 hk k5 k7 => ?_) (gI_s _ _ _ _) (fun b hb => ?_) (fun j hj => ?_) ?_ ?_ S1
          · rw [gI_sI_f (by omega), f3.1 _ (by simp; omega)]
          · rw [gI_sI_ne (by decide)]; exact p3 b hb
          · rw [gI_sI_ne (by decide)]; exact p4 j hj
          · rw [gI_sI_ne (by decide)]; exact p1
          · rw [gI_sI_f (by decide)]; exact p2
        · refine MS.kep (g := gI hm1 1) w.1 c3 (fun j j1 j2 j3 => ?_) l0 ?_ l1 mS1
          · rw [l2 j j1 j3, gI_sI_nk j2]
          · rw [l2 _ (by omega) (by omega), gI_s]
