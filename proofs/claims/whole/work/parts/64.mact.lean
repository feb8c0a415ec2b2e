theorem MS.cp {g g' : Nat → Int32} {s : ST} (w : wfS s) (hg : ∀ j, j < 512 → g' j = g j) (X : MS g s) : MS g' s := by
  have hw : (sW s).length ≤ 16 := w.2.2.2.2.1
  have X' := MS.way (g' := g') (W := sW s) w (fun j hj => hg j (by omega)) ((hg 495 (by omega)).trans X.2.2.2.2.1) (fun i hi => (hg _ (by omega)).trans (X.2.2.2.2.2 i hi)) X
  exact X'
/-! the reference keeps an act -/
theorem m_copy {h : MH} {a : AB} {A : List ST} (L : ML h) (w : wfS (aS a)) (S : MS (gI h 1) (aS a)) (hA : A.length < 6) (wA : ∀ s, s ∈ A → wfS s) (X : mA h A) : ∃ h', f_X11_keepsAct_45 0 h = some h' ∧ ML h' ∧ mA h' (A ++ [aS a]) ∧ gI h' 0 7 = 0 ∧ (∀ k, k ≠ 3 → k ≠ 7 → gI h' 0 k = gI h 0 k) ∧ ∀ b, b ≠ 0 → b ≠ 2 → gI h' b = gI h b := by
  have key : Ev (f_X11_keepsAct_45 0 h) (fun h' => ∃ h1, h' = sI (sI h1 0 3 (nI (A.length + 1))) 0 7 0 ∧ frm [2] h h1 ∧ (∀ j, j < 512 → gI h1 2 (512 * A.length + j) = gI h 1 j) ∧ ∀ j, j < 512 * A.length → gI h1 2 j = gI h 2 j) := by
    unfold f_X11_keepsAct_45 f_X11_keepsAct_47
    refine Ev_FU (fun k p h1 => ∃ i, i + k = 512 ∧ p = nI i ∧ frm [2] h h1 ∧ (∀ j, j < i → gI h1 2 (512 * A.length + j) = gI h 1 j) ∧ ∀ j, j < 512 * A.length → gI h1 2 j = gI h 2 j) 512 0 h (by omega) ⟨0, by omega, rfl, frm.rf, fun j hj => by omega, fun j hj => rfl⟩ ?_
    rintro k p h1 rec ⟨i, hi, rfl, f, e1, e2⟩ ih
    have L1 := L.fr f
    unfold f_X11_keepsAct_47b
    have hc : gI h1 0 3 = nI A.length := by rw [f.1 0 (by simp)]; exact X.1
    by_cases q : i < 512
    · have e3 : gI h1 0 3 * 512 + nI i = nI (512 * A.length + i) := by
        rw [hc]
        show nI A.length * nI 512 + nI i = _
        rw [pk_mul, nI_add, Nat.mul_comm]
      rw [if_pos (show nI i < 512 from (nI_ltI (by omega) (by decide)).mpr q), L1.r2, Option.bind_some, L1.r1, Option.bind_some, ldI_ok (by rw [L1.n1]; exact q) (by omega), Option.bind_some, e3, stI_ok (by rw [L1.n2]; omega) (by omega), Option.bind_some, nI_1]
      refine ih (k - 1) _ _ (by omega) ⟨i + 1, by omega, rfl, f.sI (by simp), fun j hj => ?_, fun j hj => ?_⟩
      · rw [gI_sI]
        by_cases q' : j = i
        · rw [if_pos ⟨rfl, by omega⟩, q', f.1 1 (by simp)]
        · rw [if_neg (fun z => q' (by omega))]; exact e1 j (by omega)
      · rw [gI_sI_nk (by omega)]; exact e2 j hj
    · rw [if_neg (show ¬ nI i < 512 from fun z => q ((nI_ltI (by omega) (by decide)).mp z)), lt_def, lt_def, hc, nI_1]
      exact Ev_some ⟨h1, rfl, f, fun j hj => e1 j (by omega), e2⟩
  obtain ⟨h', e, h1, rfl, f, e1, e2⟩ := key
  refine ⟨_, e, L.fr (frm.sI (X := [0, 2]) (by simp) (frm.sI (by simp) (f.up (by simp)))), ⟨?_, fun i hi s hs => ?_⟩, gI_s _ _ _ _, fun k k3 k7 => ?_, fun b b0 b2 => ?_⟩
  · rw [gI_sI_nk (by decide), gI_s, List.length_append]; rfl
  · rw [List.length_append] at hi
    have hi : i < A.length + 1 := hi
    rw [gI_sI_f (by decide), gI_sI_f (by decide)]
    by_cases q : i = A.length
    · subst q
      rw [List.getElem?_concat_length] at hs
      have hs := Option.some.inj hs
      rw [← hs]
      exact S.cp w e1
    · rw [List.getElem?_append_left (by omega)] at hs
      refine (X.2 i (by omega) s hs).cp (wA s (List.mem_of_getElem? hs)) (fun j hj => e2 _ ?_)
      omega
  · rw [gI_sI_nk k7, gI_sI_nk k3, f.1 0 (by simp)]
  · rw [gI_sI_f b0, gI_sI_f b0, f.1 b (by simp; exact b2)]
theorem m_keepsAct {h : MH} {a : AB} (w : wfA a) (R : MR h a) : ∃ h', f_X11_keepsAct 0 h = some h' ∧ MR h' (act a) ∧ gI h' 0 7 = 0 := by
  obtain ⟨L, S, K, D, A, I, P, F, C⟩ := MR_iff.mp R
  have fin : ∀ h0, ML h0 → ∀ A' : List ST, A'.length < 6 → (∀ s, s ∈ A' → wfS s) → mA h0 A' → (∀ k, k ≠ 3 → gI h0 0 k = gI h 0 k) → (∀ b, b ≠ 0 → b ≠ 2 → gI h0 b = gI h b) → ∃ h', f_X11_keepsAct_45 0 h0 = some h' ∧ MR h' (a.1, a.2.1, a.2.2.1, A' ++ [aS a], a.2.2.2.2) ∧ gI h' 0 7 = 0 := by
    intro h0 L0 A' hA' wA' X0 z0 zb
    obtain ⟨h', e, L', X, e7, y0, yb⟩ := m_copy (a := a) L0 w.1 (by rw [zb 1 (by decide) (by decide)]; exact S) hA' wA' X0
    have u0 : ∀ k, k ≠ 3 → k ≠ 7 → gI h' 0 k = gI h 0 k := fun k a b => (y0 k a b).trans (z0 k a)
    have ub : ∀ b, b ≠ 0 → b ≠ 2 → gI h' b = gI h b := fun b p q => (yb b p q).trans (zb b p q)
    refine ⟨h', e, MR_iff.mpr ⟨L', ?_, K.fr (u0 6 (by decide) (by decide)) (ub 3 (by decide) (by decide)), ?_, X, I.fr (u0 44 (by decide) (by decide)) (ub 22 (by decide) (by decide)), P.fr (u0 37 (by decide) (by decide)) (ub 20 (by decide) (by decide)), F.fr (u0 38 (by decide) (by decide)) (u0 39 (by decide) (by decide)), Or.inr e7⟩, e7⟩
    · rw [ub 1 (by decide) (by decide)]; exact S
    · rw [u0 4 (by decide) (by decide)]; exact D
  have hlen := w.2.2.2.1.1
  unfold f_X11_keepsAct
  rw [A.1]
  by_cases c : (aA a).length = 6
  · rw [c, if_pos (show nI 6 = 6 from rfl)]
    have key : Ev (f_X11_keepsAct_11 0 FU 0 h) (fun h' => MR h' (act a) ∧ gI h' 0 7 = 0) := by
      unfold f_X11_keepsAct_11
      refine Ev_FU (fun k p h1 => ∃ i, i + k = 2560 ∧ p = nI i ∧ frm [2] h h1 ∧ (∀ j, j < i → gI h1 2 j = gI h 2 (j + 512)) ∧ ∀ j, i ≤ j → gI h1 2 j = gI h 2 j) 2560 0 h (by omega) ⟨0, by omega, rfl, frm.rf, fun j hj => by omega, fun j hj => rfl⟩ ?_
      rintro k p h1 rec ⟨i, hi, rfl, f, e1, e2⟩ ih
      have L1 := L.fr f
      unfold f_X11_keepsAct_11b
      by_cases q : i < 2560
      · have e3 : nI i + 512 = nI (i + 512) := by
          show nI i + nI 512 = _
          rw [nI_add]
        rw [if_pos (show nI i < 2560 from (nI_ltI (by omega) (by decide)).mpr q), L1.r2, Option.bind_some, Option.bind_some, e3, ldI_ok (by rw [L1.n2]; omega) (by omega), Option.bind_some, stI_ok (by rw [L1.n2]; omega) (by omega), Option.bind_some, nI_1]
        refine ih (k - 1) _ _ (by omega) ⟨i + 1, by omega, rfl, f.sI (by simp), fun j hj => ?_, fun j hj => ?_⟩
        · rw [gI_sI]
          by_cases q' : j = i
          · rw [if_pos ⟨rfl, q'⟩, q', e2 _ (by omega)]
          · rw [if_neg (fun z => q' z.2)]; exact e1 j (by omega)
        · rw [gI_sI_nk (by omega)]; exact e2 j (by omega)
      · rw [if_neg (show ¬ nI i < 2560 from fun z => q ((nI_ltI (by omega) (by decide)).mp z)), lt_def]
        have f2 : frm [0, 2] h (sI h1 0 3 5) := frm.sI (by simp) (f.up (by simp))
        have hl5 : ((aA a).drop 1).length = 5 := by rw [List.length_drop]; omega
        obtain ⟨h', e, M, e7⟩ := fin (sI h1 0 3 5) (L.fr f2) ((aA a).drop 1) (by omega) (fun s hs => w.2.2.2.1.2 s (List.mem_of_mem_drop hs)) ⟨by rw [gI_s, hl5]; rfl, fun j hj s hs => by
          rw [List.length_drop] at hj
          rw [List.getElem?_drop, Nat.add_comm] at hs
          refine (A.2 (j + 1) (by omega) s hs).cp (w.2.2.2.1.2 s (List.mem_of_getElem? hs)) (fun m hm => ?_)
          show gI (sI h1 0 3 5) 2 (512 * j + m) = gI h 2 (512 * (j + 1) + m)
          rw [gI_sI_ne (by decide), e1 _ (by omega)]
          congr 1; omega⟩ (fun k hk => by rw [gI_sI_nk hk, f.1 0 (by simp)]) (fun b b0 b2 => by rw [gI_sI_f b0, f.1 b (by simp; exact b2)])
        refine ⟨h', e, ?_, e7⟩
        unfold act pushA
        rw [if_neg (by omega)]
        exact M
    obtain ⟨h', e, M⟩ := key
    exact ⟨h', e, M⟩
  · rw [if_neg (show ¬ nI (aA a).length = 6 from fun z => c ((nI_eq (by omega) (by decide)).mp z))]
    obtain ⟨h', e, M, e7⟩ := fin h L (aA a) (by omega) w.2.2.2.1.2 A (fun _ _ => rfl) (fun _ _ _ => rfl)
    refine ⟨h', e, ?_, e7⟩
    unfold act pushA
    rw [if_pos (by omega)]
    exact M
theorem wfA.act {a : AB} (w : wfA a) : wfA (act a) := by
  refine ⟨w.1, w.2.1, w.2.2.1, ?_, w.2.2.2.2⟩
  show (pushA (aA a) (aS a)).length ≤ 6 ∧ ∀ s, s ∈ pushA (aA a) (aS a) → wfS s
  obtain ⟨h6, hs⟩ := w.2.2.2.1
  unfold pushA
  by_cases c : (aA a).length < 6
  · rw [if_pos c]
    refine ⟨by rw [List.length_append]; exact c, fun s hs' => ?_⟩
    rcases List.mem_append.mp hs' with q | q
    · exact hs s q
    · rw [List.mem_singleton.mp q]; exact w.1
  · rw [if_neg c]
    refine ⟨by rw [List.length_append, List.length_drop]; show _ + 1 ≤ 6; omega, fun s hs' => ?_⟩
    rcases List.mem_append.mp hs' with q | q
    · exact hs s (List.mem_of_mem_drop q)
    · rw [List.mem_singleton.mp q]; exact w.1
