/-! ===== nodes, undo ===== -/
theorem nono {α : Type} {q : α} {P : Prop} (e : (none : Option α) = some q) : P := by cases e
def tNew (n : Nat) : NT := (n, 0, (fun _ => 0), (fun _ => 0), (fun _ => 0), fun _ => false)
def sNew (n : Nat) : ST := (tNew n, (fun _ => none), (fun _ => none), [], [])
theorem wfS_new {n : Nat} (h1 : 2 ≤ n) (h2 : n ≤ 10) : wfS (sNew n) := by
  refine ⟨⟨h1, h2, Nat.zero_le _, fun l hl => absurd hl (Nat.not_lt_zero _)⟩, fun b _ q e => nono e, fun d _ q e => nono e, ⟨Nat.zero_le _, fun k hk => absurd hk (Nat.not_lt_zero _)⟩, Nat.zero_le _, fun i hi => absurd hi (Nat.not_lt_zero _), fun i hi => absurd hi (Nat.not_lt_zero _)⟩
theorem x_reset {h : MH} {a n : Nat} (A : netAt h a) : ∃ h', f_X2_reset a (nI n) h = some h' ∧ frm [a, a + 4, a + 6] h h' ∧ XN h' a (tNew n) (fun _ => none) := by
  obtain ⟨a3, a4, a5, a6, a7, n1, n2, n3, n4, ar⟩ := A
  have f0 : frm [a] h (sI (sI (sI h a 0 (nI n)) a 1 0) a 2 0) := frm.sI (by simp) (frm.sI (by simp) (frm.sI (by simp) frm.rf))
  obtain ⟨h1, e1, f1, j1⟩ := x_fill (h := sI (sI (sI h a 0 (nI n)) a 1 0) a 2 0) (a := a + 4) (n := 6) (x := -1) n4 (by decide)
  obtain ⟨h2, e2, f2, j2⟩ := x_fill (h := h1) (a := a + 6) (n := 6) (x := 0) (by rw [f1.2.2.2.1]; exact ar.2.2.1) (by decide)
  have f : frm [a, a + 4, a + 6] h h2 := frm.tr (f0.up (by simp)) (frm.tr (f1.up (by simp)) (f2.up (by simp)))
  refine ⟨h2, ?_, f, ?_, ?_, ?_, fun l hl => absurd hl (Nat.not_lt_zero _), fun b hb => ⟨fun _ => ?_, fun q e => nono e⟩⟩
  · unfold f_X2_reset f_X6_emptyAll
    rw [lt_def, lt_def, lt_def]
    show ((gR h a 6).bind _) = _
    rw [a6, Option.bind_some, e1, Option.bind_some, f1.2.2.1]
    show ((gR h a 7).bind _) = _
    rw [a7, Option.bind_some]
    show (((gR h (a + 5) 1).bind _).bind _) = _
    rw [ar.1, Option.bind_some, e2, Option.bind_some, Option.bind_some]
  · rw [f2.1 a (by simp), f1.1 a (by simp), gI_sI_nk (by decide), gI_sI_nk (by decide), gI_s]; rfl
  · rw [f2.1 a (by simp), f1.1 a (by simp), gI_sI_nk (by decide), gI_s]; rfl
  · rw [f2.1 a (by simp), f1.1 a (by simp), gI_s]; rfl
  · rw [f2.1 (a + 4) (by simp)]; exact j1 b hb
theorem x_forget {h : MH} {n : Nat} (L : XL h) (X : XN h 2 (tNew n) (fun _ => none)) : ∃ h', f_X7_forgetRest 1 h = some h' ∧ frm [1, 10, 13, 16, 18] h h' ∧ XS h' 1 (sNew n) := by
  obtain ⟨h1, e1, f1, j1⟩ := x_fill (h := h) (a := 10) (n := 8) (x := -1) L.z10 (by decide)
  obtain ⟨h2, e2, f2, j2⟩ := x_fill (h := h1) (a := 13) (n := 8) (x := 0) (by rw [f1.2.2.2.1]; exact L.z13) (by decide)
  have f3 : frm [1] h2 (sI h2 1 4 0) := frm.sI (by simp) frm.rf
  have g3 : frm [1, 10, 13] h (sI h2 1 4 0) := frm.tr (f1.up (by simp)) (frm.tr (f2.up (by simp)) (f3.up (by simp)))
  obtain ⟨h4, e4, f4, j4⟩ := x_fill (h := sI h2 1 4 0) (a := 16) (n := 12) (x := 0) (by rw [g3.2.2.2.1]; exact L.z16) (by decide)
  have g4 : frm [1, 10, 13, 16] h h4 := frm.tr (g3.up (by simp)) (f4.up (by simp))
  have g5 : frm [1, 10, 13, 16, 18] h (sI h4 18 1 0) := frm.sI (by simp) (g4.up (by simp))
  have k2 : gR h2 = gR h := f2.2.2.1.trans f1.2.2.1
  refine ⟨sI h4 18 1 0, ?_, g5, X.fr (fun k hk => g5.1 _ (by simp; omega)), fun d hd => ⟨fun _ => ?_, fun q e => nono e⟩, ⟨?_, fun k hk => absurd hk (Nat.not_lt_zero _)⟩, gI_s _ _ _ _, fun i hi => absurd hi (Nat.not_lt_zero _)⟩
  · unfold f_X7_forgetRest f_X6_emptyAll
    rw [L.s1, Option.bind_some, e1, Option.bind_some, f1.2.2.1, L.s3, Option.bind_some, L.p12, Option.bind_some, e2, Option.bind_some, Option.bind_some, lt_def, g3.2.2.1, L.s5, Option.bind_some, L.p15, Option.bind_some, e4, Option.bind_some, Option.bind_some, g4.2.2.1, L.s6, Option.bind_some, lt_def]
  · rw [gI_sI_ne (by decide), f4.1 _ (by simp), gI_sI_ne (by decide), f2.1 _ (by simp)]
    exact j1 d hd
  · rw [gI_sI_ne (by decide), f4.1 _ (by simp), gI_s]; rfl
theorem m_clears {h : MH} {n : Nat} (L : ML h) (hn : 2 ≤ n) : ∃ h', f_X11_clears 0 (nI n) h = some h' ∧ frm [1] h h' ∧ MS (gI h' 1) (sNew n) := by
  have key : Ev (f_X11_clears 0 (nI n) h) (fun h' => frm [1] h h' ∧ gI h' 1 0 = nI (n - 2) ∧ ∀ j, 1 ≤ j → j < 512 → gI h' 1 j = 0) := by
    unfold f_X11_clears f_X11_clears_2
    refine Ev_FU (fun k p h1 => ∃ i, i + k = 512 ∧ p = nI i ∧ frm [1] h h1 ∧ ∀ j, j < i → gI h1 1 j = 0) 512 0 h (by omega) ⟨0, by omega, rfl, frm.rf, fun j hj => by omega⟩ ?_
    rintro k p h1 rec ⟨i, hi, rfl, f, e1⟩ ih
    have L1 := L.fr f
    unfold f_X11_clears_2b
    by_cases q : i < 512
    · rw [if_pos (show nI i < 512 from (nI_ltI (by omega) (by decide)).mpr q), L1.r1, Option.bind_some, stI_ok (by rw [L1.n1]; exact q) (by omega), Option.bind_some, nI_1]
      refine ih (k - 1) _ _ (by omega) ⟨i + 1, by omega, rfl, f.sI (by simp), fun j hj => ?_⟩
      rw [gI_sI]
      by_cases q' : j = i
      · rw [if_pos ⟨rfl, q'⟩]
      · rw [if_neg (fun z => q' z.2)]; exact e1 j (by omega)
    · have e2 : nI n - 2 = nI (n - 2) := by
        have : nI (n - 2) + nI 2 = nI n := by rw [nI_add]; congr 1; omega
        rw [← this]; exact Int32.add_sub_cancel _ _
      have e3 : stI h1 1 0 (nI (n - 2)) = some (sI h1 1 0 (nI (n - 2))) := stI_ok (i := 0) (by rw [L1.n1]; omega) (by decide)
      rw [if_neg (show ¬ nI i < 512 from fun z => q ((nI_ltI (by omega) (by decide)).mp z)), L1.r1, Option.bind_some, e2, e3, Option.bind_some]
      exact Ev_some ⟨f.sI (by simp), gI_s _ _ _ _, fun j j1 hj => by rw [gI_sI_nk (by omega)]; exact e1 j (by omega)⟩
  obtain ⟨h', e, f, e0, ej⟩ := key
  refine ⟨h', e, f, ⟨e0, ej 1 (by omega) (by omega), fun l hl => absurd hl (Nat.not_lt_zero _)⟩, fun b hb => ⟨fun _ => ej _ (by omega) (by omega), fun q e => nono e⟩, fun b hb => ⟨fun _ => ej _ (by omega) (by omega), fun q e => nono e⟩, ⟨ej _ (by omega) (by omega), fun k hk => absurd hk (Nat.not_lt_zero _)⟩, ej _ (by omega) (by omega), fun i hi => absurd hi (Nat.not_lt_zero _)⟩
theorem ok_nodes : J_nodes RR := by
  rintro x1 hx hm ⟨a, w, X, M⟩
  obtain ⟨L, S, K, D, A, I, P, F, C⟩ := XR_iff.mp X
  have eb : f_X11_isIn 0 x1.toInt64 2 10 (sI hm 0 0 0) = some (bI ((2 : Int) ≤ x1.toInt ∧ x1.toInt ≤ 10), sI hm 0 0 0) := m_inL (l := 2) (k := 10) rfl rfl
  by_cases c : 2 ≤ x1.toInt ∧ x1.toInt ≤ 10
  · obtain ⟨n, hn, rfl⟩ := ofZ (n := 11) (x := x1) (by omega) (by omega)
    have c' := c
    rw [nI_toInt (by omega)] at c'
    obtain ⟨hx1, ex, X1, e12⟩ := x_beginAct w X
    obtain ⟨hm1, em, M1, e7⟩ := m_keepsAct w (M.told (v := 0))
    obtain ⟨L1, S1, K1, D1, A1, I1, P1, F1, C1⟩ := XR_iff.mp X1
    obtain ⟨mL1, mS1, mK1, mD1, mA1, mI1, mP1, mF1, mC1⟩ := MR_iff.mp M1
    obtain ⟨hx2, ex2, fx2, n2⟩ := x_reset (n := n) L1.nt
    obtain ⟨hx3, ex3, fx3, s3⟩ := x_forget (L1.fr fx2 (by decide)) n2
    obtain ⟨hm2, em2, fm2, s2⟩ := m_clears (n := n) mL1 (by omega)
    refine ⟨1, hx3, hm2, ?_, ?_, setS (act a) (sNew n), w.act.st (wfS_new (by omega) (by omega)), X1.st (Y := [1, 2, 6, 8, 10, 13, 16, 18]) (frm.tr (fx2.up (by simp)) (fx3.up (by simp))) (by simp) s3 e12, M1.st fm2 s2 e7⟩
    · unfold f_X10_nodes
      rw [if_neg (show ¬ nI n < 2 from fun z => by have := (nI_ltI (b := 2) (by omega) (by decide)).mp z; omega), if_neg (show ¬ 10 < nI n from fun z => by have := (nI_ltI (a := 10) (by decide) (by omega)).mp z; omega), ex, Option.bind_some, L1.r0, Option.bind_some, L1.s0, Option.bind_some, ex2, Option.bind_some, fx2.2.2.1, L1.r0, Option.bind_some, ex3, Option.bind_some]
    · unfold f_X11_nodes
      rw [lt_def, eb, Option.bind_some, if_neg (fun q => bI_0.mp q c)]
      dsimp only
      rw [em, Option.bind_some, em2, Option.bind_some]
  · refine ⟨0, hx, sI hm 0 0 0, ?_, ?_, a, w, X, M.told⟩
    · unfold f_X10_nodes
      by_cases q : x1 < 2
      · rw [if_pos q]
      · rw [if_neg q, if_pos]
        rw [zlt] at q ⊢
        have e2 : (2 : Int32).toInt = 2 := rfl
        have e10 : (10 : Int32).toInt = 10 := rfl
        omega
    · unfold f_X11_nodes
      rw [lt_def, eb, Option.bind_some, if_pos (bI_0.mpr c)]
