/-! ===== image ===== -/
def imgTo (a : AB) (q : ST × List Nat × Nat) : AB := (q.1, q.2.1, q.2.2, [], a.2.2.2.2)
def imgOf (a : AB) : AB := (a.1, a.2.1, a.2.2.1, a.2.2.2.1, some (aS a, aK a, aD a), a.2.2.2.2.2)
theorem m_img139 {h : MH} (L : ML h) : ∃ h1, f_X11_image_139 0 FU 0 h = some (1, sI (sI (sI (sI h1 0 6 (gI h 22 524)) 0 4 (gI h 22 525)) 0 3 0) 0 7 0) ∧ frm [3] h h1 ∧ ∀ j, j < 12 → gI h1 3 j = gI h 22 (512 + j) := by
  have key : Ev (f_X11_image_139 0 FU 0 h) (fun q => ∃ h1, q = (1, sI (sI (sI (sI h1 0 6 (gI h 22 524)) 0 4 (gI h 22 525)) 0 3 0) 0 7 0) ∧ frm [3] h h1 ∧ ∀ j, j < 12 → gI h1 3 j = gI h 22 (512 + j)) := by
    unfold f_X11_image_139
    refine Ev_FU (fun k p h1 => ∃ i, i + k = 12 ∧ p = nI i ∧ frm [3] h h1 ∧ ∀ j, j < i → gI h1 3 j = gI h 22 (512 + j)) 12 0 h (by omega) ⟨0, by omega, rfl, frm.rf, fun j hj => by omega⟩ ?_
    rintro k p h1 rec ⟨i, hi, rfl, f, e1⟩ ih
    have L1 := L.fr f
    unfold f_X11_image_139b
    by_cases q : i < 12
    · have e2 : 512 + nI i = nI (512 + i) := nI_add 512 i
      rw [if_pos (show nI i < 12 from (nI_ltI (by omega) (by decide)).mpr q), L1.r5, Option.bind_some, L1.r45, Option.bind_some, e2, ldI_ok (by rw [L1.n22]; omega) (by omega), Option.bind_some, stI_ok (by rw [L1.n3]; exact q) (by omega), Option.bind_some, nI_1]
      refine ih (k - 1) _ _ (by omega) ⟨i + 1, by omega, rfl, f.sI (by simp), fun j hj => ?_⟩
      rw [gI_sI]
      by_cases q' : j = i
      · rw [if_pos ⟨rfl, q'⟩, q', f.1 22 (by simp)]
      · rw [if_neg (fun z => q' z.2)]; exact e1 j (by omega)
    · have e4 : ∀ H : MH, gN H = gN h → ldI H 22 524 = some (gI H 22 524) := fun H hH => ldI_ok (i := 524) (by rw [hH, L.n22]; omega) (by decide)
      have e5 : ∀ H : MH, gN H = gN h → ldI H 22 525 = some (gI H 22 525) := fun H hH => ldI_ok (i := 525) (by rw [hH, L.n22]; omega) (by decide)
      have g1 : gI h1 22 = gI h 22 := f.1 22 (by simp)
      rw [if_neg (show ¬ nI i < 12 from fun z => q ((nI_ltI (by omega) (by decide)).mp z)), L1.r45, Option.bind_some, e4 h1 f.2.2.2.1, Option.bind_some, lt_def, gR_sI, L1.r45, Option.bind_some, e5 (sI h1 0 6 (gI h1 22 524)) f.2.2.2.1, Option.bind_some, lt_def, lt_def, lt_def, gI_sI_ne (by decide), g1]
      exact Ev_some ⟨h1, rfl, f, fun j hj => e1 j (by omega)⟩
  obtain ⟨q, e, h1, rfl, f, ej⟩ := key
  exact ⟨h1, e, f, ej⟩
theorem m_img56 {h : MH} (L : ML h) : ∃ h1, f_X11_image_56 0 FU 0 h = some (1, sI (sI h1 22 524 (gI h 0 6)) 22 525 (gI h 0 4)) ∧ frm [22] h h1 ∧ (∀ j, j < 12 → gI h1 22 (512 + j) = gI h 3 j) ∧ ∀ j, j < 512 → gI h1 22 j = gI h 22 j := by
  have key : Ev (f_X11_image_56 0 FU 0 h) (fun q => ∃ h1, q = (1, sI (sI h1 22 524 (gI h 0 6)) 22 525 (gI h 0 4)) ∧ frm [22] h h1 ∧ (∀ j, j < 12 → gI h1 22 (512 + j) = gI h 3 j) ∧ ∀ j, j < 512 → gI h1 22 j = gI h 22 j) := by
    unfold f_X11_image_56
    refine Ev_FU (fun k p h1 => ∃ i, i + k = 12 ∧ p = nI i ∧ frm [22] h h1 ∧ (∀ j, j < i → gI h1 22 (512 + j) = gI h 3 j) ∧ ∀ j, j < 512 → gI h1 22 j = gI h 22 j) 12 0 h (by omega) ⟨0, by omega, rfl, frm.rf, fun j hj => by omega, fun j hj => rfl⟩ ?_
    rintro k p h1 rec ⟨i, hi, rfl, f, e1, e1'⟩ ih
    have L1 := L.fr f
    unfold f_X11_image_56b
    by_cases q : i < 12
    · have e2 : 512 + nI i = nI (512 + i) := nI_add 512 i
      rw [if_pos (show nI i < 12 from (nI_ltI (by omega) (by decide)).mpr q), L1.r45, Option.bind_some, L1.r5, Option.bind_some, e2, ldI_ok (by rw [L1.n3]; omega) (by omega), Option.bind_some, stI_ok (by rw [L1.n22]; omega) (by omega), Option.bind_some, nI_1]
      refine ih (k - 1) _ _ (by omega) ⟨i + 1, by omega, rfl, f.sI (by simp), fun j hj => ?_, fun j hj => ?_⟩
      · rw [gI_sI]
        by_cases q' : j = i
        · rw [if_pos ⟨rfl, by omega⟩, q', f.1 3 (by simp)]
        · rw [if_neg (fun z => q' (by omega))]; exact e1 j (by omega)
      · rw [gI_sI_nk (by omega)]; exact e1' j hj
    · have e4 : ∀ H : MH, gN H = gN h → ∀ v, stI H 22 524 v = some (sI H 22 524 v) := fun H hH v => stI_ok (i := 524) (by rw [hH, L.n22]; omega) (by decide)
      have e5 : ∀ H : MH, gN H = gN h → ∀ v, stI H 22 525 v = some (sI H 22 525 v) := fun H hH v => stI_ok (i := 525) (by rw [hH, L.n22]; omega) (by decide)
      have g1 : gI h1 0 = gI h 0 := f.1 0 (by simp)
      rw [if_neg (show ¬ nI i < 12 from fun z => q ((nI_ltI (by omega) (by decide)).mp z)), L1.r45, Option.bind_some, g1, e4 h1 f.2.2.2.1, Option.bind_some, gR_sI, L1.r45, Option.bind_some, gI_sI_ne (by decide), g1, e5 (sI h1 22 524 (gI h 0 6)) f.2.2.2.1, Option.bind_some]
      exact Ev_some ⟨h1, rfl, f, fun j hj => e1 j (by omega), e1'⟩
  obtain ⟨q, e, h1, rfl, f, ej⟩ := key
  exact ⟨h1, e, f, ej⟩
theorem m_img112 {h : MH} (L : ML h) : ∃ h1, f_X11_image_112 0 FU 0 h = f_X11_image_139 0 FU 0 h1 ∧ frm [1] h h1 ∧ ∀ j, j < 512 → gI h1 1 j = gI h 22 j := by
  have key : Ev (f_X11_image_112 0 FU 0 h) (fun q => ∃ h1, some q = f_X11_image_139 0 FU 0 h1 ∧ frm [1] h h1 ∧ ∀ j, j < 512 → gI h1 1 j = gI h 22 j) := by
    unfold f_X11_image_112
    refine Ev_FU (fun k p h1 => ∃ i, i + k = 512 ∧ p = nI i ∧ frm [1] h h1 ∧ ∀ j, j < i → gI h1 1 j = gI h 22 j) 512 0 h (by omega) ⟨0, by omega, rfl, frm.rf, fun j hj => by omega⟩ ?_
    rintro k p h1 rec ⟨i, hi, rfl, f, e1⟩ ih
    have L1 := L.fr f
    unfold f_X11_image_112b
    by_cases q : i < 512
    · rw [if_pos (show nI i < 512 from (nI_ltI (by omega) (by decide)).mpr q), L1.r1, Option.bind_some, L1.r45, Option.bind_some, ldI_ok (by rw [L1.n22]; omega) (by omega), Option.bind_some, stI_ok (by rw [L1.n1]; exact q) (by omega), Option.bind_some, nI_1]
      refine ih (k - 1) _ _ (by omega) ⟨i + 1, by omega, rfl, f.sI (by simp), fun j hj => ?_⟩
      rw [gI_sI]
      by_cases q' : j = i
      · rw [if_pos ⟨rfl, q'⟩, q', f.1 22 (by simp)]
      · rw [if_neg (fun z => q' z.2)]; exact e1 j (by omega)
    · rw [if_neg (show ¬ nI i < 512 from fun z => q ((nI_ltI (by omega) (by decide)).mp z))]
      obtain ⟨h2, e2, _, _⟩ := m_img139 L1
      exact ⟨_, e2, h1, e2.symm, f, fun j hj => e1 j (by omega)⟩
  obtain ⟨q, e, h1, e2, f, ej⟩ := key
  exact ⟨h1, e.trans e2, f, ej⟩
theorem m_img29 {h : MH} (L : ML h) : ∃ h1, f_X11_image_29 0 FU 0 h = f_X11_image_56 0 FU 0 h1 ∧ frm [22] h h1 ∧ ∀ j, j < 512 → gI h1 22 j = gI h 1 j := by
  have key : Ev (f_X11_image_29 0 FU 0 h) (fun q => ∃ h1, some q = f_X11_image_56 0 FU 0 h1 ∧ frm [22] h h1 ∧ ∀ j, j < 512 → gI h1 22 j = gI h 1 j) := by
    unfold f_X11_image_29
    refine Ev_FU (fun k p h1 => ∃ i, i + k = 512 ∧ p = nI i ∧ frm [22] h h1 ∧ ∀ j, j < i → gI h1 22 j = gI h 1 j) 512 0 h (by omega) ⟨0, by omega, rfl, frm.rf, fun j hj => by omega⟩ ?_
    rintro k p h1 rec ⟨i, hi, rfl, f, e1⟩ ih
    have L1 := L.fr f
    unfold f_X11_image_29b
    by_cases q : i < 512
    · rw [if_pos (show nI i < 512 from (nI_ltI (by omega) (by decide)).mpr q), L1.r45, Option.bind_some, L1.r1, Option.bind_some, ldI_ok (by rw [L1.n1]; omega) (by omega), Option.bind_some, stI_ok (by rw [L1.n22]; omega) (by omega), Option.bind_some, nI_1]
      refine ih (k - 1) _ _ (by omega) ⟨i + 1, by omega, rfl, f.sI (by simp), fun j hj => ?_⟩
      rw [gI_sI]
      by_cases q' : j = i
      · rw [if_pos ⟨rfl, q'⟩, q', f.1 1 (by simp)]
      · rw [if_neg (fun z => q' z.2)]; exact e1 j (by omega)
    · rw [if_neg (show ¬ nI i < 512 from fun z => q ((nI_ltI (by omega) (by decide)).mp z))]
      obtain ⟨h2, e2, _, _⟩ := m_img56 L1
      exact ⟨_, e2, h1, e2.symm, f, fun j hj => e1 j (by omega)⟩
  obtain ⟨q, e, h1, e2, f, ej⟩ := key
  exact ⟨h1, e.trans e2, f, ej⟩
theorem ok_image : J_image RR := by
  rintro x1 hx hm hx01 ⟨a, w, X, M⟩
  obtain ⟨L, S, K, D, A, I, P, F, C⟩ := XR_iff.mp X
  obtain ⟨mL, mS, mK', mD, mA', mI', mP', mF', mC'⟩ := MR_iff.mp (M.told (v := 0))
  have mL0 : ML (sI (sI hm 0 0 0) 0 44 1) := mL.fr (frm.sI (X := [0]) (by simp) frm.rf)
  by_cases c : x1 = 0
  · subst c
    cases ei : aI a with
    | none =>
      refine ⟨0, hx, sI hm 0 0 0, ?_, ?_, a, w, X, M.told⟩
      · unfold f_X10_image
        rw [if_pos rfl, if_pos (I.1 ei)]
      · unfold f_X11_image
        rw [lt_def, if_pos rfl, if_pos (mI'.1 ei)]
    | some q =>
      obtain ⟨i7, i138, i157, i6⟩ := I.2 q ei
      obtain ⟨j44, j22, j524, j512, j525⟩ := mI'.2 q ei
      obtain ⟨wq, wk, wd1, wd2⟩ := w.2.2.2.2.1 q ei
      obtain ⟨hx1, ex, fx, sx⟩ := x_stCopy (h := hx) (a := 1) (b := 138) (s := q.1) L.st L.img (by omega) wq i138
      have L1 : XL hx1 := L.fr fx (by decide)
      obtain ⟨hx2, ex2, fx2, rx⟩ := x_rowCopy (h := hx1) (a := 20) (b := 157) (w := 12) (w' := 12) (ls := q.2.1) L1.stk L1.imk (i157.fr (fx.1 _ (by decide)) (fx.1 _ (by decide))) wk.1 wk.1 (by decide) (by omega)
      have L2 : XL hx2 := L1.fr fx2 (by decide)
      have fz : frm (20 :: 21 :: stAds 1) hx hx2 := frm.tr (fx.up (by simp_all)) (fx2.up (by simp))
      have u : ∀ b, 22 ≤ b ∨ b = 0 → gI hx2 b = gI hx b := fun b hb => fz.1 b (fun z => by
        rcases List.mem_cons.mp z with z | z
        · omega
        · rcases List.mem_cons.mp z with z | z
          · omega
          · have := stAds_mem z; omega)
      let hz := sI (sI (sI hx2 0 2 (gI hx2 0 6)) 22 1 0) 0 12 1
      have v : ∀ b, b ≠ 0 → b ≠ 22 → gI hz b = gI hx2 b := fun b b0 b2 => by
        show gI (sI (sI (sI hx2 0 2 (gI hx2 0 6)) 22 1 0) 0 12 1) b = _
        rw [gI_sI_f b0, gI_sI_f b2, gI_sI_f b0]
      have v0 : ∀ k, k ≠ 2 → k ≠ 12 → gI hz 0 k = gI hx 0 k := fun k k2 k12 => by
        show gI (sI (sI (sI hx2 0 2 (gI hx2 0 6)) 22 1 0) 0 12 1) 0 k = _
        rw [gI_sI_nk k12, gI_sI_ne (by decide), gI_sI_nk k2, u 0 (by omega)]
      have X1 : XR hz (imgTo a q) := by
        obtain ⟨A1, A2, σ, A3, A4, A5⟩ := A
        refine XR_iff.mpr ⟨L2.fr (frm.sI (X := [0, 22]) (by simp) (frm.sI (by simp) (frm.sI (by simp) frm.rf))) (by decide), sx.fr (fun k hk => ?_), rx.fr (v 20 (by decide) (by decide)) (v 21 (by decide) (by decide)), ?_, ⟨?_, Nat.zero_le _, σ, ?_, A4, fun i hi => absurd hi (Nat.not_lt_zero _)⟩, I.fr (v0 7 (by decide) (by decide)) (v0 6 (by decide) (by decide)) (fun b b1 b2 => ?_), P.fr ?_ ?_, F.fr ?_ ?_, Or.inr (gI_s _ _ _ _)⟩
        · rw [v _ (by omega) (by omega), fx2.1 _ (by simp; omega)]
        · show gI (sI (sI (sI hx2 0 2 (gI hx2 0 6)) 22 1 0) 0 12 1) 0 2 = nI q.2.2
          rw [gI_sI_nk (by decide), gI_sI_ne (by decide), gI_s, u 0 (by omega)]; exact i6
        · show gI (sI (sI (sI hx2 0 2 (gI hx2 0 6)) 22 1 0) 0 12 1) 22 1 = nI 0
          rw [gI_sI_ne (by decide), gI_s]; rfl
        · intro i hi
          refine ⟨(A3 i hi).1, ?_⟩
          show gR hx2 23 i = _
          rw [fz.2.2.1]; exact (A3 i hi).2
        · rw [v b (by omega) (by omega), u b (by omega)]
        · rw [v 159 (by omega) (by omega), u 159 (by omega)]
        · rw [v 160 (by omega) (by omega), u 160 (by omega)]
        · rw [v 159 (by omega) (by omega), u 159 (by omega)]
        · rw [v 159 (by omega) (by omega), u 159 (by omega)]
      obtain ⟨hm1, em1, fm1, jm1⟩ := m_img112 mL0
      have mL1 := mL0.fr fm1
      obtain ⟨hm2, em2, fm2, jm2⟩ := m_img139 mL1
      have g22 : gI hm1 22 = gI (sI hm 0 0 0) 22 := by rw [fm1.1 22 (by simp), gI_sI_f (by decide)]
      let hw := sI (sI (sI (sI hm2 0 6 (gI hm1 22 524)) 0 4 (gI hm1 22 525)) 0 3 0) 0 7 0
      have y : ∀ b, b ≠ 0 → gI hw b = gI hm2 b := fun b b0 => by
        show gI (sI (sI (sI (sI hm2 0 6 (gI hm1 22 524)) 0 4 (gI hm1 22 525)) 0 3 0) 0 7 0) b = _
        rw [gI_sI_f b0, gI_sI_f b0, gI_sI_f b0, gI_sI_f b0]
      have y' : ∀ b, b ≠ 0 → b ≠ 1 → b ≠ 3 → gI hw b = gI (sI hm 0 0 0) b := fun b b0 b1 b3 => by
        rw [y b b0, fm2.1 b (by simp; exact b3), fm1.1 b (by simp; exact b1), gI_sI_f b0]
      have y0 : ∀ k, k ≠ 3 → k ≠ 4 → k ≠ 6 → k ≠ 7 → k ≠ 44 → gI hw 0 k = gI (sI hm 0 0 0) 0 k := fun k k3 k4 k6 k7 k44 => by
        show gI (sI (sI (sI (sI hm2 0 6 (gI hm1 22 524)) 0 4 (gI hm1 22 525)) 0 3 0) 0 7 0) 0 k = _
        rw [gI_sI_nk k7, gI_sI_nk k3, gI_sI_nk k4, gI_sI_nk k6, fm2.1 0 (by simp), fm1.1 0 (by simp), gI_sI_nk k44]
      have y44 : gI hw 0 44 = gI (sI hm 0 0 0) 0 44 := by
        show gI (sI (sI (sI (sI hm2 0 6 (gI hm1 22 524)) 0 4 (gI hm1 22 525)) 0 3 0) 0 7 0) 0 44 = _
        rw [gI_sI_nk (by decide), gI_sI_nk (by decide), gI_sI_nk (by decide), gI_sI_nk (by decide), fm2.1 0 (by simp), fm1.1 0 (by simp), gI_s, j44]
      have M1 : MR hw (imgTo a q) := by
        refine MR_iff.mpr ⟨(mL1.fr fm2).fr (frm.sI (X := [0]) (by simp) (frm.sI (by simp) (frm.sI (by simp) (frm.sI (by simp) frm.rf)))), ?_, ⟨?_, fun i hi => ?_⟩, ?_, ⟨?_, fun i hi => absurd hi (Nat.not_lt_zero _)⟩, mI'.fr y44 (y' 22 (by decide) (by decide) (by decide)), mP'.fr (y0 37 (by decide) (by decide) (by decide) (by decide) (by decide)) (y' 20 (by decide) (by decide) (by decide)), mF'.fr (y0 38 (by decide) (by decide) (by decide) (by decide) (by decide)) (y0 39 (by decide) (by decide) (by decide) (by decide) (by decide)), Or.inr (gI_s _ _ _ _)⟩
        · show MS (gI hw 1) q.1
          rw [y 1 (by decide), fm2.1 1 (by simp)]
          exact j22.cp wq (fun j hj => (jm1 j hj).trans (by rw [gI_sI_ne (by decide)]))
        · show gI (sI (sI (sI (sI hm2 0 6 (gI hm1 22 524)) 0 4 (gI hm1 22 525)) 0 3 0) 0 7 0) 0 6 = nI q.2.1.length
          rw [gI_sI_nk (by decide), gI_sI_nk (by decide), gI_sI_nk (by decide), gI_s, g22]; exact j524
        · have hi : i < q.2.1.length := hi
          have := wk.1
          rw [y 3 (by decide), Nat.zero_add, jm2 i (by omega), g22]
          exact j512 i hi
        · show gI (sI (sI (sI (sI hm2 0 6 (gI hm1 22 524)) 0 4 (gI hm1 22 525)) 0 3 0) 0 7 0) 0 4 = nI q.2.2
          rw [gI_sI_nk (by decide), gI_sI_nk (by decide), gI_s, g22]; exact j525
        · show gI (sI (sI (sI (sI hm2 0 6 (gI hm1 22 524)) 0 4 (gI hm1 22 525)) 0 3 0) 0 7 0) 0 3 = nI 0
          rw [gI_sI_nk (by decide), gI_s]; rfl
      refine ⟨1, hz, hw, ?_, ?_, imgTo a q, ⟨wq, wk, ⟨wd1, wd2⟩, ⟨Nat.zero_le _, fun s hs => absurd hs (List.not_mem_nil)⟩, w.2.2.2.2⟩, X1, M1⟩
      · unfold f_X10_image
        rw [if_pos rfl, i7, if_neg (by decide), L.r0, Option.bind_some, L.r4, Option.bind_some, ex, Option.bind_some, L1.r1, Option.bind_some, L1.r5, Option.bind_some, ex2, Option.bind_some, lt_def, gR_sI, L2.r3, Option.bind_some, lt_def, lt_def]
      · unfold f_X11_image f_X11_image_18
        rw [lt_def, if_pos rfl, j44, if_neg (by decide), lt_def, if_pos rfl, em1, em2]
  · have c1 : x1 = 1 := by rcases hx01 with q | q; exact absurd q c; exact q
    subst c1
    obtain ⟨hx1, ex, fx, sx⟩ := x_stCopy (h := hx) (a := 138) (b := 1) (s := aS a) L.img L.st (by omega) w.1 S
    have L1 : XL hx1 := L.fr fx (by decide)
    obtain ⟨hx2, ex2, fx2, rx⟩ := x_rowCopy (h := hx1) (a := 157) (b := 20) (w := 12) (w' := 12) (ls := aK a) L1.imk L1.stk (K.fr (fx.1 _ (by decide)) (fx.1 _ (by decide))) w.2.1.1 w.2.1.1 (by decide) (by omega)
    have L2 : XL hx2 := L1.fr fx2 (by decide)
    have fz : frm (157 :: 158 :: stAds 138) hx hx2 := frm.tr (fx.up (by simp_all)) (fx2.up (by simp))
    have u : ∀ b, b < 138 ∨ 159 ≤ b → gI hx2 b = gI hx b := fun b hb => fz.1 b (fun z => by
      rcases List.mem_cons.mp z with z | z
      · omega
      · rcases List.mem_cons.mp z with z | z
        · omega
        · have := stAds_mem z; omega)
    have v : ∀ b, b ≠ 0 → gI (sI (sI hx2 0 6 (gI hx2 0 2)) 0 7 1) b = gI hx2 b := fun b b0 => by rw [gI_sI_f b0, gI_sI_f b0]
    have v0 : ∀ k, k ≠ 6 → k ≠ 7 → gI (sI (sI hx2 0 6 (gI hx2 0 2)) 0 7 1) 0 k = gI hx 0 k := fun k k6 k7 => by rw [gI_sI_nk k7, gI_sI_nk k6, u 0 (by omega)]
    have X1 : XR (sI (sI hx2 0 6 (gI hx2 0 2)) 0 7 1) (imgOf a) := by
      refine XR_iff.mpr ⟨L2.fr (frm.sI (X := [0]) (by simp) (frm.sI (by simp) frm.rf)) (by decide), S.fr (fun k hk => ?_), K.fr ?_ ?_, ?_, A.fr (fun b b1 b2 => ?_) ?_, ⟨fun z => nono z.symm, fun q hq => ?_⟩, P.fr ?_ ?_, F.fr ?_ ?_, C.fr (v0 12 (by decide) (by decide)) ?_ ?_⟩
      · rw [v _ (by omega), u _ (by omega)]
      · rw [v _ (by omega), u _ (by omega)]
      · rw [v _ (by omega), u _ (by omega)]
      · rw [v0 2 (by decide) (by decide)]; exact D
      · rw [v _ (by omega), u _ (by omega)]
      · show gR hx2 = gR hx; exact fz.2.2.1
      · have hq := Option.some.inj hq
        subst hq
        refine ⟨gI_s _ _ _ _, sx.fr (fun k hk => ?_), rx.fr (v 157 (by decide)) (v 158 (by decide)), ?_⟩
        · rw [v _ (by omega), fx2.1 _ (by simp; omega)]
        · rw [gI_sI_nk (by decide), gI_s, u 0 (by omega)]; exact D
      · rw [v _ (by omega), u _ (by omega)]
      · rw [v _ (by omega), u _ (by omega)]
      · rw [v _ (by omega), u _ (by omega)]
      · rw [v _ (by omega), u _ (by omega)]
      · rw [v _ (by omega), u _ (by omega)]
      · show gL hx2 171 = _
        exact fz.2.1 171 (by decide)
    obtain ⟨hm1, em1, fm1, jm1⟩ := m_img29 mL0
    have mL1 := mL0.fr fm1
    obtain ⟨hm2, em2, fm2, jm2, jm3⟩ := m_img56 mL1
    have fy : frm [22] (sI (sI hm 0 0 0) 0 44 1) (sI (sI hm2 22 524 (gI hm1 0 6)) 22 525 (gI hm1 0 4)) := frm.sI (by simp) (frm.sI (by simp) (frm.tr fm1 fm2))
    have y : ∀ b, b ≠ 0 → b ≠ 22 → gI (sI (sI hm2 22 524 (gI hm1 0 6)) 22 525 (gI hm1 0 4)) b = gI (sI hm 0 0 0) b := fun b b0 b2 => by rw [fy.1 b (by simp; exact b2), gI_sI_f b0]
    have y0 : ∀ k, k ≠ 44 → gI (sI (sI hm2 22 524 (gI hm1 0 6)) 22 525 (gI hm1 0 4)) 0 k = gI (sI hm 0 0 0) 0 k := fun k hk => by rw [fy.1 0 (by simp), gI_sI_nk hk]
    have M1 : MR (sI (sI hm2 22 524 (gI hm1 0 6)) 22 525 (gI hm1 0 4)) (imgOf a) := by
      refine MR_iff.mpr ⟨mL0.fr fy, ?_, mK'.fr (y0 6 (by decide)) (y 3 (by decide) (by decide)), ?_, mA'.fr (y0 3 (by decide)) (y 2 (by decide) (by decide)), ⟨fun z => nono z.symm, fun q hq => ?_⟩, mP'.fr (y0 37 (by decide)) (y 20 (by decide) (by decide)), mF'.fr (y0 38 (by decide)) (y0 39 (by decide)), mC'.fr (y0 7 (by decide)) (y 4 (by decide) (by decide)) (fy.2.1 5 (by simp))⟩
      · rw [y 1 (by decide) (by decide)]; exact mS
      · rw [y0 4 (by decide)]; exact mD
      · have hq := Option.some.inj hq
        subst hq
        have z0 : ∀ k, k ≠ 44 → gI hm1 0 k = gI (sI hm 0 0 0) 0 k := fun k hk => by rw [fm1.1 0 (by simp), gI_sI_nk hk]
        refine ⟨by rw [fy.1 0 (by simp), gI_s], mS.cp w.1 (fun j hj => ?_), ?_, fun i hi => ?_, ?_⟩
        · rw [gI_sI_nk (by omega), gI_sI_nk (by omega), jm3 j hj, jm1 j hj, gI_sI_ne (by decide)]
        · rw [gI_sI_nk (by decide), gI_s, z0 6 (by decide)]; exact mK'.1
        · have hi : i < (aK a).length := hi
          have := w.2.1.1
          rw [gI_sI_nk (by omega), gI_sI_nk (by omega), jm2 i (by omega), fm1.1 3 (by simp), gI_sI_ne (by decide)]
          have := mK'.2 i hi
          rw [Nat.zero_add] at this; exact this
        · rw [gI_s, z0 4 (by decide)]; exact mD
    refine ⟨1, _, _, ?_, ?_, imgOf a, ⟨w.1, w.2.1, w.2.2.1, w.2.2.2.1, fun q hq => ?_, w.2.2.2.2.2⟩, X1, M1⟩
    · unfold f_X10_image
      rw [if_neg c, L.r4, Option.bind_some, L.r0, Option.bind_some, ex, Option.bind_some, L1.r5, Option.bind_some, L1.r1, Option.bind_some, ex2, Option.bind_some, lt_def, lt_def]
    · unfold f_X11_image f_X11_image_18
      rw [lt_def, if_neg c, lt_def, if_neg c, em1, em2]
    · have hq := Option.some.inj hq
      subst hq
      exact ⟨w.1, w.2.1, w.2.2.1.1, w.2.2.1.2⟩
