/-! ===== text ===== -/
theorem XN.cp3 {h h' : MH} {t : NT} {B : Nat → Option (Nat × List Nat)} {a b : Nat} (w : wfS (sTB t B)) (h0 : ∀ j, j < 3 → gI h' a j = gI h b j) (h1 : ∀ k, 1 ≤ k → k ≤ 3 → ∀ j, j < 30 → gI h' (a + k) j = gI h (b + k) j) (h4 : ∀ k, k = 4 ∨ k = 6 → ∀ j, j < 6 → gI h' (a + k) j = gI h (b + k) j) (h7 : ∀ j, j < 36 → gI h' (a + 7) j = gI h (b + 7) j) (X : XN h b t B) : XN h' a t B := by
  have hm30 : nM t ≤ 30 := w.1.2.2.1
  refine ⟨by rw [h0 0 (by decide)]; exact X.1, by rw [h0 1 (by decide)]; exact X.2.1, by rw [h0 2 (by decide)]; exact X.2.2.1, fun l hl => ?_, fun q hq => ⟨fun e => ?_, fun r e => ?_⟩⟩
  · rw [h1 1 (by decide) (by decide) l (by omega), h1 2 (by decide) (by decide) l (by omega), h1 3 (by decide) (by decide) l (by omega)]
    exact X.2.2.2.1 l hl
  · rw [h4 4 (Or.inl rfl) q hq]; exact (X.2.2.2.2 q hq).1 e
  · obtain ⟨y1, y2, y3⟩ := (X.2.2.2.2 q hq).2 r e
    have h6 : r.2.length ≤ 6 := (w.2.1 q hq r e).2.2.1
    refine ⟨by rw [h4 4 (Or.inl rfl) q hq]; exact y1, by rw [h4 6 (Or.inr rfl) q hq]; exact y2, fun i hi => ?_⟩
    rw [h7 _ (by omega)]; exact y3 i hi
theorem ok_text : J_text RR := by
  rintro hx hm ⟨a, w, X, M⟩
  obtain ⟨L, S, K, D, A, I, Pp, F, C⟩ := XR_iff.mp X
  obtain ⟨mL, mS, mK', mD, mA', mI', mP', mF', mC'⟩ := MR_iff.mp M
  have o : okP (aP a) := w.2.2.2.2.2.1
  -- where both begin
  have hbx : ∃ bx, bx = sI (sI (sI hx 159 2 0) 159 3 0) 159 4 (-1) := ⟨_, rfl⟩
  obtain ⟨bx, ebx⟩ := hbx
  have fbx : frm txX hx bx := by rw [ebx]; exact frm.sI (by decide) (frm.sI (by decide) (frm.sI (by decide) frm.rf))
  have Tx : TX bx (aP a) 0 := by
    refine ⟨L.fr fbx (by decide), Pp.fr ?_ (fbx.1 160 (by decide)), ?_⟩
    · rw [ebx, gI_sI_nk (by decide), gI_sI_nk (by decide), gI_sI_nk (by decide)]
    · rw [ebx, gI_sI_nk (by decide), gI_sI_nk (by decide), gI_s]; rfl
  have x3 : gI bx 159 3 = 0 := by rw [ebx, gI_sI_nk (by decide), gI_s]
  have x4 : gI bx 159 4 = -1 := by rw [ebx, gI_s]
  have ux : f_X10_text 0 hx = (((f_X8_readHead 159 bx).bind fun q_4 => f_X8_readAll_22 159 FU (q_4.1, 0) q_4.2)).bind fun q_2 => if q_2.1 = 0 then some ((-1 : Int32), q_2.2) else (f_X10_beginAct 0 q_2.2).bind fun q_3 => (gR q_3 0 0).bind fun a_4 => (gR q_3 a_4 0).bind fun a_5 => (gR q_3 0 8).bind fun a_6 => (gR q_3 a_6 5).bind fun a_7 => (f_X2_copyFrom a_5 a_7 q_3).bind fun q_8 => (gR q_8 0 0).bind fun a_9 => (f_X7_forgetRest a_9 q_8).bind fun q_10 => (gR q_10 0 0).bind fun a_11 => (gR q_10 a_11 0).bind fun a_12 => some ((gI q_10 a_12 1), q_10) := by
    unfold f_X10_text f_X8_readAll
    rw [L.r8, Option.bind_some, lt_def, lt_def, lt_def, ← ebx]
  have key : Ev (f_X11_text 0 hm) (fun q => ∃ hx', f_X10_text 0 hx = some (q.1, hx') ∧ RR hx' q.2) := by
    unfold f_X11_text
    simp only [lt_def]
    have hh7 : ∃ h7, h7 = sI (sI (sI (sI (sI (sI (sI hm 0 0 0) 0 40 0) 0 41 (gI (sI (sI hm 0 0 0) 0 40 0) 0 37)) 0 37 0) 0 38 0) 0 39 (-1)) 0 42 0 := ⟨_, rfl⟩
    obtain ⟨h7, e7⟩ := hh7
    rw [← e7]
    have f7 : frm [0] hm h7 := by rw [e7]; exact frm.sI (by decide) (frm.sI (by decide) (frm.sI (by decide) (frm.sI (by decide) (frm.sI (by decide) (frm.sI (by decide) (frm.sI (by decide) frm.rf))))))
    have g7 : ∀ k, k ≠ 0 → k ≠ 40 → k ≠ 41 → k ≠ 37 → k ≠ 38 → k ≠ 39 → k ≠ 42 → gI h7 0 k = gI hm 0 k := fun k a1 a2 a3 a4 a5 a6 a7 => by rw [e7, gI_sI_nk a7, gI_sI_nk a6, gI_sI_nk a5, gI_sI_nk a4, gI_sI_nk a3, gI_sI_nk a2, gI_sI_nk a1]
    refine m_draft (mL.fr f7) (fun bm fbm gbm => ?_)
    have b0 : gI bm 0 = gI h7 0 := fbm.1 0 (by decide)
    have Tm : TM bm (aP a) 0 := by
      refine ⟨⟨(mL.fr f7).fr fbm, by rw [fbm.1 20 (by decide), f7.1 20 (by decide)]; exact mP'.2, ?_, ?_⟩, ?_⟩
      · rw [b0, e7, gI_sI_nk (by decide), gI_sI_nk (by decide), gI_sI_nk (by decide), gI_sI_nk (by decide), gI_sI_nk (by decide), gI_s]; rfl
      · rw [b0, e7, gI_sI_nk (by decide), gI_sI_nk (by decide), gI_sI_nk (by decide), gI_sI_nk (by decide), gI_s, gI_sI_nk (by decide), gI_sI_nk (by decide)]; exact mP'.1
      · rw [b0, e7, gI_sI_nk (by decide), gI_s]
    have m38 : gI bm 0 38 = 0 := by rw [b0, e7, gI_sI_nk (by decide), gI_sI_nk (by decide), gI_s]
    have m37 : gI bm 0 37 = 0 := by rw [b0, e7, gI_sI_nk (by decide), gI_sI_nk (by decide), gI_sI_nk (by decide), gI_s]
    have m42 : gI bm 0 42 = 0 := by rw [b0, e7, gI_s]
    -- the reference's old state is back
    have back : ∀ hm' h1 k p, frY bm hm' → frm [1, 21] hm' h1 → (∀ j, j < 512 → gI h1 1 j = gI hm' 21 j) → gI h1 0 38 = nI k → gI h1 0 39 = fpl p → MR h1 (setT a [] k p) := fun hm' h1 k p fy f1 g1 k38 k39 => by
      have f0 : ∀ j, j ≠ 0 → j ≠ 37 → j ≠ 38 → j ≠ 39 → j ≠ 40 → j ≠ 41 → j ≠ 42 → gI h1 0 j = gI hm 0 j := fun j a0 a1 a2 a3 a4 a5 a6 => by
        rw [f1.1 0 (by decide), fy.2 j a2 a3 a4 a6, b0, g7 j a0 a4 a5 a1 a2 a3 a6]
      have fb : ∀ c, c ≠ 0 → c ≠ 1 → c ≠ 21 → gI h1 c = gI hm c := fun c a0 a1 a2 => by
        rw [f1.1 c (by simp; omega), fy.1.1 c (by simp; omega), fbm.1 c (by simp; omega), f7.1 c (by simp; omega)]
      refine MR_iff.mpr ⟨(((mL.fr f7).fr fbm).fr fy.1).fr f1, mS.cp w.1 (fun j hj => ?_), mK'.fr (f0 6 (by decide) (by decide) (by decide) (by decide) (by decide) (by decide) (by decide)) (fb 3 (by decide) (by decide) (by decide)), by rw [f0 4 (by decide) (by decide) (by decide) (by decide) (by decide) (by decide) (by decide)]; exact mD, mA'.fr (f0 3 (by decide) (by decide) (by decide) (by decide) (by decide) (by decide) (by decide)) (fb 2 (by decide) (by decide) (by decide)), mI'.fr (f0 44 (by decide) (by decide) (by decide) (by decide) (by decide) (by decide) (by decide)) (fb 22 (by decide) (by decide) (by decide)), ⟨?_, fun i hi => absurd hi (Nat.not_lt_zero _)⟩, ⟨k38, k39⟩, mC'.fr (f0 7 (by decide) (by decide) (by decide) (by decide) (by decide) (by decide) (by decide)) (fb 4 (by decide) (by decide) (by decide)) ?_⟩
      · rw [g1 j hj, fy.1.1 21 (by decide), gbm j hj, f7.1 1 (by decide)]
      · rw [f1.1 0 (by decide), fy.2 37 (by decide) (by decide) (by decide) (by decide), m37]; rfl
      · rw [f1.2.1 5 (by decide), fy.1.2.1 5 (by decide), fbm.2.1 5 (by decide), f7.2.1 5 (by decide)]
    -- the class's tape is empty
    have tap : ∀ hx' k p, frm txX bx hx' → gI hx' 159 3 = nI k → gI hx' 159 4 = fpl p → XR (sI hx' 159 1 0) (setT a [] k p) := fun hx' k p fx k3 k4 =>
      X.tap (Y := txX) (frm.sI (by decide) (frm.tr fbx fx)) (by decide) ⟨gI_s _ _ _ _, fun i hi => absurd hi (Nat.not_lt_zero _)⟩ ⟨by rw [gI_sI_nk (by decide)]; exact k3, by rw [gI_sI_nk (by decide)]; exact k4⟩
    rcases c_head o Tx x3 x4 Tm m38 m42 with ⟨k, p, hx', hm', ex, em, FPh⟩ | ⟨i, t, B, hx', hm', ex, em, Ch⟩
    · rw [em]
      obtain ⟨⟨Lx, fx, F3, F4⟩, fy, TWm, hk⟩ := FPh
      have hp := TWm.2.2.2
      refine m_swap TWm.1.choose_spec.2.1 (fun h1 f1 g1 g2 => ?_)
      have g0 : gI h1 0 = gI hm' 0 := f1.1 0 (by decide)
      unfold f_X11_isWrong
      rw [g0, TWm.2.2.1, if_neg (nI_m1 (by omega)), Option.bind_some, if_neg (show ¬ ((1 : Int32), h1).1 = 0 from (by decide : ¬ (1 : Int32) = 0))]
      refine Ev_some ⟨sI hx' 159 1 0, ?_, setT a [] k (some p), w.tap ⟨Nat.zero_le _, fun i hi => absurd hi (Nat.not_lt_zero _)⟩ hk.2 (fun q e => by rw [← Option.some.inj e]; exact hp), tap hx' k (some p) fx F3 F4, back hm' h1 k (some p) fy f1 g1 (by rw [g0]; exact TWm.2.1) (by rw [g0]; exact TWm.2.2.1)⟩
      rw [ux, ex, Option.bind_some]
      rfl
    · rw [em]
      obtain ⟨⟨TXh, Nh, fx, c3, c4, -⟩, ⟨TMh, MSh, fy, -, c38⟩, hil, wS⟩ := Ch
      refine m_swap TMh.1.1 (fun h1 f1 g1 g2 => ?_)
      have g0 : gI h1 0 = gI hm' 0 := f1.1 0 (by decide)
      have M1 := back hm' h1 0 none fy f1 g1 (by rw [g0]; exact c38) (by rw [g0]; exact TMh.2)
      have w1 : wfA (setT a [] 0 none) := w.tap ⟨Nat.zero_le _, fun i hi => absurd hi (Nat.not_lt_zero _)⟩ (by decide) (fun q e => nono e)
      have X1 := tap hx' 0 none fx c3 c4
      obtain ⟨h2, e2, M2, z7, k21⟩ := m_keepsAct2 w1 M1
      unfold f_X11_isWrong
      rw [g0, TMh.2, if_pos rfl, Option.bind_some, if_pos (show ((0 : Int32), h1).1 = 0 from rfl)]
      show Ev ((f_X11_keepsAct 0 h1).bind _) _
      rw [e2, Option.bind_some]
      refine m_take512 M2.1 (fun h3 f3 g3 => ?_)
      have MS3 : MS (gI h3 1) (sTB t B) := MSh.cp wS (fun j hj => by rw [g3 j hj, k21, g2 j hj])
      have M3 : MR h3 (setS (act (setT a [] 0 none)) (sTB t B)) := M2.st f3 MS3 z7
      rw [m_links M3.1 MS3.1, Option.bind_some]
      -- the class
      obtain ⟨hx2, ex2, X2, z12, fr2⟩ := x_beginAct2 w1 X1
      have L2 := X2.1
      have N2 : XN hx2 161 t B := by
        refine Nh.fr (fun k hk => ?_)
        rw [fr2 _ (by omega), gI_sI_f (by omega)]
      obtain ⟨hx3, ex3, fx3, q0, q1, q4, q7⟩ := x_netCopy (a := 2) (b := 161) L2.nt L2.tape.2.2.2 (by decide)
      have N3 : XN hx3 2 t B := XN.cp3 wS q0 q1 q4 q7 N2
      have L3 : XL hx3 := L2.fr fx3 (by decide)
      obtain ⟨hx4, ex4, fx4, S4⟩ := x_forget2 L3 N3
      have L4 : XL hx4 := L3.fr fx4 (by decide)
      have X4 : XR hx4 (setS (act (setT a [] 0 none)) (sTB t B)) := X2.st (Y := ntAds 2 ++ [1, 10, 13, 16, 18]) (frm.tr (fx3.up (by decide)) (fx4.up (by decide))) (by decide) S4 z12
      refine Ev_some ⟨hx4, ?_, _, w1.act.st wS, X4, M3⟩
      rw [ux, ex, Option.bind_some]
      show ((f_X10_beginAct 0 (sI hx' 159 1 0)).bind _) = _
      rw [ex2, Option.bind_some, L2.r0, Option.bind_some, L2.s0, Option.bind_some, L2.r8, Option.bind_some, L2.t159, Option.bind_some, ex3, Option.bind_some, L3.r0, Option.bind_some, ex4, Option.bind_some, L4.r0, Option.bind_some, L4.s0, Option.bind_some]
      show some (gI hx4 2 1, hx4) = some (nI (nM t), hx4)
      rw [show gI hx4 2 1 = nI (nM t) from S4.1.2.1]
  obtain ⟨⟨r, hm'⟩, e, hx', ex, R⟩ := key
  exact ⟨r, hx', hm', ex, e, R⟩
