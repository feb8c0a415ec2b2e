/-! ===== a text's head ===== -/
theorem x_forget2 {h : MH} {t : NT} {B : Nat → Option (Nat × List Nat)} (L : XL h) (X : XN h 2 t B) : ∃ h', f_X7_forgetRest 1 h = some h' ∧ frm [1, 10, 13, 16, 18] h h' ∧ XS h' 1 (sTB t B) := by
  obtain ⟨h1, e1, f1, j1⟩ := x_fill (h := h) (a := 10) (n := 8) (x := -1) L.z10 (by decide)
  obtain ⟨h2, e2, f2, j2⟩ := x_fill (h := h1) (a := 13) (n := 8) (x := 0) (by rw [f1.2.2.2.1]; exact L.z13) (by decide)
  have f3 : frm [1] h2 (sI h2 1 4 0) := frm.sI (by simp) frm.rf
  have g3 : frm [1, 10, 13] h (sI h2 1 4 0) := frm.tr (f1.up (by simp)) (frm.tr (f2.up (by simp)) (f3.up (by simp)))
  obtain ⟨h4, e4, f4, j4⟩ := x_fill (h := sI h2 1 4 0) (a := 16) (n := 12) (x := 0) (by rw [g3.2.2.2.1]; exact L.z16) (by decide)
  have g4 : frm [1, 10, 13, 16] h h4 := frm.tr (g3.up (by simp)) (f4.up (by simp))
  have g5 : frm [1, 10, 13, 16, 18] h (sI h4 18 1 0) := frm.sI (by simp) (g4.up (by simp))
  have k2 : gR h2 = gR h := f2.2.2.1.trans f1.2.2.1
  refine ⟨sI h4 18 1 0, ?_, g5, X.fr (fun k hk => g5.1 _ (by simp; omega)), fun d hd => ⟨fun _ => ?_, fun q e => nono e⟩, ⟨?_, fun k hk => absurd hk (Nat.not_lt_zero _)⟩, gI_s _ _ _ _, fun i hi => absurd hi (Nat.not_lt_zero _)⟩
  · unfold f_X7_forgetRest f_X6_emptyAll
    rw [L.s1, Option.bind_some, e1, Option.bind_some, f1.2.2.1, L.s3, Option.bind_some, L.p12, Option.bind_some, e2, Option.bind_some, Option.bind_some, lt_def, g3.2.2.1, L.s5, Option.bind_some, L.p15, Option.bind_some, e4, Option.bind_some, Option.bind_some, g4.2.2.1, L.s6, Option.bind_some, lt_def]
  · rw [gI_sI_ne (by decide), f4.1 _ (by simp), gI_sI_ne (by decide), f2.1 _ (by simp)]
    exact j1 d hd
  · rw [gI_sI_ne (by decide), f4.1 _ (by simp), gI_s]; rfl
theorem w_85 {h : MH} {P : List Nat} {k p : Nat} (T : TW h P k p) : f_X11_text_85 0 h = f_X11_text_185 0 h := by
  unfold f_X11_text_85
  rw [m_numberW T, Option.bind_some]
  dsimp only
  rw [m_mustW T, Option.bind_some, m_wrong T, Option.bind_some]
  dsimp only
  rw [if_neg (by decide)]
  exact e_mbad (n := 4999) T
theorem FP.of {bx bm hx hm : MH} {P : List Nat} {k p : Nat} (L : XL bx) (fx : frm txX bx hx) (L' : XL hx) (F : FT hx k p) (fm : frE bm hm) (T : TW hm P k p) (hk : 1 ≤ k ∧ k ≤ 4) : FP bx bm hx hm P k p := ⟨⟨L', fx, F⟩, ⟨fm.1.up (by decide), fun k h1 h2 h3 _ => fm.2 k h1 h2 h3⟩, T, hk⟩
theorem c_head {bx bm : MH} {P : List Nat} (o : okP P) (Tx : TX bx P 0) (x3 : gI bx 159 3 = 0) (x4 : gI bx 159 4 = -1) (Tm : TM bm P 0) (m38 : gI bm 0 38 = 0) (m42 : gI bm 0 42 = 0) : ENDS bx bm P ((f_X8_readHead 159 bx).bind fun q_4 => f_X8_readAll_22 159 FU (q_4.1, 0) q_4.2) ((f_X11_takesWord 0 0 bm).bind fun q_5 => if q_5.1 = 0 then (f_X11_errs 0 1 (gI q_5.2 0 40) q_5.2).bind fun q_6 => f_X11_text_85 0 q_6.2 else f_X11_text_85 0 q_5.2) := by
  have h500 := o.1
  have h0 : 0 ≤ P.length := Nat.zero_le _
  have hsk := skp_in o h0
  obtain ⟨hx1, e1, f1, T1⟩ := x_skip o Tx h0
  obtain ⟨y1, y2⟩ := x_takeWord (s := 0) o T1 hsk.2 (by decide)
  obtain ⟨w1, w2⟩ := m_takesWord (s := 0) o Tm h0 (by decide)
  have xb : ∀ {hx' k p}, FT hx' k p → 1 ≤ k ∧ k ≤ 4 → f_X8_readAll_22 159 FU (0, 0) hx' = some (0, sI hx' 159 1 0) := fun F hk => e_xbad (n := 4999) (c := 0) F hk (by omega)
  unfold f_X8_readHead
  rw [e1, Option.bind_some]
  by_cases c0 : isWd P 0 (skp P 0)
  · obtain ⟨hx2, e2, f2, T2⟩ := y1 c0
    obtain ⟨hm2, em2, fm2, Tm2⟩ := w1 c0
    have hin := isWd_in o (by decide : 0 < 7) c0
    have hsk2 := skp_in o hin
    obtain ⟨hx3, e3, f3, T3⟩ := x_skip o T2 hin
    obtain ⟨n1, n2⟩ := x_takeNumber (lo := 2) (hi' := 10) o T3 hsk2.2 (by decide) (by decide)
    obtain ⟨d1, d2⟩ := m_number (lo := 2) (hi' := 10) o Tm2 hin (by decide) (by decide)
    rw [e2, Option.bind_some, em2, Option.bind_some]
    dsimp only
    rw [if_neg (by decide), if_neg (by decide), e3, Option.bind_some]
    unfold f_X11_text_85
    cases en : nmb P (skp P (skp P 0 + (wd 0).length)) 2 10 with
    | inl kp =>
      obtain ⟨k, p⟩ := kp
      obtain ⟨hx4, a1, a2, a3⟩ := n1 k p en
      obtain ⟨hm4, b1, b2, b3⟩ := d1 k p en
      have a1 : f_X8_takeNumber 159 2 10 hx3 = some (-1, hx4) := a1
      have b1 : f_X11_number 0 2 10 hm2 = some (0, hm4) := b1
      have fx := ((f1.tr (f2.tr f3)).F.tr a2)
      left
      refine ⟨k, p, hx4, hm4, ?_, ?_, FP.of Tx.1 (fx.1.up (by decide)) (Tx.1.fr fx.1 (by decide)) a3 (fm2.E.tr b2) b3 (nmb_bad en)⟩
      · rw [a1, Option.bind_some]
        dsimp only
        rw [if_pos rfl, Option.bind_some]
        exact xb a3 (nmb_bad en)
      · rw [b1, Option.bind_some]
        dsimp only
        rw [m_mustW b3, Option.bind_some, m_wrong b3, Option.bind_some]
        dsimp only
        rw [if_neg (by decide)]
        exact e_mbad (n := 4999) b3
    | inr ve =>
      obtain ⟨n, e⟩ := ve
      obtain ⟨hx4, a1, a2, a3⟩ := n2 n e en
      obtain ⟨hm4, b1, b2, b3⟩ := d2 n e en
      have a1 : f_X8_takeNumber 159 2 10 hx3 = some (nI n, hx4) := a1
      have b1 : f_X11_number 0 2 10 hm2 = some (nI n, hm4) := b1
      have hn := nmb_ok o hsk2.2 en
      have fx := f1.tr (f2.tr (f3.tr a2))
      obtain ⟨hx5, e5, f5, N5, z5⟩ := x_reset2 (n := n) a3.1.tape.2.2.2
      have g159 : gI hx5 159 = gI hx4 159 := f5.1 159 (by decide)
      have T5 : TX hx5 P e := ⟨a3.1.fr f5 (by decide), a3.2.1.fr (by rw [g159]) (f5.1 160 (by decide)), by rw [g159]; exact a3.2.2⟩
      have fx5 : frm txX bx hx5 := frm.tr (fx.1.up (by decide)) (f5.up (by decide))
      obtain ⟨s1, s2⟩ := x_takeSign (c := 59) o T5 hn.2.2.2 (by decide)
      obtain ⟨u1, u2⟩ := m_must (c := 59) o b3 hn.2.2.2 (by decide)
      have hsk3 := skp_in o hn.2.2.2
      rw [a1, Option.bind_some, b1, Option.bind_some]
      dsimp only
      rw [if_neg (nI_m1 (by omega)), a3.1.t159, Option.bind_some, e5, Option.bind_some]
      by_cases c9 : bt P (skp P e) = 59
      · obtain ⟨hx6, e6, f6, T6⟩ := s1 c9
        obtain ⟨hm6, em6, fm6, Tm6⟩ := u1 c9
        have e6 : f_X8_takeSign 159 59 hx5 = some (1, hx6) := e6
        have em6 : f_X11_must 0 59 hm4 = some hm6 := em6
        obtain ⟨hm7, em7, fm7, S7⟩ := m_clears (n := n) Tm6.1.1 hn.1
        have hlt := (bt_lt (i := skp P e) o).mp (by omega)
        have fmm : frG bm hm6 := fm2.tr (b2.tr fm6)
        have g0 : gI hm7 0 = gI hm6 0 := fm7.1 0 (by decide)
        rw [e6, Option.bind_some, if_pos (Or.inr rfl), Option.bind_some, em6, Option.bind_some, m_noWrong Tm6, Option.bind_some]
        dsimp only
        rw [if_pos rfl, em7, Option.bind_some]
        refine c_loop o 501 FU FU 0 (i := skp P e + 1) (t := tNew n) (B := fun _ => none) (by omega) (by decide) (by decide) (by omega) ⟨⟨T6, N5.fr (fun k hk => f6.1.1 _ (by simp; omega)), frm.tr fx5 (f6.1.up (by decide)), ?_, ?_, fun b hb _ => ?_⟩, ⟨⟨⟨Tm6.1.1.fr fm7, by rw [fm7.1 20 (by decide)]; exact Tm6.1.2.1, by rw [g0]; exact Tm6.1.2.2.1, by rw [g0]; exact Tm6.1.2.2.2⟩, by rw [g0]; exact Tm6.2⟩, S7, ⟨frm.tr (fmm.1.up (by decide)) (fm7.up (by decide)), fun k _ _ h3 _ => by rw [g0]; exact fmm.2 k h3⟩, fun b hb => ?_, by rw [g0, fmm.2 38 (by decide)]; exact m38⟩, by omega, wfS_new hn.1 hn.2.1⟩
        · rw [f6.2 3 (by decide), g159, fx.2 3 (by decide)]; exact x3
        · rw [f6.2 4 (by decide), g159, fx.2 4 (by decide)]; exact x4
        · rw [f6.1.1 167 (by decide)]; exact z5 b hb
        · rw [g0, fmm.2 42 (by decide), m42, bit_0]
          exact ⟨fun z => (by cases z), fun z => absurd rfl z⟩
      · obtain ⟨hx6, e6, f6, F6⟩ := s2 c9
        obtain ⟨hm6, em6, fm6, Tm6⟩ := u2 c9
        have e6 : f_X8_takeSign 159 59 hx5 = some (0, hx6) := e6
        have em6 : f_X11_must 0 59 hm4 = some hm6 := em6
        left
        refine ⟨1, skp P e, hx6, hm6, ?_, ?_, FP.of Tx.1 (frm.tr fx5 (f6.1.up (by decide))) (T5.1.fr f6.1 (by decide)) F6 ((fm2.tr b2).E.tr fm6) Tm6 (by decide)⟩
        · rw [e6, Option.bind_some, if_pos (Or.inl rfl), Option.bind_some]
          exact xb F6 (by decide)
        · rw [em6, Option.bind_some, m_wrong Tm6, Option.bind_some]
          dsimp only
          rw [if_neg (by decide)]
          exact e_mbad (n := 4999) Tm6
  · obtain ⟨hx2, e2, f2, F2⟩ := y2 c0
    obtain ⟨hm2, em2, fm2, Tm2⟩ := w2 c0
    obtain ⟨hm3, em3, fm3, Tm3⟩ := m_errs (k := 1) (p := skp P 0) Tm2 hsk.2 (by omega)
    have fx := f1.F.tr f2
    left
    refine ⟨1, skp P 0, hx2, hm3, ?_, ?_, FP.of Tx.1 (fx.1.up (by decide)) (Tx.1.fr fx.1 (by decide)) F2 (fm2.E.tr fm3) Tm3 (by decide)⟩
    · rw [e2, Option.bind_some]
      dsimp only
      rw [if_pos rfl, Option.bind_some]
      exact xb F2 (by decide)
    · rw [em2, Option.bind_some]
      dsimp only
      rw [if_pos rfl, Tm2.1.2.2.1, show f_X11_errs 0 1 (nI (skp P 0)) hm2 = _ from em3, Option.bind_some]
      exact w_85 Tm3
