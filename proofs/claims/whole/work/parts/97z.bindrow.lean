/-! ===== the row of a binding ===== -/
section BR
variable {bx bm hx hm : MH} {P : List Nat} {i : Nat} {t : NT} {B : Nat → Option (Nat × List Nat)} {b nd : Nat} {ls : List Nat}
theorem RS.le {j : Nat} {rx : Option (Int32 × MH)} {rm : Option MH} (h : i ≤ j) (R : RS bx bm P j rx rm) : RS bx bm P i rx rm := by
  rcases R with R | ⟨e, t, B, hx, hm, a1, a2, a3, a4⟩
  · exact Or.inl R
  · exact Or.inr ⟨e, t, B, hx, hm, a1, a2, by omega, a4⟩
theorem c_labels_step (o : okP P) (m nx nm : Nat) (h6 : ls.length + m = 6) (hnx : m < nx) (hnm : m + 1 < nm) (C : LB bx bm hx hm P i t B b nd ls) (ih : ∀ x e hx' hm', ls.length < 6 → LB bx bm hx' hm' P e t B b nd (ls ++ [x]) → RS bx bm P e (f_X8_readLabels_2 159 (nI b) (nx - 1) (nI (ls.length + 1)) hx') ((f_X11_readBinding_84 0 (nI b) (nI nd) (nm - 1) (nI (ls.length + 1)) hm').bind fun q_1 => f_X11_must 0 59 q_1)) : RS bx bm P i (f_X8_readLabels_2 159 (nI b) nx (nI ls.length) hx) ((f_X11_readBinding_84 0 (nI b) (nI nd) nm (nI ls.length) hm).bind fun q_1 => f_X11_must 0 59 q_1) := by
  have h500 := o.1
  obtain ⟨nx, rfl⟩ : ∃ n, nx = n + 1 := ⟨nx - 1, by omega⟩
  obtain ⟨nm, rfl⟩ : ∃ n, nm = n + 2 := ⟨nm - 2, by omega⟩
  have ih : ∀ x e hx' hm', ls.length < 6 → LB bx bm hx' hm' P e t B b nd (ls ++ [x]) → RS bx bm P e (f_X8_readLabels_2 159 (nI b) nx (nI (ls.length + 1)) hx') ((f_X11_readBinding_84 0 (nI b) (nI nd) (nm + 1) (nI (ls.length + 1)) hm').bind fun q_1 => f_X11_must 0 59 q_1) := ih
  have hil := C.2.2.1
  have hsk := skp_in o hil
  obtain ⟨hx1, e1, f1, T1⟩ := x_skip o C.1.1 hil
  obtain ⟨hm1, em1, fm1, Tm1⟩ := m_blanks o C.2.1.1.1 hil
  have TM1 : TM hm1 P (skp P i) := C.2.1.1.fr fm1 Tm1
  have C1 : LB bx bm hx1 hm1 P (skp P i) t B b nd ls := C.to f1 T1 fm1 TM1 hsk.2
  have hW : ∀ z h k p, TW h P k p → f_X11_readBinding_84 0 (nI b) (nI nd) (nm + 1) z h = some h := fun z h k p T => w_84 T
  show RS bx bm P i (f_X8_readLabels_2b 159 (nI b) (f_X8_readLabels_2 159 (nI b) nx) (nI ls.length) hx) ((f_X11_readBinding_84b 0 (nI b) (nI nd) (f_X11_readBinding_84 0 (nI b) (nI nd) (nm + 1)) (nI ls.length) hm).bind fun q_1 => f_X11_must 0 59 q_1)
  -- one label more
  have one : ∀ hmS hm0 v0, f_X11_behindBlanks 0 hmS = some (v0, hm0) → frG hm1 hm0 → TB hm0 P (skp P i) → RS bx bm P i (f_X8_readLabels_32 (f_X8_readLabels_2 159 (nI b) nx) 159 (nI b) (nI ls.length) hx1) ((f_X11_readBinding_105 (f_X11_readBinding_84 0 (nI b) (nI nd) (nm + 1)) 0 (nI b) (nI nd) (nI ls.length) hmS).bind fun q_1 => f_X11_must 0 59 q_1) := fun hmS hm0 v0 a1 a2 a3 => by
    unfold f_X8_readLabels_32
    rcases c_one o C1 (skp_skp o) a1 a2 a3 hW with ⟨k, p, hx', hm', b1, b2, F⟩ | ⟨x, e, hx', hm', b1, b2, b3, C'⟩
    · left
      exact ⟨k, p, hx', hm', by rw [b1, Option.bind_some, if_pos rfl], by rw [b2, Option.bind_some, m_mustW F.2.2.1], F⟩
    · have hl : (ls ++ [x]).length ≤ 6 := C'.2.2.2.2.2.2.2.1
      rw [List.length_append] at hl
      have hl : ls.length + 1 ≤ 6 := hl
      have := ih x e hx' hm' (by omega) C'
      rw [b1, Option.bind_some, b2]
      dsimp only
      rw [if_neg (by decide), nI_1]
      exact this.le (by omega)
  unfold f_X8_readLabels_2b f_X11_readBinding_84b
  rw [if_neg (show ¬ 6 < nI ls.length from nI_nlt (a := 6) (by omega) (by decide)), e1, Option.bind_some, m_noWrong C.2.1.1, Option.bind_some]
  dsimp only
  rw [if_pos rfl]
  by_cases c0 : ls.length = 0
  · rw [if_neg (show ¬ 0 < nI ls.length from nI_nlt (a := 0) (by omega) (by decide)), if_pos (show nI ls.length = 0 by rw [c0]; rfl)]
    exact one hm hm1 _ em1 frG.rf Tm1
  · rw [if_pos (show 0 < nI ls.length from nI_lt (a := 0) (by omega) (by omega)), if_neg (show ¬ nI ls.length = 0 from fun z => c0 (nI_inj (b := 0) (by omega) (by decide) z)), T1.2.2, x_byteAt o T1 (by omega), Option.bind_some, em1, Option.bind_some]
    dsimp only
    by_cases c : bt P (skp P i) = 59
    · rw [if_pos (show bvI (bt P (skp P i)) = 59 from (bv_is (c := 59) (by decide) (bt_le o)).mpr c), if_pos (show bvI (bt P (skp P i)) = 59 from (bv_is (c := 59) (by decide) (bt_le o)).mpr c)]
      obtain ⟨hm2, e2, C2⟩ := c_bound C1 (by omega)
      rw [e2, Option.bind_some]
      unfold f_X8_readLabels_49
      rcases c_sign (c := 59) o C2 (by decide) with ⟨p, hxk, hmk, e7, e8, F⟩ | ⟨e9, hxk, hmk, e7, e8, i9, C9⟩
      · have e7 : f_X8_takeSign 159 59 hx1 = some (0, hxk) := e7
        exact Or.inl ⟨1, p, hxk, hmk, by rw [e7, Option.bind_some]; exact if_pos (Or.inl rfl), e8, F⟩
      · have e7 : f_X8_takeSign 159 59 hx1 = some (1, hxk) := e7
        exact Or.inr ⟨e9, _, _, hxk, hmk, by rw [e7, Option.bind_some]; exact if_pos (Or.inr rfl), e8, by omega, C9⟩
    · rw [if_neg (show ¬ bvI (bt P (skp P i)) = 59 from fun z => c ((bv_is (c := 59) (by decide) (bt_le o)).mp z)), if_neg (show ¬ bvI (bt P (skp P i)) = 59 from fun z => c ((bv_is (c := 59) (by decide) (bt_le o)).mp z))]
      obtain ⟨hm2, em2, fm2, Tm2⟩ := m_blanks o Tm1 hsk.2
      rw [skp_skp o] at Tm2
      exact one hm1 hm2 _ em2 fm2 Tm2
theorem c_labels (o : okP P) : ∀ (m : Nat) {hx hm : MH} {i : Nat} {ls : List Nat} (nx nm : Nat), ls.length + m = 6 → m < nx → m + 1 < nm → LB bx bm hx hm P i t B b nd ls → RS bx bm P i (f_X8_readLabels_2 159 (nI b) nx (nI ls.length) hx) ((f_X11_readBinding_84 0 (nI b) (nI nd) nm (nI ls.length) hm).bind fun q_1 => f_X11_must 0 59 q_1) := by
  have h500 := o.1
  intro m
  induction m with
  | zero =>
    intro hx hm i ls nx nm h6 hnx hnm C
    exact (c_labels_step o 0 nx nm h6 hnx hnm C (fun x e hx' hm' hk _ => by omega))
  | succ m ih =>
    intro hx hm i ls nx nm h6 hnx hnm C
    refine c_labels_step o (m + 1) nx nm h6 hnx hnm C (fun x e hx' hm' hk C' => ?_)
    have hl : (ls ++ [x]).length = ls.length + 1 := by rw [List.length_append]; rfl
    have := ih (ls := ls ++ [x]) (nx - 1) (nm - 1) (by omega) (by omega) (by omega) C'
    rw [hl] at this
    exact this
theorem row_bind (o : okP P) (C : CP bx bm hx hm P i t B) (hw : isWd P 3 i) {hm1 : MH} (fm : frG hm hm1) (Tm : TM hm1 P (i + 4)) : RS bx bm P i (f_X8_readBinding 159 hx) ((f_X11_readBinding 0 hm1).bind fun q_1 => f_X11_must 0 59 q_1) := by
  have h500 := o.1
  have wN := C.2.2.2.1
  have hn10 : nN t ≤ 10 := wN.2.1
  have hn2 : 2 ≤ nN t := wN.1
  have hil : i + 4 ≤ P.length := isWd_in o (by decide : 3 < 7) hw
  obtain ⟨hxa, ea, fa, Ta⟩ := (x_takeWord (s := 3) o C.1.1 C.2.2.1 (by decide)).1 hw
  have Ta : TX hxa P (i + 4) := Ta
  have C1 : CP bx bm hxa hm1 P (i + 4) t B := C.to fa Ta fm Tm hil
  have hsk1 := skp_in o hil
  obtain ⟨hxb, eb, gb, Lb, nb, kb⟩ := c_num (lo := 0) (hi' := 5) o C1 (by omega) (by omega)
  obtain ⟨hm2, em2, fm2, Tm2⟩ := m_blanks o Tm.1 hil
  have TM2 : TM hm2 P (skp P (i + 4)) := Tm.fr fm2 Tm2
  unfold f_X8_readBinding f_X11_readBinding
  rw [ea, Option.bind_some, eb, Option.bind_some, lt_def, em2, Option.bind_some, lt_def]
  dsimp only
  rw [gb, Tm2.2.2.1]
  rcases kb hm2 (skp P (i + 4)) fm2 TM2 hsk1.2 (skp_skp o) with ⟨k, p, hxc, hmc, e1, e2, F⟩ | ⟨b, e, hxc, hmc, e1, e2, b0, b1, be, C2⟩
  · left
    have e1 : f_X8_takeNumber 159 0 5 hxb = some (-1, hxc) := e1
    have e2 : f_X11_number 0 0 5 hm2 = some (0, hmc) := e2
    have T3 := F.2.2.1
    refine ⟨k, p, hxc, hmc, by rw [e1, Option.bind_some]; rfl, ?_, F⟩
    rw [e2, Option.bind_some]
    dsimp only
    rw [m_wrong T3, Option.bind_some]
    dsimp only
    rw [if_neg (by decide), w_43 T3, Option.bind_some, m_mustW T3]
  · have e1 : f_X8_takeNumber 159 0 5 hxb = some (nI b, hxc) := e1
    have e2 : f_X11_number 0 0 5 hm2 = some (nI b, hmc) := e2
    have hb : b < 6 := by omega
    have Lc := C2.1.1.1
    have xb := C2.1.2.1.2.2.2.2 b hb
    have hbit := bit_sar (x := gI hmc 0 42) (l := b) (by omega)
    have hsb := C2.2.1.2.2.2.1 b hb
    rw [e1, Option.bind_some, e2, Option.bind_some]
    dsimp only
    rw [if_neg (nI_m1 (by omega)), Lc.t159, Option.bind_some, show gR hxc 161 6 = some 165 from Lc.tape.2.2.2.2.2.2.1, Option.bind_some, ldI_ok (by rw [show gN hxc 165 = 6 from Lc.tape.2.2.2.2.2.2.2.2.2.2.2.1]; omega) (by omega), Option.bind_some, m_noWrong C2.2.1.1, Option.bind_some]
    dsimp only
    rw [if_pos rfl]
    by_cases cB : B b = none
    · rw [if_pos (show gI hxc 165 b = -1 from xb.1 cB), if_neg (fun z => (hsb.mp (hbit.mp z)) cB)]
      obtain ⟨hxd, ed, fd, Td⟩ := x_skip o C2.1.1 C2.2.2.1
      have hsk2 := skp_in o C2.2.2.1
      obtain ⟨w1, w2⟩ := m_takesWord (s := 4) o C2.2.1.1 C2.2.2.1 (by decide)
      obtain ⟨y1, y2⟩ := x_takeWord (s := 4) o Td hsk2.2 (by decide)
      unfold f_X11_readBinding_43
      rw [ed, Option.bind_some]
      by_cases cw : isWd P 4 (skp P e)
      · obtain ⟨hxe, e3, f3, T3⟩ := y1 cw
        obtain ⟨hme, e4, f4, T4⟩ := w1 cw
        have hin := isWd_in o (by decide : 4 < 7) cw
        have C3 : CP bx bm hxe hme P (skp P e + (wd 4).length) t B := C2.to (fd.tr f3) T3 f4 T4 hin
        have MN3 : MN (gI hme 1) t := C3.2.1.2.1.1
        rw [e3, Option.bind_some, e4, Option.bind_some]
        dsimp only
        rw [if_neg (by decide), if_neg (by decide)]
        unfold f_X11_readBinding_63
        obtain ⟨hxf, ef, gf, Lf, nf, kf⟩ := c_num (lo := 0) (hi' := nN t - 1) o C3 (by omega) (by omega)
        rw [ef, Option.bind_some, Lf.t159, Option.bind_some, nf, n1_sub (n := nN t) (by omega), m_n T4.1.1 MN3 wN, Option.bind_some]
        dsimp only
        rw [n1_sub (n := nN t) (by omega)]
        rcases kf hme _ frG.rf T4 hin rfl with ⟨k, p, hxg, hmg, e5, e6, F⟩ | ⟨nd, e', hxg, hmg, e5, e6, n0, n1, ne, C4⟩
        · left
          have e5 : f_X8_takeNumber 159 0 (nI (nN t - 1)) hxf = some (-1, hxg) := e5
          have e6 : f_X11_number 0 0 (nI (nN t - 1)) hme = some (0, hmg) := e6
          have T5 := F.2.2.1
          refine ⟨k, p, hxg, hmg, by rw [e5, Option.bind_some]; rfl, ?_, F⟩
          rw [e6, Option.bind_some]
          dsimp only
          rw [m_mustW T5, Option.bind_some, show f_X11_readBinding_84 0 (nI b) 0 FU 0 hmg = some hmg from w_84 (n := 4999) T5, Option.bind_some, m_mustW T5]
        · have e5 : f_X8_takeNumber 159 0 (nI (nN t - 1)) hxf = some (nI nd, hxg) := e5
          have e6 : f_X11_number 0 0 (nI (nN t - 1)) hme = some (nI nd, hmg) := e6
          have Lg := C4.1.1.1
          have hsk3 := skp_in o hin
          have fh : frm [165] hxg (sI hxg 165 b (nI nd)) := frm.sI (by decide) frm.rf
          have C5 : LB bx bm (sI hxg 165 b (nI nd)) hmg P e' t B b nd [] := by
            obtain ⟨⟨x1, x2, x3, x4, x5, x6⟩, ⟨m1, m2, m3, m4, m5⟩, hi, w⟩ := C4
            refine ⟨⟨⟨x1.1.fr fh (by decide), x1.2.1.fr (by rw [fh.1 159 (by decide)]) (fh.1 160 (by decide)), by rw [fh.1 159 (by decide)]; exact x1.2.2⟩, ?_, frm.tr x3 (fh.up (by decide)), by rw [fh.1 159 (by decide)]; exact x4, by rw [fh.1 159 (by decide)]; exact x5, fun b' hb' _ hn => by rw [fh.1 167 (by decide)]; exact x6 b' hb' hn⟩, ⟨m1, m2, fun j hj => (by simp at hj), m3, m4, m5⟩, hi, w, cB, hb, by omega, Nat.zero_le _, fun j hj => (by simp at hj)⟩
            refine XN.bd (h := hxg) (fun b' hb' hne q hq => (w.2.1 b' hb' q hq).2.2.1) (fun j hj => fh.1 _ (by simp; omega)) (fun j hj => gI_sI_nk hj) (fun j hj => by rw [fh.1 _ (by decide)]) (fun j hj => by rw [fh.1 _ (by decide)]) (gI_s _ _ _ _) ?_ (fun j hj => (by simp at hj)) x2
            rw [fh.1 _ (by decide)]
            exact x6 b hb cB
          rw [e5, Option.bind_some, e6, Option.bind_some]
          dsimp only
          rw [if_neg (nI_m1 (by omega)), Lg.t159, Option.bind_some, show gR hxg 161 6 = some 165 from Lg.tape.2.2.2.2.2.2.1, Option.bind_some, stI_ok (by rw [show gN hxg 165 = 6 from Lg.tape.2.2.2.2.2.2.2.2.2.2.2.1]; omega) (by omega), Option.bind_some]
          obtain ⟨s1, s2⟩ := x_takeSign (c := 58) o C5.1.1 C5.2.2.1 (by decide)
          obtain ⟨u1, u2⟩ := m_must (c := 58) o C5.2.1.1 C5.2.2.1 (by decide)
          have hsk4 := skp_in o C5.2.2.1
          by_cases c8 : bt P (skp P e') = 58
          · obtain ⟨hxh, e7, f7, T7⟩ := s1 c8
            obtain ⟨hmh, e8, f8, T8⟩ := u1 c8
            have e7 : f_X8_takeSign 159 58 (sI hxg 165 b (nI nd)) = some (1, hxh) := e7
            have e8 : f_X11_must 0 58 hmg = some hmh := e8
            have hlt := (bt_lt (i := skp P e') o).mp (by omega)
            have C6 : LB bx bm hxh hmh P (skp P e' + 1) t B b nd [] := C5.to f7 T7 f8 T8 (by omega)
            rw [e7, Option.bind_some, e8, Option.bind_some]
            dsimp only
            rw [if_neg (by decide)]
            have key := c_labels o 6 FU FU (by simp) (by decide) (by decide) C6
            have key : RS bx bm P (skp P e' + 1) (f_X8_readLabels 159 (nI b) hxh) ((f_X11_readBinding_84 0 (nI b) (nI nd) FU 0 hmh).bind fun q_1 => f_X11_must 0 59 q_1) := key
            rcases key with ⟨k, p, hx', hm', a1, a2, F⟩ | ⟨e9, t', B', hx', hm', a1, a2, a3, C9⟩
            · exact Or.inl ⟨k, p, hx', hm', by rw [a1, Option.bind_some]; rfl, a2, F⟩
            · exact Or.inr ⟨e9, t', B', hx', hm', by rw [a1, Option.bind_some]; rfl, a2, by omega, C9⟩
          · left
            obtain ⟨hxh, e7, f7, F7⟩ := s2 c8
            obtain ⟨hmh, e8, f8, T8⟩ := u2 c8
            have e7 : f_X8_takeSign 159 58 (sI hxg 165 b (nI nd)) = some (0, hxh) := e7
            have e8 : f_X11_must 0 58 hmg = some hmh := e8
            refine ⟨1, skp P e', hxh, hmh, by rw [e7, Option.bind_some]; rfl, ?_, C5.bad f7 F7 f8 T8 (by decide)⟩
            rw [e8, Option.bind_some, show f_X11_readBinding_84 0 (nI b) (nI nd) FU 0 hmh = some hmh from w_84 (n := 4999) T8, Option.bind_some, m_mustW T8]
      · left
        obtain ⟨hxe, e3, f3, F3⟩ := y2 cw
        obtain ⟨hme, e4, f4, T4⟩ := w2 cw
        obtain ⟨hmf, e5, f5, T5⟩ := m_errs (k := 1) (p := skp P e) T4 hsk2.2 (by omega)
        refine ⟨1, skp P e, hxe, hmf, by rw [e3, Option.bind_some]; rfl, ?_, C2.bad (fd.F.tr f3) F3 (f4.E.tr f5) T5 (by decide)⟩
        rw [e4, Option.bind_some]
        dsimp only
        rw [if_pos rfl, T4.1.2.2.1, show f_X11_errs 0 1 (nI (skp P e)) hme = _ from e5, Option.bind_some]
        dsimp only
        rw [w_63 T5, Option.bind_some, m_mustW T5]
    · left
      obtain ⟨q, hq⟩ : ∃ q, B b = some q := by
        cases eB : B b with
        | none => exact absurd eB cB
        | some q => exact ⟨q, rfl⟩
      have hq1 : q.1 < nN t := (C2.2.2.2.2.1 b hb q hq).1
      obtain ⟨hmf, e5, f5, T5⟩ := m_errs (k := 3) (p := skp P (i + 4)) C2.2.1.1 C2.2.2.1 (by omega)
      rw [if_neg (show ¬ gI hxc 165 b = -1 from by rw [show gI hxc 165 b = nI q.1 from (xb.2 q hq).1]; exact nI_m1 (by omega)), if_pos (hbit.mpr (hsb.mpr cB)), show f_X8_foundFault 159 3 (nI (skp P (i + 4))) hxc = _ from (x_fault (h := hxc) (k := 3) (p := skp P (i + 4))).1, Option.bind_some, show f_X11_errs 0 3 (nI (skp P (i + 4))) hmc = _ from e5, Option.bind_some]
      dsimp only
      refine ⟨3, skp P (i + 4), _, hmf, if_pos (Or.inl rfl), ?_, C2.bad x_fault.2.1 x_fault.2.2 f5 T5 (by decide)⟩
      rw [w_43 T5, Option.bind_some, m_mustW T5]
end BR
