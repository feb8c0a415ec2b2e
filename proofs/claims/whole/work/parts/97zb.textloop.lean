/-! ===== the rows of a text, in both readers ===== -/
section TL
variable {bx bm : MH} {P : List Nat}
/-- how the reading ends -/
def ENDS (bx bm : MH) (P : List Nat) (rx rm : Option (Int32 × MH)) : Prop := (∃ k p hx hm, rx = some (0, sI hx 159 1 0) ∧ rm = f_X11_text_185 0 hm ∧ FP bx bm hx hm P k p) ∨ (∃ i t B hx hm, rx = some (1, sI hx 159 1 0) ∧ rm = f_X11_text_185 0 hm ∧ CP bx bm hx hm P i t B)
theorem e_xbad {hx : MH} {k p n c : Nat} (F : FT hx k p) (hk : 1 ≤ k ∧ k ≤ 4) (hc : c ≤ 500) : f_X8_readAll_22 159 (n + 1) (0, nI c) hx = some (0, sI hx 159 1 0) := by
  have e62 : f_X8_readAll_62 159 hx = some (0, sI hx 159 1 0) := by
    unfold f_X8_readAll_62
    rw [lt_def, gI_sI_nk (by decide), F.1, if_neg (fun z => by have := nI_inj (b := 0) (by omega) (by decide) z; omega)]
  show f_X8_readAll_22b 159 _ (0, nI c) hx = _
  unfold f_X8_readAll_22b
  show (if nI c < 500 then (if (0 : Int32) = 0 then f_X8_readAll_62 159 hx else _) else f_X8_readAll_62 159 hx) = _
  rw [if_pos rfl, e62]
  split <;> rfl
theorem e_mbad {hm : MH} {k p n : Nat} (T : TW hm P k p) : f_X11_text_111 0 (n + 1) () hm = f_X11_text_185 0 hm := by
  show f_X11_text_111b 0 _ () hm = _
  unfold f_X11_text_111b
  rw [m_wrong T, Option.bind_some]
  rfl
theorem c_loop (o : okP P) : ∀ (m : Nat) {i : Nat} {hx hm : MH} {t : NT} {B : Nat → Option (Nat × List Nat)} (nx nm c : Nat), P.length < i + m → m < nx → m < nm → c ≤ i → CP bx bm hx hm P i t B → ENDS bx bm P (f_X8_readAll_22 159 nx (1, nI c) hx) (f_X11_text_111 0 nm () hm) := by
  have h500 := o.1
  intro m
  induction m with
  | zero =>
    intro i hx hm t B nx nm c h1 h2 h3 h4 C
    have := C.2.2.1
    omega
  | succ m ih =>
    intro i hx hm t B nx nm c h1 h2 h3 h4 C
    obtain ⟨nx, rfl⟩ : ∃ n, nx = n + 2 := ⟨nx - 2, by omega⟩
    obtain ⟨nm, rfl⟩ : ∃ n, nm = n + 2 := ⟨nm - 2, by omega⟩
    have hil := C.2.2.1
    have hsk := skp_in o hil
    obtain ⟨hx1, e1, f1, T1⟩ := x_skip o C.1.1 hil
    obtain ⟨hm1, em1, fm1, Tm1⟩ := m_blanks o C.2.1.1.1 hil
    have TM1 : TM hm1 P (skp P i) := C.2.1.1.fr fm1 Tm1
    have C1 : CP bx bm hx1 hm1 P (skp P i) t B := C.to f1 T1 fm1 TM1 hsk.2
    have e62 : ∀ h, gI h 159 3 = 0 → f_X8_readAll_62 159 h = some (1, sI h 159 1 0) := fun h e => by
      unfold f_X8_readAll_62
      rw [lt_def, gI_sI_nk (by decide), e, if_pos rfl]
    show ENDS bx bm P (f_X8_readAll_22b 159 (f_X8_readAll_22 159 (nx + 1)) (1, nI c) hx) (f_X11_text_111b 0 (f_X11_text_111 0 (nm + 1)) () hm)
    have um : f_X11_text_111b 0 (f_X11_text_111 0 (nm + 1)) () hm = (if bvI (bt P (skp P i)) = -1 then f_X11_text_185 0 hm1 else (f_X11_takesWord 0 1 hm1).bind fun q_4 => if q_4.1 = 0 then (f_X11_takesWord 0 3 q_4.2).bind fun q_5 => if q_5.1 = 0 then (f_X11_errs 0 1 (gI q_5.2 0 40) q_5.2).bind fun q_6 => f_X11_text_176 (f_X11_text_111 0 (nm + 1)) 0 q_6.2 else (f_X11_readBinding 0 q_5.2).bind fun q_7 => f_X11_text_176 (f_X11_text_111 0 (nm + 1)) 0 q_7 else (f_X11_readLink 0 (nI (skp P i)) q_4.2).bind fun q_8 => f_X11_text_176 (f_X11_text_111 0 (nm + 1)) 0 q_8) := by
      unfold f_X11_text_111b
      rw [m_noWrong C.2.1.1, Option.bind_some]
      dsimp only
      rw [if_pos rfl, em1, Option.bind_some, lt_def]
      dsimp only
      rw [Tm1.2.2.1]
    rw [um]
    by_cases cE : skp P i < P.length
    · have hbl := (bt_lt (i := skp P i) o).mpr cE
      have hc5 : c < 500 := by omega
      rw [if_neg (show ¬ bvI (bt P (skp P i)) = -1 from by unfold bvI; rw [if_pos hbl]; exact nI_m1 (by omega))]
      have ux : f_X8_readAll_22b 159 (f_X8_readAll_22 159 (nx + 1)) (1, nI c) hx = (f_X8_readRow 159 hx1).bind fun q_2 => f_X8_readAll_22 159 (nx + 1) (q_2.1, nI (c + 1)) q_2.2 := by
        unfold f_X8_readAll_22b
        show (if nI c < 500 then (if (1 : Int32) = 0 then _ else _) else _) = _
        rw [if_pos (show nI c < 500 from nI_lt (b := 500) hc5 (by decide)), if_neg (by decide), e1, Option.bind_some, T1.2.2, T1.2.1.1, if_pos (nI_lt cE (by omega))]
        show ((f_X8_readRow 159 hx1).bind fun q_2 => f_X8_readAll_22 159 (nx + 1) (q_2.1, nI c + 1) q_2.2) = _
        rw [nI_1]
      rw [ux]
      -- a row read by both
      have fin : ∀ rx rm, RS bx bm P (skp P i) rx rm → ENDS bx bm P ((rx.bind fun q => if q.1 = 0 ∨ q.1 = 1 then some (q.1, q.2) else none).bind fun q_2 => f_X8_readAll_22 159 (nx + 1) (q_2.1, nI (c + 1)) q_2.2) (rm.bind fun q_1 => f_X11_text_111 0 (nm + 1) () q_1) := fun rx rm R => by
        rcases R with ⟨k, p, hx', hm', a1, a2, F⟩ | ⟨e, t', B', hx', hm', a1, a2, a3, C'⟩
        · left
          refine ⟨k, p, hx', hm', ?_, ?_, F⟩
          · rw [a1, Option.bind_some, if_pos (Or.inl rfl), Option.bind_some]
            exact e_xbad F.1.2.2 F.2.2.2 (by omega)
          · rw [a2, Option.bind_some, e_mbad F.2.2.1]
        · rw [a1, Option.bind_some, if_pos (Or.inr rfl), Option.bind_some, a2, Option.bind_some]
          exact ih (nx + 1) (nm + 1) (c + 1) (by omega) (by omega) (by omega) (by omega) C'
      have as176 : ∀ (r : Option MH), (r.bind fun q_8 => f_X11_text_176 (f_X11_text_111 0 (nm + 1)) 0 q_8) = (r.bind fun q_1 => f_X11_must 0 59 q_1).bind fun q_1 => f_X11_text_111 0 (nm + 1) () q_1 := fun r => by
        cases r <;> rfl
      have w1 := m_takesWord (s := 1) o TM1 hsk.2 (by decide)
      rw [skp_skp o] at w1
      unfold f_X8_readRow
      rw [x_isWord (s := 1) o T1 hsk.2 (by decide), Option.bind_some]
      by_cases c1 : isWd P 1 (skp P i)
      · obtain ⟨hm2, e2, f2, T2⟩ := w1.1 c1
        rw [if_neg (fun z => bI_0.mp z c1), e2, Option.bind_some]
        dsimp only
        rw [if_neg (by decide), as176]
        exact fin _ _ (row_link o C1 c1 f2 T2)
      · obtain ⟨hm2, e2, f2, T2⟩ := w1.2 c1
        have w3 := m_takesWord (s := 3) o T2 hsk.2 (by decide)
        rw [skp_skp o] at w3
        rw [if_pos (bI_0.mpr c1)]
        dsimp only
        rw [x_isWord (s := 3) o T1 hsk.2 (by decide), Option.bind_some, e2, Option.bind_some]
        dsimp only
        rw [if_pos rfl]
        by_cases c3 : isWd P 3 (skp P i)
        · obtain ⟨hm3, e3, f3, T3⟩ := w3.1 c3
          rw [if_neg (fun z => bI_0.mp z c3), e3, Option.bind_some]
          dsimp only
          rw [if_neg (by decide), as176]
          exact fin _ _ (row_bind o C1 c3 (f2.tr f3) T3)
        · obtain ⟨hm3, e3, f3, T3⟩ := w3.2 c3
          obtain ⟨hm4, e4, f4, T4⟩ := m_errs (k := 1) (p := skp P i) T3 hsk.2 (by omega)
          rw [if_pos (bI_0.mpr c3), e3, Option.bind_some]
          dsimp only
          rw [if_pos rfl, T3.1.2.2.1, show f_X11_errs 0 1 (nI (skp P i)) hm3 = _ from e4, Option.bind_some, T1.2.2, show f_X8_foundFault 159 1 (nI (skp P i)) hx1 = _ from (x_fault (h := hx1) (k := 1) (p := skp P i)).1]
          refine Or.inl ⟨1, skp P i, _, hm4, ?_, ?_, C1.bad x_fault.2.1 x_fault.2.2 ((f2.tr f3).E.tr f4) T4 (by decide)⟩
          · rw [Option.bind_some, if_pos (Or.inl rfl), Option.bind_some]
            exact e_xbad x_fault.2.2 (by decide) (by omega)
          · unfold f_X11_text_176
            dsimp only
            rw [m_mustW T4, Option.bind_some, e_mbad T4]
    · have hE : skp P i = P.length := by omega
      rw [if_pos (show bvI (bt P (skp P i)) = -1 from by unfold bvI; rw [if_neg (by rw [bt_out (by omega)]; decide)])]
      right
      by_cases c5 : c < 500
      · refine ⟨skp P i, t, B, hx1, hm1, ?_, rfl, C1⟩
        unfold f_X8_readAll_22b
        show (if nI c < 500 then (if (1 : Int32) = 0 then _ else _) else _) = _
        rw [if_pos (show nI c < 500 from nI_lt (b := 500) c5 (by decide)), if_neg (by decide), e1, Option.bind_some, T1.2.2, T1.2.1.1, if_neg (nI_nlt (by omega) (by omega))]
        exact e62 _ C1.1.2.2.2.1
      · have hi5 : skp P i = i := by omega
        rw [hi5] at TM1
        refine ⟨i, t, B, hx, hm1, ?_, rfl, C.to frT.rf C.1.1 fm1 TM1 hil⟩
        unfold f_X8_readAll_22b
        show (if nI c < 500 then (if (1 : Int32) = 0 then _ else _) else f_X8_readAll_62 159 hx) = _
        rw [if_neg (show ¬ nI c < 500 from nI_nlt (b := 500) (by omega) (by omega))]
        exact e62 _ C.1.2.2.2.1
end TL
/-! the reference's rows of 512 -/
theorem m_draft {h : MH} {Post : Int32 × MH → Prop} (L : ML h) (hk : ∀ h1, frm [21] h h1 → (∀ j, j < 512 → gI h1 21 j = gI h 1 j) → Ev ((f_X11_takesWord 0 0 h1).bind fun q_5 => if q_5.1 = 0 then (f_X11_errs 0 1 (gI q_5.2 0 40) q_5.2).bind fun q_6 => f_X11_text_85 0 q_6.2 else f_X11_text_85 0 q_5.2) Post) : Ev (f_X11_text_40 0 FU 0 h) Post := by
  unfold f_X11_text_40
  refine Ev_FU (fun m p h1 => ∃ i, i + m = 512 ∧ p = nI i ∧ frm [21] h h1 ∧ ∀ j, j < i → gI h1 21 j = gI h 1 j) 512 0 h (by omega) ⟨0, by omega, rfl, frm.rf, fun j hj => absurd hj (Nat.not_lt_zero _)⟩ ?_
  rintro m p h1 rec ⟨i, hi, rfl, f, e⟩ ih
  have L1 := L.fr f
  unfold f_X11_text_40b
  by_cases q : i < 512
  · rw [if_pos (show nI i < 512 from nI_lt (b := 512) q (by decide)), L1.r43, Option.bind_some, L1.r1, Option.bind_some, ldI_ok (by rw [L1.n1]; exact q) (by omega), Option.bind_some, stI_ok (by rw [L1.n21]; exact q) (by omega), Option.bind_some, nI_1]
    refine ih (m - 1) _ _ (by omega) ⟨i + 1, by omega, rfl, frm.sI (by decide) f, fun j hj => ?_⟩
    by_cases q2 : j = i
    · rw [q2, gI_s, f.1 1 (by decide)]
    · rw [gI_sI_nk q2]; exact e j (by omega)
  · rw [if_neg (show ¬ nI i < 512 from nI_nlt (b := 512) (by omega) (by omega))]
    exact hk h1 f (fun j hj => e j (by omega))
theorem m_swap {h : MH} {Post : Int32 × MH → Prop} (L : ML h) (hk : ∀ h1, frm [1, 21] h h1 → (∀ j, j < 512 → gI h1 1 j = gI h 21 j) → (∀ j, j < 512 → gI h1 21 j = gI h 1 j) → Ev ((f_X11_isWrong 0 h1).bind fun q_9 => if q_9.1 = 0 then (f_X11_keepsAct 0 q_9.2).bind fun q_10 => f_X11_text_241 0 FU 0 q_10 else some ((-1 : Int32), q_9.2)) Post) : Ev (f_X11_text_185 0 h) Post := by
  unfold f_X11_text_185 f_X11_text_187
  refine Ev_FU (fun m p h1 => ∃ i, i + m = 512 ∧ p = nI i ∧ frm [1, 21] h h1 ∧ (∀ j, j < i → gI h1 1 j = gI h 21 j ∧ gI h1 21 j = gI h 1 j) ∧ ∀ j, i ≤ j → gI h1 1 j = gI h 1 j ∧ gI h1 21 j = gI h 21 j) 512 0 h (by omega) ⟨0, by omega, rfl, frm.rf, fun j hj => absurd hj (Nat.not_lt_zero _), fun j _ => ⟨rfl, rfl⟩⟩ ?_
  rintro m p h1 rec ⟨i, hi, rfl, f, e, e'⟩ ih
  have L1 := L.fr f
  unfold f_X11_text_187b
  by_cases q : i < 512
  · have L2 : ML (sI h1 1 i (gI h1 21 i)) := L1
    rw [if_pos (show nI i < 512 from nI_lt (b := 512) q (by decide)), L1.r1, Option.bind_some, ldI_ok (by rw [L1.n1]; exact q) (by omega), Option.bind_some, Option.bind_some, L1.r43, Option.bind_some, ldI_ok (by rw [L1.n21]; exact q) (by omega), Option.bind_some, stI_ok (by rw [L1.n1]; exact q) (by omega), Option.bind_some, L2.r43, Option.bind_some, stI_ok (by rw [L2.n21]; exact q) (by omega), Option.bind_some, nI_1]
    refine ih (m - 1) _ _ (by omega) ⟨i + 1, by omega, rfl, frm.sI (by decide) (frm.sI (by decide) f), fun j hj => ?_, fun j hj => ?_⟩
    · by_cases q2 : j = i
      · rw [q2, gI_s, gI_sI_ne (by decide), gI_s]
        exact ⟨(e' i (Nat.le_refl _)).2, (e' i (Nat.le_refl _)).1⟩
      · rw [gI_sI_nk q2, gI_sI_nk q2, gI_sI_nk q2, gI_sI_nk q2]; exact e j (by omega)
    · rw [gI_sI_nk (by omega), gI_sI_nk (by omega), gI_sI_nk (by omega), gI_sI_nk (by omega)]; exact e' j (by omega)
  · rw [if_neg (show ¬ nI i < 512 from nI_nlt (b := 512) (by omega) (by omega))]
    exact hk h1 f (fun j hj => (e j (by omega)).1) (fun j hj => (e j (by omega)).2)
theorem m_take512 {h : MH} {Post : Int32 × MH → Prop} (L : ML h) (hk : ∀ h1, frm [1] h h1 → (∀ j, j < 512 → gI h1 1 j = gI h 21 j) → Ev ((f_X11_links 0 h1).bind fun q_5 => some (q_5.1, q_5.2)) Post) : Ev (f_X11_text_241 0 FU 0 h) Post := by
  unfold f_X11_text_241
  refine Ev_FU (fun m p h1 => ∃ i, i + m = 512 ∧ p = nI i ∧ frm [1] h h1 ∧ ∀ j, j < i → gI h1 1 j = gI h 21 j) 512 0 h (by omega) ⟨0, by omega, rfl, frm.rf, fun j hj => absurd hj (Nat.not_lt_zero _)⟩ ?_
  rintro m p h1 rec ⟨i, hi, rfl, f, e⟩ ih
  have L1 := L.fr f
  unfold f_X11_text_241b
  by_cases q : i < 512
  · rw [if_pos (show nI i < 512 from nI_lt (b := 512) q (by decide)), L1.r1, Option.bind_some, L1.r43, Option.bind_some, ldI_ok (by rw [L1.n21]; exact q) (by omega), Option.bind_some, stI_ok (by rw [L1.n1]; exact q) (by omega), Option.bind_some, nI_1]
    refine ih (m - 1) _ _ (by omega) ⟨i + 1, by omega, rfl, frm.sI (by decide) f, fun j hj => ?_⟩
    by_cases q2 : j = i
    · rw [q2, gI_s, f.1 21 (by decide)]
    · rw [gI_sI_nk q2]; exact e j (by omega)
  · rw [if_neg (show ¬ nI i < 512 from nI_nlt (b := 512) (by omega) (by omega))]
    exact hk h1 f (fun j hj => e j (by omega))
