/-! ===== repair, guards ===== -/
theorem chF_bar {t : NT} {b e : Nat} : ∀ {ls : List Nat} {u : Nat}, chF (barN t b) u ls e → chF t u ls e := by
  intro ls
  induction ls with
  | nil => intro u h; exact h
  | cons l ls ih => intro u h; exact ⟨h.1, h.2.1, ih h.2.2⟩
theorem cst_bar {t : NT} {b : Nat} : ∀ {ls : List Nat}, cst (barN t b) ls = cst t ls := by
  intro ls
  induction ls with
  | nil => rfl
  | cons l ls ih =>
    show nC t l + cst (barN t b) ls = nC t l + cst t ls
    rw [ih]
theorem prX.cg' {h h' : MH} {j : Nat} {y : Option TR} (hg : ∀ c, 180 ≤ c ∧ c ≤ 182 → gI h' c j = gI h c j) (p : prX h j y) : prX h' j y := by
  cases y with
  | none => show gI h' 180 j = _; rw [hg 180 (by decide)]; exact p
  | some z =>
    obtain ⟨p1, p2, p3⟩ := p
    exact ⟨by rw [hg 180 (by decide)]; exact p1, by rw [hg 181 (by decide)]; exact p2, by rw [hg 182 (by decide)]; exact p3⟩
abbrev rpC (t : NT) (b g : Nat) : Prop := nF t b ≠ g ∧ dist (barN t b) g (nF t b) < 1000000
noncomputable def rpW (t : NT) (b g : Nat) : List Nat := sp (barN t b) g (nF t b)
theorem rpW_ch {t : NT} {b g : Nat} (w : wfN t) (hb : b < nM t) (hg : g < nN t) (c : rpC t b g) : chF t (nF t b) (rpW t b g) g ∧ (rpW t b g).length ≤ 9 ∧ 0 < (rpW t b g).length ∧ cst t (rpW t b g) = dist (barN t b) g (nF t b) := by
  have wB : wfN (barN t b) := w
  have w1 := (w.2.2.2 b hb).1
  have h1 := sp_ch wB hg w1 c.2
  have h2 := sp_cst wB hg w1 c.2
  refine ⟨chF_bar h1, sp_len wB w1, ?_, ?_⟩
  · show 0 < (sp (barN t b) g (nF t b)).length
    cases e : sp (barN t b) g (nF t b) with
    | nil => rw [e] at h1; exact absurd h1 c.1
    | cons l ls => simp
  · rw [← cst_bar (b := b)]; exact h2.2
theorem m_repair43 {h : MH} {a : AB} {b g u l : Nat} {D : List Nat} {k35 : Int32 → MH → Option (Int32 × MH)} {Post : Int32 × MH → Prop} (w : wfA a) (M : MR h a) (hg : g < nN (sN (aS a))) (hu : u < nN (sN (aS a))) (hbm : b < nM (sN (aS a))) (h19 : ∀ u, u < nN (sN (aS a)) → gI h 19 u = nI (dist (barN (sN (aS a)) b) g u)) (e27 : gI h 0 27 = nI D.length) (eD : lrep (gI h 12) 0 D) (hD : D.length ≤ 12) (hl : fstB (onB (barN (sN (aS a)) b) g u) (nM (sN (aS a))) = some l) (hk : ∀ h', MR h' a → frm [0, 12] h h' → gI h' 0 27 = nI (D ++ [l]).length → lrep (gI h' 12) 0 (D ++ [l]) → Ev (k35 (nI (nT (sN (aS a)) l)) h') Post) : Ev (f_X11_laysRepair_43 k35 0 (nI b) (nI g) (nI u) FU 0 h) Post := by
  have wN := w.1.1
  have wB : wfN (barN (sN (aS a)) b) := wN
  have hn10 := wN.2.1
  have hm30 := wN.2.2.1
  obtain ⟨L, S, -⟩ := MR_iff.mp M
  obtain ⟨l1, l2, l3⟩ := fstB_some hl
  unfold f_X11_laysRepair_43
  refine Ev_FU (fun m p h1 => ∃ i, i + m = l ∧ p = nI i ∧ h1 = h) l 0 h (by omega) ⟨0, by omega, rfl, rfl⟩ ?_
  rintro m p h1 rec ⟨i, hi, rfl, rfl⟩ ih
  have him : i < nM (sN (aS a)) := by omega
  obtain ⟨w1, w2, w3, w4, w5⟩ := wN.2.2.2 i him
  have b1 : dist (barN (sN (aS a)) b) g u ≤ 1000000 := (dist_bel wB hg).2.1 u hu
  have b2 : dist (barN (sN (aS a)) b) g (nT (sN (aS a)) i) ≤ 1000000 := (dist_bel wB hg).2.1 _ w2
  have hon : onB (barN (sN (aS a)) b) g u i = true ↔ i = l := by
    constructor
    · intro z
      by_cases q : i = l
      · exact q
      · rw [l3 i (by omega)] at z; cases z
    · rintro rfl; exact l2
  have hUi : nU (barN (sN (aS a)) b) i = (if i = b then false else nU (sN (aS a)) i) := rfl
  have hdl : dist (barN (sN (aS a)) b) g u < 1000000 := (onB_iff.mp l2).2.2.1
  have next : i ≠ l → Ev (rec (nI i + 1) h1) Post := fun q => by
    rw [nI_1]
    exact ih (m - 1) _ _ (by omega) ⟨i + 1, by omega, rfl, rfl⟩
  unfold f_X11_laysRepair_43b f_X11_laysRepair_95
  by_cases c1 : i = b
  · rw [if_pos (by rw [c1]), lt_def]
    exact next (fun z => by have := (onB_iff.mp (hon.mpr z)).1; rw [hUi, if_pos c1] at this; cases this)
  · rw [if_neg (fun z => c1 (nI_inj (by omega) (by omega) z)), m_isUp L S.1 wN him, Option.bind_some]
    by_cases c2 : nU (sN (aS a)) i = true
    · rw [if_neg (fun z => bI_0.mp z c2)]
      dsimp only
      rw [m_from L S.1 wN him, Option.bind_some]
      dsimp only
      by_cases c3 : nF (sN (aS a)) i = u
      · rw [if_pos (by rw [c3]), m_costOf L S.1 wN him, Option.bind_some]
        dsimp only
        rw [L.r34, Option.bind_some, m_to L S.1 wN him, Option.bind_some]
        dsimp only
        rw [ldI_ok (by rw [L.n19]; omega) (by omega), Option.bind_some, h19 _ w2, L.r34, Option.bind_some, ldI_ok (by rw [L.n19]; omega) (by omega), Option.bind_some, h19 _ hu, nI_add]
        by_cases c4 : nC (sN (aS a)) i + dist (barN (sN (aS a)) b) g (nT (sN (aS a)) i) = dist (barN (sN (aS a)) b) g u
        · have hil : i = l := hon.mp (onB_iff.mpr ⟨by rw [hUi, if_neg c1]; exact c2, c3, hdl, c4⟩)
          subst hil
          rw [if_pos (by rw [c4]), L.r26, Option.bind_some, e27, stI_ok (by rw [L.n12]; omega) (by omega), Option.bind_some, lt_def, gI_sI_ne (by decide), e27, nI_1]
          have f2 : frm [0, 12] h1 (sI (sI h1 12 D.length (nI i)) 0 27 (nI (D.length + 1))) := frm.sI (by decide) (frm.sI (by decide) frm.rf)
          have M2 : MR (sI (sI h1 12 D.length (nI i)) 0 27 (nI (D.length + 1))) a := MR.cg (L.fr f2) (fun k hk => by rw [gI_sI_nk (by intro e; subst e; revert hk; decide), gI_sI_ne (by decide)]) (f2.1 _ (by decide)) (f2.1 _ (by decide)) (f2.1 _ (by decide)) (f2.1 _ (by decide)) (f2.1 _ (by decide)) (f2.1 _ (by decide)) rfl M
          obtain ⟨L2, S2, -⟩ := MR_iff.mp M2
          rw [m_to L2 S2.1 wN him, Option.bind_some]
          refine hk _ M2 f2 (by rw [gI_s, List.length_append]; rfl) ?_
          refine lrep.up (g := gI h1 12) (x := nI i) (fun j => ?_) rfl eD
          rw [gI_sI_ne (by decide), gI_sI, Nat.zero_add]
          by_cases q2 : j = D.length
          · rw [if_pos ⟨rfl, q2⟩, if_pos q2]
          · rw [if_neg (fun z => q2 z.2), if_neg q2]
        · rw [if_neg (fun z => c4 (nI_inj (by omega) (by omega) z)), lt_def]
          exact next (fun z => c4 (onB_iff.mp (hon.mpr z)).2.2.2)
      · rw [if_neg (fun z => c3 (nI_inj (by omega) (by omega) z)), lt_def]
        exact next (fun z => c3 (onB_iff.mp (hon.mpr z)).2.1)
    · rw [if_pos (bI_0.mpr c2), lt_def]
      exact next (fun z => by have := (onB_iff.mp (hon.mpr z)).1; rw [hUi, if_neg c1] at this; exact c2 this)
theorem m_laysRepair {h : MH} {a : AB} {b g : Nat} (w : wfA a) (M : MR h a) (hb : b < nM (sN (aS a))) (hg : g < nN (sN (aS a))) : (¬ rpC (sN (aS a)) b g → ∃ h', f_X11_laysRepair 0 (nI b) (nI g) h = some (0, h') ∧ MR h' a) ∧ (rpC (sN (aS a)) b g → ∃ h' ys, f_X11_laysRepair 0 (nI b) (nI g) h = some (bI (fwv (ys.getD 0 none) < 1000), h') ∧ MW h' a (rpW (sN (aS a)) b g) ∧ plS (sN (aS a)) (sB (aS a)) (aD a) (rpW (sN (aS a)) b g) ys ∧ mrep h' 0 ys ∧ gI h' 19 (nF (sN (aS a)) b) = nI (dist (barN (sN (aS a)) b) g (nF (sN (aS a)) b))) := by
  have wN := w.1.1
  have wB : wfN (barN (sN (aS a)) b) := wN
  have hn10 := wN.2.1
  have hm30 := wN.2.2.1
  obtain ⟨w1, w2, w3, w4, w5⟩ := wN.2.2.2 b hb
  obtain ⟨h1, e1, f1, T1⟩ := m_without w M hb hg
  have M1 : MR h1 a := MR.cg (M.1.fr f1) (fun k _ => by rw [f1.1 0 (by decide)]) (f1.1 _ (by decide)) (f1.1 _ (by decide)) (f1.1 _ (by decide)) (f1.1 _ (by decide)) (f1.1 _ (by decide)) (f1.1 _ (by decide)) (f1.2.1 _ (by decide)) M
  obtain ⟨L1, S1, -⟩ := MR_iff.mp M1
  have hd : dist (barN (sN (aS a)) b) g (nF (sN (aS a)) b) ≤ 1000000 := (dist_bel wB hg).2.1 _ w1
  have pre : f_X11_laysRepair 0 (nI b) (nI g) h = (if nI (dist (barN (sN (aS a)) b) g (nF (sN (aS a)) b)) < 1000000 then (if nI (nF (sN (aS a)) b) = nI g then some (0, h1) else f_X11_laysRepair_35 0 (nI b) (nI g) FU (nI (nF (sN (aS a)) b)) (sI h1 0 27 0)) else some (0, h1)) := by
    unfold f_X11_laysRepair
    rw [e1, Option.bind_some, m_from L1 S1.1 wN hb, Option.bind_some]
    dsimp only
    rw [L1.r34, Option.bind_some, ldI_ok (by rw [L1.n19]; omega) (by omega), Option.bind_some, T1 _ w1]
    simp only [lt_def]
  rw [pre]
  constructor
  · intro hn
    refine ⟨h1, ?_, M1⟩
    by_cases c2 : dist (barN (sN (aS a)) b) g (nF (sN (aS a)) b) < 1000000
    · rw [if_pos (show nI (dist (barN (sN (aS a)) b) g (nF (sN (aS a)) b)) < 1000000 from (nI_ltI (by omega) (by decide)).mpr c2)]
      by_cases c1 : nF (sN (aS a)) b = g
      · rw [if_pos (by rw [c1])]
      · exact absurd ⟨c1, c2⟩ hn
    · rw [if_neg (show ¬ nI (dist (barN (sN (aS a)) b) g (nF (sN (aS a)) b)) < 1000000 from fun z => c2 ((nI_ltI (by omega) (by decide)).mp z))]
  · intro hc
    obtain ⟨hch, h9, h0, hcs⟩ := rpW_ch wN hb hg hc
    rw [if_pos (show nI (dist (barN (sN (aS a)) b) g (nF (sN (aS a)) b)) < 1000000 from (nI_ltI (by omega) (by decide)).mpr hc.2), if_neg (fun z => hc.1 (nI_inj (by omega) (by omega) z))]
    have f2 : frm [0, 12] h1 (sI h1 0 27 0) := frm.sI (by decide) frm.rf
    have M2 : MR (sI h1 0 27 0) a := MR.cg (L1.fr f2) (fun k hk => gI_sI_nk (by intro e; subst e; revert hk; decide)) (f2.1 _ (by decide)) (f2.1 _ (by decide)) (f2.1 _ (by decide)) (f2.1 _ (by decide)) (f2.1 _ (by decide)) (f2.1 _ (by decide)) rfl M1
    have key : Ev (f_X11_laysRepair_35 0 (nI b) (nI g) FU (nI (nF (sN (aS a)) b)) (sI h1 0 27 0)) (fun q => ∃ ys, q.1 = bI (fwv (ys.getD 0 none) < 1000) ∧ MW q.2 a (rpW (sN (aS a)) b g) ∧ plS (sN (aS a)) (sB (aS a)) (aD a) (rpW (sN (aS a)) b g) ys ∧ mrep q.2 0 ys ∧ gI q.2 19 (nF (sN (aS a)) b) = nI (dist (barN (sN (aS a)) b) g (nF (sN (aS a)) b))) := by
      unfold f_X11_laysRepair_35
      refine Ev_FU (fun m p h3 => ∃ u D, D.length + m = 10 ∧ p = nI u ∧ MR h3 a ∧ gI h3 19 = gI h1 19 ∧ gI h3 0 27 = nI D.length ∧ lrep (gI h3 12) 0 D ∧ u < nN (sN (aS a)) ∧ dist (barN (sN (aS a)) b) g u < 1000000 ∧ rpW (sN (aS a)) b g = D ++ sp (barN (sN (aS a)) b) g u) 10 (nI (nF (sN (aS a)) b)) (sI h1 0 27 0) (by omega) ⟨nF (sN (aS a)) b, [], by simp, rfl, M2, gI_sI_f (by decide), gI_s _ _ _ _, fun j hj => (by simp at hj), w1, hc.2, rfl⟩ ?_
      rintro m p h3 rec ⟨u, D, hD, rfl, M3, g19, e27, eD, hu, hdu, hsp⟩ ih
      have hlen := congrArg List.length hsp
      rw [List.length_append] at hlen
      unfold f_X11_laysRepair_35b
      by_cases c3 : u = g
      · subst c3
        rw [if_pos rfl]
        rw [sp_v, List.append_nil] at hsp
        rw [← hsp] at e27 eD
        obtain ⟨h4, ys, e4, f4, M4, p4, R4⟩ := m_laysFewest w (show MW h3 a (rpW (sN (aS a)) b u) from ⟨M3, e27, eD⟩) (by omega) hch
        have hyl := plS_len p4
        have hR0 := R4.1 0 (by omega)
        rw [Nat.zero_add] at hR0
        rw [e4, Option.bind_some, M4.1.1.r28, Option.bind_some, show ldI h4 13 0 = some (gI h4 13 0) from ldI_ok (i := 0) (by rw [M4.1.1.n13]; decide) (by decide), Option.bind_some, hR0.1.fw]
        have g19' : gI h4 19 (nF (sN (aS a)) b) = nI (dist (barN (sN (aS a)) b) u (nF (sN (aS a)) b)) := by
          rw [f4.1.1 19 (by decide), g19]; exact T1 _ w1
        cases e0 : ys.getD 0 none with
        | none =>
          rw [if_pos (show fwm none = -1 from rfl)]
          refine Ev_some ⟨ys, ?_, M4, p4, R4, g19'⟩
          rw [e0]; rfl
        | some z =>
          have hz := (hR0.2 z e0).1
          rw [if_neg (show ¬ fwm (some z) = -1 from nI_m1 (by omega))]
          refine Ev_some ⟨ys, ?_, M4, p4, R4, g19'⟩
          rw [e0]
          unfold bI
          rw [if_pos (show fwv (some z) < 1000 from by show z.1 < 1000; omega)]
      · rw [if_neg (fun z => c3 (nI_inj (by omega) (by omega) z))]
        obtain ⟨l0, hl0, hU0, hF0, he0⟩ := (dist_bel wB hg).2.2.2 u hu c3 hdu
        have ho0 : onB (barN (sN (aS a)) b) g u l0 = true := onB_iff.mpr ⟨hU0, hF0, hdu, he0.symm⟩
        cases e : fstB (onB (barN (sN (aS a)) b) g u) (nM (sN (aS a))) with
        | none => rw [fstB_none e l0 hl0] at ho0; cases ho0
        | some l =>
          obtain ⟨l1, l2, l3⟩ := fstB_some e
          have o := on_near wB l1 l2
          have hsp2 := sp_cons wB hu c3 e
          rw [hsp2, List.length_cons] at hlen
          refine m_repair43 w M3 hg hu hb (fun y hy => by rw [g19]; exact T1 y hy) e27 eD (by omega) e (fun h4 M4 f4 e27' eD' => ?_)
          refine ih (m - 1) _ _ (by omega) ⟨nT (sN (aS a)) l, D ++ [l], by rw [List.length_append]; simp; omega, rfl, M4, by rw [f4.1 19 (by decide)]; exact g19, e27', eD', (wN.2.2.2 l l1).2.1, by have := o.1; show dist (barN (sN (aS a)) b) g (nT (barN (sN (aS a)) b) l) < 1000000; omega, ?_⟩
          rw [hsp, hsp2, List.append_assoc]
          rfl
    obtain ⟨⟨v, h'⟩, e, ys, z1, z2⟩ := key
    dsimp only at z1 z2
    subst z1
    exact ⟨h', ys, e, z2⟩
theorem m_repair34 {h : MH} {W : List Nat} (L : ML h) (hW : W.length ≤ 16) (e27 : gI h 0 27 = nI W.length) (eW : lrep (gI h 12) 0 W) {Post : Int32 × MH → Prop} (hk : ∀ h', frm [1] h h' → gL h' = gL h → (∀ j, j < 495 → gI h' 1 j = gI h 1 j) → gI h' 1 495 = nI W.length → lrep (gI h' 1) 496 W → Ev ((f_X11_writes 0 h').bind fun q_7 => some (q_7.1, q_7.2)) Post) : Ev (f_X11_repair_34 0 FU 0 h) Post := by
  unfold f_X11_repair_34
  refine Ev_FU (fun m p h1 => ∃ i, i + m = W.length ∧ p = nI i ∧ frm [1] h h1 ∧ gL h1 = gL h ∧ (∀ j, j < 496 → gI h1 1 j = gI h 1 j) ∧ ∀ j, j < i → gI h1 1 (496 + j) = nI (W.getD j 0)) W.length 0 h (by omega) ⟨0, by omega, rfl, frm.rf, rfl, fun _ _ => rfl, fun j hj => absurd hj (Nat.not_lt_zero _)⟩ ?_
  rintro m p h1 rec ⟨i, hi, rfl, f, gl, g1, g2⟩ ih
  have L1 : ML h1 := L.fr f
  unfold f_X11_repair_34b
  rw [f.1 0 (by decide), e27]
  by_cases q : i < W.length
  · have eTi := eW i q
    rw [Nat.zero_add] at eTi
    rw [if_pos (nI_lt q (by omega)), L1.r1, Option.bind_some, L1.r26, Option.bind_some, ldI_ok (by rw [L1.n12]; omega) (by omega), Option.bind_some, show (496 : Int32) + nI i = nI (496 + i) from nI_add 496 i, stI_ok (by rw [L1.n1]; omega) (by omega), Option.bind_some, nI_1, f.1 12 (by decide)]
    refine ih (m - 1) _ _ (by omega) ⟨i + 1, by omega, rfl, frm.sI (by decide) f, gl, fun j hj => by rw [gI_sI_nk (by omega)]; exact g1 j hj, fun j hj => ?_⟩
    by_cases q2 : j = i
    · rw [q2, gI_s, eTi]
    · rw [gI_sI_nk (by omega)]; exact g2 j (by omega)
  · have : i = W.length := by omega
    subst this
    rw [if_neg (nI_nlt (Nat.le_refl _) (by omega)), L1.r1, Option.bind_some, show (495 : Int32) = nI 495 from rfl, stI_ok (by rw [L1.n1]; decide) (by decide), Option.bind_some]
    refine hk _ (frm.sI (by decide) f) gl (fun j hj => by rw [gI_sI_nk (by omega)]; exact g1 j (by omega)) (gI_s _ _ _ _) (fun j hj => ?_)
    rw [gI_sI_nk (by omega)]; exact g2 j hj
theorem ok_repair : J_repair RR := by
  rintro x1 x2 hx hm ⟨a, w, X, M⟩
  obtain ⟨L, S, -⟩ := XR_iff.mp X
  have M0 := M.told (v := 0)
  obtain ⟨mL, mS, -⟩ := MR_iff.mp M0
  have wN := w.1.1
  have hn10 := wN.2.1
  have hm30 := wN.2.2.1
  by_cases c1 : 0 ≤ x1.toInt ∧ x1.toInt < nM (sN (aS a))
  · by_cases c2 : 0 ≤ x2.toInt ∧ x2.toInt < nN (sN (aS a))
    · obtain ⟨b, hb, rfl⟩ := ofZ c1.1 c1.2
      obtain ⟨g, hg, rfl⟩ := ofZ c2.1 c2.2
      obtain ⟨hx1, ex1, X1, f1, r1⟩ := x_foundRound w X hb hg
      obtain ⟨mNo, mYes⟩ := m_laysRepair w M0 hb hg
      have um : f_X11_repair 0 (nI b) (nI g) hm = (f_X11_laysRepair 0 (nI b) (nI g) (sI hm 0 0 0)).bind fun q_4 => if q_4.1 = 0 then some ((-1 : Int32), q_4.2) else f_X11_repair_34 0 FU 0 q_4.2 := by
        unfold f_X11_repair
        rw [lt_def, m_isLink mL mS.1 wN, Option.bind_some, if_neg (fun z => bI_0.mp z c1)]
        dsimp only
        rw [m_isNode mL mS.1 wN, Option.bind_some, if_neg (fun z => bI_0.mp z c2)]
      have ux : f_X10_repair 0 (nI b) (nI g) hx = (if bI (nF (sN (aS a)) b ≠ g ∧ dist (barN (sN (aS a)) b) g (nF (sN (aS a)) b) < 1000000) = 0 then some (-1, hx1) else (f_X10_planned 0 197 hx1).bind fun q_9 => if q_9.1 = 0 then some ((-1 : Int32), q_9.2) else (gR q_9.2 0 0).bind fun a_10 => (gR q_9.2 a_10 6).bind fun a_11 => (gR q_9.2 0 16).bind fun a_12 => (f_X5_copyFrom a_11 a_12 q_9.2).bind fun q_13 => (gR q_13 0 13).bind fun a_14 => (gR q_13 0 1).bind fun a_15 => (f_X9_stackInto a_14 a_15 q_13).bind fun q_16 => (gR q_16 0 1).bind fun a_17 => some ((gI q_16 a_17 1), q_16)) := by
        unfold f_X10_repair
        rw [L.r0, Option.bind_some, L.s0, Option.bind_some, x_hasLink S.1.2.1 (by omega), Option.bind_some, if_neg (fun z => bI_0.mp z c1)]
        dsimp only
        rw [L.r0, Option.bind_some, L.s0, Option.bind_some, x_hasNode S.1.1 (by omega), Option.bind_some, if_neg (fun z => bI_0.mp z c2)]
        dsimp only
        rw [ex1, Option.bind_some]
        dsimp only
        rw [X1.1.r16, Option.bind_some]
      rw [um, ux]
      by_cases hc : rpC (sN (aS a)) b g
      · obtain ⟨hm1, ys, em1, MW1, pm, Rm, g19⟩ := mYes hc
        obtain ⟨hch, h9, h0, hcs⟩ := rpW_ch wN hb hg hc
        have hyl := plS_len pm
        have rW : rowIs hx1 197 (rpW (sN (aS a)) b g) := r1 hc
        obtain ⟨hx2, ys', ex2, X2, f2, px, Rx, eE⟩ := x_planned w X1 X1.1.rou (Or.inr rfl) rW (by omega) hch
        have := plS_fun pm px
        subst this
        have hge : ys.getD 0 (some (0, 0, 0)) = ys.getD 0 none := by
          cases ys with
          | nil => simp at hyl; omega
          | cons y zs => rfl
        rw [em1, Option.bind_some, if_neg (fun z => bI_0.mp z hc), ex2, Option.bind_some, hge]
        dsimp only
        cases e0 : ys.getD 0 none with
        | none =>
          refine ⟨-1, hx2, hm1, ?_, ?_, a, w, X2, MW1.1⟩
          · rw [if_pos (bI_0.mpr (by decide))]
          · rw [if_pos (bI_0.mpr (by decide))]
        | some z =>
          have hz := ((Rm.1 0 (by omega)).2 z e0).1
          have hlt : fwv (some z) < 1000 := by show z.1 < 1000; omega
          rw [if_neg (fun q => bI_0.mp q hlt), if_neg (fun q => bI_0.mp q hlt)]
          have hWm := fun l hl => chF_in hch l hl
          have rW2 : rowIs hx2 197 (rpW (sN (aS a)) b g) := rW.fr (f2.1 _ (by decide)) (f2.1 _ (by decide))
          obtain ⟨hx3, ex3, f3, rr3⟩ := x_rowCopy (a := 18) (b := 197) X2.1.way X2.1.rou rW2 (by omega) (by omega) (by decide) (by decide)
          have X3 := X2.way f3 rr3
          have Rx3 : xrep hx3 0 ys := ⟨fun j hj => ⟨(Rx.1 j hj).1.cg' (fun c hc => by rw [f3.1 c (by simp; omega)]), (Rx.1 j hj).2⟩, by rw [f3.1 180 (by decide)]; exact Rx.2⟩
          obtain ⟨hx4, ex4, f4, rr4⟩ := x_stackInto (D := aD a) wN w.1.2.1 X3.1 px hWm (by omega) w.2.2.1.2 Rx3 (by rw [f3.1 178 (by decide)]; exact eE) e0
          have X4 := X3.stk f4 rr4
          have wW : wfA (setW a (rpW (sN (aS a)) b g)) := w.way (chF_way hch (by omega))
          have key : Ev (f_X11_repair_34 0 FU 0 hm1) (fun q => q.1 = nI (lbI ys 17 0).length ∧ MR q.2 (setK (setW a (rpW (sN (aS a)) b g)) (lbI ys 17 0))) := by
            refine m_repair34 MW1.1.1 (show (rpW (sN (aS a)) b g).length ≤ 16 by omega) MW1.2.1 MW1.2.2 (fun h5 f5 gl5 g5 g6 g7 => ?_)
            have M5 : MR h5 (setW a (rpW (sN (aS a)) b g)) := MR.way w (MW1.1.1.fr f5) (fun k _ => by rw [f5.1 0 (by decide)]) g5 g6 g7 (fun c hc => f5.1 c (by simp; omega)) (by rw [gl5]) MW1.1
            have MW5 : MW h5 (setW a (rpW (sN (aS a)) b g)) (rpW (sN (aS a)) b g) := ⟨M5, by rw [f5.1 0 (by decide)]; exact MW1.2.1, by rw [f5.1 12 (by decide)]; exact MW1.2.2⟩
            have R5 : mrep h5 0 ys := Rm.cg (fun c h6 h7 j _ => by rw [f5.1 c (by simp; omega)])
            obtain ⟨h6, e6, M6⟩ := m_writes wW MW5 pm hWm (by omega) R5 e0
            rw [e6, Option.bind_some]
            exact Ev_some ⟨rfl, M6⟩
          obtain ⟨⟨v, hm2⟩, em2, v1, M2⟩ := key
          dsimp only at v1 M2
          subst v1
          refine ⟨nI (lbI ys 17 0).length, hx4, hm2, ?_, em2, setK (setW a (rpW (sN (aS a)) b g)) (lbI ys 17 0), wW.stk (lbI_stk wN w.1.2.1 pm hWm w.2.2.1.2 (by omega) e0), X4, M2⟩
          rw [X2.1.r0, Option.bind_some, X2.1.s6, Option.bind_some, X2.1.r16, Option.bind_some, ex3, Option.bind_some, X3.1.r13, Option.bind_some, X3.1.r1, Option.bind_some, ex4, Option.bind_some, X4.1.r1, Option.bind_some, rr4.1]
      · obtain ⟨hm1, em1, M1⟩ := mNo hc
        refine ⟨-1, hx1, hm1, ?_, ?_, a, w, X1, M1⟩
        · rw [if_pos (bI_0.mpr hc)]
        · rw [em1, Option.bind_some, if_pos rfl]
    · refine ⟨-1, hx, sI hm 0 0 0, ?_, ?_, a, w, X, M0⟩
      · unfold f_X10_repair
        rw [L.r0, Option.bind_some, L.s0, Option.bind_some, x_hasLink S.1.2.1 (by omega), Option.bind_some, if_neg (fun z => bI_0.mp z c1)]
        dsimp only
        rw [L.r0, Option.bind_some, L.s0, Option.bind_some, x_hasNode S.1.1 (by omega), Option.bind_some, if_pos (bI_0.mpr c2)]
      · unfold f_X11_repair
        rw [lt_def, m_isLink mL mS.1 wN, Option.bind_some, if_neg (fun z => bI_0.mp z c1)]
        dsimp only
        rw [m_isNode mL mS.1 wN, Option.bind_some, if_pos (bI_0.mpr c2)]
  · refine ⟨-1, hx, sI hm 0 0 0, ?_, ?_, a, w, X, M0⟩
    · unfold f_X10_repair
      rw [L.r0, Option.bind_some, L.s0, Option.bind_some, x_hasLink S.1.2.1 (by omega), Option.bind_some, if_pos (bI_0.mpr c1)]
    · unfold f_X11_repair
      rw [lt_def, m_isLink mL mS.1 wN, Option.bind_some, if_pos (bI_0.mpr c1)]
