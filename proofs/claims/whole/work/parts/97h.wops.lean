/-! ===== write, witness, greedy, covers ===== -/
theorem way_chF {t : NT} : ∀ {W : List Nat}, (∀ i, i < W.length → W.getD i 0 < nM t) → (∀ i, i + 1 < W.length → nT t (W.getD i 0) = nF t (W.getD (i + 1) 0)) → ∀ u, (0 < W.length → nF t (W.getD 0 0) = u) → ∃ e, chF t u W e := by
  intro W
  induction W with
  | nil => intro _ _ u _; exact ⟨u, rfl⟩
  | cons l ls ih =>
    intro h1 h2 u h3
    obtain ⟨e, he⟩ := ih (fun i hi => h1 (i + 1) (by rw [List.length_cons]; omega)) (fun i hi => h2 (i + 1) (by rw [List.length_cons]; omega)) (nT t l) (fun hp => (h2 0 (by rw [List.length_cons]; omega)).symm)
    exact ⟨e, h1 0 (by simp), h3 (by simp), he⟩
theorem wayOK.ch {t : NT} {W : List Nat} (h : wayOK t W) : ∃ u e, chF t u W e := by
  obtain ⟨e, he⟩ := way_chF h.2.1 h.2.2 (nF t (W.getD 0 0)) (fun _ => rfl)
  exact ⟨_, e, he⟩
theorem x_planned {h : MH} {a : AB} {ar u e : Nat} {W : List Nat} (w : wfA a) (X : XR h a) (A : rowAt h ar 16) (har : ar = 18 ∨ ar = 197) (rW : rowIs h ar W) (hW : W.length ≤ 16) (hch : chF (sN (aS a)) u W e) : ∃ h' ys, f_X10_planned 0 ar h = some (bI (fwv (ys.getD 0 (some (0, 0, 0))) < 1000), h') ∧ XR h' a ∧ frm ([0, 170, 171] ++ wrX) h h' ∧ plS (sN (aS a)) (sB (aS a)) (aD a) W ys ∧ xrep h' 0 ys ∧ gI h' 178 1 = nI W.length := by
  obtain ⟨h1, e1, X1, z1, R1, f1, g1⟩ := freshX2 h a w X
  obtain ⟨L, S, K, D, -⟩ := XR_iff.mp X
  obtain ⟨L1, S1, K1, D1, -⟩ := XR_iff.mp X1
  have E1 : WE h1 169 (sN (aS a)) (sB (aS a)) := ⟨L1, S1.1, L1.rt, R1⟩
  have rW1 : rowIs h1 ar W := rW.fr (f1.1 _ (by rcases har with e | e <;> rw [e] <;> decide)) (f1.1 _ (by rcases har with e | e <;> rw [e] <;> decide))
  obtain ⟨⟨q1, h2⟩, e2, ys, f2, p2, r2, x2, y2, d2⟩ := x_plan (D := aD a) w.1.1 w.1.2.1 E1 (by decide) (A.fr f1) (by omega) rW1 hW hch w.2.2.1.2
  dsimp only at f2 r2 x2 y2 d2
  refine ⟨h2, ys, ?_, X1.fr f2 (by decide), frm.tr (f1.up (by decide)) (f2.up (by decide)), p2, x2, y2⟩
  unfold f_X10_planned
  rw [L.r13, Option.bind_some, L.r0, Option.bind_some, L.s0, Option.bind_some, e1, Option.bind_some]
  dsimp only
  rw [D1, e2, Option.bind_some, r2]
  dsimp only
  rw [if_pos bI_01]
theorem m_takesWay {h : MH} {a : AB} (w : wfA a) (M : MR h a) : ∃ h', f_X11_takesWay 0 h = some h' ∧ MW h' a (sW (aS a)) ∧ frm [0, 12] h h' ∧ ∀ k, k ≠ 27 → gI h' 0 k = gI h 0 k := by
  obtain ⟨L, S, -⟩ := MR_iff.mp M
  have h16 := w.1.2.2.2.2.1
  have hx : ∀ h1, frm [0, 12] h h1 → (∀ k, k ≠ 27 → gI h1 0 k = gI h 0 k) → MR h1 a := fun h1 f g => MR.cg (L.fr f) (fun k hk => g k (by intro e; subst e; revert hk; decide)) (f.1 _ (by decide)) (f.1 _ (by decide)) (f.1 _ (by decide)) (f.1 _ (by decide)) (f.1 _ (by decide)) (f.1 _ (by decide)) (f.2.1 _ (by decide)) M
  have key : Ev (f_X11_takesWay 0 h) (fun h' => MW h' a (sW (aS a)) ∧ frm [0, 12] h h' ∧ ∀ k, k ≠ 27 → gI h' 0 k = gI h 0 k) := by
    unfold f_X11_takesWay
    rw [m_wayLong L S.2.2.2.2.1, Option.bind_some, lt_def]
    dsimp only
    unfold f_X11_takesWay_10
    refine Ev_FU (fun m p h1 => ∃ i, i + m = (sW (aS a)).length ∧ p = nI i ∧ frm [0, 12] h h1 ∧ (∀ k, k ≠ 27 → gI h1 0 k = gI h 0 k) ∧ gI h1 0 27 = nI (sW (aS a)).length ∧ ∀ j, j < i → gI h1 12 j = nI ((sW (aS a)).getD j 0)) (sW (aS a)).length 0 (sI h 0 27 (nI (sW (aS a)).length)) (by omega) ⟨0, by omega, rfl, frm.sI (by decide) frm.rf, fun k hk => gI_sI_nk hk, gI_s _ _ _ _, fun j hj => absurd hj (Nat.not_lt_zero _)⟩ ?_
    rintro m p h1 rec ⟨i, hi, rfl, f, g, e27, hw⟩ ih
    have L1 := L.fr f
    unfold f_X11_takesWay_10b
    rw [e27]
    by_cases q : i < (sW (aS a)).length
    · rw [if_pos (nI_lt q (by omega)), L1.r26, Option.bind_some, m_wayLink L1 (by omega), Option.bind_some]
      dsimp only
      rw [f.1 1 (by decide), S.2.2.2.2.2 i q, stI_ok (by rw [L1.n12]; omega) (by omega), Option.bind_some, nI_1]
      refine ih (m - 1) _ _ (by omega) ⟨i + 1, by omega, rfl, frm.sI (by decide) f, fun k hk => by rw [gI_sI_ne (by decide)]; exact g k hk, by rw [gI_sI_ne (by decide)]; exact e27, fun j hj => ?_⟩
      by_cases q2 : j = i
      · rw [q2, gI_s]
      · rw [gI_sI_nk q2]; exact hw j (by omega)
    · rw [if_neg (nI_nlt (by omega) (by omega))]
      refine Ev_some ⟨⟨hx h1 f g, e27, fun j hj => ?_⟩, f, g⟩
      rw [Nat.zero_add]; exact hw j (by omega)
  obtain ⟨h', e, z⟩ := key
  exact ⟨h', e, z⟩
theorem m_writes {h : MH} {a : AB} {W : List Nat} {ys : List (Option TR)} {z0 : TR} (w : wfA a) (M : MW h a W) (p : plS (sN (aS a)) (sB (aS a)) (aD a) W ys) (hWm : ∀ l, l ∈ W → l < nM (sN (aS a))) (hW : W.length ≤ 16) (R : mrep h 0 ys) (e0 : ys.getD 0 none = some z0) : ∃ h', f_X11_writes 0 h = some (nI (lbI ys 17 0).length, h') ∧ MR h' (setK a (lbI ys 17 0)) := by
  have hlen := plS_len p
  have h0 := wr_next w.1.1 w.1.2.1 p hWm e0
  have hD := w.2.2.1.2
  have L := M.1.1
  have hz0 : z0.1 ≤ 12 := by have := h0.2.2.2.2.1; omega
  have key : Ev (f_X11_writes 0 h) (fun q => q.1 = nI (lbI ys 17 0).length ∧ frm [0, 3] h q.2 ∧ (∀ k, k ≠ 6 → gI q.2 0 k = gI h 0 k) ∧ mK q.2 (lbI ys 17 0)) := by
    unfold f_X11_writes f_X11_writes_7
    rw [lt_def]
    refine Ev_FU (fun m q h1 => ∃ i dn, q = nI i ∧ i ≤ ys.length ∧ 17 ≤ i + m ∧ frm [0, 3] h h1 ∧ (∀ k, k ≠ 6 → gI h1 0 k = gI h 0 k) ∧ mK h1 dn ∧ dn ++ lbI ys m i = lbI ys 17 0 ∧ (i < ys.length → ∃ z, ys.getD i none = some z ∧ dn.length + z.1 = z0.1) ∧ dn.length ≤ 12) 17 0 (sI h 0 6 0) (by omega) ⟨0, [], rfl, Nat.zero_le _, by omega, frm.sI (by decide) frm.rf, fun k hk => gI_sI_nk hk, ⟨gI_s _ _ _ _, fun j hj => (by simp at hj)⟩, rfl, fun _ => ⟨z0, e0, by simp⟩, by simp⟩ ?_
    rintro m q h1 rec ⟨i, dn, rfl, hi, hm, f, g, mk1, hd, hz, hdl⟩ ih
    have L1 := L.fr f
    unfold f_X11_writes_7b
    rw [g 27 (by decide), M.2.1, ← hlen]
    by_cases c : i < ys.length
    · obtain ⟨z, ez, hlz⟩ := hz c
      obtain ⟨a1, a2, a3, a4, a5, a6⟩ := wr_next w.1.1 w.1.2.1 p hWm ez
      have hP := (R.1 i c).1
      rw [ez, Nat.zero_add] at hP
      obtain ⟨p1, p2, p3⟩ := hP
      have hz1 := ((R.1 i c).2 z ez).2.2.2.2
      rw [if_pos (nI_lt c (by omega)), L1.r5, Option.bind_some, L1.r29, Option.bind_some, ldI_ok (by rw [L1.n14]; omega) (by omega), Option.bind_some, f.1 14 (by decide), p2, mk1.1, stI_ok (by rw [L1.n3]; omega) (by omega), Option.bind_some, lt_def, gI_sI_ne (by decide), mk1.1, nI_1]
      have f2 : frm [0, 3] h (sI (sI h1 3 dn.length (nI z.2.2)) 0 6 (nI (dn.length + 1))) := frm.sI (by decide) (frm.sI (by decide) f)
      rw [show gR (sI (sI h1 3 dn.length (nI z.2.2)) 0 6 (nI (dn.length + 1))) 0 30 = some 15 from L1.r30, Option.bind_some, ldI_ok (by show i < gN h1 15; rw [L1.n15]; omega) (by omega), Option.bind_some, f2.1 15 (by decide), p3, lt_def, nI_add]
      cases m with
      | zero => omega
      | succ m =>
        rw [lbI_some ez] at hd
        refine ih m _ _ (by omega) ⟨i + z.2.1, dn ++ [z.2.2], rfl, a3, by omega, f2, fun k hk => by rw [gI_sI_nk hk, gI_sI_ne (by decide)]; exact g k hk, ⟨by rw [gI_s, List.length_append]; rfl, ?_⟩, by rw [List.append_assoc]; exact hd, fun hlt => ?_, by rw [List.length_append]; simp; omega⟩
        · refine lrep.up (g := gI h1 3) (x := nI z.2.2) (fun j => ?_) rfl mk1.2
          rw [gI_sI_ne (by decide), gI_sI, Nat.zero_add]
          by_cases q2 : j = dn.length
          · rw [if_pos ⟨rfl, q2⟩, if_pos q2]
          · rw [if_neg (fun z => q2 z.2), if_neg q2]
        · rcases a6 with ⟨b1, b2⟩ | ⟨z', b1, b2⟩
          · omega
          · refine ⟨z', b1, ?_⟩
            rw [List.length_append]; simp; omega
    · rw [if_neg (nI_nlt (by omega) (by omega))]
      rw [lbI_out (by omega), List.append_nil] at hd
      rw [← hd]
      exact Ev_some ⟨mk1.1, f, g, mk1⟩
  obtain ⟨⟨v, h'⟩, e, z1, z2, z3, z4⟩ := key
  dsimp only at z1 z2 z3 z4
  subst z1
  exact ⟨h', e, MR.stk (K' := lbI ys 17 0) (L.fr z2) (fun k _ h6 => z3 k h6) z4 (fun b hb0 hb3 => z2.1 b (by simp; omega)) (z2.2.1 5 (by decide)) M.1⟩
theorem ok_write : J_write RR := by
  rintro hx hm ⟨a, w, X, M⟩
  obtain ⟨L, S, -⟩ := XR_iff.mp X
  have M0 := M.told (v := 0)
  have wW := w.1.2.2.2.2
  have h16 := wW.1
  obtain ⟨u, e, hch⟩ := wW.ch
  obtain ⟨hm1, em1, MW1, -⟩ := m_takesWay w M0
  obtain ⟨hm2, ys, em2, f2, MW2, pm, Rm⟩ := m_laysFewest w MW1 h16 hch
  have hlen := plS_len pm
  have um : f_X11_write 0 hm = (if gI hm2 0 27 = 0 then some (-1, hm2) else (gR hm2 0 28).bind fun a_4 => (ldI hm2 a_4 0).bind fun x_5 => if x_5 = (-1 : Int32) then some (-1, hm2) else (f_X11_writes 0 hm2).bind fun q_6 => some (q_6.1, q_6.2)) := by
    unfold f_X11_write f_X11_write_30
    rw [lt_def, em1, Option.bind_some, em2, Option.bind_some]
  rw [um, MW2.2.1]
  by_cases c0 : (sW (aS a)).length = 0
  · refine ⟨-1, hx, hm2, ?_, ?_, a, w, X, MW2.1⟩
    · unfold f_X10_write
      rw [L.r0, Option.bind_some, L.s6, Option.bind_some, if_pos (by rw [show gI hx 18 1 = nI (sW (aS a)).length from S.2.2.2.1, c0]; rfl)]
    · rw [if_pos (by rw [c0]; rfl)]
  · obtain ⟨hx1, ys', ex, X1, fx, px, Rx, eE⟩ := x_planned w X L.way (Or.inl rfl) S.2.2.2 h16 hch
    have := plS_fun pm px
    subst this
    have ux : f_X10_write 0 hx = (if bI (fwv (ys.getD 0 (some (0, 0, 0))) < 1000) = 0 then some (-1, hx1) else (f_X9_stackInto 178 20 hx1).bind fun q_8 => (gR q_8 0 1).bind fun a_9 => some ((gI q_8 a_9 1), q_8)) := by
      unfold f_X10_write
      rw [L.r0, Option.bind_some, L.s6, Option.bind_some, if_neg (show ¬ gI hx 18 1 = 0 from fun z => c0 (by rw [show gI hx 18 1 = nI (sW (aS a)).length from S.2.2.2.1] at z; exact nI_inj (b := 0) (by omega) (by decide) z)), Option.bind_some, L.s6, Option.bind_some, ex, Option.bind_some]
      dsimp only
      rw [X1.1.r13, Option.bind_some, X1.1.r1, Option.bind_some]
    have hge : ys.getD 0 (some (0, 0, 0)) = ys.getD 0 none := by
      cases ys with
      | nil => exact absurd hlen.symm c0
      | cons y zs => rfl
    have hR0 := Rm.1 0 (by omega)
    rw [Nat.zero_add] at hR0
    rw [ux, hge, if_neg (show ¬ nI (sW (aS a)).length = 0 from fun z => c0 (nI_inj (b := 0) (by omega) (by decide) z)), MW2.1.1.r28, Option.bind_some, show ldI hm2 13 0 = some (gI hm2 13 0) from ldI_ok (i := 0) (by rw [MW2.1.1.n13]; decide) (by decide), Option.bind_some, hR0.1.fw]
    cases e0 : ys.getD 0 none with
    | none =>
      refine ⟨-1, hx1, hm2, ?_, ?_, a, w, X1, MW2.1⟩
      · rw [if_pos (bI_0.mpr (by decide))]
      · rw [if_pos (show fwm none = -1 from rfl)]
    | some z =>
      have hz := (hR0.2 z e0).1
      have hWm := fun l hl => chF_in hch l hl
      obtain ⟨hx2, ex2, fx2, rx2⟩ := x_stackInto (D := aD a) w.1.1 w.1.2.1 X1.1 px hWm h16 w.2.2.1.2 Rx eE e0
      obtain ⟨hm3, em3, M3⟩ := m_writes w MW2 pm hWm h16 Rm e0
      have X2 := X1.stk fx2 rx2
      refine ⟨nI (lbI ys 17 0).length, hx2, hm3, ?_, ?_, setK a (lbI ys 17 0), w.stk (lbI_stk w.1.1 w.1.2.1 pm hWm w.2.2.1.2 (by omega) e0), X2, M3⟩
      · rw [if_neg (fun q => bI_0.mp q (show fwv (some z) < 1000 from by show z.1 < 1000; omega)), ex2, Option.bind_some, X2.1.r1, Option.bind_some, rx2.1]
      · rw [if_neg (show ¬ fwm (some z) = -1 from nI_m1 (by omega)), em3, Option.bind_some]
theorem lstN_some {ys : List (Option TR)} : ∀ {k : Nat}, 0 < k → ys.getD 0 none = none → ∃ i, i < k ∧ lstN ys k = some i := by
  intro k
  induction k with
  | zero => intro h; omega
  | succ k ih =>
    intro _ h0
    cases e : ys.getD k none with
    | none =>
      refine ⟨k, by omega, ?_⟩
      show (match ys.getD k none with
        | none => some k
        | some _ => lstN ys k) = _
      rw [e]
    | some z =>
      have hk : 0 < k := by
        cases k with
        | zero => rw [h0] at e; cases e
        | succ k => omega
      obtain ⟨i, h1, h2⟩ := ih hk h0
      refine ⟨i, by omega, ?_⟩
      show (match ys.getD k none with
        | none => some k
        | some _ => lstN ys k) = _
      rw [e]; exact h2
theorem m_witness36 {h : MH} {ys : List (Option TR)} (L : ML h) (e27 : gI h 0 27 = nI ys.length) (h16 : ys.length ≤ 16) (R : mrep h 0 ys) : f_X11_witness_36 0 FU (0, 0) h = some (nI ((lstN ys ys.length).getD 0), h) := by
  have key : Ev (f_X11_witness_36 0 FU (0, 0) h) (fun q => q = (nI ((lstN ys ys.length).getD 0), h)) := by
    unfold f_X11_witness_36
    refine Ev_FU (fun m p h1 => ∃ i, i + m = ys.length ∧ p = (nI ((lstN ys i).getD 0), nI i) ∧ h1 = h) ys.length (0, 0) h (by omega) ⟨0, by omega, rfl, rfl⟩ ?_
    rintro m p h1 rec ⟨i, hi, rfl, rfl⟩ ih
    unfold f_X11_witness_36b f_X11_witness_56
    dsimp only
    rw [e27]
    by_cases q : i < ys.length
    · have hP := R.1 i q
      rw [Nat.zero_add] at hP
      have hl : lstN ys (i + 1) = (match ys.getD i none with
        | none => some i
        | some _ => lstN ys i) := rfl
      rw [if_pos (nI_lt q (by omega)), L.r28, Option.bind_some, ldI_ok (by rw [L.n13]; omega) (by omega), Option.bind_some, hP.1.fw, nI_1]
      cases e : ys.getD i none with
      | none =>
        rw [e] at hl
        rw [if_pos (show fwm none = -1 from rfl)]
        exact ih (m - 1) _ _ (by omega) ⟨i + 1, by omega, by rw [hl]; rfl, rfl⟩
      | some z =>
        rw [e] at hl
        have := (hP.2 z e).1
        rw [if_neg (show ¬ fwm (some z) = -1 from nI_m1 (by omega))]
        exact ih (m - 1) _ _ (by omega) ⟨i + 1, by omega, by rw [hl], rfl⟩
    · have : i = ys.length := by omega
      subst this
      rw [if_neg (nI_nlt (Nat.le_refl _) (by omega))]
      exact Ev_some rfl
  obtain ⟨q, e, rfl⟩ := key
  exact e
theorem ok_witness : J_witness RR := by
  rintro hx hm ⟨a, w, X, M⟩
  obtain ⟨L, S, -⟩ := XR_iff.mp X
  have M0 := M.told (v := 0)
  have wW := w.1.2.2.2.2
  have h16 := wW.1
  obtain ⟨u, e, hch⟩ := wW.ch
  obtain ⟨hm1, em1, MW1, -⟩ := m_takesWay w M0
  obtain ⟨hm2, ys, em2, f2, MW2, pm, Rm⟩ := m_laysFewest w MW1 h16 hch
  have hlen := plS_len pm
  have um : f_X11_witness 0 hm = (if gI hm2 0 27 = 0 then some (-1, hm2) else (gR hm2 0 28).bind fun a_4 => (ldI hm2 a_4 0).bind fun x_5 => if x_5 = (-1 : Int32) then f_X11_witness_36 0 FU (0, 0) hm2 else some (-1, hm2)) := by
    unfold f_X11_witness
    rw [lt_def, em1, Option.bind_some, em2, Option.bind_some]
  rw [um, MW2.2.1]
  by_cases c0 : (sW (aS a)).length = 0
  · refine ⟨-1, hx, hm2, ?_, ?_, a, w, X, MW2.1⟩
    · unfold f_X10_witness
      rw [L.r0, Option.bind_some, L.s6, Option.bind_some, if_pos (by rw [show gI hx 18 1 = nI (sW (aS a)).length from S.2.2.2.1, c0]; rfl)]
    · rw [if_pos (by rw [c0]; rfl)]
  · obtain ⟨hx1, ys', ex, X1, fx, px, Rx, eE⟩ := x_planned w X L.way (Or.inl rfl) S.2.2.2 h16 hch
    have := plS_fun pm px
    subst this
    have ux : f_X10_witness 0 hx = (if bI (fwv (ys.getD 0 (some (0, 0, 0))) < 1000) = 0 then (f_X9_lastUnwritten 178 hx1).bind fun q_7 => some (q_7.1, q_7.2) else some (-1, hx1)) := by
      unfold f_X10_witness
      rw [L.r0, Option.bind_some, L.s6, Option.bind_some, if_neg (show ¬ gI hx 18 1 = 0 from fun z => c0 (by rw [show gI hx 18 1 = nI (sW (aS a)).length from S.2.2.2.1] at z; exact nI_inj (b := 0) (by omega) (by decide) z)), Option.bind_some, L.s6, Option.bind_some, ex, Option.bind_some]
      dsimp only
      rw [X1.1.r13, Option.bind_some]
    have hge : ys.getD 0 (some (0, 0, 0)) = ys.getD 0 none := by
      cases ys with
      | nil => exact absurd hlen.symm c0
      | cons y zs => rfl
    have hR0 := Rm.1 0 (by omega)
    rw [Nat.zero_add] at hR0
    rw [ux, hge, if_neg (show ¬ nI (sW (aS a)).length = 0 from fun z => c0 (nI_inj (b := 0) (by omega) (by decide) z)), MW2.1.1.r28, Option.bind_some, show ldI hm2 13 0 = some (gI hm2 13 0) from ldI_ok (i := 0) (by rw [MW2.1.1.n13]; decide) (by decide), Option.bind_some, hR0.1.fw]
    cases e0 : ys.getD 0 none with
    | none =>
      obtain ⟨i, i1, i2⟩ := lstN_some (ys := ys) (k := ys.length) (by omega) e0
      refine ⟨nI i, hx1, hm2, ?_, ?_, a, w, X1, MW2.1⟩
      · rw [if_pos (bI_0.mpr (by decide)), x_lastUnwritten X1.1 Rx (by omega) (by rw [hlen]; exact eE), Option.bind_some, i2]
        rfl
      · rw [if_pos (show fwm none = -1 from rfl), m_witness36 MW2.1.1 (by rw [hlen]; exact MW2.2.1) (by omega) Rm, i2]
        rfl
    | some z =>
      have hz := (hR0.2 z e0).1
      refine ⟨-1, hx1, hm2, ?_, ?_, a, w, X1, MW2.1⟩
      · rw [if_neg (fun q => bI_0.mp q (show fwv (some z) < 1000 from by show z.1 < 1000; omega))]
      · rw [if_neg (show ¬ fwm (some z) = -1 from nI_m1 (by omega))]
theorem m_coveredByNode {h : MH} {a : AB} {W : List Nat} {i e : Nat} (w : wfA a) (M : MW h a W) (hi : i < W.length) (hW : W.length ≤ 16) (hch : chF (sN (aS a)) (nF (sN (aS a)) (W.getD i 0)) (W.drop i) e) (hWb : ∀ j, j < W.length → W.getD j 0 < nM (sN (aS a))) : ∃ h', f_X11_coveredByNode 0 (nI i) h = some (nI (nr (sN (aS a)) (nF (sN (aS a)) (W.getD i 0)) 0 (W.drop i)), h') ∧ MW h' a W ∧ frW h h' := by
  have wN := w.1.1
  have hn10 := wN.2.1
  have hl := hWb i hi
  have hu := (wN.2.2.2 _ hl).1
  have hdl : (W.drop i).length = W.length - i := List.length_drop
  have key : Ev (f_X11_coveredByNode 0 (nI i) h) (fun q => q.1 = nI (nr (sN (aS a)) (nF (sN (aS a)) (W.getD i 0)) 0 (W.drop i)) ∧ MW q.2 a W ∧ frW h q.2) := by
    unfold f_X11_coveredByNode f_X11_coveredByNode_4
    refine Ev_FU (fun m p h1 => ∃ v mx, v + m = nN (sN (aS a)) ∧ p = (nI mx, nI v) ∧ MW h1 a W ∧ frW h h1 ∧ mx ≤ 16 ∧ (∀ v', v' < v → cvd (pkt (sN (aS a)) (sB (aS a)) (nF (sN (aS a)) (W.getD i 0)) [v']) (W.drop i) ≤ mx) ∧ (mx = 0 ∨ ∃ v', v' < v ∧ cvd (pkt (sN (aS a)) (sB (aS a)) (nF (sN (aS a)) (W.getD i 0)) [v']) (W.drop i) = mx)) (nN (sN (aS a))) (0, 0) h (by omega) ⟨0, 0, by omega, rfl, M, frW.rf, by omega, fun v' hv' => absurd hv' (Nat.not_lt_zero _), Or.inl rfl⟩ ?_
    rintro m p h1 rec ⟨v, mx, hvm, rfl, M1, f1, hmx, hall, hex⟩ ih
    obtain ⟨L1, S1, -⟩ := MR_iff.mp M1.1
    unfold f_X11_coveredByNode_4b
    dsimp only
    rw [m_n L1 S1.1 wN, Option.bind_some]
    dsimp only
    by_cases q : v < nN (sN (aS a))
    · obtain ⟨h2, e2, f2, M2, g2⟩ := m_coveredByN (i := i) (v := v) w M1 q hi hW hWb
      have hcl := cvd_le (r := pkt (sN (aS a)) (sB (aS a)) (nF (sN (aS a)) (W.getD i 0)) [v]) (ls := W.drop i)
      rw [if_pos (nI_lt q (by omega)), e2, Option.bind_some, lt_def, nI_1]
      dsimp only
      by_cases c : mx < cvd (pkt (sN (aS a)) (sB (aS a)) (nF (sN (aS a)) (W.getD i 0)) [v]) (W.drop i)
      · rw [if_pos (nI_lt c (by omega))]
        refine ih (m - 1) _ _ (by omega) ⟨v + 1, _, by omega, rfl, M2, frW.tr f1 f2, by omega, fun v' hv' => ?_, Or.inr ⟨v, by omega, rfl⟩⟩
        by_cases q2 : v' = v
        · rw [q2]; exact Nat.le_refl _
        · have := hall v' (by omega); omega
      · rw [if_neg (nI_nlt (by omega) (by omega))]
        refine ih (m - 1) _ _ (by omega) ⟨v + 1, mx, by omega, rfl, M2, frW.tr f1 f2, hmx, fun v' hv' => ?_, ?_⟩
        · by_cases q2 : v' = v
          · rw [q2]; omega
          · exact hall v' (by omega)
        · rcases hex with hex | ⟨v', h3, h4⟩
          · exact Or.inl hex
          · exact Or.inr ⟨v', by omega, h4⟩
    · have : v = nN (sN (aS a)) := by omega
      subst this
      rw [if_neg (nI_nlt (Nat.le_refl _) (by omega))]
      have : mx = nr (sN (aS a)) (nF (sN (aS a)) (W.getD i 0)) 0 (W.drop i) := by
        have h1 : mx ≤ nr (sN (aS a)) (nF (sN (aS a)) (W.getD i 0)) 0 (W.drop i) := by
          rcases hex with hex | ⟨v', h3, h4⟩
          · omega
          · by_cases hm0 : mx = 0
            · omega
            · exact ((cvd_nodeC (B := sB (aS a)) (v := v') wN hu hch (show 1 ≤ mx by omega)).mp ⟨h3, h4⟩).1
        by_cases hn0 : nr (sN (aS a)) (nF (sN (aS a)) (W.getD i 0)) 0 (W.drop i) = 0
        · omega
        · have := (cvd_nodeC (B := sB (aS a)) (v := nT (sN (aS a)) ((W.drop i).getD (nr (sN (aS a)) (nF (sN (aS a)) (W.getD i 0)) 0 (W.drop i) - 1) 0)) wN hu hch (show 1 ≤ nr (sN (aS a)) (nF (sN (aS a)) (W.getD i 0)) 0 (W.drop i) by omega)).mpr ⟨Nat.le_refl _, rfl⟩
          have h2 := hall _ this.1
          rw [this.2] at h2
          omega
      rw [this]
      exact Ev_some ⟨rfl, M1, f1⟩
  obtain ⟨⟨v, h'⟩, e, z1, z2, z3⟩ := key
  dsimp only at z1 z2 z3
  subst z1
  exact ⟨h', e, z2, z3⟩
theorem grd_end {t : NT} {W : List Nat} {k i c : Nat} (h : W.length ≤ i) : grd t W k i c = some c := by
  cases k with
  | zero => rfl
  | succ k =>
    unfold grd
    rw [if_neg (by omega)]
theorem m_greedy13 {h : MH} {a : AB} {W : List Nat} {u e : Nat} (w : wfA a) (M : MW h a W) (hW : W.length ≤ 16) (hch : chF (sN (aS a)) u W e) : ∃ h', f_X11_greedy_13 0 FU (0, 0) h = some (fpl (grd (sN (aS a)) W 16 0 0), h') ∧ MR h' a := by
  have wN := w.1.1
  have key : Ev (f_X11_greedy_13 0 FU (0, 0) h) (fun q => q.1 = fpl (grd (sN (aS a)) W 16 0 0) ∧ MR q.2 a) := by
    unfold f_X11_greedy_13
    refine Ev_FU (fun m p h1 => ∃ i c, p = (nI c, nI i) ∧ MW h1 a W ∧ W.length ≤ i + m ∧ i ≤ 16 ∧ c ≤ i ∧ grd (sN (aS a)) W 16 0 0 = grd (sN (aS a)) W m i c) 16 (0, 0) h (by omega) ⟨0, 0, rfl, M, by omega, by omega, by omega, rfl⟩ ?_
    rintro m p h1 rec ⟨i, c, rfl, M1, hm, hi, hc, he⟩ ih
    unfold f_X11_greedy_13b f_X11_greedy_46 f_X11_greedy_56
    dsimp only
    rw [M1.2.1]
    by_cases q : i < W.length
    · cases m with
      | zero => omega
      | succ m =>
        have hdc := drop_cons q
        obtain ⟨u', hu'⟩ := chF_drop (i := i) hch
        have hu2 := hu'
        rw [hdc] at hu2
        have hli := hu2.1
        have hdl : (W.drop i).length = W.length - i := List.length_drop
        have hrl := nr_le (t := sN (aS a)) (u := nF (sN (aS a)) (W.getD i 0)) (ls := W.drop i) (s := 0)
        have hg : grd (sN (aS a)) W (m + 1) i c = (if i < W.length then (if nr (sN (aS a)) (nF (sN (aS a)) (W.getD i 0)) 0 (W.drop i) = 0 ∧ ¬ nU (sN (aS a)) (W.getD i 0) = true then none else grd (sN (aS a)) W m (i + max 1 (nr (sN (aS a)) (nF (sN (aS a)) (W.getD i 0)) 0 (W.drop i))) (c + 1)) else some c) := rfl
        rw [if_pos q] at hg
        obtain ⟨h2, e2, M2, f2⟩ := m_coveredByNode (i := i) (e := e) w M1 q hW (by rw [hu2.2.1]; exact hu') (fun j hj => chF_mem hch j hj)
        obtain ⟨L2, S2, -⟩ := MR_iff.mp M2.1
        rw [if_pos (nI_lt q (by omega)), e2, Option.bind_some]
        dsimp only
        by_cases q1 : nr (sN (aS a)) (nF (sN (aS a)) (W.getD i 0)) 0 (W.drop i) = 0
        · rw [if_pos (by rw [q1]; rfl), L2.r26, Option.bind_some, m_way M2 q hW, Option.bind_some, m_isUp L2 S2.1 wN hli, Option.bind_some]
          by_cases q2 : nU (sN (aS a)) (W.getD i 0) = true
          · rw [if_neg (fun z => z.2 q2)] at hg
            rw [if_neg (fun z => bI_0.mp z q2), if_pos (by rw [q1]; rfl), lt_def, lt_def, nI_1, nI_1]
            refine ih m _ _ (by omega) ⟨i + 1, c + 1, rfl, M2, by omega, by omega, by omega, ?_⟩
            rw [he, hg, q1]; rfl
          · rw [if_pos ⟨q1, q2⟩] at hg
            rw [if_pos (bI_0.mpr q2), he, hg]
            exact Ev_some ⟨rfl, M2.1⟩
        · rw [if_neg (fun z => q1 z.1)] at hg
          rw [if_neg (show ¬ nI (nr (sN (aS a)) (nF (sN (aS a)) (W.getD i 0)) 0 (W.drop i)) = 0 from fun z => q1 (nI_inj (b := 0) (by omega) (by decide) z)), if_neg (show ¬ nI (nr (sN (aS a)) (nF (sN (aS a)) (W.getD i 0)) 0 (W.drop i)) = 0 from fun z => q1 (nI_inj (b := 0) (by omega) (by decide) z)), lt_def, lt_def, nI_add, nI_1]
          refine ih m _ _ (by omega) ⟨i + nr (sN (aS a)) (nF (sN (aS a)) (W.getD i 0)) 0 (W.drop i), c + 1, rfl, M2, by omega, by omega, by omega, ?_⟩
          rw [he, hg, Nat.max_eq_right (by omega)]
    · rw [if_neg (nI_nlt (by omega) (by omega)), he, grd_end (by omega)]
      exact Ev_some ⟨rfl, M1.1⟩
  obtain ⟨⟨v, h'⟩, e, z1, z2⟩ := key
  dsimp only at z1 z2
  subst z1
  exact ⟨h', e, z2⟩
theorem ok_greedy : J_greedy RR := by
  rintro hx hm ⟨a, w, X, M⟩
  obtain ⟨L, S, -⟩ := XR_iff.mp X
  have M0 := M.told (v := 0)
  have wW := w.1.2.2.2.2
  have h16 := wW.1
  obtain ⟨u, e, hch⟩ := wW.ch
  obtain ⟨hm1, em1, MW1, -⟩ := m_takesWay w M0
  obtain ⟨hm2, em2, M2⟩ := m_greedy13 w MW1 h16 hch
  obtain ⟨hx1, ex1, f1, k1, g1, l1, z1⟩ := x_hold L L.way (Or.inl (by decide)) S.2.2.2 h16
  have X1 : XR hx1 a := X.fr f1 (by decide)
  obtain ⟨hx2, ex2, X2, y2, R2, f2, g2⟩ := freshX2 hx1 a w X1
  obtain ⟨L2, S2, -⟩ := XR_iff.mp X2
  have E2 : WE hx2 169 (sN (aS a)) (sB (aS a)) := ⟨L2, S2.1, L2.rt, R2⟩
  refine ⟨fpl (grd (sN (aS a)) (sW (aS a)) 16 0 0), hx2, hm2, ?_, ?_, a, w, X2, M2⟩
  · unfold f_X10_greedy
    rw [L.r13, Option.bind_some, L.r0, Option.bind_some, L.s6, Option.bind_some, ex1, Option.bind_some, X1.1.r13, Option.bind_some, X1.1.r0, Option.bind_some, X1.1.s0, Option.bind_some, ex2, Option.bind_some]
    dsimp only
    rw [x_greedyCount w.1.1 E2 (by rw [f2.1 179 (by decide)]; exact l1) h16 (by rw [f2.1 178 (by decide)]; exact g1) hch, Option.bind_some]
  · unfold f_X11_greedy
    rw [lt_def, em1, Option.bind_some, em2]
theorem ok_covers : J_covers RR := by
  rintro x1 hx hm ⟨a, w, X, M⟩
  obtain ⟨L, S, -⟩ := XR_iff.mp X
  have M0 := M.told (v := 0)
  have wW := w.1.2.2.2.2
  have h16 := wW.1
  obtain ⟨u, e, hch⟩ := wW.ch
  obtain ⟨hm1, em1, MW1, -⟩ := m_takesWay w M0
  by_cases c : 0 ≤ x1.toInt ∧ x1.toInt < (sW (aS a)).length
  · obtain ⟨i, hi, rfl⟩ := ofZ c.1 c.2
    have hdc := drop_cons hi
    obtain ⟨u', hu'⟩ := chF_drop (i := i) hch
    have hu2 := hu'
    rw [hdc] at hu2
    have hdl : ((sW (aS a)).drop i).length = (sW (aS a)).length - i := List.length_drop
    obtain ⟨hm2, em2, M2, f2m⟩ := m_coveredByNode (i := i) (e := e) w MW1 hi h16 (by rw [hu2.2.1]; exact hu') (fun j hj => chF_mem hch j hj)
    obtain ⟨hx1, ex1, f1, k1, g1, l1, z1⟩ := x_hold L L.way (Or.inl (by decide)) S.2.2.2 h16
    have X1 : XR hx1 a := X.fr f1 (by decide)
    obtain ⟨hx2, ex2, X2, y2, R2, f2, g2⟩ := freshX2 hx1 a w X1
    obtain ⟨L2, S2, -⟩ := XR_iff.mp X2
    have E2 : WE hx2 169 (sN (aS a)) (sB (aS a)) := ⟨L2, S2.1, L2.rt, R2⟩
    refine ⟨nI (nr (sN (aS a)) (nF (sN (aS a)) ((sW (aS a)).getD i 0)) 0 ((sW (aS a)).drop i)), hx2, hm2, ?_, ?_, a, w, X2, M2.1⟩
    · unfold f_X10_covers
      rw [if_neg (nI_nn (by omega)), L.r0, Option.bind_some, L.s6, Option.bind_some, show gI hx 18 1 = nI (sW (aS a)).length from S.2.2.2.1, if_pos (nI_lt hi (by omega)), L.r13, Option.bind_some, Option.bind_some, L.s6, Option.bind_some, ex1, Option.bind_some, X1.1.r13, Option.bind_some, X1.1.r0, Option.bind_some, X1.1.s0, Option.bind_some, ex2, Option.bind_some]
      dsimp only
      rw [x_nodeReach (LS := (sW (aS a)).drop i) (u := nF (sN (aS a)) ((sW (aS a)).getD i 0)) (e := e) w.1.1 E2 (fun j hj => by rw [f2.1 179 (by decide)]; have := l1 (i + j) (by omega); rw [Nat.zero_add] at this; rw [this, getD_drop]) (by omega) (by rw [f2.1 178 (by decide), g1, hdl]; congr 1; omega) (by rw [hu2.2.1]; exact hu') (w.1.1.2.2.2 _ hu2.1).1 (by omega), Option.bind_some]
    · unfold f_X11_covers
      rw [lt_def, em1, Option.bind_some, MW1.2.1, m_inN (by omega), Option.bind_some, if_neg (fun z => bI_0.mp z c)]
      dsimp only
      rw [em2, Option.bind_some]
  · refine ⟨-1, hx, hm1, ?_, ?_, a, w, X, MW1.1⟩
    · unfold f_X10_covers
      by_cases q : x1 < 0
      · rw [if_pos q]
      · rw [if_neg q, L.r0, Option.bind_some, L.s6, Option.bind_some, show gI hx 18 1 = nI (sW (aS a)).length from S.2.2.2.1, if_neg (by rw [zlt, nI_toInt (by omega)]; rw [zlt, Z0] at q; omega)]
    · unfold f_X11_covers
      rw [lt_def, em1, Option.bind_some, MW1.2.1, m_inN (by omega), Option.bind_some, if_pos (bI_0.mpr c)]
