/-! ===== the reference's loads; load, heaviest ===== -/
theorem pA_out {t : NT} {B : Nat → Option (Nat × List Nat)} (w : wfN t) (wB : wfB t B) {l : Nat} (hl : nM t ≤ l) : ∀ (k c : Nat) (H : List Nat) (s : PK), pkOK t c H s → pA s l = 0 → pA (pkRun t B k c H s).2 l = 0 := by
  intro k
  induction k with
  | zero => intro c H s _ h; exact h
  | succ k ih =>
    intro c H s O h
    cases H with
    | nil => exact h
    | cons x H =>
      cases e : pkStep t B x H s with
      | none => rw [pkRun_none e]; exact h
      | some q =>
        rw [pkRun_some e]
        refine ih (c + 1) q.1 q.2 (pkOK_step w wB O e) ?_
        have hu := O.2.2.2.1
        unfold pkStep at e
        by_cases c1 : x < 100
        · rw [if_pos c1] at e
          by_cases c2 : x < nN t ∧ dist t x (pN s) < 1000000
          · rw [if_pos c2] at e
            obtain rfl := Option.some.inj e
            show pA s l + flow t x (pN s) (zz t) l = 0
            rw [h, flow_out w hl hu]
          · rw [if_neg c2] at e; cases e
        · rw [if_neg c1] at e
          by_cases c2 : x < 200
          · rw [if_pos c2] at e
            by_cases c3 : x - 100 < nM t ∧ nU t (x - 100) = true ∧ nF t (x - 100) = pN s
            · rw [if_pos c3] at e
              obtain rfl := Option.some.inj e
              show (if l = x - 100 then _ else pA s l) = 0
              rw [if_neg (by omega), h]
            · rw [if_neg c3] at e; cases e
          · rw [if_neg c2] at e
            cases eB : B (x - 200) with
            | none => rw [eB] at e; cases e
            | some b =>
              rw [eB] at e
              have e : (if b.1 = pN s then some (b.2 ++ H, pkBind (b.2 ++ H) s) else none) = some q := e
              by_cases c3 : b.1 = pN s
              · rw [if_pos c3] at e
                obtain rfl := Option.some.inj e
                exact h
              · rw [if_neg c3] at e; cases e
theorem lds_out {s : ST} (w : wfS s) {l : Nat} (hl : nM (sN s) ≤ l) : ∀ k, k ≤ 8 → lds s k l = 0 := by
  intro k
  induction k with
  | zero => intro _; rfl
  | succ k ih =>
    intro hk
    show lds s k l + ldOf s l k = 0
    rw [ih (by omega)]
    unfold ldOf
    cases e : sD s k with
    | none => rfl
    | some q =>
      obtain ⟨q1, q2, q3, q4⟩ := stkOK_D w (show k < 8 by omega) e
      show 0 + (if _ then _ else _) = 0
      rw [show pA (pkt (sN s) (sB s) q.1 q.2.2).2 l = 0 from pA_out w.1 w.2.1 hl _ _ _ _ (pkOK_0 q1 q4) rfl]
      split <;> simp
theorem m_l60 {h : MH} {a : AB} {d v : Nat} {A D : Nat → Nat} {k30 : Int32 → MH → Option MH} {Post : MH → Prop} (w : wfA a) (M : MR h a) (hd : d < 8) (hv : v ≤ 99) (ev : gI h 1 (178 + d) = nI v) (e16 : gI h 0 16 = 0) (hA : frIs h 17 18 A (zz (sN (aS a)))) (hD : frIs h 8 9 D (zz (sN (aS a)))) (hb : ∀ l, l < 30 → A l + v * D l < 2 ^ 62) (hk : ∀ h', MR h' a → frIs h' 17 18 (fun l => if l < nM (sN (aS a)) then A l + v * D l else A l) (zz (sN (aS a))) → Ev (k30 (nI (d + 1)) h') Post) : Ev (f_X11_laysLoads_60 k30 0 (nI d) FU 0 h) Post := by
  have wN := w.1.1
  have hm30 := wN.2.2.1
  have hz := zz_le wN
  obtain ⟨mL, mS, -⟩ := MR_iff.mp M
  unfold f_X11_laysLoads_60
  refine Ev_FU (fun m p h1 => ∃ i, i + m = nM (sN (aS a)) ∧ p = nI i ∧ frm [0, 17, 18] h h1 ∧ gI h1 = gI h ∧ frIs h1 17 18 (fun l => if l < i then A l + v * D l else A l) (zz (sN (aS a)))) (nM (sN (aS a))) 0 h (by omega) ⟨0, by omega, rfl, frm.rf, rfl, hA.cg rfl rfl (fun l _ => if_neg (by omega))⟩ ?_
  rintro m p h1 rec ⟨i, hi, rfl, f, gi, hA1⟩ ih
  have L1 : ML h1 := mL.fr f
  have N1 : MN (gI h1 1) (sN (aS a)) := by rw [gi]; exact mS.1
  unfold f_X11_laysLoads_60b f_X11_laysLoads_141
  rw [m_links L1 N1, Option.bind_some]
  dsimp only
  by_cases q : i < nM (sN (aS a))
  · have hbi := hb i (by omega)
    have a12 : gL h1 17 i = lN (fa (A i) (zz (sN (aS a)))) ∧ gL h1 18 i = lN (fb (A i) (zz (sN (aS a)))) := by
      have := hA1 i (by omega)
      dsimp only at this
      rw [if_neg (by omega)] at this
      exact this
    obtain ⟨a1, a2⟩ := a12
    obtain ⟨d1, d2⟩ := hD i (by omega)
    rw [if_pos (nI_lt q (by omega)), gi, e16, if_pos rfl, L1.r32, Option.bind_some, ldL_ok (by rw [L1.n17]; omega) (by omega), Option.bind_some, a1, L1.r33, Option.bind_some, ldL_ok (by rw [L1.n18]; omega) (by omega), Option.bind_some, a2, L1.r1, Option.bind_some, show (178 : Int32) + nI d = nI (178 + d) from nI_add 178 d, m_now L1 (by omega), Option.bind_some, gi, ev, L1.r22, Option.bind_some, ldL_ok (by rw [L1.n8]; omega) (by omega), Option.bind_some, f.2.1 8 (by decide), d1, L1.r23, Option.bind_some, ldL_ok (by rw [L1.n9]; omega) (by omega), Option.bind_some, f.2.1 9 (by decide), d2, nI_l (by omega), lN_mul, nI_1]
    have e2 : v * fa (D i) (zz (sN (aS a))) * zz (sN (aS a)) = v * D i * fb (D i) (zz (sN (aS a))) := by
      rw [Nat.mul_assoc, fr_eq, Nat.mul_assoc]
    rw [m_adds h1 (fb_pos zz_pos) (fb_pos zz_pos) zz_pos (by omega) hbi fr_eq e2 fb_dvd fb_dvd, Option.bind_some]
    generalize hh : sL (sL h1 0 10 (lN (fa (A i + v * D i) (zz (sN (aS a)))))) 0 11 (lN (fb (A i + v * D i) (zz (sN (aS a))))) = h3
    have f3 : frm [0] h1 h3 := by rw [← hh]; exact frm.sL (by decide) (frm.sL (by decide) frm.rf)
    have g3 : gI h3 = gI h1 := by rw [← hh]; rfl
    have v10 : gL h3 0 10 = lN (fa (A i + v * D i) (zz (sN (aS a)))) := by rw [← hh]; rfl
    have v11 : gL h3 0 11 = lN (fb (A i + v * D i) (zz (sN (aS a)))) := by rw [← hh]; rfl
    have L3 : ML h3 := L1.fr f3
    rw [L3.r32, Option.bind_some, stL_ok (by rw [L3.n17]; omega) (by omega), Option.bind_some, v10, show gR (sL h3 17 i (lN (fa (A i + v * D i) (zz (sN (aS a)))))) 0 33 = some 18 from L3.r33, Option.bind_some, stL_ok (by rw [gN_sL, L3.n18]; omega) (by omega), Option.bind_some, gL_sL_ne (by decide), v11]
    refine ih (m - 1) _ _ (by omega) ⟨i + 1, by omega, rfl, frm.sL (by decide) (frm.sL (by decide) (frm.tr f (f3.up (by decide)))), ?_, fun l hl => ?_⟩
    · show gI h3 = _
      rw [g3, gi]
    · show _ = lN (fa (if l < i + 1 then _ else _) _) ∧ _ = lN (fb (if l < i + 1 then _ else _) _)
      by_cases q2 : l = i
      · rw [q2, if_pos (by omega), gL_s, gL_sL_ne (by decide), gL_s]; exact ⟨rfl, rfl⟩
      · have := hA1 l hl
        have e : (if l < i + 1 then A l + v * D l else A l) = (if l < i then A l + v * D l else A l) := by
          by_cases q3 : l < i
          · rw [if_pos q3, if_pos (by omega)]
          · rw [if_neg q3, if_neg (by omega)]
        rw [e]
        refine ⟨?_, ?_⟩
        · rw [gL_sL_ne (by decide), gL_sL, if_neg (fun z => q2 z.2), f3.2.1 17 (by decide)]; exact this.1
        · rw [gL_sL, if_neg (fun z => q2 z.2), gL_sL_ne (by decide), f3.2.1 18 (by decide)]; exact this.2
  · have : i = nM (sN (aS a)) := by omega
    subst this
    rw [if_neg (nI_nlt (Nat.le_refl _) (by omega)), nI_1]
    refine hk h1 ?_ hA1
    exact MR.cg L1 (fun k _ => by rw [gi]) (by rw [gi]) (by rw [gi]) (by rw [gi]) (by rw [gi]) (by rw [gi]) (by rw [gi]) (f.2.1 5 (by decide)) M
theorem m_l60d {h : MH} {a : AB} {d : Nat} {k30 : Int32 → MH → Option MH} {Post : MH → Prop} (w : wfA a) (M : MR h a) (e16 : ¬ gI h 0 16 = 0) (hk : Ev (k30 (nI (d + 1)) h) Post) : Ev (f_X11_laysLoads_60 k30 0 (nI d) FU 0 h) Post := by
  obtain ⟨mL, mS, -⟩ := MR_iff.mp M
  unfold f_X11_laysLoads_60
  refine Ev_FU (fun m p h1 => m = 0 ∧ p = 0 ∧ h1 = h) 0 0 h (by omega) ⟨rfl, rfl, rfl⟩ ?_
  rintro m p h1 rec ⟨rfl, rfl, rfl⟩ ih
  unfold f_X11_laysLoads_60b f_X11_laysLoads_141
  rw [m_links mL mS.1, Option.bind_some]
  dsimp only
  rw [if_neg e16, nI_1]
  split <;> exact hk
theorem m_laysLoads {h : MH} {a : AB} (w : wfA a) (M : MR h a) : ∃ h', f_X11_laysLoads 0 h = some h' ∧ MR h' a ∧ frIs h' 17 18 (lds (aS a) 8) (zz (sN (aS a))) := by
  have wN := w.1.1
  have hn10 := wN.2.1
  have key : Ev (f_X11_laysLoads 0 h) (fun h' => MR h' a ∧ frIs h' 17 18 (lds (aS a) 8) (zz (sN (aS a)))) := by
    unfold f_X11_laysLoads f_X11_laysLoads_2
    refine Ev_FU (fun m p h1 => ∃ i, i + m = 30 ∧ p = nI i ∧ frm [17, 18] h h1 ∧ gI h1 = gI h ∧ ∀ l, l < i → gL h1 17 l = 0 ∧ gL h1 18 l = 1) 30 0 h (by omega) ⟨0, by omega, rfl, frm.rf, rfl, fun l hl => absurd hl (Nat.not_lt_zero _)⟩ ?_
    rintro m p h1 rec ⟨i, hi, rfl, f, gi, hz⟩ ih
    have L1 : ML h1 := M.1.fr f
    unfold f_X11_laysLoads_2b
    by_cases q : i < 30
    · rw [if_pos (show nI i < 30 from (nI_ltI (b := 30) (by omega) (by decide)).mpr q), L1.r32, Option.bind_some, stL_ok (by rw [L1.n17]; exact q) (by omega), Option.bind_some, show gR (sL h1 17 i 0) 0 33 = some 18 from L1.r33, Option.bind_some, stL_ok (by rw [gN_sL, L1.n18]; exact q) (by omega), Option.bind_some, nI_1]
      refine ih (m - 1) _ _ (by omega) ⟨i + 1, by omega, rfl, frm.sL (by decide) (frm.sL (by decide) f), gi, fun l hl => ?_⟩
      by_cases q2 : l = i
      · rw [q2, gL_s, gL_sL_ne (by decide), gL_s]; exact ⟨rfl, rfl⟩
      · refine ⟨?_, ?_⟩
        · rw [gL_sL_ne (by decide), gL_sL, if_neg (fun z => q2 z.2)]; exact (hz l (by omega)).1
        · rw [gL_sL, if_neg (fun z => q2 z.2), gL_sL_ne (by decide)]; exact (hz l (by omega)).2
    · rw [if_neg (show ¬ nI i < 30 from fun z => q ((nI_ltI (b := 30) (by omega) (by decide)).mp z))]
      have M1 : MR h1 a := MR.cg L1 (fun k _ => by rw [gi]) (by rw [gi]) (by rw [gi]) (by rw [gi]) (by rw [gi]) (by rw [gi]) (by rw [gi]) (f.2.1 5 (by decide)) M
      have A1 : frIs h1 17 18 (lds (aS a) 0) (zz (sN (aS a))) := fun l hl => by
        show _ = lN (fa 0 _) ∧ _ = lN (fb 0 _)
        rw [(fa_0 zz_pos).1, (fa_0 zz_pos).2]
        exact hz l (by omega)
      unfold f_X11_laysLoads_30
      clear ih hz f gi
      refine Ev_FU (fun m p h2 => ∃ i, i + m = 8 ∧ p = nI i ∧ MR h2 a ∧ frIs h2 17 18 (lds (aS a) i) (zz (sN (aS a)))) 8 0 h1 (by omega) ⟨0, by omega, rfl, M1, A1⟩ ?_
      rintro m p h2 rec ⟨i, hi, rfl, M2, A2⟩ ih
      obtain ⟨L2, S2, -⟩ := MR_iff.mp M2
      unfold f_X11_laysLoads_30b f_X11_laysLoads_141
      by_cases q : i < 8
      · have ms := S2.2.2.1 i q
        rw [if_pos (show nI i < 8 from (nI_ltI (b := 8) (by omega) (by decide)).mpr q), L2.r1, Option.bind_some, show (170 : Int32) + nI i = nI (170 + i) from nI_add 170 i, m_now L2 (by omega), Option.bind_some, nI_1]
        cases e : sD (aS a) i with
        | none =>
          rw [if_pos (ms.1 e)]
          refine ih (m - 1) _ _ (by omega) ⟨i + 1, by omega, rfl, M2, A2.cg rfl rfl (fun l _ => ?_)⟩
          show lds (aS a) i l + ldOf (aS a) l i = _
          unfold ldOf; rw [e]; rfl
        | some d =>
          obtain ⟨q1, q2, q3, q4⟩ := stkOK_D w.1 q e
          obtain ⟨h3, e3, M3, f3, K3⟩ := m_runsDemand (sh := true) (xs := 1) w M2 q e rfl
          obtain ⟨L3, S3, -⟩ := MR_iff.mp M3
          rw [(ms.2 d e).1, if_neg (show ¬ nI (d.1 + 1) = 0 from fun z => by have := nI_inj (b := 0) (by omega) (by decide) z; omega), e3, Option.bind_some]
          have A3 : frIs h3 17 18 (lds (aS a) i) (zz (sN (aS a))) := A2.cg (f3.1.2.1 _ (by decide)) (f3.1.2.1 _ (by decide)) (fun _ _ => rfl)
          have hld : ∀ l, lds (aS a) (i + 1) l = lds (aS a) i l + (if (pkt (sN (aS a)) (sB (aS a)) d.1 d.2.2).1 = none then d.2.1 * pA (pkt (sN (aS a)) (sB (aS a)) d.1 d.2.2).2 l else 0) := fun l => by
            show lds (aS a) i l + ldOf (aS a) l i = _
            unfold ldOf; rw [e]
          by_cases c : (pkt (sN (aS a)) (sB (aS a)) d.1 d.2.2).1 = none
          · refine m_l60 w M3 q q3 ((S3.2.2.1 i q).2 d e).2.1 (by rw [K3.1]; exact bI_0.mpr (fun z => z c)) A3 (K3.2.2.2.2.2.2 rfl) (fun l _ => ?_) (fun h4 M4 A4 => ?_)
            · have := lds_lt (l := l) (k := i + 1) w.1 (by omega)
              rw [hld l, if_pos c] at this
              omega
            · refine ih (m - 1) _ _ (by omega) ⟨i + 1, by omega, rfl, M4, A4.cg rfl rfl (fun l _ => ?_)⟩
              by_cases q5 : l < nM (sN (aS a))
              · rw [hld l, if_pos c, if_pos q5]
              · rw [if_neg q5, lds_out w.1 (by omega) _ (by omega), lds_out w.1 (by omega) _ (by omega)]
          · refine m_l60d w M3 (by rw [K3.1]; exact fun z => bI_0.mp z c) ?_
            refine ih (m - 1) _ _ (by omega) ⟨i + 1, by omega, rfl, M3, A3.cg rfl rfl (fun l _ => ?_)⟩
            rw [hld l, if_neg c]; rfl
      · have : i = 8 := by omega
        subst this
        rw [if_neg (show ¬ nI 8 < 8 by decide)]
        exact Ev_some ⟨M2, A2⟩
  obtain ⟨h', e, z⟩ := key
  exact ⟨h', e, z⟩
theorem ok_load : J_load RR := by
  rintro x1 x2 hx hm ⟨a, w, X, M⟩
  obtain ⟨L, S, -⟩ := XR_iff.mp X
  have M0 := M.told (v := 0)
  obtain ⟨mL, mS, -⟩ := MR_iff.mp M0
  have wN := w.1.1
  have hm30 := wN.2.2.1
  have e0 : (0 : Int32).toInt = 0 := rfl
  have e1 : (1 : Int32).toInt = 1 := rfl
  by_cases c2 : 0 ≤ x1.toInt ∧ x1.toInt < nM (sN (aS a))
  · by_cases c3 : 0 ≤ x2.toInt ∧ x2.toInt ≤ 1
    · obtain ⟨l, hl, rfl⟩ := ofZ c2.1 c2.2
      obtain ⟨hx', ex, X', K⟩ := x_layLoads w X
      obtain ⟨hm', em, M', J⟩ := m_laysLoads w M0
      have L' := X'.1
      have mL' := M'.1
      obtain ⟨a1, a2⟩ := K l (by omega)
      obtain ⟨b1, b2⟩ := J l (by omega)
      refine ⟨if x2 = 0 then gL hx' 195 l else gL hx' 196 l, hx', hm', ?_, ?_, a, w, X', M'⟩
      · unfold f_X10_load
        rw [L.r0, Option.bind_some, L.s0, Option.bind_some, x_hasLink S.1.2.1 (by omega), Option.bind_some, if_neg (fun z => bI_0.mp z c2), if_neg (by rw [zlt, e0]; omega), if_neg (by rw [zlt, e1]; omega)]
        dsimp only
        have eg : f_X1_get 194 (nI l) x2 hx' = some (if x2 = 0 then gL hx' 195 l else gL hx' 196 l, hx') := x_frGet (n := 30) ⟨L'.d194, L'.c194, L'.z195, L'.z196⟩ (by decide) (by omega)
        rw [ex, Option.bind_some, L'.r15, Option.bind_some, eg, Option.bind_some]
      · unfold f_X11_load
        rw [lt_def, m_isLink mL mS.1 wN, Option.bind_some, if_neg (fun z => bI_0.mp z c2)]
        dsimp only
        rw [m_inL (l := 0) (k := 1) rfl rfl, Option.bind_some, if_neg (fun z => bI_0.mp z (by omega))]
        dsimp only
        rw [em, Option.bind_some]
        by_cases q : x2 = 0
        · rw [if_pos q, if_pos q, mL'.r32, Option.bind_some, ldL_ok (by rw [mL'.n17]; omega) (by omega), Option.bind_some, b1, a1]
        · rw [if_neg q, if_neg q, mL'.r33, Option.bind_some, ldL_ok (by rw [mL'.n18]; omega) (by omega), Option.bind_some, b2, a2]
    · refine ⟨-1, hx, sI hm 0 0 0, ?_, ?_, a, w, X, M0⟩
      · unfold f_X10_load f_X10_load_23
        rw [L.r0, Option.bind_some, L.s0, Option.bind_some, x_hasLink S.1.2.1 (by omega), Option.bind_some, if_neg (fun z => bI_0.mp z c2)]
        by_cases q : x2 < 0
        · rw [if_pos q]
        · rw [if_neg q, if_pos (by rw [zlt, e0] at q; rw [zlt, e1]; omega)]
      · unfold f_X11_load f_X11_load_24
        rw [lt_def, m_isLink mL mS.1 wN, Option.bind_some, if_neg (fun z => bI_0.mp z c2)]
        dsimp only
        rw [m_inL (l := 0) (k := 1) rfl rfl, Option.bind_some, if_pos (bI_0.mpr (by omega))]
  · refine ⟨-1, hx, sI hm 0 0 0, ?_, ?_, a, w, X, M0⟩
    · unfold f_X10_load f_X10_load_23
      rw [L.r0, Option.bind_some, L.s0, Option.bind_some, x_hasLink S.1.2.1 (by omega), Option.bind_some, if_pos (bI_0.mpr c2)]
    · unfold f_X11_load f_X11_load_24
      rw [lt_def, m_isLink mL mS.1 wN, Option.bind_some, if_pos (bI_0.mpr c2)]
/-! which is more -/
theorem fr_cmp {P Q Z : Nat} (hZ : 0 < Z) : ∃ k, 0 < k ∧ fa P Z * (fb Q Z / Nat.gcd (fb P Z) (fb Q Z)) * k = P ∧ fa Q Z * (fb P Z / Nat.gcd (fb P Z) (fb Q Z)) * k = Q := by
  have hb := fb_pos (A := P) hZ
  have hd := fb_pos (A := Q) hZ
  have e1 := fr_eq (A := P) (Z := Z)
  have e2 := fr_eq (A := Q) (Z := Z)
  generalize hb' : fb P Z = b at *
  generalize hd' : fb Q Z = d at *
  have db : b ∣ Z := by rw [← hb']; exact fb_dvd
  have dd : d ∣ Z := by rw [← hd']; exact fb_dvd
  have hg : 0 < Nat.gcd b d := Nat.gcd_pos_of_pos_left _ hb
  obtain ⟨b1, hb1⟩ := Nat.gcd_dvd_left b d
  obtain ⟨d1, hd1⟩ := Nat.gcd_dvd_right b d
  obtain ⟨k, hk⟩ := Nat.lcm_dvd db dd
  have eb : b / Nat.gcd b d = b1 := by
    have := congrArg (· / Nat.gcd b d) hb1
    rw [Nat.mul_div_cancel_left _ hg] at this
    exact this
  have ed : d / Nat.gcd b d = d1 := by
    have := congrArg (· / Nat.gcd b d) hd1
    rw [Nat.mul_div_cancel_left _ hg] at this
    exact this
  have el : Nat.lcm b d = b1 * d := by
    unfold Nat.lcm
    rw [← Nat.div_mul_right_comm (Nat.gcd_dvd_left b d), eb]
  rw [el] at hk
  generalize fa P Z = aP at *
  generalize fa Q Z = aQ at *
  refine ⟨k, ?_, ?_, ?_⟩
  · rcases Nat.eq_zero_or_pos k with z | z
    · rw [z, Nat.mul_zero] at hk; omega
    · exact z
  · rw [ed]
    refine Nat.eq_of_mul_eq_mul_right hb ?_
    rw [← e1, hk]
    calc aP * d1 * k * b = aP * d1 * k * (Nat.gcd b d * b1) := by rw [← hb1]
      _ = aP * (b1 * (Nat.gcd b d * d1) * k) := by simp only [Nat.mul_assoc, Nat.mul_left_comm, Nat.mul_comm]
      _ = aP * (b1 * d * k) := by rw [← hd1]
  · rw [eb]
    refine Nat.eq_of_mul_eq_mul_right hd ?_
    rw [← e2, hk]
    simp only [Nat.mul_assoc, Nat.mul_left_comm, Nat.mul_comm]
theorem fr_lt {P Q Z : Nat} (hZ : 0 < Z) : fa Q Z * (fb P Z / Nat.gcd (fb P Z) (fb Q Z)) < fa P Z * (fb Q Z / Nat.gcd (fb P Z) (fb Q Z)) ↔ Q < P := by
  obtain ⟨k, hk, h1, h2⟩ := fr_cmp (P := P) (Q := Q) hZ
  constructor
  · intro h
    have := Nat.mul_lt_mul_of_pos_right h hk
    omega
  · intro h
    refine Nat.lt_of_mul_lt_mul_right (a := k) ?_
    rw [h1, h2]; exact h
theorem fr_mul_lt {P Q Z : Nat} (hZ : 0 < Z) : fa Q Z * fb P Z < fa P Z * fb Q Z ↔ Q < P := by
  have e1 := fr_eq (A := P) (Z := Z)
  have e2 := fr_eq (A := Q) (Z := Z)
  have hb := fb_pos (A := P) hZ
  have hd := fb_pos (A := Q) hZ
  have a1 : fa Q Z * fb P Z * Z = Q * (fb P Z * fb Q Z) := by
    calc fa Q Z * fb P Z * Z = fa Q Z * Z * fb P Z := Nat.mul_right_comm _ _ _
      _ = Q * fb Q Z * fb P Z := by rw [e2]
      _ = Q * (fb P Z * fb Q Z) := by rw [Nat.mul_assoc, Nat.mul_comm (fb Q Z)]
  have a2 : fa P Z * fb Q Z * Z = P * (fb P Z * fb Q Z) := by
    calc fa P Z * fb Q Z * Z = fa P Z * Z * fb Q Z := Nat.mul_right_comm _ _ _
      _ = P * fb P Z * fb Q Z := by rw [e1]
      _ = P * (fb P Z * fb Q Z) := by rw [Nat.mul_assoc]
  have hp := Nat.mul_pos hb hd
  constructor
  · intro h
    have h1 := Nat.mul_lt_mul_of_pos_right h hZ
    rw [a1, a2] at h1
    exact Nat.lt_of_mul_lt_mul_right h1
  · intro h
    have h1 := Nat.mul_lt_mul_of_pos_right h hp
    rw [← a1, ← a2] at h1
    exact Nat.lt_of_mul_lt_mul_right h1
theorem x_isGreater {h : MH} {r i j Z : Nat} {A : Nat → Nat} (R : rtAt h r 30) (f : frIs h (r + 1) (r + 2) A Z) (hi : i < 30) (hj : j < 30) (hZ : 0 < Z) (hZ2 : Z < 2 ^ 45) (hA : ∀ l, A l < 2 ^ 62) : f_X1_isGreater r (nI i) (nI j) h = some (bI (A j < A i), h) := by
  obtain ⟨i1, i2⟩ := f i hi
  obtain ⟨j1, j2⟩ := f j hj
  have bi := fb_pos (A := A i) hZ
  have bj := fb_pos (A := A j) hZ
  have li := fb_le (A := A i) (Z := Z)
  have lj := fb_le (A := A j) (Z := Z)
  have hg : 0 < Nat.gcd (fb (A i) Z) (fb (A j) Z) := Nat.gcd_pos_of_pos_left _ bi
  have hgl : Nat.gcd (fb (A i) Z) (fb (A j) Z) ≤ fb (A i) Z := Nat.gcd_le_left _ bi
  obtain ⟨k, hk, k1, k2⟩ := fr_cmp (P := A i) (Q := A j) hZ
  have hAi := hA i
  have hAj := hA j
  have m1 : fa (A i) Z * (fb (A j) Z / Nat.gcd (fb (A i) Z) (fb (A j) Z)) ≤ A i := by
    have := Nat.le_mul_of_pos_right (fa (A i) Z * (fb (A j) Z / Nat.gcd (fb (A i) Z) (fb (A j) Z))) hk
    omega
  have m2 : fa (A j) Z * (fb (A i) Z / Nat.gcd (fb (A i) Z) (fb (A j) Z)) ≤ A j := by
    have := Nat.le_mul_of_pos_right (fa (A j) Z * (fb (A i) Z / Nat.gcd (fb (A i) Z) (fb (A j) Z))) hk
    omega
  unfold f_X1_isGreater
  rw [if_neg (show ¬ nI i < 0 from nI_nn (by omega)), R.1, Option.bind_some, R.2.2.1, oN, if_pos (show nI i < nI 30 from nI_lt hi (by decide)), if_neg (show ¬ nI j < 0 from nI_nn (by omega)), Option.bind_some, R.2.2.1, oN, if_pos (show nI j < nI 30 from nI_lt hj (by decide)), R.2.1, Option.bind_some, ldL_ok (by rw [R.2.2.2]; exact hi) (by omega), Option.bind_some, i2, Option.bind_some, ldL_ok (by rw [R.2.2.2]; exact hj) (by omega), Option.bind_some, j2, x_divisor h (by omega) (by omega) hg, Option.bind_some]
  dsimp only
  have q1 : ldL h (r + 1) (nI i) = some (lN (fa (A i) Z)) := by rw [ldL_ok (by rw [R.2.2.1]; exact hi) (by omega), i1]
  have q2 : ldL h (r + 1) (nI j) = some (lN (fa (A j) Z)) := by rw [ldL_ok (by rw [R.2.2.1]; exact hj) (by omega), j1]
  have q3 : ldL h (r + 2) (nI i) = some (lN (fb (A i) Z)) := by rw [ldL_ok (by rw [R.2.2.2]; exact hi) (by omega), i2]
  have q4 : ldL h (r + 2) (nI j) = some (lN (fb (A j) Z)) := by rw [ldL_ok (by rw [R.2.2.2]; exact hj) (by omega), j2]
  simp only [R.1, R.2.1, Option.bind_some, q1, q2, q3, q4]
  rw [if_neg (lN_0 hg (by omega)), if_neg (lN_0 hg (by omega)), pk_lDiv (by omega) hg (by omega), pk_lDiv (by omega) hg (by omega), lN_mul, lN_mul]
  unfold bI
  by_cases c : A j < A i
  · rw [if_pos ((pk_lLT (by omega) (by omega)).mpr ((fr_lt hZ).mpr c)), if_pos c]
  · rw [if_neg (fun z => c ((fr_lt hZ).mp ((pk_lLT (by omega) (by omega)).mp z))), if_neg c]
theorem x_isGreater_m1 {h : MH} {r i Z : Nat} {A : Nat → Nat} (R : rtAt h r 30) (f : frIs h (r + 1) (r + 2) A Z) (hi : i < 30) (hZ : 0 < Z) (hA : ∀ l, A l < 2 ^ 62) : f_X1_isGreater r (nI i) (-1) h = some (bI (A i ≠ 0), h) := by
  obtain ⟨i1, i2⟩ := f i hi
  have hAi := hA i
  have hfa := fa_le (A := A i) (Z := Z)
  unfold f_X1_isGreater
  rw [if_neg (show ¬ nI i < 0 from nI_nn (by omega)), R.1, Option.bind_some, R.2.2.1, oN, if_pos (show nI i < nI 30 from nI_lt hi (by decide)), if_pos (show (-1 : Int32) < 0 by decide)]
  unfold f_X1_isGreater_28
  rw [R.1, Option.bind_some, ldL_ok (by rw [R.2.2.1]; exact hi) (by omega), Option.bind_some, i1]
  unfold bI
  by_cases c : A i = 0
  · rw [c, (fa_0 hZ).1, if_neg (show ¬ (0 : Int64) < lN 0 by decide), if_neg (fun z => z rfl)]
  · have hfp := fa_pos (P := A i) (Z := Z) hZ c
    rw [if_pos c, if_pos (show (0 : Int64) < lN (fa (A i) Z) from (pk_lLT (a := 0) (by decide) (by omega)).mpr hfp)]
theorem div_cmp {a b c d : Nat} (hb : 0 < b) (hd : 0 < d) (h : c / d < a / b) : c * b < a * d := by
  have h1 : c < (c / d + 1) * d := by
    have := Nat.div_add_mod c d
    have := Nat.mod_lt c hd
    rw [Nat.add_mul, Nat.mul_comm (c / d)]; omega
  have h2 : a / b * b ≤ a := Nat.div_mul_le_self a b
  have h3 : (c / d + 1) * b ≤ a := Nat.le_trans (Nat.mul_le_mul_right b h) h2
  have h4 : c * b < (c / d + 1) * d * b := Nat.mul_lt_mul_of_pos_right h1 hb
  have h5 : (c / d + 1) * b * d ≤ a * d := Nat.mul_le_mul_right d h3
  rw [Nat.mul_right_comm] at h4
  omega
theorem mod_cmp {a b c d : Nat} (h : a / b = c / d) : c * b < a * d ↔ c % d * b < a % b * d := by
  have h1 := Nat.div_add_mod a b
  have h2 := Nat.div_add_mod c d
  have e1 : a * d = b * (a / b) * d + a % b * d := by rw [← Nat.add_mul, h1]
  have e2 : c * b = d * (c / d) * b + c % d * b := by rw [← Nat.add_mul, h2]
  have e3 : b * (a / b) * d = d * (c / d) * b := by
    rw [h]; simp only [Nat.mul_assoc, Nat.mul_left_comm, Nat.mul_comm]
  omega
theorem m_isMore' : ∀ (n s a b c d : Nat) (h : MH), s < n → a < 2 ^ 63 → b < 2 ^ 63 → c < 2 ^ 63 → d < 2 ^ 63 → 0 < b → 0 < d → euS s a b → euS s c d → f_X11_isMore 0 n (lN a, lN b, lN c, lN d) h = some (bI (c * b < a * d), h) := by
  intro n
  induction n with
  | zero => intro s a b c d h hs; omega
  | succ n ih =>
    intro s a b c d h hs ha hb hc hd hb0 hd0 E1 E2
    show f_X11_isMoreb (f_X11_isMore 0 n) 0 (lN a) (lN b) (lN c) (lN d) h = _
    unfold f_X11_isMoreb
    have la := Nat.div_le_self a b
    have lc := Nat.div_le_self c d
    have ma := Nat.mod_lt a hb0
    have mc := Nat.mod_lt c hd0
    rw [if_neg (lN_0 hb0 hb), if_neg (lN_0 hd0 hd), pk_lDiv ha hb0 hb, pk_lDiv hc hd0 hd]
    by_cases q : a / b = c / d
    · rw [if_pos (by rw [q]), if_neg (lN_0 hb0 hb), lt_def, if_neg (lN_0 hd0 hd), lt_def, ← pk_lDiv ha hb0 hb, pk_lRem ha hb0 hb, ← pk_lDiv hc hd0 hd, pk_lRem hc hd0 hd]
      unfold bI
      by_cases q1 : c % d = 0
      · rw [if_pos (by rw [q1]; rfl)]
        by_cases q2 : a % b = 0
        · rw [if_neg (by rw [q2]; decide), if_neg (fun z => by have := (mod_cmp q).mp z; rw [q1, q2] at this; omega)]
        · rw [if_pos (show (0 : Int64) < lN (a % b) from (pk_lLT (a := 0) (by decide) (by omega)).mpr (by omega)), if_pos ((mod_cmp q).mpr (by rw [q1, Nat.zero_mul]; exact Nat.mul_pos (by omega) hd0))]
      · rw [if_neg (lN_0 (by omega) (by omega))]
        by_cases q2 : a % b = 0
        · rw [if_pos (by rw [q2]; rfl), if_neg (fun z => by have := (mod_cmp q).mp z; rw [q2, Nat.zero_mul] at this; omega)]
        · rw [if_neg (lN_0 (by omega) (by omega))]
          obtain ⟨s1, s2⟩ := euS_step hd0 E2
          obtain ⟨s3, s4⟩ := euS_step hb0 E1
          rw [ih (s - 1) d (c % d) b (a % b) h (by omega) hd (by omega) hb (by omega) (by omega) (by omega) s2 s4, Option.bind_some]
          have e : (b * (c % d) < d * (a % b)) ↔ (c * b < a * d) := by
            rw [mod_cmp q, Nat.mul_comm b, Nat.mul_comm d]
          by_cases q3 : c * b < a * d
          · rw [if_neg (fun z => bI_0.mp z (e.mpr q3)), if_pos q3]
          · rw [if_pos (bI_0.mpr (fun z => q3 (e.mp z))), if_neg q3]
    · rw [if_neg (fun z => q ((pk_lEQ (by omega) (by omega)).mp z)), if_neg (lN_0 hb0 hb), if_neg (lN_0 hd0 hd)]
      unfold bI
      by_cases q1 : c / d < a / b
      · rw [if_pos ((pk_lLT (by omega) (by omega)).mpr q1), if_pos (div_cmp hb0 hd0 q1)]
      · rw [if_neg (fun z => q1 ((pk_lLT (by omega) (by omega)).mp z)), if_neg (fun z => by have := div_cmp hd0 hb0 (show a / b < c / d by omega); omega)]
theorem m_isMore {P Q Z : Nat} (h : MH) (hZ : 0 < Z) (hZ2 : Z < 2 ^ 45) (hP : P < 2 ^ 62) (hQ : Q < 2 ^ 62) : f_X11_isMore 0 DG (lN (fa P Z), lN (fb P Z), lN (fa Q Z), lN (fb Q Z)) h = some (bI (Q < P), h) := by
  have aP := fa_le (A := P) (Z := Z)
  have bP := fb_le (A := P) (Z := Z)
  have aQ := fa_le (A := Q) (Z := Z)
  have bQ := fb_le (A := Q) (Z := Z)
  have m1 : fa P Z * fb P Z < 2 ^ 107 := by
    have := Nat.mul_lt_mul_of_lt_of_lt (show fa P Z < 2 ^ 62 by omega) (show fb P Z < 2 ^ 45 by omega)
    rw [← Nat.pow_add] at this
    exact this
  have m2 : fa Q Z * fb Q Z < 2 ^ 107 := by
    have := Nat.mul_lt_mul_of_lt_of_lt (show fa Q Z < 2 ^ 62 by omega) (show fb Q Z < 2 ^ 45 by omega)
    rw [← Nat.pow_add] at this
    exact this
  rw [m_isMore' DG 108 _ _ _ _ h (by decide) (by omega) (by omega) (by omega) (by omega) (fb_pos hZ) (fb_pos hZ) (euS_of m1) (euS_of m2)]
  unfold bI
  by_cases q : Q < P
  · rw [if_pos ((fr_mul_lt hZ).mpr q), if_pos q]
  · rw [if_neg (fun z => q ((fr_mul_lt hZ).mp z)), if_neg q]
def hvy (A : Nat → Nat) : Nat → Option Nat
  | 0 => none
  | k + 1 => if A k = 0 then hvy A k else match hvy A k with
    | none => some k
    | some j => if A j < A k then some k else some j
theorem hvy_lt {A : Nat → Nat} : ∀ {k j : Nat}, hvy A k = some j → j < k := by
  intro k
  induction k with
  | zero => intro j h; cases h
  | succ k ih =>
    intro j h
    unfold hvy at h
    by_cases q : A k = 0
    · rw [if_pos q] at h; have := ih h; omega
    · rw [if_neg q] at h
      cases e : hvy A k with
      | none => rw [e] at h; have : k = j := Option.some.inj h; omega
      | some i =>
        rw [e] at h
        have h : (if A i < A k then some k else some i) = some j := h
        have hi := ih e
        by_cases q2 : A i < A k
        · rw [if_pos q2] at h; have : k = j := Option.some.inj h; omega
        · rw [if_neg q2] at h
          have : i = j := Option.some.inj h
          omega
theorem ok_heaviest : J_heaviest RR := by
  rintro hx hm ⟨a, w, X, M⟩
  have M0 := M.told (v := 0)
  have wN := w.1.1
  have hm30 := wN.2.2.1
  have hz := zz_le wN
  obtain ⟨hx', ex, X', K⟩ := x_layLoads w X
  obtain ⟨hm', em, M', J⟩ := m_laysLoads w M0
  obtain ⟨L', S', -⟩ := XR_iff.mp X'
  obtain ⟨mL', mS', -⟩ := MR_iff.mp M'
  have hA : ∀ l, lds (aS a) 8 l < 2 ^ 62 := fun l => by have := lds_lt (l := l) (k := 8) w.1 (Nat.le_refl _); omega
  refine ⟨fpl (hvy (lds (aS a) 8) (nM (sN (aS a)))), hx', hm', ?_, ?_, a, w, X', M'⟩
  · have key : Ev (f_X10_heaviest 0 hx) (fun q => q = (fpl (hvy (lds (aS a) 8) (nM (sN (aS a)))), hx')) := by
      unfold f_X10_heaviest f_X10_heaviest_8
      rw [ex, Option.bind_some]
      refine Ev_FU (fun m p h1 => ∃ i, i + m = nM (sN (aS a)) ∧ p = (fpl (hvy (lds (aS a) 8) i), nI i) ∧ h1 = hx') (nM (sN (aS a))) (-1, 0) hx' (by omega) ⟨0, by omega, rfl, rfl⟩ ?_
      rintro m p h1 rec ⟨i, hi, rfl, rfl⟩ ih
      unfold f_X10_heaviest_8b f_X10_heaviest_36
      dsimp only
      rw [L'.r0, Option.bind_some, L'.s0, Option.bind_some, S'.1.2.1]
      by_cases q : i < nM (sN (aS a))
      · have hv : hvy (lds (aS a) 8) (i + 1) = if lds (aS a) 8 i = 0 then hvy (lds (aS a) 8) i else match hvy (lds (aS a) 8) i with
          | none => some i
          | some j => if lds (aS a) 8 j < lds (aS a) 8 i then some i else some j := rfl
        rw [if_pos (nI_lt q (by omega)), L'.r15, Option.bind_some, nI_1]
        cases e : hvy (lds (aS a) 8) i with
        | none =>
          rw [e] at hv
          rw [show fpl none = -1 from rfl, x_isGreater_m1 L'.lo K (by omega) zz_pos hA, Option.bind_some]
          dsimp only
          by_cases c : lds (aS a) 8 i = 0
          · rw [if_pos (bI_0.mpr (fun z => z c))]
            rw [if_pos c] at hv
            exact ih (m - 1) _ _ (by omega) ⟨i + 1, by omega, congrArg (fun o => (fpl o, nI (i + 1))) hv.symm, rfl⟩
          · rw [if_neg (fun z => bI_0.mp z c)]
            rw [if_neg c] at hv
            exact ih (m - 1) _ _ (by omega) ⟨i + 1, by omega, congrArg (fun o => (fpl o, nI (i + 1))) hv.symm, rfl⟩
        | some j =>
          have hj := hvy_lt e
          rw [e] at hv
          rw [show fpl (some j) = nI j from rfl, x_isGreater L'.lo K (by omega) (by omega) zz_pos (by omega) hA, Option.bind_some]
          dsimp only
          by_cases c2 : lds (aS a) 8 j < lds (aS a) 8 i
          · rw [if_neg (fun z => bI_0.mp z c2)]
            have hv : hvy (lds (aS a) 8) (i + 1) = some i := by
              rw [hv, if_neg (by omega)]
              exact if_pos c2
            exact ih (m - 1) _ _ (by omega) ⟨i + 1, by omega, congrArg (fun o => (fpl o, nI (i + 1))) hv.symm, rfl⟩
          · rw [if_pos (bI_0.mpr c2)]
            have hv : hvy (lds (aS a) 8) (i + 1) = some j := by
              rw [hv]
              by_cases c : lds (aS a) 8 i = 0
              · rw [if_pos c]
              · rw [if_neg c]
                exact if_neg c2
            exact ih (m - 1) _ _ (by omega) ⟨i + 1, by omega, congrArg (fun o => (fpl o, nI (i + 1))) hv.symm, rfl⟩
      · have : i = nM (sN (aS a)) := by omega
        subst this
        rw [if_neg (nI_nlt (Nat.le_refl _) (by omega))]
        exact Ev_some rfl
    obtain ⟨q, e, rfl⟩ := key
    exact e
  · have key : Ev (f_X11_heaviest 0 hm) (fun q => q = (fpl (hvy (lds (aS a) 8) (nM (sN (aS a)))), hm')) := by
      unfold f_X11_heaviest f_X11_heaviest_13
      rw [lt_def, em, Option.bind_some]
      refine Ev_FU (fun m p h1 => ∃ i, i + m = nM (sN (aS a)) ∧ p = (fpl (hvy (lds (aS a) 8) i), nI i) ∧ h1 = hm') (nM (sN (aS a))) (-1, 0) hm' (by omega) ⟨0, by omega, rfl, rfl⟩ ?_
      rintro m p h1 rec ⟨i, hi, rfl, rfl⟩ ih
      unfold f_X11_heaviest_13b f_X11_heaviest_70 f_X11_heaviest_68 f_X11_heaviest_70
      dsimp only
      rw [m_links mL' mS'.1, Option.bind_some]
      dsimp only
      have ld1 : ∀ l, l < 30 → ldL h1 17 (nI l) = some (lN (fa (lds (aS a) 8 l) (zz (sN (aS a))))) := fun l hl => by
        rw [ldL_ok (by rw [mL'.n17]; exact hl) (by omega), (J l hl).1]
      have ld2 : ∀ l, l < 30 → ldL h1 18 (nI l) = some (lN (fb (lds (aS a) 8 l) (zz (sN (aS a))))) := fun l hl => by
        rw [ldL_ok (by rw [mL'.n18]; exact hl) (by omega), (J l hl).2]
      by_cases q : i < nM (sN (aS a))
      · have hfa := fa_le (A := lds (aS a) 8 i) (Z := zz (sN (aS a)))
        have hAi := hA i
        rw [if_pos (nI_lt q (by omega)), mL'.r32, Option.bind_some, ld1 i (by omega), Option.bind_some, nI_1]
        have hv : hvy (lds (aS a) 8) (i + 1) = if lds (aS a) 8 i = 0 then hvy (lds (aS a) 8) i else match hvy (lds (aS a) 8) i with
          | none => some i
          | some j => if lds (aS a) 8 j < lds (aS a) 8 i then some i else some j := rfl
        by_cases c : lds (aS a) 8 i = 0
        · rw [if_neg (by rw [c, (fa_0 zz_pos).1]; decide)]
          exact ih (m - 1) _ _ (by omega) ⟨i + 1, by omega, by rw [hv, if_pos c], rfl⟩
        · have hfp := fa_pos (P := lds (aS a) 8 i) (Z := zz (sN (aS a))) zz_pos c
          rw [if_pos (show (0 : Int64) < lN (fa (lds (aS a) 8 i) (zz (sN (aS a)))) from (pk_lLT (a := 0) (by decide) (by omega)).mpr hfp)]
          cases e : hvy (lds (aS a) 8) i with
          | none =>
            rw [if_pos (show fpl none = -1 from rfl)]
            exact ih (m - 1) _ _ (by omega) ⟨i + 1, by omega, by rw [hv, if_neg c, e]; rfl, rfl⟩
          | some j =>
            have hj := hvy_lt e
            rw [if_neg (show ¬ fpl (some j) = -1 from nI_m1 (by omega)), show fpl (some j) = nI j from rfl]
            simp only [mL'.r33, Option.bind_some, ld1 i (by omega), ld2 i (by omega), ld1 j (by omega), ld2 j (by omega)]
            rw [m_isMore h1 zz_pos (by omega) (hA i) (hA j), Option.bind_some]
            by_cases c2 : lds (aS a) 8 j < lds (aS a) 8 i
            · rw [if_neg (fun z => bI_0.mp z c2)]
              exact ih (m - 1) _ _ (by omega) ⟨i + 1, by omega, by rw [hv, if_neg c, e]; show _ = (fpl (if _ then _ else _), _); rw [if_pos c2]; rfl, rfl⟩
            · rw [if_pos (bI_0.mpr c2)]
              exact ih (m - 1) _ _ (by omega) ⟨i + 1, by omega, by rw [hv, if_neg c, e]; show _ = (fpl (if _ then _ else _), _); rw [if_neg c2]; rfl, rfl⟩
      · have : i = nM (sN (aS a)) := by omega
        subst this
        rw [if_neg (nI_nlt (Nat.le_refl _) (by omega))]
        exact Ev_some rfl
    obtain ⟨q, e, rfl⟩ := key
    exact e
