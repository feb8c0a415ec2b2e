/-! ===== demandOf; loads ===== -/
theorem stkOK_D {s : ST} (w : wfS s) {d : Nat} (hd : d < 8) {q : Nat × Nat × List Nat} (e : sD s d = some q) : q.1 < nN (sN s) ∧ 1 ≤ q.2.1 ∧ q.2.1 ≤ 99 ∧ stkOK q.2.2 := by
  obtain ⟨h1, h2, h3, h4, h5⟩ := w.2.2.1 d hd q e
  exact ⟨h1, h2, h3, h4, h5⟩
theorem x_sendDemand {h : MH} {a : AB} {d : Nat} {q : Nat × Nat × List Nat} (w : wfA a) (X : XR h a) (hd : d < 8) (e : sD (aS a) d = some q) : ∃ h', f_X10_sendDemand 0 (nI d) h = some h' ∧ XR h' a ∧ frm ([0, 170, 171, 184, 185] ++ pkX) h h' ∧ XKE h' (sN (aS a)) (pkt (sN (aS a)) (sB (aS a)) q.1 q.2.2).1 (pkt (sN (aS a)) (sB (aS a)) q.1 q.2.2).2 := by
  obtain ⟨L, S, K, D, A, I, P, F, C⟩ := XR_iff.mp X
  obtain ⟨q1, q2, q3, q4⟩ := stkOK_D w.1 hd e
  obtain ⟨s1, s2, s3, s4⟩ := (S.2.1 d hd).2 q e
  obtain ⟨h1, e1, f1, r1⟩ := x_copyTo L.rows12 (by decide) (by decide) (show rowAt h 184 12 from ⟨L.y184, L.z185⟩) (by decide) hd q4.1 q4.1 s3 s4 (by decide)
  have X1 : XR h1 a := X.fr f1 (by decide)
  obtain ⟨h2, h3, e2, e3, X2, X3, f2, f3, K3⟩ := x_sendOK w X1 r1 q4 q1
  obtain ⟨L1, S1, -⟩ := XR_iff.mp X1
  obtain ⟨L2, S2, -⟩ := XR_iff.mp X2
  refine ⟨h3, ?_, X3, frm.tr (frm.tr (f1.up (by decide)) (f2.up (by decide))) (f3.up (by decide)), K3⟩
  have s1' := ((S2.2.1 d hd).2 q e).1
  unfold f_X10_sendDemand
  rw [L.r0, Option.bind_some, L.s3, Option.bind_some, L.r14, Option.bind_some, L.k0, Option.bind_some, e1, Option.bind_some, L1.r14, Option.bind_some, L1.r0, Option.bind_some, L1.s0, Option.bind_some, e2, Option.bind_some]
  dsimp only
  rw [L2.r0, Option.bind_some, L2.s1, Option.bind_some, ldI_ok (by rw [L2.z10]; exact hd) (by omega), Option.bind_some, show gI h2 10 d = nI q.1 from s1', e3, Option.bind_some]
theorem m_runsDemand {h : MH} {a : AB} {d : Nat} {q : Nat × Nat × List Nat} {sh : Bool} {xs : Int32} (w : wfA a) (M : MR h a) (hd : d < 8) (e : sD (aS a) d = some q) (hxs : xs = bI (sh = true)) : ∃ h', f_X11_runsDemand 0 (nI d) xs h = some h' ∧ MR h' a ∧ frN h h' ∧ MKE h' (sN (aS a)) (pkt (sN (aS a)) (sB (aS a)) q.1 q.2.2).1 (pkt (sN (aS a)) (sB (aS a)) q.1 q.2.2).2 sh := by
  obtain ⟨L, S, K, D, A, I, P, F, C⟩ := MR_iff.mp M
  obtain ⟨q1, q2, q3, q4⟩ := stkOK_D w.1 hd e
  obtain ⟨s1, s2, s3, s4⟩ := (S.2.2.1 d hd).2 q e
  have q12 := q4.1
  have hn10 := w.1.1.2.1
  obtain ⟨h', e', z⟩ := m_goes (la := 1) (o := 194 + 12 * d) (ks := q.2.2) w M q1 q4 (Or.inl rfl) s4 (by rw [L.n1]; omega) (by rw [L.n1]; decide) hxs
  refine ⟨h', ?_, z⟩
  unfold f_X11_runsDemand
  rw [L.r1, Option.bind_some, show (170 : Int32) + nI d = nI (170 + d) from nI_add 170 d, m_now L (by omega), Option.bind_some, Option.bind_some, Option.bind_some, show (186 : Int32) + nI d = nI (186 + d) from nI_add 186 d, m_now L (by omega), Option.bind_some, s1, s3, pI_sub, pI_s, show (194 : Int32) + 12 * nI d = nI (194 + 12 * d) from by
    show nI 194 + nI 12 * nI d = _
    rw [pk_mul, nI_add], e', Option.bind_some]
theorem ok_demandOf : J_demandOf RR := by
  rintro x1 x2 hx hm ⟨a, w, X, M⟩
  obtain ⟨L, S, -⟩ := XR_iff.mp X
  have M0 := M.told (v := 0)
  obtain ⟨mL, mS, -⟩ := MR_iff.mp M0
  have wN := w.1.1
  have hn10 := wN.2.1
  by_cases c1 : 0 ≤ x1.toInt ∧ x1.toInt < 8
  · obtain ⟨d, hd, rfl⟩ := ofZ (n := 8) c1.1 c1.2
    have xs := S.2.1 d hd
    have ms := mS.2.2.1 d hd
    have ux : f_X10_demandOf 0 (nI d) x2 hx = (if gI hx 10 d = -1 then some (-1, hx) else if x2 = 0 then some (gI hx 10 d, hx) else if x2 = 1 then some (gI hx 11 d, hx) else if x2 = 2 then some (gI hx 13 d, hx) else if x2 = 3 then (f_X10_sendDemand 0 (nI d) hx).bind fun q_14 => (gR q_14 0 14).bind fun a_15 => (f_X3_outcome a_15 q_14).bind fun q_16 => some (q_16.1, q_16.2) else some (-1, hx)) := by
      unfold f_X10_demandOf
      rw [x_isDemand, Option.bind_some, if_neg (fun z => bI_0.mp z c1)]
      dsimp only
      have e10 : ldI hx 10 (nI d) = some (gI hx 10 d) := ldI_ok (by rw [L.z10]; exact hd) (by omega)
      have e11 : ldI hx 11 (nI d) = some (gI hx 11 d) := ldI_ok (by rw [L.z11]; exact hd) (by omega)
      have e13 : f_X6_sizeOf 12 (nI d) hx = some (gI hx 13 d, hx) := x_sizeOf L.rows12 (by decide) hd
      simp only [L.r0, L.s1, L.s2, L.s3, Option.bind_some, e10, e11, e13]
    have um : f_X11_demandOf 0 (nI d) x2 hm = (if gI (sI hm 0 0 0) 1 (170 + d) = 0 then some (-1, sI hm 0 0 0) else if x2 = 0 then some (gI (sI hm 0 0 0) 1 (170 + d) - 1, sI hm 0 0 0) else if x2 = 1 then some (gI (sI hm 0 0 0) 1 (178 + d), sI hm 0 0 0) else if x2 = 2 then some (gI (sI hm 0 0 0) 1 (186 + d), sI hm 0 0 0) else if x2 = 3 then (f_X11_runsDemand 0 (nI d) 0 (sI hm 0 0 0)).bind fun q_11 => (f_X11_endOf 0 q_11).bind fun q_12 => some (q_12.1, q_12.2) else some (-1, sI hm 0 0 0)) := by
      unfold f_X11_demandOf
      rw [lt_def, m_isDemand, Option.bind_some, if_neg (fun z => bI_0.mp z c1)]
      dsimp only
      have e170 : ldI (sI hm 0 0 0) 1 (170 + nI d) = some (gI (sI hm 0 0 0) 1 (170 + d)) := by
        rw [show (170 : Int32) + nI d = nI (170 + d) from nI_add 170 d, m_now mL (by omega)]
      have e178 : ldI (sI hm 0 0 0) 1 (178 + nI d) = some (gI (sI hm 0 0 0) 1 (178 + d)) := by
        rw [show (178 : Int32) + nI d = nI (178 + d) from nI_add 178 d, m_now mL (by omega)]
      have e186 : ldI (sI hm 0 0 0) 1 (186 + nI d) = some (gI (sI hm 0 0 0) 1 (186 + d)) := by
        rw [show (186 : Int32) + nI d = nI (186 + d) from nI_add 186 d, m_now mL (by omega)]
      simp only [mL.r1, Option.bind_some, e170, e178, e186]
    rw [ux, um]
    cases e : sD (aS a) d with
    | none =>
      refine ⟨-1, hx, sI hm 0 0 0, ?_, ?_, a, w, X, M0⟩
      · rw [if_pos (xs.1 e)]
      · rw [if_pos (ms.1 e)]
    | some q =>
      obtain ⟨q1, q2, q3, q4⟩ := stkOK_D w.1 hd e
      obtain ⟨s1, s2, s3, s4⟩ := xs.2 q e
      obtain ⟨t1, t2, t3, t4⟩ := ms.2 q e
      rw [show gI hx 10 d = nI q.1 from s1, show gI hx 11 d = nI q.2.1 from s2, show gI hx 13 d = nI q.2.2.length from s3, t1, t2, t3, if_neg (nI_m1 (by omega)), if_neg (show ¬ nI (q.1 + 1) = 0 from fun z => by have := nI_inj (b := 0) (by omega) (by decide) z; omega), pI_sub, pI_s]
      by_cases k0 : x2 = 0
      · rw [if_pos k0, if_pos k0]; exact ⟨_, _, _, rfl, rfl, a, w, X, M0⟩
      · rw [if_neg k0, if_neg k0]
        by_cases k1 : x2 = 1
        · rw [if_pos k1, if_pos k1]; exact ⟨_, _, _, rfl, rfl, a, w, X, M0⟩
        · rw [if_neg k1, if_neg k1]
          by_cases k2 : x2 = 2
          · rw [if_pos k2, if_pos k2]; exact ⟨_, _, _, rfl, rfl, a, w, X, M0⟩
          · rw [if_neg k2, if_neg k2]
            by_cases k3 : x2 = 3
            · rw [if_pos k3, if_pos k3]
              obtain ⟨hx', ex, X', fx, K⟩ := x_sendDemand w X hd e
              obtain ⟨hm', em, M', f, J⟩ := m_runsDemand (sh := false) (xs := 0) w M0 hd e rfl
              obtain ⟨z1, z2, z3, z4, z5, z6, z7⟩ := pkt_end (B := sB (aS a)) wN w.1.2.1 q1 q4
              rw [ex, Option.bind_some, X'.1.r14, Option.bind_some, em, Option.bind_some]
              unfold f_X3_outcome f_X11_endOf
              rw [K.1, J.1, K.2.1, J.2.2.1]
              cases hr : (pkt (sN (aS a)) (sB (aS a)) q.1 q.2.2).1 with
              | none =>
                rw [if_pos (show fpl none = -1 from rfl), if_pos (bI_0.mpr (fun z => z rfl)), Option.bind_some, Option.bind_some]
                exact ⟨_, _, _, rfl, rfl, a, w, X', M'⟩
              | some c =>
                have hc := z5 c hr
                rw [if_neg (show ¬ fpl (some c) = -1 from nI_m1 (by omega)), if_neg (fun z => bI_0.mp z (by simp)), Option.bind_some, Option.bind_some, J.2.1 c hr]
                exact ⟨_, _, _, rfl, rfl, a, w, X', M'⟩
            · rw [if_neg k3, if_neg k3]; exact ⟨_, _, _, rfl, rfl, a, w, X, M0⟩
  · refine ⟨-1, hx, sI hm 0 0 0, ?_, ?_, a, w, X, M0⟩
    · unfold f_X10_demandOf
      rw [x_isDemand, Option.bind_some, if_pos (bI_0.mpr c1)]
    · unfold f_X11_demandOf
      rw [lt_def, m_isDemand, Option.bind_some, if_pos (bI_0.mpr c1)]
/-! loads -/
noncomputable def ldOf (s : ST) (l d : Nat) : Nat := match sD s d with
  | none => 0
  | some q => if (pkt (sN s) (sB s) q.1 q.2.2).1 = none then q.2.1 * pA (pkt (sN s) (sB s) q.1 q.2.2).2 l else 0
noncomputable def lds (s : ST) (k l : Nat) : Nat := sumTo (ldOf s l) k
theorem ldOf_le {s : ST} (w : wfS s) {d l : Nat} (hd : d < 8) : ldOf s l d ≤ 8316 * zz (sN s) := by
  unfold ldOf
  cases e : sD s d with
  | none => exact Nat.zero_le _
  | some q =>
    show (if _ then _ else _) ≤ _
    obtain ⟨q1, q2, q3, q4⟩ := stkOK_D w hd e
    obtain ⟨z1, z2, z3, z4, z5, z6, z7⟩ := pkt_end (B := sB s) w.1 w.2.1 q1 q4
    split
    · have := Nat.mul_le_mul q3 (z4 l)
      rw [← Nat.mul_assoc] at this
      exact this
    · exact Nat.zero_le _
theorem lds_le {s : ST} (w : wfS s) {l : Nat} : ∀ k, k ≤ 8 → lds s k l ≤ k * (8316 * zz (sN s)) := by
  intro k
  induction k with
  | zero => intro _; exact Nat.zero_le _
  | succ k ih =>
    intro hk
    have h1 := ih (by omega)
    have h2 := ldOf_le (l := l) w (show k < 8 by omega)
    show lds s k l + ldOf s l k ≤ _
    rw [Nat.add_mul, Nat.one_mul]; omega
theorem lds_lt {s : ST} (w : wfS s) {l : Nat} {k : Nat} (hk : k ≤ 8) : lds s k l < 2 ^ 61 := by
  have h1 := lds_le (l := l) w k hk
  have h2 := zz_le w.1
  have h3 : k * (8316 * zz (sN s)) ≤ 8 * (8316 * zz (sN s)) := Nat.mul_le_mul_right _ hk
  omega
theorem x_addAll {h : MH} {r q v : Nat} {A D : Nat → Nat} {Z : Nat} (R : rtAt h r 30) (Q : rtAt h q 30) (hrq : r + 3 ≤ q ∨ q + 3 ≤ r) (hA : frIs h (r + 1) (r + 2) A Z) (hD : frIs h (q + 1) (q + 2) D Z) (hZ : 0 < Z) (hZ2 : Z < 2 ^ 45) (hv : v ≤ 99) (hb : ∀ l, l < 30 → A l + v * D l < 2 ^ 62) : Ev (f_X1_addAll r q (nI v) h) (fun h' => frm [r + 1, r + 2] h h' ∧ gI h' = gI h ∧ frIs h' (r + 1) (r + 2) (fun l => A l + v * D l) Z) := by
  unfold f_X1_addAll f_X1_addAll_2
  refine Ev_FU (fun m p h1 => ∃ i, i + m = 30 ∧ p = nI i ∧ frm [r + 1, r + 2] h h1 ∧ gI h1 = gI h ∧ frIs h1 (r + 1) (r + 2) (fun l => if l < i then A l + v * D l else A l) Z) 30 0 h (by omega) ⟨0, by omega, rfl, frm.rf, rfl, hA.cg rfl rfl (fun l _ => if_neg (by omega))⟩ ?_
  rintro m p h1 rec ⟨i, hi, rfl, f, gi, hA1⟩ ih
  have R1 := R.fr f
  have Q1 := Q.fr f
  unfold f_X1_addAll_2b
  rw [R1.1, Option.bind_some, R1.2.2.1, oN]
  by_cases qi : i < 30
  · have hbi := hb i qi
    rw [if_pos (nI_lt qi (by decide)), Q1.1, Option.bind_some, Q1.2.2.1, oN, if_pos (nI_lt qi (by decide)), Option.bind_some, ldL_ok (by rw [Q1.2.2.1]; exact qi) (by omega), Option.bind_some, Q1.2.1, Option.bind_some, ldL_ok (by rw [Q1.2.2.2]; exact qi) (by omega), Option.bind_some, f.2.1 (q + 1) (by simp; omega), f.2.1 (q + 2) (by simp; omega), (hD i qi).1, (hD i qi).2, nI_l (by omega), lN_mul, nI_1]
    refine Ev_to (x_frAdd (C := v * D i) R1 hA1 qi (fb_pos hZ) hZ hZ2 (by rw [if_neg (by omega)]; exact hbi) ?_ fb_dvd) (fun h2 z => ?_)
    · have := fr_eq (A := D i) (Z := Z)
      calc fa (D i) Z * v * Z = v * (fa (D i) Z * Z) := by simp only [Nat.mul_assoc, Nat.mul_left_comm, Nat.mul_comm]
        _ = v * (D i * fb (D i) Z) := by rw [this]
        _ = v * D i * fb (D i) Z := by rw [Nat.mul_assoc]
    · refine ih (m - 1) _ _ (by omega) ⟨i + 1, by omega, rfl, frm.tr f z.1, z.2.1.trans gi, z.2.2.cg rfl rfl (fun l _ => ?_)⟩
      by_cases q2 : l = i
      · subst q2
        rw [if_pos (by omega), if_pos rfl, if_neg (by omega)]
      · rw [if_neg q2]
        by_cases q3 : l < i
        · rw [if_pos q3, if_pos (by omega)]
        · rw [if_neg q3, if_neg (by omega)]
  · have : i = 30 := by omega
    subst this
    rw [if_neg (nI_nlt (Nat.le_refl _) (by decide))]
    exact Ev_some ⟨f, gi, hA1.cg rfl rfl (fun l hl => by rw [if_pos hl])⟩
theorem XR.rtf {h h' : MH} {X : List Nat} {r : Nat} (f : frm X h h') (R : rtAt h r 30) : rtAt h' r 30 := R.fr f
theorem x_layLoads {h : MH} {a : AB} (w : wfA a) (X : XR h a) : ∃ h', f_X10_layLoads 0 h = some h' ∧ XR h' a ∧ frIs h' 195 196 (lds (aS a) 8) (zz (sN (aS a))) := by
  have key : Ev (f_X10_layLoads 0 h) (fun h' => XR h' a ∧ frIs h' 195 196 (lds (aS a) 8) (zz (sN (aS a)))) := by
    have L := X.1
    have hz := zz_le w.1.1
    unfold f_X10_layLoads
    obtain ⟨h1, e1, f1, a1⟩ := x_clear (t := sN (aS a)) L.lo
    rw [L.r15, Option.bind_some, e1, Option.bind_some]
    unfold f_X10_layLoads_9
    refine Ev_FU (fun m p h2 => ∃ i, i + m = 8 ∧ p = nI i ∧ XR h2 a ∧ frIs h2 195 196 (lds (aS a) i) (zz (sN (aS a)))) 8 0 h1 (by omega) ⟨0, by omega, rfl, X.fr f1 (by decide), a1⟩ ?_
    rintro m p h2 rec ⟨i, hi, rfl, X2, A2⟩ ih
    obtain ⟨L2, S2, -⟩ := XR_iff.mp X2
    unfold f_X10_layLoads_9b f_X10_layLoads_69
    by_cases q : i < 8
    · have xs := S2.2.1 i q
      rw [if_pos (show nI i < 8 from (nI_ltI (b := 8) (by omega) (by decide)).mpr q), L2.r0, Option.bind_some, L2.s1, Option.bind_some, ldI_ok (by rw [L2.z10]; exact q) (by omega), Option.bind_some, nI_1]
      cases e : sD (aS a) i with
      | none =>
        rw [if_pos (xs.1 e)]
        refine ih (m - 1) _ _ (by omega) ⟨i + 1, by omega, rfl, X2, A2.cg rfl rfl (fun l _ => ?_)⟩
        show lds (aS a) i l + ldOf (aS a) l i = _
        unfold ldOf; rw [e]; rfl
      | some d =>
        obtain ⟨q1, q2, q3, q4⟩ := stkOK_D w.1 q e
        have hn10 := w.1.1.2.1
        obtain ⟨h3, e3, X3, f3, K3⟩ := x_sendDemand w X2 q e
        obtain ⟨z1, z2, z3, z4, z5, z6, z7⟩ := pkt_end (B := sB (aS a)) w.1.1 w.1.2.1 q1 q4
        obtain ⟨L3, S3, -⟩ := XR_iff.mp X3
        rw [show gI h2 10 i = nI d.1 from (xs.2 d e).1, if_neg (nI_m1 (by omega)), e3, Option.bind_some, L3.r14, Option.bind_some]
        unfold f_X3_isDropped
        rw [K3.1]
        have A3 : frIs h3 195 196 (lds (aS a) i) (zz (sN (aS a))) := A2.cg (f3.2.1 _ (by decide)) (f3.2.1 _ (by decide)) (fun _ _ => rfl)
        have hld : ∀ l, lds (aS a) (i + 1) l = lds (aS a) i l + (if (pkt (sN (aS a)) (sB (aS a)) d.1 d.2.2).1 = none then d.2.1 * pA (pkt (sN (aS a)) (sB (aS a)) d.1 d.2.2).2 l else 0) := fun l => by
          show lds (aS a) i l + ldOf (aS a) l i = _
          unfold ldOf; rw [e]
        by_cases c : (pkt (sN (aS a)) (sB (aS a)) d.1 d.2.2).1 = none
        · rw [if_pos (by rw [c]; rfl), Option.bind_some, if_pos rfl]
          dsimp only
          rw [L3.r15, Option.bind_some, L3.r14, Option.bind_some, L3.k2, Option.bind_some, L3.r0, Option.bind_some, L3.s2, Option.bind_some, ldI_ok (by rw [L3.z11]; exact q) (by omega), Option.bind_some, show gI h3 11 i = nI d.2.1 from ((S3.2.1 i q).2 d e).2.1]
          refine Ev_to (x_addAll (r := 194) (q := 188) L3.lo L3.sh188 (by decide) A3 K3.2.2.2.2.2 zz_pos (by omega) q3 (fun l _ => ?_)) (fun h4 z => ?_)
          · have := lds_lt (l := l) (k := i + 1) w.1 (by omega)
            rw [hld l, if_pos c] at this
            omega
          · refine ih (m - 1) _ _ (by omega) ⟨i + 1, by omega, rfl, X3.fr z.1 (by decide), z.2.2.cg rfl rfl (fun l _ => ?_)⟩
            rw [hld l, if_pos c]
        · rw [if_neg (fun z => c ((fpl_m1 (fun b hb => by have := z5 b hb; omega)).mp z)), Option.bind_some]
          dsimp only
          rw [if_neg (show ¬ (1 : Int32) = 0 by decide)]
          refine ih (m - 1) _ _ (by omega) ⟨i + 1, by omega, rfl, X3, A3.cg rfl rfl (fun l _ => ?_)⟩
          rw [hld l, if_neg c]; rfl
    · have : i = 8 := by omega
      subst this
      rw [if_neg (show ¬ nI 8 < 8 by decide)]
      exact Ev_some ⟨X2, A2⟩
  obtain ⟨h', e, z⟩ := key
  exact ⟨h', e, z⟩
