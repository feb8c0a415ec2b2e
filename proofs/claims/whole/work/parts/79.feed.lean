/-! ===== feed ===== -/
theorem lo8 {y z : Int32} (h : ∀ i, i < 8 → bit y i = bit z i) : y.toInt8 = z.toInt8 := by
  apply Int8.toBitVec_inj.mp
  show y.toBitVec.signExtend 8 = z.toBitVec.signExtend 8
  apply BitVec.eq_of_getLsbD_eq
  intro i hi
  have := h i hi
  unfold bit at this
  rw [BitVec.getLsbD_signExtend, BitVec.getLsbD_signExtend, if_pos (show i < 32 by omega), if_pos (show i < 32 by omega), this]
theorem zf_sm : ∀ l, l < 32 → ((nI l &&& 31).toBitVec.smod 32).toNat = l := by decide +kernel
def byN (x : Int32) (p : Int32) : Nat := ((x >>> (p &&& 31)) &&& 255).toBitVec.toNat
theorem byN_lt (x p : Int32) : byN x p < 256 := by
  unfold byN
  rw [Int32.toBitVec_and, BitVec.toNat_and]
  exact Nat.lt_succ_of_le Nat.and_le_right
theorem byN_eq (x p : Int32) : (x >>> (p &&& 31)) &&& 255 = nI (byN x p) := by
  apply Int32.toBitVec_inj.mp
  show _ = BitVec.ofNat 32 (byN x p)
  unfold byN
  rw [BitVec.ofNat_toNat, BitVec.setWidth_eq]
theorem bit_255 : ∀ i, i < 8 → bit 255 i = true := by decide
theorem bit_shr {x : Int32} {l i : Nat} (hl : l ≤ 24) (hi : i < 8) : bit (x >>> (nI l &&& 31)) i = bit (ush x (nI l)) i := by
  have e1 : (ush x (nI l)).toBitVec = x.toBitVec >>> l := by
    show x.toBitVec >>> (((nI l).toUInt32 &&& Int32.toUInt32 31).toBitVec % 32) = x.toBitVec >>> l
    rw [BitVec.ushiftRight_eq', zf_sl l (by omega)]
  have e2 : (x >>> (nI l &&& 31)).toBitVec = x.toBitVec.sshiftRight l := by
    show x.toBitVec.sshiftRight (((nI l &&& 31).toBitVec.smod 32).toNat) = _
    rw [zf_sm l (by omega)]
  unfold bit
  rw [e1, e2, BitVec.getLsbD_ushiftRight, BitVec.getLsbD_sshiftRight]
  have h1 : l + i < 32 := by omega
  simp [h1]
  omega
theorem byN_8 {x : Int32} {l : Nat} (hl : l ≤ 24) : ((ush x (nI l)).toInt8.toInt32).toInt8.toInt32 = (nI (byN x (nI l))).toInt8.toInt32 := by
  have : (ush x (nI l)).toInt8 = (nI (byN x (nI l))).toInt8 := by
    rw [← byN_eq]
    refine lo8 (fun i hi => ?_)
    rw [bit_and, bit_255 i hi, bit_shr hl hi, Bool.and_true]
  rw [this]
  simp
def bts (x : Int32) : List Nat := [byN x 24, byN x 16, byN x 8, byN x 0]
def pw : Nat → Int32
  | 0 => 24
  | 1 => 16
  | 2 => 8
  | 3 => 0
  | _ => -8
theorem pw_lt : ∀ i, i < 4 → ¬ pw i < 0 := by decide
theorem pw_next : ∀ i, i < 4 → pw i + (-8) = pw (i + 1) := by decide
theorem pw_nI : ∀ i, i < 4 → pw i = nI (24 - 8 * i) := by decide
theorem bts_take {x : Int32} {i : Nat} (hi : i < 4) : (bts x).take (i + 1) = (bts x).take i ++ [byN x (pw i)] := by
  rcases (show i = 0 ∨ i = 1 ∨ i = 2 ∨ i = 3 by omega) with rfl | rfl | rfl | rfl <;> rfl
theorem bts_lt {x : Int32} {i : Nat} (hi : i < 4) : (bts x).getD i 0 < 256 := by
  rcases (show i = 0 ∨ i = 1 ∨ i = 2 ∨ i = 3 by omega) with rfl | rfl | rfl | rfl <;> exact byN_lt _ _
theorem x_append {h : MH} {P : List Nat} {x : Int32} (L : XL h) (hP : xP h P) (hl : P.length + 4 ≤ 500) : ∃ h', f_X8_append 159 x h = some h' ∧ frm [159, 160] h h' ∧ xP h' (P ++ bts x) ∧ ∀ k, k ≠ 1 → gI h' 159 k = gI h 159 k := by
  have key : Ev (f_X8_append 159 x h) (fun h' => frm [159, 160] h h' ∧ xP h' (P ++ bts x) ∧ ∀ k, k ≠ 1 → gI h' 159 k = gI h 159 k) := by
    unfold f_X8_append f_X8_append_3
    refine Ev_FU (fun m p h1 => ∃ i, i + m = 4 ∧ p = pw i ∧ frm [159, 160] h h1 ∧ xP h1 (P ++ (bts x).take i) ∧ ∀ k, k ≠ 1 → gI h1 159 k = gI h 159 k) 4 24 h (by omega) ⟨0, by omega, rfl, frm.rf, by rw [List.take_zero, List.append_nil]; exact hP, fun k hk => rfl⟩ ?_
    rintro m p h1 rec ⟨i, hi, rfl, f, hP1, e1⟩ ih
    have L1 : XL h1 := L.fr f (by decide)
    unfold f_X8_append_3b
    by_cases q : i < 4
    · have hlen : (P ++ (bts x).take i).length = P.length + i := by
        rw [List.length_append, List.length_take]; show P.length + min i 4 = _; omega
      have e2 : gI h1 159 1 = nI (P.length + i) := by rw [hP1.1, hlen]
      have e3 : gI (sI h1 160 (P.length + i) ((ush x (pw i)).toInt8.toInt32).toInt8.toInt32) 159 1 = nI (P.length + i) := by rw [gI_sI_ne (by decide)]; exact e2
      rw [if_neg (pw_lt i q), e2, if_pos (show nI (P.length + i) < 500 from (nI_ltI (by omega) (by decide)).mpr (show P.length + i < 500 by omega)), L1.y159, Option.bind_some, stB_ok (by rw [L1.z160]; omega) (by omega), Option.bind_some, lt_def, e3, nI_1, pw_next i q]
      refine ih (m - 1) _ _ (by omega) ⟨i + 1, by omega, rfl, frm.sI (by simp) (f.sI (by simp)), ?_, fun k hk => ?_⟩
      · rw [bts_take q, ← List.append_assoc]
        refine ⟨?_, fun j hj => ?_⟩
        · rw [gI_s, List.length_append, hlen]; rfl
        · rw [List.length_append, hlen] at hj
          have hj : j < P.length + i + 1 := hj
          rw [gI_sI_ne (by decide), getD_app, hlen, gI_sI]
          by_cases q2 : j = P.length + i
          · rw [if_pos ⟨rfl, q2⟩, if_neg (by omega), if_pos q2, pw_nI i q]
            exact byN_8 (by omega)
          · rw [if_neg (fun z => q2 z.2), if_pos (by omega)]
            exact hP1.2 j (by rw [hlen]; omega)
      · rw [gI_sI_nk hk, gI_sI_ne (by decide)]; exact e1 k hk
    · have : i = 4 := by omega
      subst this
      rw [if_pos (show pw 4 < 0 by decide)]
      exact Ev_some ⟨f, hP1, e1⟩
  obtain ⟨h', e, g⟩ := key
  exact ⟨h', e, g⟩
theorem m_types {h : MH} {P : List Nat} {x : Int32} (L : ML h) (hP : mP h P) (hl : P.length + 4 ≤ 500) : ∃ h', f_X11_types 0 x h = some h' ∧ frm [0, 20] h h' ∧ mP h' (P ++ bts x) ∧ ∀ k, k ≠ 37 → gI h' 0 k = gI h 0 k := by
  have key : Ev (f_X11_types 0 x h) (fun h' => frm [0, 20] h h' ∧ mP h' (P ++ bts x) ∧ ∀ k, k ≠ 37 → gI h' 0 k = gI h 0 k) := by
    unfold f_X11_types f_X11_types_3
    refine Ev_FU (fun m p h1 => ∃ i, i + m = 4 ∧ p = pw i ∧ frm [0, 20] h h1 ∧ mP h1 (P ++ (bts x).take i) ∧ ∀ k, k ≠ 37 → gI h1 0 k = gI h 0 k) 4 24 h (by omega) ⟨0, by omega, rfl, frm.rf, by rw [List.take_zero, List.append_nil]; exact hP, fun k hk => rfl⟩ ?_
    rintro m p h1 rec ⟨i, hi, rfl, f, hP1, e1⟩ ih
    have L1 : ML h1 := L.fr f
    unfold f_X11_types_3b
    by_cases q : i < 4
    · have hlen : (P ++ (bts x).take i).length = P.length + i := by
        rw [List.length_append, List.length_take]; show P.length + min i 4 = _; omega
      have e2 : gI h1 0 37 = nI (P.length + i) := by rw [hP1.1, hlen]
      have e3 : gI (sI h1 20 (P.length + i) (nI (byN x (pw i)))) 0 37 = nI (P.length + i) := by rw [gI_sI_ne (by decide)]; exact e2
      rw [if_neg (pw_lt i q), L1.r36, Option.bind_some, byN_eq, e2, stI_ok (by rw [L1.n20]; omega) (by omega), Option.bind_some, lt_def, e3, nI_1, pw_next i q]
      refine ih (m - 1) _ _ (by omega) ⟨i + 1, by omega, rfl, frm.sI (by simp) (f.sI (by simp)), ?_, fun k hk => ?_⟩
      · rw [bts_take q, ← List.append_assoc]
        refine ⟨?_, lrep.push (g := gI h1 20) (fun j hj => ?_) ?_ hP1.2⟩
        · rw [gI_s, List.length_append, hlen]; rfl
        · rw [hlen] at hj
          rw [gI_sI_ne (by decide), gI_sI_nk (by omega)]
        · rw [gI_sI_ne (by decide), hlen, Nat.zero_add, gI_s]
      · rw [gI_sI_nk hk, gI_sI_ne (by decide)]; exact e1 k hk
    · have : i = 4 := by omega
      subst this
      rw [if_pos (show pw 4 < 0 by decide)]
      exact Ev_some ⟨f, hP1, e1⟩
  obtain ⟨h', e, g⟩ := key
  exact ⟨h', e, g⟩
theorem bts_app {P : List Nat} {x : Int32} (h : ∀ i, i < P.length → P.getD i 0 < 256) : ∀ i, i < (P ++ bts x).length → (P ++ bts x).getD i 0 < 256 := by
  intro i hi
  rw [List.length_append] at hi
  have hi : i < P.length + 4 := hi
  by_cases q : i < P.length
  · have := h i q
    rw [List.getD, List.getElem?_append_left q]; exact this
  · rw [List.getD, List.getElem?_append_right (by omega)]
    exact bts_lt (x := x) (i := i - P.length) (by omega)
theorem ok_feed : J_feed RR := by
  rintro x1 x2 x3 x4 x5 hx hm ⟨a, w, X, M⟩
  obtain ⟨L, S, K, D, A, I, P, F, C⟩ := XR_iff.mp X
  have M0 := M.told (v := 0)
  obtain ⟨mL, mS, mK', mD, mA', mI', mP', mF', mC'⟩ := MR_iff.mp M0
  have hw5 := w.2.2.2.2.2.1
  have hl5 := hw5.1
  have e20 : gI hx 159 1 + 20 = nI ((aP a).length + 20) := by rw [P.1]; exact nI_add _ 20
  by_cases c : 480 < (aP a).length
  · refine ⟨-1, hx, sI hm 0 0 0, ?_, ?_, a, w, X, M0⟩
    · unfold f_X10_feed
      rw [L.r8, Option.bind_some, e20, if_pos (show 500 < nI ((aP a).length + 20) from (nI_ltI (a := 500) (by decide) (by omega)).mpr (by omega))]
    · unfold f_X11_feed
      rw [lt_def, mP'.1, if_pos (show 480 < nI (aP a).length from (nI_ltI (a := 480) (by decide) (by omega)).mpr c)]
  · have ln : ∀ (Q : List Nat) (x : Int32), (Q ++ bts x).length = Q.length + 4 := fun Q x => by rw [List.length_append]; rfl
    obtain ⟨h1, e1, f1, p1, k1⟩ := x_append (x := x1) L P (by omega)
    obtain ⟨h2, e2, f2, p2, k2⟩ := x_append (x := x2) (L.fr f1 (by decide)) p1 (by rw [ln]; omega)
    have g2 := frm.tr f1 f2
    obtain ⟨h3, e3, f3, p3, k3⟩ := x_append (x := x3) (L.fr g2 (by decide)) p2 (by rw [ln, ln]; omega)
    have g3 := frm.tr g2 f3
    obtain ⟨h4, e4, f4, p4, k4⟩ := x_append (x := x4) (L.fr g3 (by decide)) p3 (by rw [ln, ln, ln]; omega)
    have g4 := frm.tr g3 f4
    obtain ⟨h5, e5, f5, p5, k5⟩ := x_append (x := x5) (L.fr g4 (by decide)) p4 (by rw [ln, ln, ln, ln]; omega)
    have g5 := frm.tr g4 f5
    obtain ⟨m1, d1, u1, q1, j1⟩ := m_types (x := x1) mL mP' (by omega)
    obtain ⟨m2, d2, u2, q2, j2⟩ := m_types (x := x2) (mL.fr u1) q1 (by rw [ln]; omega)
    have v2 := frm.tr u1 u2
    obtain ⟨m3, d3, u3, q3, j3⟩ := m_types (x := x3) (mL.fr v2) q2 (by rw [ln, ln]; omega)
    have v3 := frm.tr v2 u3
    obtain ⟨m4, d4, u4, q4, j4⟩ := m_types (x := x4) (mL.fr v3) q3 (by rw [ln, ln, ln]; omega)
    have v4 := frm.tr v3 u4
    obtain ⟨m5, d5, u5, q5, j5⟩ := m_types (x := x5) (mL.fr v4) q4 (by rw [ln, ln, ln, ln]; omega)
    have v5 := frm.tr v4 u5
    have y : ∀ k, k ≠ 37 → gI m5 0 k = gI (sI hm 0 0 0) 0 k := fun k hk => by rw [j5 k hk, j4 k hk, j3 k hk, j2 k hk, j1 k hk]
    have z : ∀ k, k ≠ 1 → gI h5 159 k = gI hx 159 k := fun k hk => by rw [k5 k hk, k4 k hk, k3 k hk, k2 k hk, k1 k hk]
    refine ⟨nI (aP a ++ bts x1 ++ bts x2 ++ bts x3 ++ bts x4 ++ bts x5).length, h5, m5, ?_, ?_, setT a (aP a ++ bts x1 ++ bts x2 ++ bts x3 ++ bts x4 ++ bts x5) (aF a) (aG a), w.tap ⟨by rw [ln, ln, ln, ln, ln]; omega, bts_app (bts_app (bts_app (bts_app (bts_app hw5.2))))⟩ w.2.2.2.2.2.2.1 w.2.2.2.2.2.2.2, X.tap g5 (by simp) p5 ⟨(z 3 (by decide)).trans F.1, (z 4 (by decide)).trans F.2⟩, MR.tap (h := sI hm 0 0 0) (mL.fr v5) (fun k hk => y k (mem5 hk).2.1) (fun b hb => v5.1 b (by have := memb hb; simp; omega)) (v5.2.1 5 (by simp)) q5 ⟨(y 38 (by decide)).trans mF'.1, (y 39 (by decide)).trans mF'.2⟩ M0⟩
    · unfold f_X10_feed
      rw [L.r8, Option.bind_some, e20, if_neg (show ¬ 500 < nI ((aP a).length + 20) from fun z => by have := (nI_ltI (a := 500) (by decide) (by omega)).mp z; omega), Option.bind_some, e1, Option.bind_some, f1.2.2.1, L.r8, Option.bind_some, e2, Option.bind_some, g2.2.2.1, L.r8, Option.bind_some, e3, Option.bind_some, g3.2.2.1, L.r8, Option.bind_some, e4, Option.bind_some, g4.2.2.1, L.r8, Option.bind_some, e5, Option.bind_some, g5.2.2.1, L.r8, Option.bind_some, p5.1]
    · unfold f_X11_feed
      rw [lt_def, mP'.1, if_neg (show ¬ 480 < nI (aP a).length from fun z => c ((nI_ltI (a := 480) (by decide) (by omega)).mp z)), d1, Option.bind_some, d2, Option.bind_some, d3, Option.bind_some, d4, Option.bind_some, d5, Option.bind_some, q5.1]
