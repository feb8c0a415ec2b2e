/-! ===== off, end, linkOf, binding, on ===== -/
theorem nI_inj {a b : Nat} (ha : a < 2 ^ 31) (hb : b < 2 ^ 31) (h : nI a = nI b) : a = b := (nI_eq ha hb).mp h
theorem ge0 {x : Int32} (h : ¬ x < 0) : 0 ≤ x.toInt := by rw [zlt, Z0] at h; omega
theorem wayOK.take {t : NT} {W : List Nat} {n : Nat} (h : wayOK t W) : wayOK t (W.take n) := by
  refine ⟨by rw [List.length_take]; have := h.1; omega, fun i hi => ?_, fun i hi => ?_⟩
  · rw [List.length_take] at hi
    rw [getD_take (by omega)]; exact h.2.1 i (by omega)
  · rw [List.length_take] at hi
    rw [getD_take (by omega), getD_take (by omega)]; exact h.2.2 i (by omega)
theorem ok_off : J_off RR := by
  rintro x1 hx hm ⟨a, w, X, M⟩
  obtain ⟨L, S, K, D, A, I, P, F, C⟩ := XR_iff.mp X
  obtain ⟨mL, mS, mK', mD, mA', mI', mP', mF', mC'⟩ := MR_iff.mp (M.told (v := 0))
  have hw16 := w.1.2.2.2.2.1
  have eW := S.2.2.2.1
  have mW := mS.2.2.2.2.1
  by_cases c : 0 ≤ x1.toInt ∧ x1.toInt ≤ (sW (aS a)).length
  · obtain ⟨k, hk, rfl⟩ := ofZ (x := x1) (n := (sW (aS a)).length + 1) (by omega) (by omega)
    rw [nI_toInt (by omega)] at c
    have hlen : ((sW (aS a)).take ((sW (aS a)).length - k)).length = (sW (aS a)).length - k := by rw [List.length_take]; omega
    refine ⟨nI ((sW (aS a)).length - k), sI hx 18 1 (nI ((sW (aS a)).length - k)), sI (sI hm 0 0 0) 1 495 (nI ((sW (aS a)).length - k)), ?_, ?_, setW a ((sW (aS a)).take ((sW (aS a)).length - k)), w.way w.1.2.2.2.2.take, X.way (frm.sI (by decide) frm.rf) ⟨?_, ?_⟩, MR.way (h := sI hm 0 0 0) w mL (fun j hj => ?_) (fun j hj => ?_) ?_ ?_ (fun b hb => ?_) rfl M.told⟩
    · unfold f_X10_off
      rw [if_neg (nI_nn (by omega)), L.r0, Option.bind_some, L.s6, Option.bind_some, eW, if_neg (nI_nlt (by omega) (by omega)), Option.bind_some, L.s6, Option.bind_some, eW, pk_sub (by omega), lt_def]
      show ((gR hx 0 0).bind _) = _
      rw [L.r0, Option.bind_some]
      show ((gR hx 1 6).bind _) = _
      rw [L.s6, Option.bind_some, gI_s]
    · unfold f_X11_off
      rw [lt_def, m_wayLong mL mW, Option.bind_some, m_inT (by omega), Option.bind_some, if_neg (fun q => bI_0.mp q (by rw [nI_toInt (by omega)]; omega)), mL.r1, Option.bind_some]
      dsimp only
      rw [m_wayLong mL mW, Option.bind_some, pk_sub (by omega)]
      show (stI (sI hm 0 0 0) 1 (nI 495) _).bind _ = _
      rw [stI_ok (by rw [mL.n1]; decide) (by decide), Option.bind_some, m_wayLong (h := sI (sI hm 0 0 0) 1 495 (nI ((sW (aS a)).length - k))) mL (gI_s _ _ _ _), Option.bind_some]
    · rw [gI_s, hlen]
    · exact (lrep.cgi (fun i hi => gI_sI_ne (by decide)) S.2.2.2.2).take
    · rw [gI_sI_ne (by decide)]
    · rw [gI_sI_nk (by omega)]
    · rw [gI_s, hlen]
    · exact (lrep.cgi (fun i hi => gI_sI_nk (by omega)) mS.2.2.2.2.2).take
    · rw [gI_sI_f (by omega)]
  · refine ⟨-1, hx, sI hm 0 0 0, ?_, ?_, a, w, X, M.told⟩
    · unfold f_X10_off
      by_cases h1 : x1 < 0
      · rw [if_pos h1]
      · have := ge0 h1
        rw [if_neg h1, L.r0, Option.bind_some, L.s6, Option.bind_some, eW, if_pos]
        rw [zlt, nI_toInt (by omega)]; omega
    · unfold f_X11_off
      rw [lt_def, m_wayLong mL mW, Option.bind_some, m_inT (by omega), Option.bind_some, if_pos (bI_0.mpr c)]
def setT (a : AB) (P : List Nat) (k : Nat) (p : Option Nat) : AB := (a.1, a.2.1, a.2.2.1, a.2.2.2.1, a.2.2.2.2.1, P, k, p)
theorem XR.tap {Y : List Nat} {h h' : MH} {a : AB} {P' : List Nat} {k : Nat} {p : Option Nat} (f : frm Y h h') (hY : ∀ q, q ∈ Y → 159 ≤ q ∧ q ≤ 168 ∧ q ≠ 166) (hP : xP h' P') (hF : xF h' k p) (R : XR h a) : XR h' (setT a P' k p) := by
  have hn : ∀ b, b ≤ 158 ∨ b = 166 ∨ 169 ≤ b → b ∉ Y := by
    intro b hb q
    have := hY b q
    omega
  have hg : ∀ b, b ≤ 158 ∨ b = 166 ∨ 169 ≤ b → gI h' b = gI h b := fun b hb => f.1 b (hn b hb)
  obtain ⟨L, S, K, D, A, I, P, F, C⟩ := XR_iff.mp R
  refine XR_iff.mpr ⟨L.fr f (fun q hq => hn q ?_), S.fr (fun k hk => hg _ (by omega)), K.fr (hg _ (by decide)) (hg _ (by decide)), by rw [hg 0 (by decide)]; exact D, A.fr (fun b h1 h2 => hg b (by omega)) f.2.2.1, I.fr (by rw [hg 0 (by decide)]) (by rw [hg 0 (by decide)]) (fun b h1 h2 => hg b (by omega)), hP, hF, C.fr (by rw [hg 0 (by decide)]) (hg _ (by decide)) (f.2.1 _ (hn _ (by decide)))⟩
  have : ∀ q ∈ rowsAds, q ≤ 158 ∨ q = 166 ∨ 169 ≤ q := by decide
  exact this q hq
theorem MR.tap {h h' : MH} {a : AB} {P' : List Nat} {k : Nat} {p : Option Nat} (L' : ML h') (h0 : ∀ k, k ∈ [3, 4, 6, 7, 44] → gI h' 0 k = gI h 0 k) (hb : ∀ b, b ∈ [1, 2, 3, 22, 4] → gI h' b = gI h b) (hl : gL h' 5 = gL h 5) (hP : mP h' P') (hF : mF h' k p) (R : MR h a) : MR h' (setT a P' k p) := by
  obtain ⟨L, S, K, D, A, I, P, F, C⟩ := MR_iff.mp R
  exact MR_iff.mpr ⟨L', by rw [hb 1 (by decide)]; exact S, K.fr (h0 _ (by decide)) (hb _ (by decide)), by rw [h0 _ (by decide)]; exact D, A.fr (h0 _ (by decide)) (hb _ (by decide)), I.fr (h0 _ (by decide)) (hb _ (by decide)), hP, hF, C.fr (h0 _ (by decide)) (hb _ (by decide)) hl⟩
theorem wfA.tap {a : AB} {P : List Nat} {k : Nat} {p : Option Nat} (w : wfA a) (hP : P.length ≤ 500 ∧ ∀ i, i < P.length → P.getD i 0 < 256) (hk : k ≤ 4) (hp : ∀ q, p = some q → q ≤ 500) : wfA (setT a P k p) := ⟨w.1, w.2.1, w.2.2.1, w.2.2.2.1, w.2.2.2.2.1, hP, hk, hp⟩
theorem setT_self {a : AB} {P : List Nat} : setT a P (aF a) (aG a) = (a.1, a.2.1, a.2.2.1, a.2.2.2.1, a.2.2.2.2.1, P, a.2.2.2.2.2.2) := rfl
theorem mem5 {k : Nat} (h : k ∈ [3, 4, 6, 7, 44]) : k ≠ 0 ∧ k ≠ 37 ∧ k ≠ 38 ∧ k ≠ 39 := by
  simp only [List.mem_cons, List.not_mem_nil, or_false] at h; omega
theorem memb {b : Nat} (h : b ∈ [1, 2, 3, 22, 4]) : b ≠ 0 ∧ b ≠ 20 := by
  simp only [List.mem_cons, List.not_mem_nil, or_false] at h; omega
theorem ok_end : J_end RR := by
  rintro x1 hx hm ⟨a, w, X, M⟩
  obtain ⟨L, S, K, D, A, I, P, F, C⟩ := XR_iff.mp X
  obtain ⟨mL, mS, mK', mD, mA', mI', mP', mF', mC'⟩ := MR_iff.mp (M.told (v := 0))
  have hw5 := w.2.2.2.2.2.1
  by_cases c : 0 ≤ x1.toInt ∧ x1.toInt ≤ (aP a).length
  · obtain ⟨k, hk, rfl⟩ := ofZ (x := x1) (n := (aP a).length + 1) (by omega) (by omega)
    rw [nI_toInt (by omega)] at c
    have hlen : ((aP a).take k).length = k := by rw [List.length_take]; omega
    refine ⟨1, sI hx 159 1 (nI k), sI (sI hm 0 0 0) 0 37 (nI k), ?_, ?_, setT a ((aP a).take k) (aF a) (aG a), w.tap ⟨by rw [hlen]; omega, fun i hi => ?_⟩ w.2.2.2.2.2.2.1 w.2.2.2.2.2.2.2, X.tap (Y := [159]) (frm.sI (by decide) frm.rf) (by decide) ⟨?_, fun i hi => ?_⟩ ⟨?_, ?_⟩, MR.tap (h := sI hm 0 0 0) mL (fun k hk => ?_) (fun b hb => ?_) rfl ⟨?_, ?_⟩ ⟨?_, ?_⟩ M.told⟩
    · unfold f_X10_end
      rw [if_neg (nI_nn (by omega)), L.r8, Option.bind_some, P.1, if_neg (nI_nlt (by omega) (by omega)), Option.bind_some, lt_def]
    · unfold f_X11_end
      rw [lt_def, mP'.1, m_inT (by omega), Option.bind_some, if_neg (fun q => bI_0.mp q (by rw [nI_toInt (by omega)]; omega)), lt_def]
    · rw [hlen] at hi
      rw [getD_take hi]; exact hw5.2 i (by omega)
    · rw [gI_s, hlen]
    · rw [hlen] at hi
      rw [gI_sI_ne (by decide), getD_take hi]; exact P.2 i (by omega)
    · rw [gI_sI_nk (by decide)]; exact F.1
    · rw [gI_sI_nk (by decide)]; exact F.2
    · rw [gI_sI_nk (mem5 hk).2.1]
    · rw [gI_sI_f (memb hb).1]
    · rw [gI_s, hlen]
    · exact (lrep.cgi (fun i hi => gI_sI_ne (by decide)) mP'.2).take
    · rw [gI_sI_nk (by decide)]; exact mF'.1
    · rw [gI_sI_nk (by decide)]; exact mF'.2
  · refine ⟨0, hx, sI hm 0 0 0, ?_, ?_, a, w, X, M.told⟩
    · unfold f_X10_end
      by_cases h1 : x1 < 0
      · rw [if_pos h1]
      · have := ge0 h1
        rw [if_neg h1, L.r8, Option.bind_some, P.1, if_pos]
        rw [zlt, nI_toInt (by omega)]; omega
    · unfold f_X11_end
      rw [lt_def, mP'.1, m_inT (by omega), Option.bind_some, if_pos (bI_0.mpr c)]
theorem ok_linkOf : J_linkOf RR := by
  rintro x1 x2 hx hm ⟨a, w, X, M⟩
  obtain ⟨L, S, K, D, A, I, P, F, C⟩ := XR_iff.mp X
  obtain ⟨mL, mS, mK', mD, mA', mI', mP', mF', mC'⟩ := MR_iff.mp (M.told (v := 0))
  have wN := w.1.1
  have hm30 := wN.2.2.1
  obtain ⟨xn0, xn1, xn2, xn3, xn4⟩ := S.1
  by_cases c : 0 ≤ x1.toInt ∧ x1.toInt < nM (sN (aS a))
  · obtain ⟨l, hl, rfl⟩ := ofZ c.1 c.2
    obtain ⟨y1, y2, y3⟩ := xn3 l hl
    have eh := x_hasLink (x := nI l) xn1 (by omega)
    have el := m_isLink mL mS.1 wN (x := nI l)
    by_cases c0 : x2 = 0
    · refine ⟨nI (nF (sN (aS a)) l), hx, sI hm 0 0 0, ?_, ?_, a, w, X, M.told⟩
      · unfold f_X10_linkOf
        rw [L.r0, Option.bind_some, L.s0, Option.bind_some, eh, Option.bind_some, if_neg (fun q => bI_0.mp q c), if_pos c0]
        dsimp only
        rw [L.n3, Option.bind_some, ldI_ok (by rw [L.z3]; omega) (by omega), Option.bind_some, y1]
      · unfold f_X11_linkOf
        rw [lt_def, el, Option.bind_some, if_neg (fun q => bI_0.mp q c), if_pos c0]
        dsimp only
        rw [m_from mL mS.1 wN hl, Option.bind_some]
    · by_cases c1 : x2 = 1
      · refine ⟨nI (nT (sN (aS a)) l), hx, sI hm 0 0 0, ?_, ?_, a, w, X, M.told⟩
        · unfold f_X10_linkOf
          rw [L.r0, Option.bind_some, L.s0, Option.bind_some, eh, Option.bind_some, if_neg (fun q => bI_0.mp q c), if_neg c0, if_pos c1]
          dsimp only
          rw [L.n4, Option.bind_some, ldI_ok (by rw [L.z4]; omega) (by omega), Option.bind_some, y2]
        · unfold f_X11_linkOf
          rw [lt_def, el, Option.bind_some, if_neg (fun q => bI_0.mp q c), if_neg c0, if_pos c1]
          dsimp only
          rw [m_to mL mS.1 wN hl, Option.bind_some]
      · by_cases c2 : x2 = 2
        · refine ⟨nI (nC (sN (aS a)) l), hx, sI hm 0 0 0, ?_, ?_, a, w, X, M.told⟩
          · unfold f_X10_linkOf
            rw [L.r0, Option.bind_some, L.s0, Option.bind_some, eh, Option.bind_some, if_neg (fun q => bI_0.mp q c), if_neg c0, if_neg c1, if_pos c2]
            dsimp only
            rw [L.n5, Option.bind_some, ldI_ok (by rw [L.z5]; omega) (by omega), Option.bind_some, y3]
          · unfold f_X11_linkOf
            rw [lt_def, el, Option.bind_some, if_neg (fun q => bI_0.mp q c), if_neg c0, if_neg c1, if_pos c2]
            dsimp only
            rw [m_costOf mL mS.1 wN hl, Option.bind_some]
        · by_cases c3 : x2 = 3
          · refine ⟨bI (nU (sN (aS a)) l = true), hx, sI hm 0 0 0, ?_, ?_, a, w, X, M.told⟩
            · unfold f_X10_linkOf
              rw [L.r0, Option.bind_some, L.s0, Option.bind_some, eh, Option.bind_some, if_neg (fun q => bI_0.mp q c), if_neg c0, if_neg c1, if_neg c2, if_pos c3]
              dsimp only
              rw [x_isUp xn1 xn2 hm30 hl, Option.bind_some]
              by_cases hu : nU (sN (aS a)) l = true
              · rw [if_neg (fun q => bI_0.mp q hu)]; unfold bI; rw [if_pos hu]
              · rw [if_pos (bI_0.mpr hu)]; unfold bI; rw [if_neg hu]
            · unfold f_X11_linkOf
              rw [lt_def, el, Option.bind_some, if_neg (fun q => bI_0.mp q c), if_neg c0, if_neg c1, if_neg c2, if_pos c3]
              dsimp only
              rw [m_isUp mL mS.1 wN hl, Option.bind_some]
              by_cases hu : nU (sN (aS a)) l = true
              · rw [if_neg (fun q => bI_0.mp q hu)]; unfold bI; rw [if_pos hu]
              · rw [if_pos (bI_0.mpr hu)]; unfold bI; rw [if_neg hu]
          · refine ⟨-1, hx, sI hm 0 0 0, ?_, ?_, a, w, X, M.told⟩
            · unfold f_X10_linkOf
              rw [L.r0, Option.bind_some, L.s0, Option.bind_some, eh, Option.bind_some, if_neg (fun q => bI_0.mp q c), if_neg c0, if_neg c1, if_neg c2, if_neg c3]
            · unfold f_X11_linkOf
              rw [lt_def, el, Option.bind_some, if_neg (fun q => bI_0.mp q c), if_neg c0, if_neg c1, if_neg c2, if_neg c3]
  · refine ⟨-1, hx, sI hm 0 0 0, ?_, ?_, a, w, X, M.told⟩
    · unfold f_X10_linkOf
      rw [L.r0, Option.bind_some, L.s0, Option.bind_some, x_hasLink xn1 (by omega), Option.bind_some, if_pos (bI_0.mpr c)]
    · unfold f_X11_linkOf
      rw [lt_def, m_isLink mL mS.1 wN, Option.bind_some, if_pos (bI_0.mpr c)]
