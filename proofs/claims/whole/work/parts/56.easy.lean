/-! ===== THE WAY, THE STACK, DEPTH change; the reads ===== -/
def setW (a : AB) (W : List Nat) : AB := (((aS a).1, (aS a).2.1, (aS a).2.2.1, (aS a).2.2.2.1, W), a.2)
def setK (a : AB) (K : List Nat) : AB := (a.1, K, a.2.2)
def setD (a : AB) (d : Nat) : AB := (a.1, a.2.1, d, a.2.2.2)
theorem wfA.way {a : AB} {W : List Nat} (w : wfA a) (hW : wayOK (sN (aS a)) W) : wfA (setW a W) := ⟨⟨w.1.1, w.1.2.1, w.1.2.2.1, w.1.2.2.2.1, hW⟩, w.2⟩
theorem wfA.stk {a : AB} {K : List Nat} (w : wfA a) (hK : stkOK K) : wfA (setK a K) := ⟨w.1, hK, w.2.2⟩
theorem XS.way {h h' : MH} {a : Nat} {s : ST} {W : List Nat} (hg : ∀ k, k < 17 → gI h' (a + k) = gI h (a + k)) (hw : rowIs h' (a + 17) W) (X : XS h a s) : XS h' a (s.1, s.2.1, s.2.2.1, s.2.2.2.1, W) := by
  obtain ⟨x1, x2, x3, x4⟩ := X
  have g0 := hg 0 (by decide); have g9 := hg 9 (by decide); have g10 := hg 10 (by decide); have g12 := hg 12 (by decide); have g13 := hg 13 (by decide); have g15 := hg 15 (by decide); have g16 := hg 16 (by decide)
  rw [Nat.add_zero] at g0
  refine ⟨x1.fr (fun k hk => ?_), ?_, ?_, hw⟩
  · rw [Nat.add_assoc]; exact hg (1 + k) (by omega)
  · rw [g9, g10, g12, g13]; exact x2
  · rw [g0, g15, g16]; exact x3
theorem XR.way {h h' : MH} {a : AB} {W : List Nat} (f : frm [18, 19] h h') (hw : rowIs h' 18 W) (R : XR h a) : XR h' (setW a W) := by
  have hg : ∀ b, b ≤ 17 ∨ 20 ≤ b → gI h' b = gI h b := fun b hb => f.1 b (by simp; omega)
  obtain ⟨L, S, K, D, A, I, P, F, C⟩ := XR_iff.mp R
  exact XR_iff.mpr ⟨L.fr f (by decide), S.way (fun k hk => hg _ (by omega)) hw, K.fr (hg _ (by decide)) (hg _ (by decide)), by rw [hg 0 (by decide)]; exact D, A.fr (fun b h1 h2 => hg b (by omega)) f.2.2.1, I.fr (by rw [hg 0 (by decide)]) (by rw [hg 0 (by decide)]) (fun b h1 h2 => hg b (by omega)), P.fr (by rw [hg 159 (by decide)]) (hg _ (by decide)), F.fr (by rw [hg 159 (by decide)]) (by rw [hg 159 (by decide)]), C.fr (by rw [hg 0 (by decide)]) (hg _ (by decide)) (f.2.1 _ (by decide))⟩
theorem XR.stk {h h' : MH} {a : AB} {K' : List Nat} (f : frm [20, 21] h h') (hw : rowIs h' 20 K') (R : XR h a) : XR h' (setK a K') := by
  have hg : ∀ b, b ≤ 19 ∨ 22 ≤ b → gI h' b = gI h b := fun b hb => f.1 b (by simp; omega)
  obtain ⟨L, S, K, D, A, I, P, F, C⟩ := XR_iff.mp R
  exact XR_iff.mpr ⟨L.fr f (by decide), S.fr (fun k hk => hg _ (by omega)), hw, by rw [hg 0 (by decide)]; exact D, A.fr (fun b h1 h2 => hg b (by omega)) f.2.2.1, I.fr (by rw [hg 0 (by decide)]) (by rw [hg 0 (by decide)]) (fun b h1 h2 => hg b (by omega)), P.fr (by rw [hg 159 (by decide)]) (hg _ (by decide)), F.fr (by rw [hg 159 (by decide)]) (by rw [hg 159 (by decide)]), C.fr (by rw [hg 0 (by decide)]) (hg _ (by decide)) (f.2.1 _ (by decide))⟩
theorem XR.dep {h : MH} {a : AB} {d : Nat} (R : XR h a) : XR (sI h 0 2 (nI d)) (setD a d) := by
  have f : frm [0] h (sI h 0 2 (nI d)) := frm.sI (by decide) frm.rf
  have hg : ∀ b, b ≠ 0 → gI (sI h 0 2 (nI d)) b = gI h b := fun b hb => gI_sI_f hb
  obtain ⟨L, S, K, D, A, I, P, F, C⟩ := XR_iff.mp R
  exact XR_iff.mpr ⟨L.fr f (by decide), S.fr (fun k hk => hg _ (by omega)), K.fr (hg _ (by decide)) (hg _ (by decide)), gI_s h 0 2 (nI d), A.fr (fun b h1 h2 => hg b (by omega)) rfl, I.fr (gI_sI_nk (by decide)) (gI_sI_nk (by decide)) (fun b h1 h2 => hg b (by omega)), P.fr (gI_sI_ne (by decide)) (hg _ (by decide)), F.fr (gI_sI_ne (by decide)) (gI_sI_ne (by decide)), C.fr (gI_sI_nk (by decide)) (hg _ (by decide)) rfl⟩
theorem MR.dep {h : MH} {a : AB} {d : Nat} (R : MR h a) : MR (sI h 0 4 (nI d)) (setD a d) := by
  have hg : ∀ b, b ≠ 0 → gI (sI h 0 4 (nI d)) b = gI h b := fun b hb => gI_sI_f hb
  obtain ⟨L, S, K, D, A, I, P, F, C⟩ := MR_iff.mp R
  exact MR_iff.mpr ⟨L, by rw [hg 1 (by decide)]; exact S, K.fr (gI_sI_nk (by decide)) (hg _ (by decide)), gI_s h 0 4 (nI d), A.fr (gI_sI_nk (by decide)) (hg _ (by decide)), I.fr (gI_sI_nk (by decide)) (hg _ (by decide)), P.fr (gI_sI_nk (by decide)) (hg _ (by decide)), F.fr (gI_sI_nk (by decide)) (gI_sI_nk (by decide)), C.fr (gI_sI_nk (by decide)) (hg _ (by decide)) rfl⟩
theorem lrep.cgi {g g' : Nat → Int32} {o : Nat} {ls : List Nat} (e : ∀ i, i < ls.length → g' (o + i) = g (o + i)) (h : lrep g o ls) : lrep g' o ls := fun i hi => (e i hi).trans (h i hi)
theorem MS.way {g g' : Nat → Int32} {s : ST} {W : List Nat} (hs : wfS s) (hg : ∀ j, j < 495 → g' j = g j) (h5 : g' 495 = nI W.length) (h6 : lrep g' 496 W) (X : MS g s) : MS g' (s.1, s.2.1, s.2.2.1, s.2.2.2.1, W) := by
  obtain ⟨⟨n1, n2, n3⟩, x2, x3, ⟨x4, x5⟩, x6⟩ := X
  have hm := hs.1.2.2.1
  refine ⟨⟨by rw [hg 0 (by decide)]; exact n1, by rw [hg 1 (by decide)]; exact n2, fun l hl => ?_⟩, fun b hb => ⟨fun e => ?_, fun q e => ?_⟩, fun d hd => ⟨fun e => ?_, fun q e => ?_⟩, ⟨by rw [hg 290 (by decide)]; exact x4, fun k hk => ?_⟩, h5, h6⟩
  · have hl' : l < nM (sN s) := hl
    rw [hg _ (by omega), hg _ (by omega), hg _ (by omega), hg _ (by omega)]; exact n3 l hl
  · rw [hg _ (by omega)]; exact (x2 b hb).1 e
  · have hq := (hs.2.1 b hb q e).2.2.1
    obtain ⟨y1, y2, y3⟩ := (x2 b hb).2 q e
    exact ⟨by rw [hg _ (by omega)]; exact y1, by rw [hg _ (by omega)]; exact y2, y3.cgi (fun i hi => hg _ (by omega))⟩
  · rw [hg _ (by omega)]; exact (x3 d hd).1 e
  · have hq := (hs.2.2.1 d hd q e).2.2.2.1
    obtain ⟨y1, y2, y3, y4⟩ := (x3 d hd).2 q e
    exact ⟨by rw [hg _ (by omega)]; exact y1, by rw [hg _ (by omega)]; exact y2, by rw [hg _ (by omega)]; exact y3, y4.cgi (fun i hi => hg _ (by omega))⟩
  · have hk' : k < (sK s).length := hk
    have h12 := hs.2.2.2.1.1
    have hq := (hs.2.2.2.1.2 k hk').1.1
    obtain ⟨y1, y2⟩ := x5 k hk'
    exact ⟨by rw [hg _ (by omega)]; exact y1, y2.cgi (fun i hi => hg _ (by show 303 + 16 * k + i < 495; have : i < ((sK s).getD k []).length := hi; omega))⟩
theorem MR.way {h h' : MH} {a : AB} {W : List Nat} (w : wfA a) (L' : ML h') (h0 : ∀ k, k ≠ 0 → gI h' 0 k = gI h 0 k) (hg : ∀ j, j < 495 → gI h' 1 j = gI h 1 j) (h5 : gI h' 1 495 = nI W.length) (h6 : lrep (gI h' 1) 496 W) (hb : ∀ b, 2 ≤ b → gI h' b = gI h b) (hl : gL h' 5 = gL h 5) (R : MR h a) : MR h' (setW a W) := by
  obtain ⟨L, S, K, D, A, I, P, F, C⟩ := MR_iff.mp R
  exact MR_iff.mpr ⟨L', S.way w.1 hg h5 h6, K.fr (h0 _ (by decide)) (hb _ (by decide)), by rw [h0 _ (by decide)]; exact D, A.fr (h0 _ (by decide)) (hb _ (by decide)), I.fr (h0 _ (by decide)) (hb _ (by decide)), P.fr (h0 _ (by decide)) (hb _ (by decide)), F.fr (h0 _ (by decide)) (h0 _ (by decide)), C.fr (h0 _ (by decide)) (hb _ (by decide)) hl⟩
theorem MR.stk {h h' : MH} {a : AB} {K' : List Nat} (L' : ML h') (h0 : ∀ k, k ≠ 0 → k ≠ 6 → gI h' 0 k = gI h 0 k) (hk : mK h' K') (hb : ∀ b, b ≠ 0 → b ≠ 3 → gI h' b = gI h b) (hl : gL h' 5 = gL h 5) (R : MR h a) : MR h' (setK a K') := by
  obtain ⟨L, S, K, D, A, I, P, F, C⟩ := MR_iff.mp R
  exact MR_iff.mpr ⟨L', by rw [hb 1 (by decide) (by decide)]; exact S, hk, by rw [h0 _ (by decide) (by decide)]; exact D, A.fr (h0 _ (by decide) (by decide)) (hb _ (by decide) (by decide)), I.fr (h0 _ (by decide) (by decide)) (hb _ (by decide) (by decide)), P.fr (h0 _ (by decide) (by decide)) (hb _ (by decide) (by decide)), F.fr (h0 _ (by decide) (by decide)) (h0 _ (by decide) (by decide)), C.fr (h0 _ (by decide) (by decide)) (hb _ (by decide) (by decide)) hl⟩
theorem ok_depth : J_depth RR := by
  rintro x1 hx hm ⟨a, w, X, M⟩
  by_cases c : 1 ≤ x1.toInt ∧ x1.toInt ≤ 12
  · obtain ⟨d, hd, rfl⟩ := ofZ (x := x1) (n := 13) (by omega) (by omega)
    rw [nI_toInt (by omega)] at c
    refine ⟨1, sI hx 0 2 (nI d), sI (sI hm 0 0 0) 0 4 (nI d), ?_, ?_, setD a d, ⟨w.1, w.2.1, ⟨by show 1 ≤ d; omega, by show d ≤ 12; omega⟩, w.2.2.2⟩, X.dep, M.told.dep⟩
    · unfold f_X10_depth
      rw [if_neg (show ¬ nI d < 1 from nI_nlt (b := 1) (by omega) (by omega)), if_neg (show ¬ (12 : Int32) < nI d from nI_nlt (a := 12) (by omega) (by omega))]
      rfl
    · unfold f_X11_depth
      show (f_X11_isIn 0 (nI d).toInt64 1 12 (sI hm 0 0 0)).bind _ = _
      rw [m_inL (l := 1) (k := 12) rfl rfl]
      show (if bI _ = 0 then _ else _) = _
      rw [if_neg (fun q => absurd (by rw [nI_toInt (by omega)]; omega) (bI_0.mp q))]
      rfl
  · refine ⟨0, hx, sI hm 0 0 0, ?_, ?_, a, w, X, M.told⟩
    · unfold f_X10_depth
      by_cases h1 : x1 < 1
      · rw [if_pos h1]
      · rw [if_neg h1, if_pos]
        rw [zlt] at h1 ⊢
        have e1 : (1 : Int32).toInt = 1 := rfl
        have e2 : (12 : Int32).toInt = 12 := rfl
        omega
    · unfold f_X11_depth
      show (f_X11_isIn 0 x1.toInt64 1 12 (sI hm 0 0 0)).bind _ = _
      rw [m_inL (l := 1) (k := 12) rfl rfl]
      show (if bI _ = 0 then _ else _) = _
      rw [if_pos (bI_0.mpr (by omega))]
theorem ok_fault : J_fault RR := by
  rintro x1 hx hm ⟨a, w, X, M⟩
  obtain ⟨L, S, K, D, A, I, P, F, C⟩ := XR_iff.mp X
  obtain ⟨mL, mS, mK', mD, mA', mI', mP', mF', mC'⟩ := MR_iff.mp (M.told (v := 0))
  by_cases c0 : x1 = 0
  · refine ⟨nI (aF a), hx, sI hm 0 0 0, ?_, ?_, a, w, X, M.told⟩
    · unfold f_X10_fault
      rw [if_pos c0, L.r8]
      show some (gI hx 159 3, hx) = _
      rw [F.1]
    · unfold f_X11_fault
      show (if x1 = 0 then _ else _) = _
      rw [if_pos c0, mF'.1]
  · by_cases c1 : x1 = 1
    · refine ⟨fpl (aG a), hx, sI hm 0 0 0, ?_, ?_, a, w, X, M.told⟩
      · unfold f_X10_fault
        rw [if_neg c0, if_pos c1, L.r8]
        show some (gI hx 159 4, hx) = _
        rw [F.2]
      · unfold f_X11_fault
        show (if x1 = 0 then _ else _) = _
        rw [if_neg c0, if_pos c1, mF'.2]
    · refine ⟨-1, hx, sI hm 0 0 0, ?_, ?_, a, w, X, M.told⟩
      · unfold f_X10_fault
        rw [if_neg c0, if_neg c1]
      · unfold f_X11_fault
        show (if x1 = 0 then _ else _) = _
        rw [if_neg c0, if_neg c1]
