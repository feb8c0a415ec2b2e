/-! ===== pop ===== -/
theorem stkOK.drop {K : List Nat} {k : Nat} (h : stkOK K) : stkOK (K.drop k) := by
  refine ⟨by rw [List.length_drop]; have := h.1; omega, fun i hi => ?_⟩
  rw [List.length_drop] at hi
  rw [getD_drop]; exact h.2 _ (by omega)
theorem x_dropFirst {h : MH} {a w k : Nat} {ls : List Nat} (A : rowAt h a w) (r : rowIs h a ls) (hl : ls.length ≤ w) (hw : w < 100) (hk : k ≤ ls.length) : ∃ h', f_X5_dropFirst a (nI k) h = some h' ∧ frm [a, a + 1] h h' ∧ rowIs h' a (ls.drop k) := by
  have hc : (nI (ls.length - k)).toNatClampNeg = ls.length - k := nI_clamp (by omega)
  have hk' : (nI k).toNatClampNeg = k := nI_clamp (by omega)
  have h0 : (0 : Int32).toNatClampNeg = 0 := rfl
  let h1 : MH := ((fun x j => if x = a + 1 then va_cpy (gI h (a + 1)) (gI h (a + 1)) k 0 (ls.length - k) j else gI h x j), h.2)
  have f1 : frm [a + 1] h h1 := ⟨fun q hq => by funext j; show (if q = a + 1 then _ else _) = _; rw [if_neg (fun e => hq (by simp [e]))], fun q hq => rfl, rfl, rfl, rfl⟩
  have e1 : cpI h (a + 1) (nI k) (a + 1) 0 (nI (ls.length - k)) = some h1 := by
    unfold cpI
    rw [if_neg]
    · rw [h0, hc, hk']
    · rw [h0, hc, hk', A.2]
      rintro (q | q | q | q | q)
      · exact nI_nn (by omega) q
      · exact absurd q (by decide)
      · exact nI_nn (by omega) q
      · omega
      · omega
  refine ⟨sI h1 a 1 (nI (ls.length - k)), ?_, frm.sI (by simp) (f1.up (by simp)), ?_, fun i hi => ?_⟩
  · unfold f_X5_dropFirst
    rw [r.1, pk_sub hk, lt_def, if_neg (nI_nn (by omega)), if_neg (nI_nn (by omega)), A.1, Option.bind_some, Option.bind_some, e1, Option.bind_some, lt_def]
  · rw [gI_s, List.length_drop]
  · rw [List.length_drop] at hi
    rw [gI_sI_ne (by omega), getD_drop, Nat.zero_add]
    show (if a + 1 = a + 1 then va_cpy _ _ _ _ _ i else _) = _
    rw [if_pos rfl, pk_cpy_in (by omega) (by omega), Nat.sub_zero]
    have := r.2 (k + i) (by omega)
    rw [Nat.zero_add] at this
    exact this
theorem m_pop24 {h : MH} {K : List Nat} {k : Nat} (L : ML h) (r : mK h K) (hl : K.length ≤ 12) (hk : k ≤ K.length) : ∃ h1, f_X11_pop_24 0 (nI k) FU (nI k) h = some (nI (K.length - k), sI h1 0 6 (nI (K.length - k))) ∧ frm [3] h h1 ∧ lrep (gI h1 3) 0 (K.drop k) := by
  have key : Ev (f_X11_pop_24 0 (nI k) FU (nI k) h) (fun q => ∃ h1, q = (nI (K.length - k), sI h1 0 6 (nI (K.length - k))) ∧ frm [3] h h1 ∧ lrep (gI h1 3) 0 (K.drop k)) := by
    unfold f_X11_pop_24
    refine Ev_FU (fun m p h1 => ∃ i, k + i + m = K.length ∧ p = nI (k + i) ∧ frm [3] h h1 ∧ (∀ j, j < i → gI h1 3 j = gI h 3 (k + j)) ∧ ∀ j, i ≤ j → gI h1 3 j = gI h 3 j) (K.length - k) (nI k) h (by omega) ⟨0, by omega, rfl, frm.rf, fun j hj => by omega, fun j hj => rfl⟩ ?_
    rintro m p h1 rec ⟨i, hi, rfl, f, e1, e2⟩ ih
    have L1 := L.fr f
    have r1 : gI h1 0 6 = nI K.length := by rw [f.1 0 (by simp)]; exact r.1
    unfold f_X11_pop_24b
    rw [r1]
    by_cases q : k + i < K.length
    · rw [if_pos (nI_lt q (by omega)), L1.r5, Option.bind_some, Option.bind_some, ldI_ok (by rw [L1.n3]; omega) (by omega), Option.bind_some, pk_sub (by omega), show k + i - k = i by omega, stI_ok (by rw [L1.n3]; omega) (by omega), Option.bind_some, nI_1, e2 _ (by omega)]
      refine ih (m - 1) _ _ (by omega) ⟨i + 1, by omega, rfl, f.sI (by simp), fun j hj => ?_, fun j hj => ?_⟩
      · rw [gI_sI]
        by_cases q' : j = i
        · rw [if_pos ⟨rfl, q'⟩, q']
        · rw [if_neg (fun z => q' z.2)]; exact e1 j (by omega)
      · rw [gI_sI_nk (by omega)]; exact e2 j (by omega)
    · rw [if_neg (fun z => q ((nI_ltI (by omega) (by omega)).mp z)), pk_sub hk, lt_def, gI_s]
      refine Ev_some ⟨h1, rfl, f, fun j hj => ?_⟩
      rw [List.length_drop] at hj
      rw [Nat.zero_add, e1 j (by omega), getD_drop]
      have := r.2 (k + j) (by omega)
      rw [Nat.zero_add] at this; exact this
  obtain ⟨q, e, h1, rfl, g⟩ := key
  exact ⟨h1, e, g⟩
theorem ok_pop : J_pop RR := by
  rintro x1 hx hm ⟨a, w, X, M⟩
  obtain ⟨L, S, K, D, A, I, P, F, C⟩ := XR_iff.mp X
  have M0 := M.told (v := 0)
  obtain ⟨mL, mS, mK', mD, mA', mI', mP', mF', mC'⟩ := MR_iff.mp M0
  have h12 := w.2.1.1
  by_cases c : 0 ≤ x1.toInt ∧ x1.toInt ≤ (aK a).length
  · obtain ⟨k, hk, rfl⟩ := ofZ (x := x1) (n := (aK a).length + 1) (by omega) (by omega)
    have c' := c
    rw [nI_toInt (by omega)] at c'
    obtain ⟨hx1, ex, fx, rx⟩ := x_dropFirst (k := k) L.stk K h12 (by decide) (by omega)
    obtain ⟨hm1, em, fm, lm⟩ := m_pop24 (k := k) mL mK' h12 (by omega)
    refine ⟨nI ((aK a).length - k), hx1, sI hm1 0 6 (nI ((aK a).length - k)), ?_, ?_, setK a ((aK a).drop k), w.stk w.2.1.drop, X.stk fx rx, MR.stk (h := sI hm 0 0 0) ((mL.fr fm).fr (frm.sI (X := [0]) (by simp) frm.rf)) (fun j j0 j6 => ?_) ⟨?_, ?_⟩ (fun b b0 b3 => ?_) ?_ M0⟩
    · unfold f_X10_pop
      rw [if_neg (nI_nn (by omega)), L.r1, Option.bind_some, K.1, if_neg (nI_nlt (by omega) (by omega)), Option.bind_some, ex, Option.bind_some, fx.2.2.1, L.r1, Option.bind_some, rx.1, List.length_drop]
    · unfold f_X11_pop
      rw [lt_def, mK'.1, m_inT (by omega), Option.bind_some, if_neg (fun q => bI_0.mp q c)]
      exact em
    · rw [gI_sI_nk j6, fm.1 0 (by simp)]
    · rw [gI_s, List.length_drop]
    · rw [gI_sI_f (by decide)]; exact lm
    · rw [gI_sI_f b0, fm.1 b (by simp; exact b3)]
    · exact fm.2.1 5 (by simp)
  · refine ⟨-1, hx, sI hm 0 0 0, ?_, ?_, a, w, X, M0⟩
    · unfold f_X10_pop
      by_cases h1 : x1 < 0
      · rw [if_pos h1]
      · have := ge0 h1
        rw [if_neg h1, L.r1, Option.bind_some, K.1, if_pos]
        rw [zlt, nI_toInt (by omega)]; omega
    · unfold f_X11_pop
      rw [lt_def, mK'.1, m_inT (by omega), Option.bind_some, if_pos (bI_0.mpr c)]
