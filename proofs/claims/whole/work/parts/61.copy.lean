/-! ===== copies of states; fills ===== -/
theorem x_fill {h : MH} {a n : Nat} {x : Int32} (e : gN h a = n) (hn : n < 4000) : ∃ h', f_J7_fill_53178 a x h = some h' ∧ frm [a] h h' ∧ ∀ j, j < n → gI h' a j = x := by
  have key : Ev (f_J7_fill_53178 a x h) (fun h' => frm [a] h h' ∧ ∀ j, j < n → gI h' a j = x) := by
    unfold f_J7_fill_53178
    rw [lt_def, e, oN]
    unfold f_J7_fill_53178_5
    refine Ev_FU (fun k p h1 => ∃ i, i + k = n ∧ p = nI i ∧ frm [a] h h1 ∧ ∀ j, j < i → gI h1 a j = x) n 0 h (by omega) ⟨0, by omega, rfl, frm.rf, fun j hj => by omega⟩ ?_
    rintro k p h1 rec ⟨i, hi, rfl, f, hj⟩ ih
    unfold f_J7_fill_53178_5b
    by_cases c : i < n
    · have hg : gN h1 a = n := by rw [f.2.2.2.1, e]
      rw [if_pos ((nI_ltI (by omega) (by omega)).mpr c), stI_ok (by rw [hg]; exact c) (by omega), Option.bind_some, nI_1]
      refine ih (k - 1) _ _ (by omega) ⟨i + 1, by omega, rfl, f.sI (by simp), fun j hj' => ?_⟩
      rw [gI_sI]
      by_cases q : j = i
      · rw [if_pos ⟨rfl, q⟩]
      · rw [if_neg (fun z => q z.2)]; exact hj j (by omega)
    · rw [if_neg (fun q => c ((nI_ltI (by omega) (by omega)).mp q))]
      exact Ev_some ⟨f, fun j hj' => hj j (by omega)⟩
  obtain ⟨h', e1, f, hj⟩ := key
  exact ⟨h', e1, f, hj⟩
theorem x_fillL {h : MH} {a n : Nat} {x : Int64} (e : gN h a = n) (hn : n < 4000) : ∃ h', f_J7_fill_d0a16 a x h = some h' ∧ frm [a] h h' ∧ ∀ j, j < n → gL h' a j = x := by
  have key : Ev (f_J7_fill_d0a16 a x h) (fun h' => frm [a] h h' ∧ ∀ j, j < n → gL h' a j = x) := by
    unfold f_J7_fill_d0a16
    rw [lt_def, e, oN]
    unfold f_J7_fill_d0a16_6
    refine Ev_FU (fun k p h1 => ∃ i, i + k = n ∧ p = nI i ∧ frm [a] h h1 ∧ ∀ j, j < i → gL h1 a j = x) n 0 h (by omega) ⟨0, by omega, rfl, frm.rf, fun j hj => by omega⟩ ?_
    rintro k p h1 rec ⟨i, hi, rfl, f, hj⟩ ih
    unfold f_J7_fill_d0a16_6b
    by_cases c : i < n
    · have hg : gN h1 a = n := by rw [f.2.2.2.1, e]
      rw [if_pos ((nI_ltI (by omega) (by omega)).mpr c), stL_ok (by rw [hg]; exact c) (by omega), Option.bind_some, nI_1]
      refine ih (k - 1) _ _ (by omega) ⟨i + 1, by omega, rfl, f.sL (by simp), fun j hj' => ?_⟩
      rw [gL_sL]
      by_cases q : j = i
      · rw [if_pos ⟨rfl, q⟩]
      · rw [if_neg (fun z => q z.2)]; exact hj j (by omega)
    · rw [if_neg (fun q => c ((nI_ltI (by omega) (by omega)).mp q))]
      exact Ev_some ⟨f, fun j hj' => hj j (by omega)⟩
  obtain ⟨h', e1, f, hj⟩ := key
  exact ⟨h', e1, f, hj⟩
theorem x_cp {h : MH} {a b n : Nat} {x : Int32} (ex : x = nI n) (ha : n ≤ gN h a) (hb : n ≤ gN h b) (hn : n < 2 ^ 31) : ∃ h', cpI h b 0 a 0 x = some h' ∧ frm [a] h h' ∧ (∀ j, j < n → gI h' a j = gI h b j) := by
  subst ex
  have hc : (nI n).toNatClampNeg = n := nI_clamp hn
  have h0 : (0 : Int32).toNatClampNeg = 0 := rfl
  refine ⟨((fun x j => if x = a then va_cpy (gI h b) (gI h a) 0 0 n j else gI h x j), h.2), ?_, ⟨fun q hq => ?_, fun q hq => rfl, rfl, rfl, rfl⟩, fun j hj => ?_⟩
  · unfold cpI
    rw [if_neg]
    rw [h0, hc]
    rintro (q | q | q | q | q)
    · exact absurd q (by decide)
    · exact absurd q (by decide)
    · exact nI_nn hn q
    · omega
    · omega
  · funext j
    show (if q = a then _ else _) = _
    rw [if_neg (fun e => hq (by simp [e]))]
  · show (if a = a then va_cpy _ _ _ _ _ j else _) = _
    rw [if_pos rfl, pk_cpy_in (by omega) (by omega)]
    simp
theorem min_nI {a b : Nat} (h : a ≤ b) (hb : b < 2 ^ 31) : (if nI b < nI a then nI b else nI a : Int32) = nI a := by
  rw [if_neg (nI_nlt h hb)]
theorem x_rowCopy {h : MH} {a b w w' : Nat} {ls : List Nat} (A : rowAt h a w) (B : rowAt h b w') (r : rowIs h b ls) (hl : ls.length ≤ w) (hl' : ls.length ≤ w') (hw : w < 2 ^ 31) (hab : a ≠ b ∧ a + 1 ≠ b ∧ a ≠ b + 1) : ∃ h', f_X5_copyFrom a b h = some h' ∧ frm [a, a + 1] h h' ∧ rowIs h' a ls := by
  have e1 : gI (sI h a 1 (nI ls.length)) a 1 = nI ls.length := gI_s _ _ _ _
  obtain ⟨h', e2, f, hj⟩ := x_cp (h := sI h a 1 (nI ls.length)) (a := a + 1) (b := b + 1) (n := ls.length) (x := gI (sI h a 1 (nI ls.length)) a 1) e1 (by show ls.length ≤ gN h (a + 1); rw [A.2]; exact hl) (by show ls.length ≤ gN h (b + 1); rw [B.2]; exact hl') (by omega)
  refine ⟨h', ?_, frm.tr (frm.sI (by simp) frm.rf) (f.up (by simp)), ?_, fun i hi => ?_⟩
  · unfold f_X5_copyFrom
    rw [A.1, Option.bind_some, A.2, oN, r.1, min_nI hl hw, lt_def, lt_def]
    show ((gR h b 0).bind _) = _
    rw [B.1, Option.bind_some]
    show ((gR h a 0).bind _) = _
    rw [A.1, Option.bind_some, e2, Option.bind_some]
  · rw [f.1 a (by simp), e1]
  · rw [Nat.zero_add, hj i hi, gI_sI_ne (by omega)]
    have := r.2 i hi
    rw [Nat.zero_add] at this
    exact this
theorem x_rowsCopy {h : MH} {a b c w : Nat} (A : rowsAt h a c w) (B : rowsAt h b c w) (hc : c < 100) (hw : w < 100) (hab : a + 3 ≤ b ∨ b + 3 ≤ a) : ∃ h', f_X6_copyFrom a b h = some h' ∧ frm [a + 1, a + 2] h h' ∧ (∀ j, j < c → gI h' (a + 1) j = gI h (b + 1) j) ∧ (∀ j, j < c * w → gI h' (a + 2) j = gI h (b + 2) j) := by
  have hcw : c * w ≤ 100 * 100 := Nat.mul_le_mul (by omega) (by omega)
  obtain ⟨h1, e1, f1, j1⟩ := x_cp (h := h) (a := a + 1) (b := b + 1) (n := c) rfl (by rw [A.2.2.1]; omega) (by rw [B.2.2.1]; omega) (by omega)
  obtain ⟨h2, e2, f2, j2⟩ := x_cp (h := h1) (a := a + 2) (b := b + 2) (n := c * w) rfl (by rw [f1.2.2.2.1, A.2.2.2.1]; omega) (by rw [f1.2.2.2.1, B.2.2.2.1]; omega) (by omega)
  refine ⟨h2, ?_, frm.tr (f1.up (by simp)) (f2.up (by simp)), fun j hj => ?_, fun j hj => ?_⟩
  · unfold f_X6_copyFrom
    rw [B.1, Option.bind_some, A.1, Option.bind_some, Option.bind_some, Option.bind_some, B.2.2.1, A.2.2.1, oN, min_nI (Nat.le_refl _) (by omega), lt_def, e1, Option.bind_some, f1.2.2.1, B.2.1, Option.bind_some, A.2.1, Option.bind_some, Option.bind_some, Option.bind_some, f1.2.2.2.1, B.2.2.2.1, A.2.2.2.1, oN, min_nI (Nat.le_refl _) (by omega), lt_def, e2, Option.bind_some]
  · rw [f2.1 (a + 1) (by simp), j1 j hj]
  · rw [j2 j hj, f1.1 (b + 2) (by simp; omega)]
def ntAds (a : Nat) : List Nat := [a, a + 1, a + 2, a + 3, a + 4, a + 6, a + 7]
theorem x_netCopy {h : MH} {a b : Nat} (A : netAt h a) (B : netAt h b) (hab : a + 8 ≤ b ∨ b + 8 ≤ a) : ∃ h', f_X2_copyFrom a b h = some h' ∧ frm (ntAds a) h h' ∧ (∀ j, j < 3 → gI h' a j = gI h b j) ∧ (∀ k, 1 ≤ k → k ≤ 3 → ∀ j, j < 30 → gI h' (a + k) j = gI h (b + k) j) ∧ (∀ k, k = 4 ∨ k = 6 → ∀ j, j < 6 → gI h' (a + k) j = gI h (b + k) j) ∧ (∀ j, j < 36 → gI h' (a + 7) j = gI h (b + 7) j) := by
  obtain ⟨a3, a4, a5, a6, a7, n1, n2, n3, n4, ar⟩ := A
  obtain ⟨b3, b4, b5, b6, b7, m1, m2, m3, m4, br⟩ := B
  have f0 : frm [a] h (sI (sI (sI h a 0 (gI h b 0)) a 1 (gI h b 1)) a 2 (gI h b 2)) := frm.sI (by simp) (frm.sI (by simp) (frm.sI (by simp) frm.rf))
  obtain ⟨h1, e1, f1, j1⟩ := x_cp (h := sI (sI (sI h a 0 (gI h b 0)) a 1 (gI h b 1)) a 2 (gI h b 2)) (a := a + 1) (b := b + 1) (n := 30) (x := 30) rfl (by show 30 ≤ gN h (a + 1); omega) (by show 30 ≤ gN h (b + 1); omega) (by decide)
  obtain ⟨h2, e2, f2, j2⟩ := x_cp (h := h1) (a := a + 2) (b := b + 2) (n := 30) (x := 30) rfl (by rw [f1.2.2.2.1]; show 30 ≤ gN h (a + 2); omega) (by rw [f1.2.2.2.1]; show 30 ≤ gN h (b + 2); omega) (by decide)
  have g2 : frm [a, a + 1, a + 2] h h2 := frm.tr (f0.up (by simp)) (frm.tr (f1.up (by simp)) (f2.up (by simp)))
  obtain ⟨h3, e3, f3, j3⟩ := x_cp (h := h2) (a := a + 3) (b := b + 3) (n := 30) (x := 30) rfl (by rw [g2.2.2.2.1]; omega) (by rw [g2.2.2.2.1]; omega) (by decide)
  have g3 : frm [a, a + 1, a + 2, a + 3] h h3 := frm.tr (g2.up (by simp)) (f3.up (by simp))
  obtain ⟨h4, e4, f4, j4⟩ := x_cp (h := h3) (a := a + 4) (b := b + 4) (n := 6) (x := 6) rfl (by rw [g3.2.2.2.1]; omega) (by rw [g3.2.2.2.1]; omega) (by decide)
  have g4 : frm [a, a + 1, a + 2, a + 3, a + 4] h h4 := frm.tr (g3.up (by simp)) (f4.up (by simp))
  obtain ⟨h5, e5, f5, j5, j6⟩ := x_rowsCopy (h := h4) (a := a + 5) (b := b + 5) (c := 6) (w := 6) (ar.fr g4 (by simp)) (br.fr g4 (by simp; omega)) (by decide) (by decide) (by omega)
  refine ⟨h5, ?_, frm.tr (g4.up (by simp [ntAds])) (f5.up (by simp [ntAds])), fun j hj => ?_, fun k k1 k3 j hj => ?_, fun k hk j hj => ?_, fun j hj => ?_⟩
  · unfold f_X2_copyFrom
    rw [lt_def, lt_def, lt_def]
    have y1 : gI (sI h a 0 (gI h b 0)) b 1 = gI h b 1 := gI_sI_ne (by omega)
    have y2 : gI (sI (sI h a 0 (gI h b 0)) a 1 (gI h b 1)) b 2 = gI h b 2 := by rw [gI_sI_ne (by omega), gI_sI_ne (by omega)]
    rw [y1, y2]
    show ((gR h b 3).bind _) = _
    rw [b3, Option.bind_some]
    show ((gR h a 3).bind _) = _
    rw [a3, Option.bind_some, e1, Option.bind_some, f1.2.2.1]
    show ((gR h b 4).bind _) = _
    rw [b4, Option.bind_some]
    show ((gR h a 4).bind _) = _
    rw [a4, Option.bind_some, e2, Option.bind_some, g2.2.2.1, b5, Option.bind_some, a5, Option.bind_some, e3, Option.bind_some, g3.2.2.1, b6, Option.bind_some, a6, Option.bind_some, e4, Option.bind_some, g4.2.2.1, a7, Option.bind_some, b7, Option.bind_some, e5, Option.bind_some]
  · rw [f5.1 a (by simp; omega), f4.1 a (by simp), f3.1 a (by simp), f2.1 a (by simp), f1.1 a (by simp)]
    rcases (show j = 0 ∨ j = 1 ∨ j = 2 by omega) with rfl | rfl | rfl
    · rw [gI_sI_nk (by decide), gI_sI_nk (by decide), gI_s]
    · rw [gI_sI_nk (by decide), gI_s]
    · rw [gI_s]
  · rcases (show k = 1 ∨ k = 2 ∨ k = 3 by omega) with rfl | rfl | rfl
    · rw [f5.1 _ (by simp), f4.1 _ (by simp), f3.1 _ (by simp), f2.1 _ (by simp), j1 j hj, f0.1 _ (by simp; omega)]
    · rw [f5.1 _ (by simp), f4.1 _ (by simp), f3.1 _ (by simp), j2 j hj, f1.1 _ (by simp; omega), f0.1 _ (by simp; omega)]
    · rw [f5.1 _ (by simp), f4.1 _ (by simp), j3 j hj, g2.1 _ (by simp; omega)]
  · rcases hk with rfl | rfl
    · rw [f5.1 _ (by simp), j4 j hj, g3.1 _ (by simp; omega)]
    · rw [show a + 6 = a + 5 + 1 by omega, j5 j hj, g4.1 _ (by simp; omega)]
  · rw [show a + 7 = a + 5 + 2 by omega, j6 j hj, g4.1 _ (by simp; omega)]
