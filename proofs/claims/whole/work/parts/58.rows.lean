/-! ===== Row; off, end, label, at ===== -/
theorem oN (n : Nat) : Int32.ofNat n = nI n := rfl
theorem lt_def {α β : Type} (e : α) (k : α → β) : lt e k = k e := rfl
theorem getD_app {α : Type} {l : List α} {y d : α} {i : Nat} : (l ++ [y]).getD i d = if i < l.length then l.getD i d else if i = l.length then y else d := by
  by_cases h1 : i < l.length
  · rw [if_pos h1, List.getD_eq_getElem?_getD, List.getElem?_append_left h1, ← List.getD_eq_getElem?_getD]
  · rw [if_neg h1]
    by_cases h2 : i = l.length
    · subst h2; simp [List.getD_eq_getElem?_getD]
    · rw [if_neg h2, List.getD_eq_getElem?_getD, List.getElem?_eq_none (by simp; omega)]; rfl
theorem lrep.push {g g' : Nat → Int32} {o : Nat} {ls : List Nat} {y : Nat} (hg : ∀ i, i < ls.length → g' (o + i) = g (o + i)) (hy : g' (o + ls.length) = nI y) (h : lrep g o ls) : lrep g' o (ls ++ [y]) := by
  intro i hi
  rw [List.length_append] at hi
  rw [getD_app]
  by_cases h1 : i < ls.length
  · rw [if_pos h1, hg i h1]; exact h i h1
  · have : i = ls.length := by simp at hi; omega
    subst this
    rw [if_neg h1, if_pos rfl]; exact hy
theorem lrep.take {g : Nat → Int32} {o n : Nat} {ls : List Nat} (h : lrep g o ls) : lrep g o (ls.take n) := by
  intro i hi
  rw [List.length_take] at hi
  rw [h i (by omega), List.getD_eq_getElem?_getD, List.getD_eq_getElem?_getD, List.getElem?_take_of_lt (by omega)]
theorem getD_take {l : List Nat} {n i : Nat} (h : i < n) : (l.take n).getD i 0 = l.getD i 0 := by
  rw [List.getD_eq_getElem?_getD, List.getD_eq_getElem?_getD, List.getElem?_take_of_lt h]
theorem getD_drop {l : List Nat} {n i : Nat} : (l.drop n).getD i 0 = l.getD (n + i) 0 := by
  rw [List.getD_eq_getElem?_getD, List.getD_eq_getElem?_getD, List.getElem?_drop]
section XRow
variable {h : MH} {a w : Nat} {ls : List Nat}
theorem x_get (A : rowAt h a w) (r : rowIs h a ls) (hl : ls.length ≤ w) (hw : w < 2 ^ 31) {x : Int32} : f_X5_get a x h = some (if 0 ≤ x.toInt ∧ x.toInt < ls.length then nI (ls.getD x.toInt.toNat 0) else -1, h) := by
  unfold f_X5_get
  by_cases c : 0 ≤ x.toInt ∧ x.toInt < ls.length
  · obtain ⟨i, hi, rfl⟩ := ofZ c.1 c.2
    rw [if_pos c, if_neg (nI_nn (by omega)), r.1, if_pos ((nI_ltI (by omega) (by omega)).mpr hi), A.1]
    show (ldI h (a + 1) (nI i)).bind _ = _
    rw [ldI_ok (by rw [A.2]; omega) (by omega)]
    have := r.2 i hi
    rw [Nat.zero_add] at this
    rw [nI_toInt (by omega), this]
    rfl
  · rw [if_neg c]
    by_cases h1 : x < 0
    · rw [if_pos h1]
    · rw [if_neg h1, r.1, if_neg]
      rw [zlt, nI_toInt (by omega)]
      rw [zlt, Z0] at h1
      omega
theorem x_isFull (A : rowAt h a w) (r : rowIs h a ls) (hl : ls.length ≤ w) (hw : w < 2 ^ 31) : f_X5_isFull a h = some (bI (ls.length = w), h) := by
  unfold f_X5_isFull bI
  rw [A.1]
  show (if gI h a 1 < Int32.ofNat (gN h (a + 1)) then _ else _) = _
  rw [A.2, r.1, oN]
  by_cases c : ls.length = w
  · rw [if_pos c, if_neg (show ¬ nI ls.length < nI w from nI_nlt (by omega) (by omega))]
  · rw [if_neg c, if_pos (show nI ls.length < nI w from nI_lt (by omega) (by omega))]
theorem x_add (A : rowAt h a w) (r : rowIs h a ls) (hl : ls.length < w) (hw : w < 2 ^ 31) {y : Nat} : ∃ h', f_X5_add a (nI y) h = some h' ∧ frm [a, a + 1] h h' ∧ rowIs h' a (ls ++ [y]) := by
  refine ⟨sI (sI h (a + 1) ls.length (nI y)) a 1 (nI (ls.length + 1)), ?_, frm.sI (by simp) (frm.sI (by simp) frm.rf), ?_, ?_⟩
  · unfold f_X5_add
    rw [A.1]
    show (if gI h a 1 < Int32.ofNat (gN h (a + 1)) then (stI h (a + 1) (gI h a 1) (nI y)).bind _ else _) = _
    rw [A.2, r.1, oN, if_pos (show nI ls.length < nI w from nI_lt hl (by omega)), stI_ok (by rw [A.2]; exact hl) (by omega)]
    show some (sI (sI h (a + 1) ls.length (nI y)) a 1 (gI (sI h (a + 1) ls.length (nI y)) a 1 + 1)) = _
    rw [gI_sI_ne (by omega), r.1, nI_1]
  · rw [gI_s, List.length_append]; rfl
  · refine lrep.push (g := gI h (a + 1)) (fun i hi => ?_) ?_ r.2
    · rw [gI_sI_ne (by omega), gI_sI_nk (by omega)]
    · rw [gI_sI_ne (by omega), Nat.zero_add, gI_s]
end XRow
theorem x_isLabel {h : MH} {x : Int32} : f_X10_isLabel x h = some (bI ((0 ≤ x.toInt ∧ x.toInt < 10) ∨ (100 ≤ x.toInt ∧ x.toInt < 130) ∨ (200 ≤ x.toInt ∧ x.toInt < 206)), h) := by
  have e0 : (0 : Int32).toInt = 0 := rfl
  have e1 : (10 : Int32).toInt = 10 := rfl
  have e2 : (100 : Int32).toInt = 100 := rfl
  have e3 : (130 : Int32).toInt = 130 := rfl
  have e4 : (200 : Int32).toInt = 200 := rfl
  have e5 : (206 : Int32).toInt = 206 := rfl
  unfold f_X10_isLabel f_X10_isLabel_10 f_X10_isLabel_23 f_X10_isLabel_37 bI
  simp only [zlt, e0, e1, e2, e3, e4, e5]
  repeat' split
  all_goals first | rfl | (exfalso; omega)
theorem m_isLabel {h : MH} {x : Int32} : f_X11_isLabel 0 x h = some (bI ((0 ≤ x.toInt ∧ x.toInt < 10) ∨ (100 ≤ x.toInt ∧ x.toInt < 130) ∨ (200 ≤ x.toInt ∧ x.toInt < 206)), h) := by
  unfold f_X11_isLabel f_X11_isLabel_43
  rw [m_inL (l := 0) (k := 9) rfl rfl, Option.bind_some, m_inL (l := 100) (k := 129) rfl rfl, Option.bind_some, m_inL (l := 200) (k := 205) rfl rfl, Option.bind_some]
  simp only [bI_0]
  unfold bI
  repeat' split
  all_goals first | rfl | (exfalso; omega)
theorem ok_at : J_at RR := by
  rintro x1 x2 hx hm ⟨a, w, X, M⟩
  obtain ⟨L, S, K, D, A, I, P, F, C⟩ := XR_iff.mp X
  obtain ⟨mL, mS, mK', mD, mA', mI', mP', mF', mC'⟩ := MR_iff.mp (M.told (v := 0))
  have hw16 := w.1.2.2.2.2.1
  have hk12 := w.2.1.1
  by_cases c0 : x2 = 0
  · refine ⟨if 0 ≤ x1.toInt ∧ x1.toInt < (sW (aS a)).length then nI ((sW (aS a)).getD x1.toInt.toNat 0) else -1, hx, sI hm 0 0 0, ?_, ?_, a, w, X, M.told⟩
    · unfold f_X10_at
      rw [if_pos c0, L.r0, Option.bind_some, L.s6, Option.bind_some, x_get L.way S.2.2.2 hw16 (by decide), Option.bind_some]
    · unfold f_X11_at
      rw [lt_def, if_pos c0, m_wayLong mL mS.2.2.2.2.1, Option.bind_some, m_inN (by omega), Option.bind_some]
      by_cases c : 0 ≤ x1.toInt ∧ x1.toInt < (sW (aS a)).length
      · obtain ⟨i, hi, rfl⟩ := ofZ c.1 c.2
        rw [if_neg (fun q => bI_0.mp q c), if_pos c, m_wayLink mL (by omega), Option.bind_some, mS.2.2.2.2.2 i hi, nI_toInt (by omega)]
        rfl
      · rw [if_pos (bI_0.mpr c), if_neg c]
  · by_cases c1 : x2 = 1
    · refine ⟨if 0 ≤ x1.toInt ∧ x1.toInt < (aK a).length then nI ((aK a).getD x1.toInt.toNat 0) else -1, hx, sI hm 0 0 0, ?_, ?_, a, w, X, M.told⟩
      · unfold f_X10_at
        rw [if_neg c0, if_pos c1, L.r1, Option.bind_some, x_get L.stk K hk12 (by decide), Option.bind_some]
      · unfold f_X11_at
        rw [lt_def, if_neg c0, if_pos c1, mK'.1, m_inN (by omega), Option.bind_some]
        by_cases c : 0 ≤ x1.toInt ∧ x1.toInt < (aK a).length
        · obtain ⟨i, hi, rfl⟩ := ofZ c.1 c.2
          rw [if_neg (fun q => bI_0.mp q c), if_pos c, mL.r5, Option.bind_some, ldI_ok (by rw [mL.n3]; omega) (by omega), Option.bind_some, nI_toInt (by omega)]
          have := mK'.2 i hi
          rw [Nat.zero_add] at this
          rw [this]
          rfl
        · rw [if_pos (bI_0.mpr c), if_neg c]
    · refine ⟨-1, hx, sI hm 0 0 0, ?_, ?_, a, w, X, M.told⟩
      · unfold f_X10_at
        rw [if_neg c0, if_neg c1]
      · unfold f_X11_at
        rw [lt_def, if_neg c0, if_neg c1]
theorem ok_label : J_label RR := by
  rintro x1 hx hm ⟨a, w, X, M⟩
  obtain ⟨L, S, K, D, A, I, P, F, C⟩ := XR_iff.mp X
  obtain ⟨mL, mS, mK', mD, mA', mI', mP', mF', mC'⟩ := MR_iff.mp (M.told (v := 0))
  have hk12 := w.2.1.1
  by_cases c : (0 ≤ x1.toInt ∧ x1.toInt < 10) ∨ (100 ≤ x1.toInt ∧ x1.toInt < 130) ∨ (200 ≤ x1.toInt ∧ x1.toInt < 206)
  · by_cases cf : (aK a).length = 12
    · refine ⟨-1, hx, sI hm 0 0 0, ?_, ?_, a, w, X, M.told⟩
      · unfold f_X10_label
        rw [x_isLabel, Option.bind_some, if_neg (fun q => bI_0.mp q c), L.r1, Option.bind_some, x_isFull L.stk K hk12 (by decide), Option.bind_some, if_neg (fun q => bI_0.mp q cf)]
      · unfold f_X11_label
        rw [lt_def, m_isLabel, Option.bind_some, if_neg (fun q => bI_0.mp q c), mK'.1, if_pos (by rw [cf]; rfl)]
    · obtain ⟨y, hy, rfl⟩ := ofZ (x := x1) (n := 206) (by omega) (by omega)
      rw [nI_toInt (by omega)] at c
      obtain ⟨h', e1, f1, r1⟩ := x_add L.stk K (y := y) (by omega) (by decide)
      refine ⟨nI ((aK a).length + 1), h', sI (sI (sI hm 0 0 0) 3 (aK a).length (nI y)) 0 6 (nI ((aK a).length + 1)), ?_, ?_, setK a (aK a ++ [y]), w.stk ⟨by rw [List.length_append]; show _ + 1 ≤ 12; omega, fun i hi => ?_⟩, X.stk f1 r1, MR.stk (h := sI hm 0 0 0) (K' := aK a ++ [y]) mL (fun k h1 h2 => ?_) ⟨?_, ?_⟩ (fun b h1 h2 => ?_) rfl M.told⟩
      · unfold f_X10_label
        rw [x_isLabel, Option.bind_some, if_neg (fun q => bI_0.mp q (by rw [nI_toInt (by omega)]; omega)), L.r1, Option.bind_some, x_isFull L.stk K hk12 (by decide), Option.bind_some, if_pos (bI_0.mpr cf)]
        show ((gR hx 0 1).bind _) = _
        rw [L.r1, Option.bind_some, e1, Option.bind_some, f1.2.2.1, L.r1, Option.bind_some, r1.1, List.length_append]
        rfl
      · unfold f_X11_label
        rw [lt_def, m_isLabel, Option.bind_some, if_neg (fun q => bI_0.mp q (by rw [nI_toInt (by omega)]; omega)), mK'.1, if_neg (fun q => cf (by have := (nI_eq (a := (aK a).length) (b := 12) (by omega) (by decide)).mp q; exact this)), mL.r5, Option.bind_some, stI_ok (by rw [mL.n3]; omega) (by omega), Option.bind_some, lt_def]
        dsimp only
        rw [gI_sI_ne (h := sI hm 0 0 0) (a := 3) (b := 0) (j := 6) (by decide), mK'.1, nI_1, gI_s]
      · rw [getD_app]
        by_cases h1 : i < (aK a).length
        · rw [if_pos h1]; exact w.2.1.2 i h1
        · rw [if_neg h1, List.length_append] at *
          have : i = (aK a).length := by simp at hi; omega
          rw [if_pos this]
          unfold isLab; omega
      · rw [gI_sI_nk (by omega), gI_sI_ne (by decide)]
      · rw [gI_s, List.length_append]; rfl
      · refine lrep.push (g := gI (sI hm 0 0 0) 3) (fun i hi => ?_) ?_ mK'.2
        · rw [gI_sI_ne (by decide), gI_sI_nk (by omega)]
        · rw [gI_sI_ne (by decide), Nat.zero_add, gI_s]
      · rw [gI_sI_f h1, gI_sI_f h2]
  · refine ⟨-1, hx, sI hm 0 0 0, ?_, ?_, a, w, X, M.told⟩
    · unfold f_X10_label
      rw [x_isLabel, Option.bind_some, if_pos (bI_0.mpr c)]
    · unfold f_X11_label
      rw [lt_def, m_isLabel, Option.bind_some, if_pos (bI_0.mpr c)]
