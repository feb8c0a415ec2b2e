/-! ===== unbind, bind ===== -/
section XRows2
variable {h : MH} {a c w : Nat}
theorem x_empty (A : rowsAt h a c w) (hc : c < 100) {k : Nat} (hk : k < c) : f_X6_empty a (nI k) h = some (sI h (a + 1) k 0) := by
  unfold f_X6_empty
  rw [if_neg (nI_nn (by omega)), A.1, Option.bind_some, A.2.2.1, oN, if_pos (nI_lt hk (by omega)), Option.bind_some, stI_ok (by rw [A.2.2.1]; exact hk) (by omega), Option.bind_some]
theorem x_radd (A : rowsAt h a c w) (hc : c < 100) (hw : w < 100) {k n : Nat} (hk : k < c) (hn : n < w) (e : gI h (a + 1) k = nI n) {v : Int32} : f_X6_add a (nI k) v h = some (sI (sI h (a + 2) (w * k + n) v) (a + 1) k (nI (n + 1))) := by
  have hki : k * w + w ≤ c * w := by
    have : (k + 1) * w ≤ c * w := Nat.mul_le_mul_right w hk
    rw [Nat.add_mul, Nat.one_mul] at this; exact this
  have hcw : c * w ≤ 100 * 100 := Nat.mul_le_mul (by omega) (by omega)
  have e2 : nI k * nI w + nI n = nI (k * w + n) := by rw [pk_mul, nI_add]
  have e3 : gI (sI h (a + 2) (k * w + n) v) (a + 1) k = nI n := by rw [gI_sI_ne (by omega)]; exact e
  have l1 : ldI h (a + 1) (nI k) = some (nI n) := by rw [ldI_ok (by rw [A.2.2.1]; exact hk) (by omega), e]
  have l2 : ldI (sI h (a + 2) (k * w + n) v) (a + 1) (nI k) = some (nI n) := by rw [ldI_ok (by show k < gN h (a + 1); rw [A.2.2.1]; exact hk) (by omega), e3]
  unfold f_X6_add
  rw [if_neg (nI_nn (by omega)), A.1, Option.bind_some, A.2.2.1, oN, if_pos (nI_lt hk (by omega)), Option.bind_some, l1, Option.bind_some, A.2.2.2.2, if_pos (nI_lt hn (by omega)), A.2.1, Option.bind_some, Option.bind_some, l1, Option.bind_some, e2, stI_ok (by rw [A.2.2.2.1]; omega) (by omega), Option.bind_some]
  show ((gR h a 1).bind _) = _
  rw [A.1, Option.bind_some, l2, Option.bind_some, nI_1, stI_ok (by show k < gN h (a + 1); rw [A.2.2.1]; exact hk) (by omega), Option.bind_some, Nat.mul_comm k w]
theorem x_put (A : rowsAt h a c w) (hc : c < 100) (hw : w < 100) {b w' k : Nat} (B : rowAt h b w') (hw' : w' < 100) {ls : List Nat} (r : rowIs h b ls) (hl : ls.length ≤ w) (hl' : ls.length ≤ w') (hk : k < c) (hab : b ≠ a + 1 ∧ b ≠ a + 2 ∧ b + 1 ≠ a + 1 ∧ b + 1 ≠ a + 2) : ∃ h', f_X6_put a (nI k) b h = some h' ∧ frm [a + 1, a + 2] h h' ∧ gI h' (a + 1) k = nI ls.length ∧ lrep (gI h' (a + 2)) (w * k) ls ∧ (∀ j, j ≠ k → gI h' (a + 1) j = gI h (a + 1) j) ∧ ∀ j, (j < w * k ∨ w * k + w ≤ j) → gI h' (a + 2) j = gI h (a + 2) j := by
  have key : Ev (f_X6_put_7 a (nI k) b FU 0 (sI h (a + 1) k 0)) (fun h' => frm [a + 1, a + 2] h h' ∧ gI h' (a + 1) k = nI ls.length ∧ lrep (gI h' (a + 2)) (w * k) ls ∧ (∀ j, j ≠ k → gI h' (a + 1) j = gI h (a + 1) j) ∧ ∀ j, (j < w * k ∨ w * k + w ≤ j) → gI h' (a + 2) j = gI h (a + 2) j) := by
    unfold f_X6_put_7
    refine Ev_FU (fun m p h1 => ∃ i, i + m = ls.length ∧ p = nI i ∧ frm [a + 1, a + 2] h h1 ∧ gI h1 (a + 1) k = nI i ∧ (∀ j, j < i → gI h1 (a + 2) (w * k + j) = nI (ls.getD j 0)) ∧ (∀ j, j ≠ k → gI h1 (a + 1) j = gI h (a + 1) j) ∧ ∀ j, (j < w * k ∨ w * k + w ≤ j) → gI h1 (a + 2) j = gI h (a + 2) j) ls.length 0 _ (by omega) ⟨0, by omega, rfl, frm.sI (by simp) frm.rf, gI_s _ _ _ _, fun j hj => by omega, fun j hj => gI_sI_nk hj, fun j hj => gI_sI_ne (by omega)⟩ ?_
    rintro m p h1 rec ⟨i, hi, rfl, f, e1, e2, e3, e4⟩ ih
    have A1 : rowsAt h1 a c w := A.fr f (by simp)
    have B1 : rowAt h1 b w' := B.fr f
    have r1 : rowIs h1 b ls := r.fr (f.1 _ (by simp; omega)) (f.1 _ (by simp; omega))
    unfold f_X6_put_7b
    rw [r1.1]
    by_cases q : i < ls.length
    · rw [if_pos (nI_lt q (by omega)), x_getN B1 r1 hl' (by omega) q, Option.bind_some]
      dsimp only
      rw [x_radd A1 hc hw hk (by omega) e1, Option.bind_some, nI_1]
      refine ih (m - 1) _ _ (by omega) ⟨i + 1, by omega, rfl, frm.sI (by simp) (f.sI (by simp)), gI_s _ _ _ _, fun j hj => ?_, fun j hj => ?_, fun j hj => ?_⟩
      · rw [gI_sI_ne (by omega), gI_sI]
        by_cases q' : j = i
        · rw [if_pos ⟨rfl, by omega⟩, q']
        · rw [if_neg (fun z => q' (by omega))]; exact e2 j (by omega)
      · rw [gI_sI_nk hj, gI_sI_ne (by omega)]; exact e3 j hj
      · rw [gI_sI_ne (by omega), gI_sI_nk (by omega)]; exact e4 j hj
    · have : i = ls.length := by omega
      subst this
      rw [if_neg (nI_nlt (Nat.le_refl _) (by omega))]
      exact Ev_some ⟨f, e1, e2, e3, e4⟩
  obtain ⟨h', e, g⟩ := key
  refine ⟨h', ?_, g⟩
  unfold f_X6_put
  rw [x_empty A hc hk, Option.bind_some, e]
end XRows2
def updB {α : Type} (B : Nat → Option α) (i : Nat) (v : Option α) : Nat → Option α := fun b => if b = i then v else B b
def stBd (s : ST) (B : Nat → Option (Nat × List Nat)) : ST := (s.1, B, s.2.2)
theorem XS.bnd {h h' : MH} {s : ST} {i : Nat} {v : Option (Nat × List Nat)} (w : wfS s) (hg : ∀ k, k < 19 → k ≠ 5 → k ≠ 7 → k ≠ 8 → gI h' (1 + k) = gI h (1 + k)) (g5 : ∀ b, b ≠ i → gI h' 6 b = gI h 6 b) (g7 : ∀ b, b ≠ i → gI h' 8 b = gI h 8 b) (g8 : ∀ j, j < 6 * i ∨ 6 * i + 6 ≤ j → gI h' 9 j = gI h 9 j) (hn : v = none → gI h' 6 i = -1) (hs : ∀ q, v = some q → gI h' 6 i = nI q.1 ∧ gI h' 8 i = nI q.2.length ∧ lrep (gI h' 9) (6 * i) q.2) (X : XS h 1 s) : XS h' 1 (stBd s (updB (sB s) i v)) := by
  obtain ⟨⟨n0, n1, n2, n3, n4⟩, x2, x3, x4⟩ := X
  have k0 := hg 0 (by omega) (by omega) (by omega) (by omega); have k1 := hg 1 (by omega) (by omega) (by omega) (by omega); have k2 := hg 2 (by omega) (by omega) (by omega) (by omega); have k3 := hg 3 (by omega) (by omega) (by omega) (by omega); have k4 := hg 4 (by omega) (by omega) (by omega) (by omega)
  have k9 := hg 9 (by omega) (by omega) (by omega) (by omega); have k10 := hg 10 (by omega) (by omega) (by omega) (by omega); have k12 := hg 12 (by omega) (by omega) (by omega) (by omega); have k13 := hg 13 (by omega) (by omega) (by omega) (by omega); have k15 := hg 15 (by omega) (by omega) (by omega) (by omega); have k16 := hg 16 (by omega) (by omega) (by omega) (by omega); have k17 := hg 17 (by omega) (by omega) (by omega) (by omega); have k18 := hg 18 (by omega) (by omega) (by omega) (by omega)
  refine ⟨⟨by rw [k1]; exact n0, by rw [k1]; exact n1, by rw [k1]; exact n2, fun l hl => ⟨?_, ?_, ?_⟩, fun b hb => ?_⟩, ?_, ?_, ?_⟩
  · exact (congrFun k2 l).trans (n3 l hl).1
  · exact (congrFun k3 l).trans (n3 l hl).2.1
  · exact (congrFun k4 l).trans (n3 l hl).2.2
  · show ((if b = i then v else sB s b) = none → gI h' 6 b = -1) ∧ ∀ q, (if b = i then v else sB s b) = some q → gI h' 6 b = nI q.1 ∧ gI h' 8 b = nI q.2.length ∧ lrep (gI h' 9) (6 * b) q.2
    by_cases q : b = i
    · subst q
      rw [if_pos rfl]
      exact ⟨hn, hs⟩
    · rw [if_neg q, g5 b q, g7 b q]
      refine ⟨(n4 b hb).1, fun z hz => ?_⟩
      obtain ⟨y1, y2, y3⟩ := (n4 b hb).2 z hz
      have := (w.2.1 b hb z hz).2.2.1
      exact ⟨y1, y2, y3.mv (fun j hj => g8 _ (by omega))⟩
  · rw [k9, k10, k12, k13]; exact x2
  · show gI h' (1 + 0) 4 = _ ∧ _
    rw [k0, k15, k16]; exact x3
  · rw [k17, k18]; exact x4
theorem MS.bnd {g g' : Nat → Int32} {s : ST} {i : Nat} {v : Option (Nat × List Nat)} (w : wfS s) (hi : i < 6) (hg : ∀ j, j ≠ 122 + i → j ≠ 128 + i → (j < 134 + 6 * i ∨ 140 + 6 * i ≤ j) → g' j = g j) (hn : v = none → g' (122 + i) = 0) (hs : ∀ q, v = some q → g' (122 + i) = nI (q.1 + 1) ∧ g' (128 + i) = nI q.2.length ∧ lrep g' (134 + 6 * i) q.2) (X : MS g s) : MS g' (stBd s (updB (sB s) i v)) := by
  obtain ⟨⟨n0, n1, n2⟩, x2, x3, x4, x5⟩ := X
  have hm : nM (sN s) ≤ 30 := w.1.2.2.1
  refine ⟨⟨by rw [hg _ (by omega) (by omega) (by omega)]; exact n0, by rw [hg _ (by omega) (by omega) (by omega)]; exact n1, fun l hl => ?_⟩, fun b hb => ?_, fun d hd => ⟨fun e => ?_, fun q e => ?_⟩, ⟨?_, fun k hk => ?_⟩, ?_, ?_⟩
  · have hl : l < nM (sN s) := hl
    rw [hg _ (by omega) (by omega) (by omega), hg _ (by omega) (by omega) (by omega), hg _ (by omega) (by omega) (by omega), hg _ (by omega) (by omega) (by omega)]; exact n2 l hl
  · show ((if b = i then v else sB s b) = none → g' (122 + b) = 0) ∧ ∀ q, (if b = i then v else sB s b) = some q → g' (122 + b) = nI (q.1 + 1) ∧ g' (128 + b) = nI q.2.length ∧ lrep g' (134 + 6 * b) q.2
    by_cases q : b = i
    · subst q
      rw [if_pos rfl]
      exact ⟨hn, hs⟩
    · rw [if_neg q, hg _ (by omega) (by omega) (by omega), hg _ (by omega) (by omega) (by omega)]
      refine ⟨(x2 b hb).1, fun z hz => ?_⟩
      obtain ⟨y1, y2, y3⟩ := (x2 b hb).2 z hz
      have := (w.2.1 b hb z hz).2.2.1
      exact ⟨y1, y2, y3.mv (fun j hj => hg _ (by omega) (by omega) (by omega))⟩
  · rw [hg _ (by omega) (by omega) (by omega)]; exact (x3 d hd).1 e
  · obtain ⟨y1, y2, y3, y4⟩ := (x3 d hd).2 q e
    exact ⟨by rw [hg _ (by omega) (by omega) (by omega)]; exact y1, by rw [hg _ (by omega) (by omega) (by omega)]; exact y2, by rw [hg _ (by omega) (by omega) (by omega)]; exact y3, y4.mv (fun i hi => hg _ (by omega) (by omega) (by omega))⟩
  · rw [hg _ (by omega) (by omega) (by omega)]; exact x4.1
  · obtain ⟨y1, y2⟩ := x4.2 k hk
    exact ⟨by rw [hg _ (by omega) (by omega) (by omega)]; exact y1, y2.mv (fun i hi => hg _ (by omega) (by omega) (by omega))⟩
  · rw [hg _ (by omega) (by omega) (by omega)]; exact x5.1
  · exact x5.2.mv (fun i hi => hg _ (by omega) (by omega) (by omega))
theorem wfS.bnd {s : ST} {i : Nat} {v : Option (Nat × List Nat)} (w : wfS s) (hv : ∀ q, v = some q → q.1 < nN (sN s) ∧ 1 ≤ q.2.length ∧ q.2.length ≤ 6 ∧ ∀ i, i < q.2.length → plLab (q.2.getD i 0)) : wfS (stBd s (updB (sB s) i v)) := by
  refine ⟨w.1, fun b hb q hq => ?_, w.2.2⟩
  have hq : (if b = i then v else sB s b) = some q := hq
  by_cases z : b = i
  · rw [if_pos z] at hq; exact hv q hq
  · rw [if_neg z] at hq; exact w.2.1 b hb q hq
theorem ok_unbind : J_unbind RR := by
  rintro x1 hx hm ⟨a, w, X, M⟩
  obtain ⟨L, S, K, D, A, I, P, F, C⟩ := XR_iff.mp X
  obtain ⟨mL, mS, mK', mD, mA', mI', mP', mF', mC'⟩ := MR_iff.mp (M.told (v := 0))
  have wN := w.1.1
  have hn10 := wN.2.1
  by_cases c : 0 ≤ x1.toInt ∧ x1.toInt < 6
  · obtain ⟨i, hi, rfl⟩ := ofZ (n := 6) c.1 c.2
    have e122 : 122 + nI i = nI (122 + i) := nI_add 122 i
    obtain ⟨n4, n5⟩ := S.1.2.2.2.2 i hi
    obtain ⟨m4, m5⟩ := mS.2.1 i hi
    have lx : ldI hx 6 (nI i) = some (gI hx 6 i) := ldI_ok (by rw [L.z6]; exact hi) (by omega)
    have lm := m_now mL (i := 122 + i) (by omega)
    cases eb : sB (aS a) i with
    | none =>
      have n4 : gI hx 6 i = -1 := n4 eb
      refine ⟨0, hx, sI hm 0 0 0, ?_, ?_, a, w, X, M.told⟩
      · unfold f_X10_unbind
        rw [x_isBinding, Option.bind_some, if_neg (fun q => bI_0.mp q c)]
        dsimp only
        rw [L.r0, Option.bind_some, L.s0, Option.bind_some, L.n6, Option.bind_some, lx, Option.bind_some, if_pos n4]
      · unfold f_X11_unbind
        rw [lt_def, m_isBinding, Option.bind_some, if_neg (fun q => bI_0.mp q c)]
        dsimp only
        rw [mL.r1, Option.bind_some, e122, lm, Option.bind_some, if_pos (m4 eb)]
    | some q =>
      have n5 : gI hx 6 i = nI q.1 := (n5 q eb).1
      have m5 := (m5 q eb).1
      have hq := (w.1.2.1 i hi q eb).1
      obtain ⟨hx1, ex, X1, e12⟩ := x_beginAct w X
      obtain ⟨hm1, em, M1, e7⟩ := m_keepsAct w (M.told (v := 0))
      obtain ⟨L1, S1, K1, D1, A1, I1, P1, F1, C1⟩ := XR_iff.mp X1
      obtain ⟨mL1, mS1, mK1, mD1, mA1, mI1, mP1, mF1, mC1⟩ := MR_iff.mp M1
      have eS : aS (act a) = aS a := rfl
      rw [eS] at S1 mS1
      have L2 : XL (sI hx1 6 i (-1)) := L1.fr (frm.sI (X := [6]) (by simp) frm.rf) (by decide)
      refine ⟨1, sI (sI hx1 6 i (-1)) 8 i 0, sI hm1 1 (122 + i) 0, ?_, ?_, setS (act a) (stBd (aS a) (updB (sB (aS a)) i none)), w.act.st (w.1.bnd (fun q e => nono e)), X1.st (Y := [6, 8]) (frm.sI (by simp) (frm.sI (by simp) frm.rf)) (by simp) ?_ e12, M1.st (frm.sI (by simp) frm.rf) ?_ e7⟩
      · unfold f_X10_unbind
        rw [x_isBinding, Option.bind_some, if_neg (fun q => bI_0.mp q c)]
        dsimp only
        rw [L.r0, Option.bind_some, L.s0, Option.bind_some, L.n6, Option.bind_some, lx, Option.bind_some, if_neg (by rw [n5]; exact nI_m1 (by omega)), ex, Option.bind_some, L1.r0, Option.bind_some, L1.s0, Option.bind_some, L1.n6, Option.bind_some, stI_ok (by rw [L1.z6]; exact hi) (by omega), Option.bind_some, L2.r0, Option.bind_some, L2.s0, Option.bind_some, L2.n7, Option.bind_some, x_empty L2.rows7 (by decide) hi, Option.bind_some]
      · unfold f_X11_unbind
        rw [lt_def, m_isBinding, Option.bind_some, if_neg (fun q => bI_0.mp q c)]
        dsimp only
        rw [mL.r1, Option.bind_some, e122, lm, Option.bind_some, if_neg (by rw [m5]; exact fun z => by have := (nI_eq (b := 0) (by omega) (by decide)).mp z; omega), em, Option.bind_some, mL1.r1, Option.bind_some, stI_ok (by rw [mL1.n1]; omega) (by omega), Option.bind_some]
      · refine XS.bnd (h := hx1) w.1 (fun k hk k5 k7 k8 => ?_) (fun b hb => ?_) (fun b hb => ?_) (fun j hj => ?_) (fun _ => ?_) (fun q e => nono e) S1
        · rw [gI_sI_f (by omega), gI_sI_f (by omega)]
        · rw [gI_sI_ne (by decide), gI_sI_nk hb]
        · rw [gI_sI_nk hb, gI_sI_ne (by decide)]
        · rw [gI_sI_ne (by decide), gI_sI_ne (by decide)]
        · rw [gI_sI_ne (by decide), gI_s]
      · exact MS.bnd (g := gI hm1 1) w.1 hi (fun j j1 j2 j3 => gI_sI_nk j1) (fun _ => gI_s _ _ _ _) (fun q e => nono e) mS1
  · refine ⟨0, hx, sI hm 0 0 0, ?_, ?_, a, w, X, M.told⟩
    · unfold f_X10_unbind
      rw [x_isBinding, Option.bind_some, if_pos (bI_0.mpr c)]
    · unfold f_X11_unbind
      rw [lt_def, m_isBinding, Option.bind_some, if_pos (bI_0.mpr c)]
