/-! ===== cost, state, link ===== -/
theorem setF_put {x : Int32} {U : Nat → Bool} {l m : Nat} {v : Bool} (hl : l < m) (hm : m ≤ 32) (hx : ∀ i, i < 32 → i ≠ l → bit x i = (decide (i < m) && U i)) : (if v then x ||| ((1 : Int32) <<< (nI l &&& 31)) else x &&& (((1 : Int32) <<< (nI l &&& 31)) ^^^ (-1 : Int32))) = setF (fun j => if j = l then v else U j) m := by
  refine bit_ext (fun i hi => ?_)
  rw [bit_setF hm]
  by_cases q : i = l
  · subst q
    cases v
    · rw [if_neg (by decide), bit_and, bit_xor, bit_one (show i < 32 by omega), bit_m1 i hi]; simp
    · simp [bit_or, bit_one (show i < 32 by omega), hl]
  · have hne : ¬ l = i := fun z => q z.symm
    cases v
    · rw [if_neg (by decide), bit_and, bit_xor, bit_one (show l < 32 by omega), bit_m1 i hi, hx i hi q]; simp [q, hne]
    · simp [bit_or, bit_one (show l < 32 by omega), q, hne, hx i hi q]
theorem x_setUp {h : MH} {a l m : Nat} {U : Nat → Bool} {x2 : Int32} (hl : l < m) (hm : m ≤ 32) (hx : ∀ i, i < 32 → i ≠ l → bit (gI h a 2) i = (decide (i < m) && U i)) : f_X2_setUp a (nI l) x2 h = some (sI h a 2 (setF (fun j => if j = l then decide (x2 ≠ 0) else U j) m)) := by
  unfold f_X2_setUp f_X2_setUp_26
  rw [← setF_put (v := decide (x2 ≠ 0)) hl hm hx]
  by_cases q : x2 = 0
  · rw [if_pos q, lt_def, if_neg (by simp [q])]
  · rw [if_neg q, lt_def, if_pos (by simp [q])]
def tCost (t : NT) (l c : Nat) : NT := (nN t, nM t, nF t, nT t, (fun j => if j = l then c else nC t j), nU t)
def tUp (t : NT) (l : Nat) (v : Bool) : NT := (nN t, nM t, nF t, nT t, nC t, fun j => if j = l then v else nU t j)
def tAdd (t : NT) (x y c : Nat) (v : Bool) : NT := (nN t, nM t + 1, (fun j => if j = nM t then x else nF t j), (fun j => if j = nM t then y else nT t j), (fun j => if j = nM t then c else nC t j), fun j => if j = nM t then v else nU t j)
theorem ok_cost : J_cost RR := by
  rintro x1 x2 hx hm ⟨a, w, X, M⟩
  obtain ⟨L, S, K, D, A, I, P, F, C⟩ := XR_iff.mp X
  obtain ⟨mL, mS, mK', mD, mA', mI', mP', mF', mC'⟩ := MR_iff.mp (M.told (v := 0))
  have wN := w.1.1
  have hm30 := wN.2.2.1
  obtain ⟨xn0, xn1, xn2, xn3, xn4⟩ := S.1
  have eh := x_hasLink (x := x1) xn1 (by omega)
  have el := m_isLink mL mS.1 wN (x := x1)
  have eb : f_X11_isIn 0 x2.toInt64 1 99 (sI hm 0 0 0) = some (bI ((1 : Int) ≤ x2.toInt ∧ x2.toInt ≤ 99), sI hm 0 0 0) := m_inL (l := 1) (k := 99) rfl rfl
  by_cases c : 0 ≤ x1.toInt ∧ x1.toInt < nM (sN (aS a))
  · obtain ⟨l, hl, rfl⟩ := ofZ c.1 c.2
    by_cases c2 : 1 ≤ x2.toInt ∧ x2.toInt ≤ 99
    · obtain ⟨k, hk, rfl⟩ := ofZ (n := 100) (x := x2) (by omega) (by omega)
      rw [nI_toInt (by omega)] at c2
      obtain ⟨hx1, ex, X1, e12⟩ := x_beginAct w X
      obtain ⟨hm1, em, M1, e7⟩ := m_keepsAct w (M.told (v := 0))
      obtain ⟨L1, S1, K1, D1, A1, I1, P1, F1, C1⟩ := XR_iff.mp X1
      obtain ⟨mL1, mS1, mK1, mD1, mA1, mI1, mP1, mF1, mC1⟩ := MR_iff.mp M1
      have wt : wfN (tCost (sN (aS a)) l k) := by
        refine ⟨wN.1, wN.2.1, wN.2.2.1, fun j hj => ?_⟩
        obtain ⟨z1, z2, z3, z4⟩ := wN.2.2.2 j hj
        refine ⟨z1, z2, z3, ?_⟩
        show 1 ≤ (if j = l then k else nC (sN (aS a)) j) ∧ (if j = l then k else nC (sN (aS a)) j) ≤ 99
        by_cases q : j = l
        · rw [if_pos q]; omega
        · rw [if_neg q]; exact z4
      have sx : XS (sI hx1 5 l (nI k)) 1 (stN (aS a) (tCost (sN (aS a)) l k)) := by
        refine XS.net (h := hx1) (fun j hj hj' => gI_sI_f (by omega)) (XN.net (h := hx1) (t := sN (aS a)) (gI_sI_f (by decide)) (gI_sI_f (by decide)) (gI_sI_f (by decide)) ?_ ?_ ?_ (fun j hj => ⟨?_, ?_, ?_⟩) S1.1) S1
        · rw [gI_sI_ne (by decide)]; exact S1.1.1
        · rw [gI_sI_ne (by decide)]; exact S1.1.2.1
        · rw [gI_sI_ne (by decide)]; exact S1.1.2.2.1
        · rw [gI_sI_ne (by decide)]; exact (S1.1.2.2.2.1 j hj).1
        · rw [gI_sI_ne (by decide)]; exact (S1.1.2.2.2.1 j hj).2.1
        · show gI (sI hx1 5 l (nI k)) 5 j = nI (if j = l then k else nC (sN (aS a)) j)
          by_cases q : j = l
          · rw [if_pos q, q, gI_s]
          · rw [if_neg q, gI_sI_nk q]; exact (S1.1.2.2.2.1 j hj).2.2
      have sm : MS (gI (sI hm1 1 (62 + l) (nI k)) 1) (stN (aS a) (tCost (sN (aS a)) l k)) := by
        refine MS.net (g := gI hm1 1) (fun j hj => gI_sI_nk (by omega)) ⟨?_, ?_, fun j hj => ⟨?_, ?_, ?_, ?_⟩⟩ mS1
        · rw [gI_sI_nk (by omega)]; exact mS1.1.1
        · rw [gI_sI_nk (by omega)]; exact mS1.1.2.1
        all_goals have hj : j < nM (sN (aS a)) := hj
        · rw [gI_sI_nk (by omega)]; exact (mS1.1.2.2 j hj).1
        · rw [gI_sI_nk (by omega)]; exact (mS1.1.2.2 j hj).2.1
        · show gI (sI hm1 1 (62 + l) (nI k)) 1 (62 + j) = nI (if j = l then k else nC (sN (aS a)) j)
          by_cases q : j = l
          · rw [if_pos q, q, gI_s]
          · rw [if_neg q, gI_sI_nk (by omega)]; exact (mS1.1.2.2 j hj).2.2.1
        · rw [gI_sI_nk (by omega)]; exact (mS1.1.2.2 j hj).2.2.2
      refine ⟨nI (nC (sN (aS a)) l), sI hx1 5 l (nI k), sI hm1 1 (62 + l) (nI k), ?_, ?_, setS (act a) (stN (aS a) (tCost (sN (aS a)) l k)), w.act.st (w.1.net wt rfl (Nat.le_refl _) (fun _ _ => ⟨rfl, rfl⟩)), X1.st (Y := [5]) (frm.sI (by simp) frm.rf) (by simp) sx e12, M1.st (frm.sI (by simp) frm.rf) sm e7⟩
      · unfold f_X10_cost
        rw [L.r0, Option.bind_some, L.s0, Option.bind_some, eh, Option.bind_some, if_neg (fun q => bI_0.mp q c), x_isAmount, Option.bind_some, if_neg (fun q => bI_0.mp q (by rw [nI_toInt (by omega)]; exact c2))]
        dsimp only
        rw [L.n5, Option.bind_some, ldI_ok (by rw [L.z5]; omega) (by omega), Option.bind_some, ex, Option.bind_some, L1.n5, Option.bind_some, stI_ok (by rw [L1.z5]; omega) (by omega), Option.bind_some, (xn3 l hl).2.2]
      · unfold f_X11_cost
        rw [lt_def, el, Option.bind_some, if_neg (fun q => bI_0.mp q c)]
        dsimp only
        rw [eb, Option.bind_some, if_neg (fun q => bI_0.mp q (by rw [nI_toInt (by omega)]; exact c2))]
        dsimp only
        rw [em, Option.bind_some, m_costOf mL1 mS1.1 wN hl, Option.bind_some]
        dsimp only
        have e62 : 62 + nI l = nI (62 + l) := nI_add 62 l
        rw [mL1.r1, Option.bind_some, e62, stI_ok (by rw [mL1.n1]; omega) (by omega), Option.bind_some]
        rfl
    · refine ⟨-1, hx, sI hm 0 0 0, ?_, ?_, a, w, X, M.told⟩
      · unfold f_X10_cost
        rw [L.r0, Option.bind_some, L.s0, Option.bind_some, eh, Option.bind_some, if_neg (fun q => bI_0.mp q c), x_isAmount, Option.bind_some, if_pos (bI_0.mpr c2)]
      · unfold f_X11_cost
        rw [lt_def, el, Option.bind_some, if_neg (fun q => bI_0.mp q c)]
        dsimp only
        rw [eb, Option.bind_some, if_pos (bI_0.mpr c2)]
  · refine ⟨-1, hx, sI hm 0 0 0, ?_, ?_, a, w, X, M.told⟩
    · unfold f_X10_cost
      rw [L.r0, Option.bind_some, L.s0, Option.bind_some, eh, Option.bind_some, if_pos (bI_0.mpr c)]
    · unfold f_X11_cost
      rw [lt_def, el, Option.bind_some, if_pos (bI_0.mpr c)]
