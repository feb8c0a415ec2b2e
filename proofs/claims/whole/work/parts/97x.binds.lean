/-! ===== a binding's row in both readers ===== -/
theorem XN.bd {h h' : MH} {t : NT} {B : Nat → Option (Nat × List Nat)} {a b nd : Nat} {ls : List Nat} (hl : ∀ b', b' < 6 → b' ≠ b → ∀ q, B b' = some q → q.2.length ≤ 6) (hg : ∀ j, j < 4 → gI h' (a + j) = gI h (a + j)) (g4 : ∀ j, j ≠ b → gI h' (a + 4) j = gI h (a + 4) j) (g6 : ∀ j, j ≠ b → gI h' (a + 6) j = gI h (a + 6) j) (g7 : ∀ j, j < 6 * b ∨ 6 * b + 6 ≤ j → gI h' (a + 7) j = gI h (a + 7) j) (e4 : gI h' (a + 4) b = nI nd) (e6 : gI h' (a + 6) b = nI ls.length) (e7 : lrep (gI h' (a + 7)) (6 * b) ls) (X : XN h a t B) : XN h' a t (updB B b (some (nd, ls))) := by
  obtain ⟨x0, x1, x2, x3, x4⟩ := X
  have h0 := hg 0 (by decide); have h1 := hg 1 (by decide); have h2 := hg 2 (by decide); have h3 := hg 3 (by decide)
  rw [Nat.add_zero] at h0
  refine ⟨by rw [h0]; exact x0, by rw [h0]; exact x1, by rw [h0]; exact x2, by rw [h1, h2, h3]; exact x3, fun b' hb' => ?_⟩
  by_cases q : b' = b
  · subst q
    refine ⟨fun z => ?_, fun q' z => ?_⟩
    · have z : (if b' = b' then some (nd, ls) else B b') = none := z
      rw [if_pos rfl] at z; cases z
    · have z : (if b' = b' then some (nd, ls) else B b') = some q' := z
      rw [if_pos rfl] at z
      rw [← Option.some.inj z]
      exact ⟨e4, e6, e7⟩
  · have eu : updB B b (some (nd, ls)) b' = B b' := if_neg q
    rw [eu, g4 b' q, g6 b' q]
    refine ⟨(x4 b' hb').1, fun q' z => ?_⟩
    obtain ⟨y1, y2, y3⟩ := (x4 b' hb').2 q' z
    refine ⟨y1, y2, fun i hi => ?_⟩
    have := hl b' hb' q q' z
    rw [g7 _ (by omega)]
    exact y3 i hi
theorem updB_updB {α : Type} {B : Nat → Option α} {b : Nat} {u v : Option α} : updB (updB B b u) b v = updB B b v := by
  funext j
  show (if j = b then v else if j = b then u else B j) = if j = b then v else B j
  by_cases q : j = b
  · rw [if_pos q, if_pos q]
  · rw [if_neg q, if_neg q, if_neg q]
/-- where both stand among the labels of binding b -/
def LB (bx bm hx hm : MH) (P : List Nat) (i : Nat) (t : NT) (B : Nat → Option (Nat × List Nat)) (b nd : Nat) (ls : List Nat) : Prop := (TX hx P i ∧ XN hx 161 t (updB B b (some (nd, ls))) ∧ frm txX bx hx ∧ gI hx 159 3 = 0 ∧ gI hx 159 4 = -1 ∧ ∀ b', b' < 6 → b' ≠ b → B b' = none → gI hx 167 b' = 0) ∧ (TM hm P i ∧ MS (gI hm 1) (sTB t B) ∧ lrep (gI hm 1) (134 + 6 * b) ls ∧ frY bm hm ∧ seB (gI hm 0 42) B ∧ gI hm 0 38 = 0) ∧ i ≤ P.length ∧ wfS (sTB t B) ∧ B b = none ∧ b < 6 ∧ nd < nN t ∧ ls.length ≤ 6 ∧ ∀ j, j < ls.length → plLab (ls.getD j 0)
theorem LB.to {bx bm hx hm hx' hm' : MH} {P : List Nat} {i j : Nat} {t : NT} {B : Nat → Option (Nat × List Nat)} {b nd : Nat} {ls : List Nat} (C : LB bx bm hx hm P i t B b nd ls) (fx : frT hx hx') (Tx : TX hx' P j) (fm : frG hm hm') (Tm : TM hm' P j) (hj : j ≤ P.length) : LB bx bm hx' hm' P j t B b nd ls := by
  obtain ⟨⟨x1, x2, x3, x4, x5, x6⟩, ⟨m1, m2, m6, m3, m4, m5⟩, hi, w, r⟩ := C
  exact ⟨⟨Tx, x2.fr (fun k hk => fx.1.1 _ (by simp; omega)), frm.tr x3 (fx.1.up (by decide)), by rw [fx.2 3 (by decide)]; exact x4, by rw [fx.2 4 (by decide)]; exact x5, by rw [fx.1.1 167 (by decide)]; exact x6⟩, ⟨Tm, by rw [fm.1.1 1 (by decide)]; exact m2, by rw [fm.1.1 1 (by decide)]; exact m6, m3.E fm.E, by rw [fm.2 42 (by decide)]; exact m4, by rw [fm.2 38 (by decide)]; exact m5⟩, hj, w, r⟩
theorem LB.bad {bx bm hx hm hx' hm' : MH} {P : List Nat} {i k p : Nat} {t : NT} {B : Nat → Option (Nat × List Nat)} {b nd : Nat} {ls : List Nat} (C : LB bx bm hx hm P i t B b nd ls) (fx : frF hx hx') (F : FT hx' k p) (fm : frE hm hm') (W : TW hm' P k p) (hk : 1 ≤ k ∧ k ≤ 4) : FP bx bm hx' hm' P k p := ⟨⟨C.1.1.1.fr fx.1 (by decide), frm.tr C.1.2.2.1 (fx.1.up (by decide)), F⟩, C.2.1.2.2.2.1.E fm, W, hk⟩
section RB
variable {bx bm hx hm : MH} {P : List Nat} {i : Nat} {t : NT} {B : Nat → Option (Nat × List Nat)} {b nd : Nat} {ls : List Nat}
theorem w_159 {h : MH} {k p : Nat} {x y z : Int32} (T : TW h P k p) : f_X11_readBinding_159 0 x y z h = some h := by
  unfold f_X11_readBinding_159
  rw [m_wrong T, Option.bind_some]
  rfl
theorem w_84 {h : MH} {k p n : Nat} {x y z : Int32} (T : TW h P k p) : f_X11_readBinding_84 0 x y (n + 1) z h = some h := by
  show f_X11_readBinding_84b 0 x y (f_X11_readBinding_84 0 x y n) z h = some h
  unfold f_X11_readBinding_84b
  rw [m_wrong T, Option.bind_some]
  dsimp only
  rw [if_neg (by decide), w_159 T]
theorem w_63 {h : MH} {k p : Nat} {x : Int32} (T : TW h P k p) : f_X11_readBinding_63 0 x h = some h := by
  obtain ⟨v, e⟩ := T.n
  unfold f_X11_readBinding_63
  rw [e, Option.bind_some]
  dsimp only
  rw [m_numberW T, Option.bind_some]
  dsimp only
  rw [m_mustW T, Option.bind_some]
  exact w_84 (n := 4999) T
theorem w_43 {h : MH} {k p : Nat} {x : Int32} (T : TW h P k p) : f_X11_readBinding_43 0 x h = some h := by
  unfold f_X11_readBinding_43
  rw [m_takesWordW T, Option.bind_some]
  dsimp only
  rw [if_pos rfl, m_errsW T, Option.bind_some]
  exact w_63 T
/-- a label comes behind -/
theorem c_lab {x : Nat} (C : LB bx bm hx hm P i t B b nd ls) (hk : ls.length < 6) (hx' : plLab x) : LB bx bm (sI (sI hx 168 (6 * b + ls.length) (nI x)) 167 b (nI (ls.length + 1))) (sI hm 1 (134 + 6 * b + ls.length) (nI x)) P i t B b nd (ls ++ [x]) := by
  obtain ⟨⟨x1, x2, x3, x4, x5, x6⟩, ⟨m1, m2, m6, m3, m4, m5⟩, hi, w, hB, hb, hnd, h6, hp⟩ := C
  have fx : frm [167, 168] hx (sI (sI hx 168 (6 * b + ls.length) (nI x)) 167 b (nI (ls.length + 1))) := frm.sI (by decide) (frm.sI (by decide) frm.rf)
  have fm : frm [1] hm (sI hm 1 (134 + 6 * b + ls.length) (nI x)) := frm.sI (by decide) frm.rf
  have xb := (x2.2.2.2.2 b hb).2 (nd, ls) (if_pos rfl)
  refine ⟨⟨⟨x1.1.fr fx (by decide), x1.2.1.fr (by rw [fx.1 159 (by decide)]) (fx.1 160 (by decide)), by rw [fx.1 159 (by decide)]; exact x1.2.2⟩, ?_, frm.tr x3 (fx.up (by decide)), by rw [fx.1 159 (by decide)]; exact x4, by rw [fx.1 159 (by decide)]; exact x5, fun b' hb' hne hn => by rw [gI_sI_nk hne, gI_sI_ne (by decide)]; exact x6 b' hb' hne hn⟩, ⟨⟨⟨m1.1.1.fr fm, by rw [fm.1 20 (by decide)]; exact m1.1.2.1, by rw [fm.1 0 (by decide)]; exact m1.1.2.2.1, by rw [fm.1 0 (by decide)]; exact m1.1.2.2.2⟩, by rw [fm.1 0 (by decide)]; exact m1.2⟩, ?_, ?_, ⟨frm.tr m3.1 (fm.up (by decide)), fun k a1 a2 a3 a4 => by rw [fm.1 0 (by decide)]; exact m3.2 k a1 a2 a3 a4⟩, by rw [fm.1 0 (by decide)]; exact m4, by rw [fm.1 0 (by decide)]; exact m5⟩, hi, w, hB, hb, hnd, by rw [List.length_append]; show ls.length + 1 ≤ 6; omega, fun j hj => ?_⟩
  · rw [← updB_updB (u := some (nd, ls))]
    refine XN.bd (h := hx) (fun b' hb' hne q hq => ?_) (fun j hj => fx.1 _ (by simp; omega)) (fun j hj => by rw [fx.1 _ (by decide)]) (fun j hj => ?_) (fun j hj => ?_) ?_ ?_ ?_ x2
    · have hq : B b' = some q := by rw [← hq]; exact (if_neg hne).symm
      exact (w.2.1 b' hb' q hq).2.2.1
    · show gI _ 167 j = gI hx 167 j
      rw [gI_sI_nk hj, gI_sI_ne (by decide)]
    · show gI _ 168 j = gI hx 168 j
      rw [gI_sI_ne (by decide), gI_sI_nk (by omega)]
    · rw [fx.1 _ (by decide)]; exact xb.1
    · show gI _ 167 b = _
      rw [gI_s, List.length_append]; rfl
    · show lrep (gI _ 168) _ _
      refine lrep.up (g := gI hx 168) (x := nI x) (fun j => ?_) rfl xb.2.2
      rw [gI_sI_ne (by decide), gI_sI]
      by_cases q2 : j = 6 * b + ls.length
      · rw [if_pos ⟨rfl, q2⟩, if_pos q2]
      · rw [if_neg (fun z => q2 z.2), if_neg q2]
  · have := MS.bnd (g := gI hm 1) (g' := gI (sI hm 1 (134 + 6 * b + ls.length) (nI x)) 1) (s := sTB t B) (i := b) (v := none) w hb (fun j a1 a2 a3 => gI_sI_nk (by omega)) (fun _ => by rw [gI_sI_nk (by omega)]; exact (m2.2.1 b hb).1 hB) (fun q e => nono e) m2
    have eq : stBd (sTB t B) (updB (sB (sTB t B)) b none) = sTB t B := by
      show (t, updB B b none, (fun _ => none), [], []) = (t, B, (fun _ => none), [], [])
      have : updB B b none = B := by
        funext j
        show (if j = b then none else B j) = B j
        by_cases q : j = b
        · rw [if_pos q, q, hB]
        · rw [if_neg q]
      rw [this]
    rw [eq] at this
    exact this
  · refine lrep.up (g := gI hm 1) (x := nI x) (fun j => ?_) rfl m6
    rw [gI_sI]
    by_cases q2 : j = 134 + 6 * b + ls.length
    · rw [if_pos ⟨rfl, q2⟩, if_pos q2]
    · rw [if_neg (fun z => q2 z.2), if_neg q2]
  · rw [getD_app]
    rw [List.length_append] at hj
    have hj : j < ls.length + 1 := hj
    by_cases q : j < ls.length
    · rw [if_pos q]; exact hp j q
    · rw [if_neg q, if_pos (by omega)]; exact hx'
/-- the binding is whole -/
theorem c_bound (C : LB bx bm hx hm P i t B b nd ls) (h1 : 1 ≤ ls.length) : ∃ hm', f_X11_readBinding_159 0 (nI b) (nI nd) (nI ls.length) hm = some hm' ∧ CP bx bm hx hm' P i t (updB B b (some (nd, ls))) := by
  obtain ⟨⟨x1, x2, x3, x4, x5, x6⟩, ⟨m1, m2, m6, m3, m4, m5⟩, hi, w, hB, hb, hnd, h6, hp⟩ := C
  have L := m1.1.1
  have wn := w.1.2.1
  have L2 : ML (sI hm 0 42 (gI hm 0 42 ||| ((1 : Int32) <<< (nI b &&& 31)))) := L
  have L3 : ML (sI (sI hm 0 42 (gI hm 0 42 ||| ((1 : Int32) <<< (nI b &&& 31)))) 1 (122 + b) (nI (nd + 1))) := L
  refine ⟨sI (sI (sI hm 0 42 (gI hm 0 42 ||| ((1 : Int32) <<< (nI b &&& 31)))) 1 (122 + b) (nI (nd + 1))) 1 (128 + b) (nI ls.length), ?_, ⟨x1, x2, x3, x4, x5, fun b' hb' hn => ?_⟩, ?_, hi, ?_⟩
  · unfold f_X11_readBinding_159
    rw [m_noWrong m1, Option.bind_some, if_pos rfl, lt_def]
    dsimp only
    rw [L2.r1, Option.bind_some, show (122 : Int32) + nI b = nI (122 + b) from nI_add 122 b, nI_1, stI_ok (by rw [L2.n1]; omega) (by omega), Option.bind_some, L3.r1, Option.bind_some, show (128 : Int32) + nI b = nI (128 + b) from nI_add 128 b, stI_ok (by rw [L3.n1]; omega) (by omega), Option.bind_some]
  · by_cases q : b' = b
    · subst q
      have hn : (if b' = b' then some (nd, ls) else B b') = none := hn
      rw [if_pos rfl] at hn; cases hn
    · exact x6 b' hb' q (by rw [← hn]; exact (if_neg q).symm)
  · have f : frm [0, 1] hm (sI (sI (sI hm 0 42 (gI hm 0 42 ||| ((1 : Int32) <<< (nI b &&& 31)))) 1 (122 + b) (nI (nd + 1))) 1 (128 + b) (nI ls.length)) := frm.sI (by decide) (frm.sI (by decide) (frm.sI (by decide) frm.rf))
    have g0 : ∀ k, k ≠ 42 → gI (sI (sI (sI hm 0 42 (gI hm 0 42 ||| ((1 : Int32) <<< (nI b &&& 31)))) 1 (122 + b) (nI (nd + 1))) 1 (128 + b) (nI ls.length)) 0 k = gI hm 0 k := fun k hk => by rw [gI_sI_ne (by decide), gI_sI_ne (by decide), gI_sI_nk hk]
    have g1 : ∀ j, j ≠ 122 + b → j ≠ 128 + b → gI (sI (sI (sI hm 0 42 (gI hm 0 42 ||| ((1 : Int32) <<< (nI b &&& 31)))) 1 (122 + b) (nI (nd + 1))) 1 (128 + b) (nI ls.length)) 1 j = gI hm 1 j := fun j a1 a2 => by rw [gI_sI_nk a2, gI_sI_nk a1, gI_sI_ne (by decide)]
    refine ⟨⟨⟨L.fr f, by rw [f.1 20 (by decide)]; exact m1.1.2.1, by rw [g0 40 (by decide)]; exact m1.1.2.2.1, by rw [g0 41 (by decide)]; exact m1.1.2.2.2⟩, by rw [g0 39 (by decide)]; exact m1.2⟩, ?_, ⟨frm.tr m3.1 f, fun k a1 a2 a3 a4 => by rw [g0 k a4]; exact m3.2 k a1 a2 a3 a4⟩, fun b' hb' => ?_, by rw [g0 38 (by decide)]; exact m5⟩
    · refine MS.bnd (g := gI hm 1) (s := sTB t B) (i := b) (v := some (nd, ls)) w hb (fun j a1 a2 _ => g1 j a1 a2) (fun e => by cases e) (fun q e => ?_) m2
      rw [← Option.some.inj e]
      refine ⟨by rw [gI_sI_nk (by omega), gI_s], gI_s _ _ _ _, fun j hj => ?_⟩
      rw [g1 _ (by omega) (by omega)]
      exact m6 j hj
    · rw [gI_sI_ne (by decide), gI_sI_ne (by decide), gI_s, bit_or, bit_one (by omega), Bool.or_eq_true, m4 b' hb', decide_eq_true_iff]
      show (B b' ≠ none ∨ b = b') ↔ (if b' = b then some (nd, ls) else B b') ≠ none
      by_cases q : b' = b
      · rw [if_pos q]; exact ⟨fun _ z => (by cases z), fun _ => Or.inr q.symm⟩
      · rw [if_neg q]; exact ⟨fun z => z.elim id (fun y => absurd y.symm q), fun z => Or.inl z⟩
  · exact w.bnd (s := sTB t B) (fun q e => by rw [← Option.some.inj e]; exact ⟨hnd, h1, h6, hp⟩)
end RB
