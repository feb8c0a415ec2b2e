/-! ===== the class's writer: hold, plan, the stack, the witness, greedy ===== -/
theorem plS_at {t : NT} {B : Nat → Option (Nat × List Nat)} {D : Nat} : ∀ {W : List Nat} {ys : List (Option TR)} {i : Nat}, plS t B D W ys → i < W.length → isBest (candS t B D (W.getD i 0) (W.drop (i + 1)) (ys.drop (i + 1))) (ys.getD i none) := by
  intro W
  induction W with
  | nil => intro ys i _ h; simp at h
  | cons l ls ih =>
    intro ys i h hi
    obtain ⟨y, zs, rfl, a1, a2⟩ := h
    cases i with
    | zero => exact a2
    | succ i => exact ih a1 (by rw [List.length_cons] at hi; omega)
/-- the labels, from a place on -/
def lbI (ys : List (Option TR)) : Nat → Nat → List Nat
  | 0, _ => []
  | k + 1, i => match ys.getD i none with
    | some z => z.2.2 :: lbI ys k (i + z.2.1)
    | none => []
theorem lbI_some {ys : List (Option TR)} {k i : Nat} {z : TR} (e : ys.getD i none = some z) : lbI ys (k + 1) i = z.2.2 :: lbI ys k (i + z.2.1) := by
  show (match ys.getD i none with
    | some z => z.2.2 :: lbI ys k (i + z.2.1)
    | none => []) = _
  rw [e]
theorem getD_out {ys : List (Option TR)} {i : Nat} (h : ys.length ≤ i) : ys.getD i none = none := by
  rw [List.getD_eq_getElem?_getD, List.getElem?_eq_none h]; rfl
theorem lbI_out {ys : List (Option TR)} {k i : Nat} (h : ys.length ≤ i) : lbI ys k i = [] := by
  cases k with
  | zero => rfl
  | succ k =>
    show (match ys.getD i none with
      | some z => z.2.2 :: lbI ys k (i + z.2.1)
      | none => []) = _
    rw [getD_out h]
theorem getD_dropT {ys : List (Option TR)} {n i : Nat} : (ys.drop n).getD i none = ys.getD (n + i) none := by
  rw [List.getD_eq_getElem?_getD, List.getD_eq_getElem?_getD, List.getElem?_drop]
/-- a written place: where it leads -/
theorem wr_next {t : NT} {B : Nat → Option (Nat × List Nat)} {D i : Nat} {W : List Nat} {ys : List (Option TR)} {z : TR} (w : wfN t) (wB : wfB t B) (p : plS t B D W ys) (hW : ∀ l, l ∈ W → l < nM t) (e : ys.getD i none = some z) : i < ys.length ∧ 1 ≤ z.2.1 ∧ i + z.2.1 ≤ ys.length ∧ isLab z.2.2 ∧ z.1 ≤ D ∧ ((i + z.2.1 = ys.length ∧ z.1 = 1) ∨ ∃ z', ys.getD (i + z.2.1) none = some z' ∧ z.1 = z'.1 + 1) := by
  have hlen := plS_len p
  have hi : i < ys.length := by
    apply Classical.byContradiction
    intro q
    rw [getD_out (by omega)] at e
    cases e
  have hb := plS_at p (i := i) (by omega)
  rw [e] at hb
  have hl : W.getD i 0 < nM t := by
    refine hW _ ?_
    rw [List.getD_eq_getElem?_getD, List.getElem?_eq_getElem (by omega)]
    exact List.getElem_mem _
  obtain ⟨f, h1, h2, h3, h4, h5, h6⟩ := best_in w wB hl hb
  rw [List.length_drop] at h5
  refine ⟨hi, h4, by omega, h6, h3, ?_⟩
  rcases offs_is h4 (by rw [List.length_drop]; omega) with ⟨e1, o⟩ | ⟨e1, y, ey, o⟩
  · rw [List.length_drop] at e1
    rw [o] at h1
    have := Option.some.inj h1
    exact Or.inl ⟨by omega, by omega⟩
  · rw [o] at h1
    rw [getD_dropT, show i + 1 + (z.2.1 - 1) = i + z.2.1 by omega] at ey
    cases y with
    | none => cases h1
    | some z' =>
      have h1 : some z'.1 = some f := h1
      exact Or.inr ⟨z', ey, by rw [h2, Option.some.inj h1]⟩
theorem lbI_ok {t : NT} {B : Nat → Option (Nat × List Nat)} {D : Nat} {W : List Nat} {ys : List (Option TR)} (w : wfN t) (wB : wfB t B) (p : plS t B D W ys) (hW : ∀ l, l ∈ W → l < nM t) : ∀ (k i : Nat) (z : TR), ys.length ≤ i + k → ys.getD i none = some z → (lbI ys k i).length = z.1 ∧ ∀ x, x ∈ lbI ys k i → isLab x := by
  intro k
  induction k with
  | zero =>
    intro i z h e
    rw [getD_out (by omega)] at e
    cases e
  | succ k ih =>
    intro i z h e
    obtain ⟨a1, a2, a3, a4, a5, a6⟩ := wr_next w wB p hW e
    rw [lbI_some e]
    rcases a6 with ⟨b1, b2⟩ | ⟨z', b1, b2⟩
    · rw [lbI_out (by omega)]
      refine ⟨by rw [b2]; rfl, fun x hx => ?_⟩
      rw [List.mem_singleton.mp hx]; exact a4
    · obtain ⟨c1, c2⟩ := ih (i + z.2.1) z' (by omega) b1
      refine ⟨by rw [List.length_cons, c1, b2], fun x hx => ?_⟩
      rcases List.mem_cons.mp hx with hx | hx
      · rw [hx]; exact a4
      · exact c2 x hx
theorem lbI_stk {t : NT} {B : Nat → Option (Nat × List Nat)} {D : Nat} {W : List Nat} {ys : List (Option TR)} {z : TR} (w : wfN t) (wB : wfB t B) (p : plS t B D W ys) (hW : ∀ l, l ∈ W → l < nM t) (hD : D ≤ 12) (h16 : ys.length ≤ 16) (e : ys.getD 0 none = some z) : stkOK (lbI ys 17 0) := by
  obtain ⟨h1, h2⟩ := lbI_ok w wB p hW 17 0 z (by omega) e
  have h3 := (wr_next w wB p hW e).2.2.2.2.1
  refine ⟨by omega, fun i hi => h2 _ ?_⟩
  rw [List.getD_eq_getElem?_getD, List.getElem?_eq_getElem hi]
  exact List.getElem_mem _
section WQ
variable {h : MH} {r : Nat} {t : NT} {B : Nat → Option (Nat × List Nat)}
theorem x_hold {a : Nat} {W : List Nat} (L : XL h) (A : rowAt h a 16) (ha : a + 1 < 178 ∨ 183 ≤ a) (rW : rowIs h a W) (hW : W.length ≤ 16) : ∃ h', f_X9_hold 178 a h = some h' ∧ frm [178, 179, 180] h h' ∧ (∀ k, k ≠ 1 → gI h' 178 k = gI h 178 k) ∧ gI h' 178 1 = nI W.length ∧ lrep (gI h' 179) 0 W ∧ gI h' 180 W.length = nI 0 := by
  have e1 : ((if 16 < gI h a 1 then 16 else gI h a 1) : Int32) = nI W.length := by
    rw [rW.1, if_neg (show ¬ (16 : Int32) < nI W.length from nI_nlt (a := 16) (by omega) (by omega))]
  have f1 : frm [178] h (sI h 178 1 (nI W.length)) := frm.sI (by decide) frm.rf
  obtain ⟨h2, e2, f2, g2⟩ := x_cp (h := sI h 178 1 (nI W.length)) (a := 179) (b := a + 1) (n := W.length) (x := nI W.length) rfl (by show _ ≤ gN h 179; rw [L.w179]; exact hW) (by show _ ≤ gN h (a + 1); rw [A.2]; exact hW) (by omega)
  have L2 : XL h2 := (L.fr f1 (by decide)).fr f2 (by decide)
  refine ⟨sI h2 180 W.length (nI 0), ?_, frm.sI (by decide) (frm.tr (f1.up (by decide)) (f2.up (by decide))), fun k hk => ?_, ?_, ?_, gI_s _ _ _ _⟩
  · unfold f_X9_hold
    rw [e1, lt_def, lt_def, show gR (sI h 178 1 (nI W.length)) a 0 = some (a + 1) from A.1, Option.bind_some, show gR (sI h 178 1 (nI W.length)) 178 0 = some 179 from L.i0, Option.bind_some, gI_s, e2, Option.bind_some, L2.i3, Option.bind_some, f2.1 178 (by decide), gI_s, stI_ok (by rw [L2.w180]; omega) (by omega), Option.bind_some]
    rfl
  · rw [gI_sI_ne (by decide), f2.1 178 (by decide), gI_sI_nk hk]
  · rw [gI_sI_ne (by decide), f2.1 178 (by decide), gI_s]
  · intro j hj
    rw [gI_sI_ne (by decide), Nat.zero_add, g2 j hj, gI_sI_ne (by omega)]
    have := rW.2 j hj
    rw [Nat.zero_add] at this
    exact this
def wrX : List Nat := [178, 179, 180, 181, 182]
theorem chF_drop {t : NT} {e : Nat} : ∀ {W : List Nat} {u i : Nat}, chF t u W e → ∃ u', chF t u' (W.drop i) e := by
  intro W u i h
  have : W = W.take i ++ W.drop i := (List.take_append_drop i W).symm
  rw [this] at h
  obtain ⟨m, _, h2⟩ := chF_split h
  exact ⟨m, h2⟩
theorem x_plan {a D u e : Nat} {W : List Nat} (w : wfN t) (wB : wfB t B) (E : WE h r t B) (hr : r + 2 < 178) (A : rowAt h a 16) (ha : a + 1 < 178 ∨ 183 ≤ a) (rW : rowIs h a W) (hW : W.length ≤ 16) (hch : chF t u W e) (hD : D ≤ 12) : Ev (f_X9_plan 178 2 r a (nI D) h) (fun q => ∃ ys, frm wrX h q.2 ∧ plS t B D W ys ∧ q.1 = bI (fwv (ys.getD 0 (some (0, 0, 0))) < 1000) ∧ xrep q.2 0 ys ∧ gI q.2 178 1 = nI W.length ∧ gI q.2 178 2 = nI D) := by
  unfold f_X9_plan
  obtain ⟨h1, e1, f1, k1, g1, l1, z1⟩ := x_hold E.1 A ha rW hW
  rw [e1, Option.bind_some, lt_def, lt_def, gI_sI_nk (by decide), g1, pI_sub]
  have f1' : frm wrX h (sI h1 178 2 (nI D)) := frm.sI (by decide) (f1.up (by decide))
  unfold f_X9_plan_19
  refine Ev_FU (fun m p h2 => ∃ zs, m ≤ W.length ∧ p = pI m ∧ frm wrX h h2 ∧ gI h2 178 1 = nI W.length ∧ gI h2 178 2 = nI D ∧ lrep (gI h2 179) 0 W ∧ plS t B D (W.drop m) zs ∧ xrep h2 m zs) W.length (pI W.length) (sI h1 178 2 (nI D)) (by omega) ⟨[], Nat.le_refl _, rfl, f1', by rw [gI_sI_nk (by decide)]; exact g1, gI_s _ _ _ _, by rw [gI_sI_f (by decide)]; exact l1, by rw [List.drop_length]; exact rfl, ⟨fun j hj => absurd hj (Nat.not_lt_zero _), by rw [gI_sI_ne (by decide)]; exact z1⟩⟩ ?_
  rintro m p h2 rec ⟨zs, hm, rfl, f2, e2, d2, l2, p2, R2⟩ ih
  have E2 : WE h2 r t B := E.fr f2 (by decide) hr
  unfold f_X9_plan_19b
  cases m with
  | zero =>
    rw [if_pos (show pI 0 < 0 by decide), E2.1.i3, Option.bind_some, show ldI h2 180 0 = some (gI h2 180 0) from ldI_ok (i := 0) (by rw [E2.1.w180]; decide) (by decide), Option.bind_some]
    rw [List.drop_zero] at p2
    have hv : gI h2 180 0 = nI (fwv (zs.getD 0 (some (0, 0, 0)))) ∧ fwv (zs.getD 0 (some (0, 0, 0))) ≤ 1000 := by
      cases zs with
      | nil => exact ⟨R2.2, by decide⟩
      | cons y zs =>
        have := R2.1 0 (by simp)
        refine ⟨this.1.fw, ?_⟩
        show fwv y ≤ 1000
        cases y with
        | none => exact Nat.le_refl _
        | some z => have := (this.2 z rfl).1; show z.1 ≤ 1000; omega
    rw [hv.1]
    by_cases q : fwv (zs.getD 0 (some (0, 0, 0))) < 1000
    · rw [if_pos (show nI (fwv (zs.getD 0 (some (0, 0, 0)))) < 1000 from nI_lt (b := 1000) q (by decide))]
      refine Ev_some ⟨zs, f2, p2, ?_, R2, e2, d2⟩
      unfold bI; rw [if_pos q]
    · rw [if_neg (show ¬ nI (fwv (zs.getD 0 (some (0, 0, 0)))) < 1000 from nI_nlt (b := 1000) (by omega) (by omega))]
      refine Ev_some ⟨zs, f2, p2, ?_, R2, e2, d2⟩
      unfold bI; rw [if_neg q]
  | succ i =>
    have hdc := drop_cons (ls := W) (k := i) (by omega)
    obtain ⟨u', hu'⟩ := chF_drop (i := i) hch
    rw [hdc] at hu'
    have hzl : zs.length = (W.drop (i + 1)).length := plS_len p2
    have hdl : (W.drop (i + 1)).length = W.length - (i + 1) := List.length_drop
    rw [pI_s, if_neg (nI_nn (by omega))]
    refine Ev_to (x_writeFrom (i := i) (D := D) (zs := zs) w wB E2 hr (fun j hj => ?_) (by omega) hzl (by rw [e2, hdl]; congr 1; omega) d2 hD hu' R2) (fun h3 z => ?_)
    · rw [← hdc] at hj ⊢
      rw [List.length_drop] at hj
      have := l2 (i + j) (by omega)
      rw [Nat.zero_add] at this
      rw [this, getD_drop]
    · obtain ⟨y, f3, g3, P3, ok3, b3⟩ := z
      rw [pI_add]
      refine ih i _ _ (by omega) ⟨y :: zs, by omega, rfl, frm.tr f2 (f3.up (by decide)), by rw [f3.1 178 (by decide)]; exact e2, by rw [f3.1 178 (by decide)]; exact d2, by rw [f3.1 179 (by decide)]; exact l2, ?_, ?_, ?_⟩
      · rw [hdc]; exact ⟨y, zs, rfl, p2, b3⟩
      · intro j hj
        cases j with
        | zero => exact ⟨P3, ok3⟩
        | succ j =>
          have := R2.1 j (by rw [List.length_cons] at hj; omega)
          refine ⟨?_, this.2⟩
          have h4 := this.1.cg (h' := h3) (fun a => g3 a _ (by omega))
          rw [show i + (j + 1) = i + 1 + j by omega]
          exact h4
      · rw [List.length_cons, g3 180 _ (by omega), show i + (zs.length + 1) = i + 1 + zs.length by omega]
        exact R2.2
theorem x_stackInto {D : Nat} {W : List Nat} {ys : List (Option TR)} {z0 : TR} (w : wfN t) (wB : wfB t B) (L : XL h) (p : plS t B D W ys) (hWm : ∀ l, l ∈ W → l < nM t) (hW : W.length ≤ 16) (hD : D ≤ 12) (R : xrep h 0 ys) (eE : gI h 178 1 = nI W.length) (e0 : ys.getD 0 none = some z0) : Ev (f_X9_stackInto 178 20 h) (fun h' => frm [20, 21] h h' ∧ rowIs h' 20 (lbI ys 17 0)) := by
  have hlen := plS_len p
  have h0 := wr_next w wB p hWm e0
  unfold f_X9_stackInto f_X9_stackInto_7
  rw [lt_def]
  refine Ev_FU (fun m q h1 => ∃ i dn, q = nI i ∧ i ≤ ys.length ∧ 17 ≤ i + m ∧ frm [20, 21] h h1 ∧ rowIs h1 20 dn ∧ dn ++ lbI ys m i = lbI ys 17 0 ∧ (i < ys.length → ∃ z, ys.getD i none = some z ∧ dn.length + z.1 = z0.1) ∧ dn.length ≤ 12) 17 0 (sI h 20 1 0) (by omega) ⟨0, [], rfl, Nat.zero_le _, by omega, frm.sI (by decide) frm.rf, ⟨gI_s _ _ _ _, fun j hj => (by simp at hj)⟩, rfl, fun _ => ⟨z0, e0, by simp⟩, by simp⟩ ?_
  rintro m q h1 rec ⟨i, dn, rfl, hi, hm, f, rw1, hd, hz, hdl⟩ ih
  have L1 : XL h1 := L.fr f (by decide)
  unfold f_X9_stackInto_7b
  rw [f.1 178 (by decide), eE, ← hlen]
  by_cases c : i < ys.length
  · obtain ⟨z, ez, hlz⟩ := hz c
    obtain ⟨a1, a2, a3, a4, a5, a6⟩ := wr_next w wB p hWm ez
    have hzb := h0.2.2.2.2.1
    have hP := (R.1 i c).1
    rw [ez, Nat.zero_add] at hP
    obtain ⟨p1, p2, p3⟩ := hP
    have hz1 := ((R.1 i c).2 z ez).2.2.2.2
    rw [if_pos (nI_lt c (by omega)), L1.i4, Option.bind_some, ldI_ok (by rw [L1.w181]; omega) (by omega), Option.bind_some, f.1 181 (by decide), p2]
    obtain ⟨h2, e2, f2, rw2⟩ := x_add L1.stk rw1 (y := z.2.2) (by omega) (by decide)
    have L2 : XL h2 := L1.fr f2 (by decide)
    rw [e2, Option.bind_some, L2.i5, Option.bind_some, ldI_ok (by rw [L2.w182]; omega) (by omega), Option.bind_some, f2.1 182 (by decide), f.1 182 (by decide), p3, lt_def, max1 (by omega), Nat.max_eq_right a2, lt_def, nI_add]
    cases m with
    | zero => omega
    | succ m =>
      rw [lbI_some ez] at hd
      refine ih m _ _ (by omega) ⟨i + z.2.1, dn ++ [z.2.2], rfl, a3, by omega, frm.tr f f2, rw2, by rw [List.append_assoc]; exact hd, fun hlt => ?_, by rw [List.length_append]; simp; omega⟩
      rcases a6 with ⟨b1, b2⟩ | ⟨z', b1, b2⟩
      · omega
      · refine ⟨z', b1, ?_⟩
        rw [List.length_append]; simp; omega
  · rw [if_neg (nI_nlt (by omega) (by omega))]
    rw [lbI_out (by omega), List.append_nil] at hd
    refine Ev_some ⟨f, ?_⟩
    rw [← hd]; exact rw1
/-- the last place from which the rest can't be written -/
def lstN (ys : List (Option TR)) : Nat → Option Nat
  | 0 => none
  | k + 1 => match ys.getD k none with
    | none => some k
    | some _ => lstN ys k
theorem x_lastUnwritten {ys : List (Option TR)} (L : XL h) (R : xrep h 0 ys) (h16 : ys.length ≤ 16) (eE : gI h 178 1 = nI ys.length) : f_X9_lastUnwritten 178 h = some (fpl (lstN ys ys.length), h) := by
  have key : Ev (f_X9_lastUnwritten 178 h) (fun q => q = (fpl (lstN ys ys.length), h)) := by
    unfold f_X9_lastUnwritten f_X9_lastUnwritten_7
    rw [eE, lt_def, pI_sub]
    refine Ev_FU (fun m p h1 => m ≤ ys.length ∧ p = pI m ∧ h1 = h ∧ lstN ys ys.length = lstN ys m) ys.length (pI ys.length) h (by omega) ⟨Nat.le_refl _, rfl, rfl, rfl⟩ ?_
    rintro m p h1 rec ⟨hm, rfl, rfl, he⟩ ih
    unfold f_X9_lastUnwritten_7b
    cases m with
    | zero =>
      rw [if_pos (show pI 0 < 0 by decide), he]
      exact Ev_some rfl
    | succ i =>
      have hP := R.1 i (by omega)
      rw [Nat.zero_add] at hP
      have hl : lstN ys (i + 1) = (match ys.getD i none with
        | none => some i
        | some _ => lstN ys i) := rfl
      rw [pI_s, if_neg (nI_nn (by omega)), L.i3, Option.bind_some, ldI_ok (by rw [L.w180]; omega) (by omega), Option.bind_some, hP.1.fw, pI_add]
      cases e : ys.getD i none with
      | none =>
        rw [show fwv (none : Option TR) = 1000 from rfl, if_neg (show ¬ nI 1000 < 1000 by decide)]
        rw [e] at hl
        rw [he, hl]
        exact Ev_some rfl
      | some z =>
        rw [e] at hl
        have := (hP.2 z e).1
        rw [show fwv (some z) = z.1 from rfl, if_pos (show nI z.1 < 1000 from nI_lt (b := 1000) (by omega) (by decide))]
        exact ih i _ _ (by omega) ⟨by omega, rfl, rfl, by rw [he, hl]⟩
  obtain ⟨q, e, rfl⟩ := key
  exact e
noncomputable def grd (t : NT) (W : List Nat) : Nat → Nat → Nat → Option Nat
  | 0, _, c => some c
  | k + 1, i, c => if i < W.length then (if nr t (nF t (W.getD i 0)) 0 (W.drop i) = 0 ∧ ¬ nU t (W.getD i 0) = true then none else grd t W k (i + max 1 (nr t (nF t (W.getD i 0)) 0 (W.drop i))) (c + 1)) else some c
theorem x_greedyCount {u e : Nat} {W : List Nat} (w : wfN t) (E : WE h r t B) (hL : lrep (gI h 179) 0 W) (hW : W.length ≤ 16) (eE : gI h 178 1 = nI W.length) (hch : chF t u W e) : f_X9_greedyCount 178 2 r h = some (fpl (grd t W 16 0 0), h) := by
  have key : Ev (f_X9_greedyCount 178 2 r h) (fun q => q = (fpl (grd t W 16 0 0), h)) := by
    unfold f_X9_greedyCount f_X9_greedyCount_8
    refine Ev_FU (fun m p h1 => ∃ k i c, k + m = 16 ∧ p = (nI c, nI i, nI k) ∧ h1 = h ∧ k ≤ i ∧ c ≤ 16 ∧ c = k ∧ i ≤ W.length ∧ grd t W 16 0 0 = grd t W m i c) 16 (0, 0, 0) h (by omega) ⟨0, 0, 0, by omega, rfl, rfl, Nat.le_refl _, by omega, rfl, Nat.zero_le _, rfl⟩ ?_
    rintro m p h1 rec ⟨k, i, c, hk, rfl, rfl, hki, hc, hck, hi, he⟩ ih
    unfold f_X9_greedyCount_8b f_X9_greedyCount_55
    dsimp only
    cases m with
    | zero =>
      rw [if_neg (show ¬ nI k < 16 from nI_nlt (b := 16) (by omega) (by omega)), he]
      exact Ev_some rfl
    | succ m =>
      rw [if_pos (show nI k < 16 from nI_lt (b := 16) (by omega) (by decide)), eE]
      have hg : grd t W (m + 1) i c = (if i < W.length then (if nr t (nF t (W.getD i 0)) 0 (W.drop i) = 0 ∧ ¬ nU t (W.getD i 0) = true then none else grd t W m (i + max 1 (nr t (nF t (W.getD i 0)) 0 (W.drop i))) (c + 1)) else some c) := rfl
      by_cases q : i < W.length
      · have hdc := drop_cons q
        obtain ⟨u', hu'⟩ := chF_drop (i := i) hch
        have hu2 := hu'
        rw [hdc] at hu2
        have hli := hu2.1
        have hF : nF t (W.getD i 0) = u' := hu2.2.1
        have hdl : (W.drop i).length = W.length - i := List.length_drop
        have hrl := nr_le (t := t) (u := nF t (W.getD i 0)) (ls := W.drop i) (s := 0)
        rw [if_pos q] at hg
        rw [if_pos (nI_lt q (by omega)), x_nodeReach (LS := W.drop i) (u := nF t (W.getD i 0)) (e := e) w E (fun j hj => by have := hL (i + j) (by omega); rw [Nat.zero_add] at this; rw [this, getD_drop]) (by omega) (by rw [eE, hdl]; congr 1; omega) (by rw [hF]; exact hu') (w.2.2.2 _ hli).1 (by omega), Option.bind_some]
        dsimp only
        by_cases q1 : nr t (nF t (W.getD i 0)) 0 (W.drop i) = 0
        · have hlk := w_link E hL q (by omega)
          rw [Nat.zero_add] at hlk
          rw [if_pos (by rw [q1]; rfl), E.1.i0, Option.bind_some, hlk, Option.bind_some, w_isUp w E hli, Option.bind_some]
          by_cases q2 : nU t (W.getD i 0) = true
          · rw [if_neg (fun z => z.2 q2)] at hg
            rw [if_neg (fun z => bI_0.mp z q2), lt_def, lt_def, max1 (by omega), nI_add, nI_1, nI_1]
            refine ih m _ _ (by omega) ⟨k + 1, _, c + 1, by omega, rfl, rfl, by omega, by omega, by omega, by omega, by rw [he, hg]⟩
          · rw [if_pos ⟨q1, q2⟩] at hg
            rw [if_pos (bI_0.mpr q2), he, hg]
            exact Ev_some rfl
        · rw [if_neg (fun z => q1 z.1)] at hg
          rw [if_neg (show ¬ nI (nr t (nF t (W.getD i 0)) 0 (W.drop i)) = 0 from fun z => q1 (nI_inj (b := 0) (by omega) (by decide) z)), lt_def, lt_def, max1 (by omega), nI_add, nI_1, nI_1]
          refine ih m _ _ (by omega) ⟨k + 1, _, c + 1, by omega, rfl, rfl, by omega, by omega, by omega, by omega, by rw [he, hg]⟩
      · rw [if_neg q] at hg
        rw [if_neg (nI_nlt (by omega) (by omega)), he, hg]
        exact Ev_some rfl
  obtain ⟨q, e, rfl⟩ := key
  exact e
end WQ
