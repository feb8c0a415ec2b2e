/-! ===== guards ===== -/
/-- what a repair takes: its labels, its costs -/
def isRp (t : NT) (B : Nat → Option (Nat × List Nat)) (D b g : Nat) (o : Option (Nat × Nat)) : Prop := match o with
  | none => ¬ rpC t b g ∨ ∃ ys, plS t B D (rpW t b g) ys ∧ ys.getD 0 none = none
  | some p => rpC t b g ∧ ∃ ys z, plS t B D (rpW t b g) ys ∧ ys.getD 0 none = some z ∧ p = (z.1, dist (barN t b) g (nF t b)) ∧ z.1 ≤ 12
theorem isRp_fun {t : NT} {B : Nat → Option (Nat × List Nat)} {D b g : Nat} {o o' : Option (Nat × Nat)} (h : isRp t B D b g o) (h' : isRp t B D b g o') : o = o' := by
  cases o with
  | none =>
    cases o' with
    | none => rfl
    | some p =>
      obtain ⟨c, ys, z, h1, h2, h3⟩ := h'
      rcases h with h | ⟨ys', h4, h5⟩
      · exact absurd c h
      · rw [plS_fun h4 h1, h2] at h5; cases h5
  | some p =>
    obtain ⟨c, ys, z, h1, h2, h3, _⟩ := h
    cases o' with
    | none =>
      rcases h' with h | ⟨ys', h4, h5⟩
      · exact absurd c h
      · rw [plS_fun h4 h1, h2] at h5; cases h5
    | some p' =>
      obtain ⟨c', ys', z', h1', h2', h3', _⟩ := h'
      rw [plS_fun h1' h1, h2] at h2'
      rw [h3, h3', Option.some.inj h2']
def gLb (os : Nat → Option (Nat × Nat)) : Nat → Nat
  | 0 => 0
  | i + 1 => match os i with
    | none => gLb os i
    | some p => max (gLb os i) p.1
def gCs (os : Nat → Option (Nat × Nat)) (A : Nat → Nat) : Nat → Nat
  | 0 => 0
  | i + 1 => match os i with
    | none => gCs os A i
    | some p => max (gCs os A i) (A i + p.2)
def gA (t : NT) (W : List Nat) (i : Nat) : Nat := cst t (W.take i)
def gst (os : Nat → Option (Nat × Nat)) (A : Nat → Nat) (i : Nat) : Int32 × Int32 × Int32 × Int32 × Int32 := (setF (fun j => (os j).isSome) i, nI (gLb os i), nI (gCs os A i), nI (A i), nI i)
theorem maxI {x y : Nat} (hx : x < 2 ^ 31) (hy : y < 2 ^ 31) : ((if nI x < nI y then nI y else nI x) : Int32) = nI (max x y) := by
  by_cases q : x < y
  · rw [if_pos (nI_lt q hy), Nat.max_eq_right (by omega)]
  · rw [if_neg (nI_nlt (by omega) hx), Nat.max_eq_left (by omega)]
theorem gst_none {os : Nat → Option (Nat × Nat)} {A : Nat → Nat} {i : Nat} (e : os i = none) : ((gst os A i).1, (gst os A i).2.1, (gst os A i).2.2.1) = ((gst os A (i + 1)).1, (gst os A (i + 1)).2.1, (gst os A (i + 1)).2.2.1) := by
  have a1 : setF (fun j => (os j).isSome) (i + 1) = setF (fun j => (os j).isSome) i := by
    rw [setF, if_neg (by rw [e]; decide)]
  have a3 : gCs os A (i + 1) = gCs os A i := by
    show (match os i with
      | none => gCs os A i
      | some p => max (gCs os A i) (A i + p.2)) = _
    rw [e]
  have a2 : gLb os (i + 1) = gLb os i := by
    show (match os i with
      | none => gLb os i
      | some p => max (gLb os i) p.1) = _
    rw [e]
  unfold gst
  dsimp only
  rw [a1, a2, a3]
theorem gst_some {os : Nat → Option (Nat × Nat)} {A : Nat → Nat} {i : Nat} {p : Nat × Nat} (e : os i = some p) (b1 : gLb os i < 2 ^ 31) (b2 : gCs os A i < 2 ^ 31) (b3 : p.1 < 2 ^ 31) (b4 : A i + p.2 < 2 ^ 31) : ((gst os A i).1 ||| ((1 : Int32) <<< ((gst os A i).2.2.2.2 &&& 31)), ((if (gst os A i).2.1 < nI p.1 then nI p.1 else (gst os A i).2.1) : Int32), ((if (gst os A i).2.2.1 < (gst os A i).2.2.2.1 + nI p.2 then (gst os A i).2.2.2.1 + nI p.2 else (gst os A i).2.2.1) : Int32)) = ((gst os A (i + 1)).1, (gst os A (i + 1)).2.1, (gst os A (i + 1)).2.2.1) := by
  have a1 : setF (fun j => (os j).isSome) (i + 1) = setF (fun j => (os j).isSome) i ||| ((1 : Int32) <<< (nI i &&& 31)) := by
    rw [setF, if_pos (by rw [e]; rfl)]
  have a3 : gCs os A (i + 1) = max (gCs os A i) (A i + p.2) := by
    show (match os i with
      | none => gCs os A i
      | some p => max (gCs os A i) (A i + p.2)) = _
    rw [e]
  have a2 : gLb os (i + 1) = max (gLb os i) p.1 := by
    show (match os i with
      | none => gLb os i
      | some p => max (gLb os i) p.1) = _
    rw [e]
  unfold gst
  dsimp only
  rw [a1, a2, a3, ← maxI b1 b3, ← maxI b2 b4, ← nI_add]
theorem x_costOf {h : MH} {a : Nat} {t : NT} {B : Nat → Option (Nat × List Nat)} {W : List Nat} (w : wfN t) (L : XL h) (X : XN h 2 t B) (A : rowAt h a 16) (rW : rowIs h a W) (hW : W.length ≤ 16) (hWm : ∀ j, j < W.length → W.getD j 0 < nM t) : f_X2_costOf 2 a h = some (nI (cst t W), h) := by
  have hm30 := w.2.2.1
  have key : Ev (f_X2_costOf 2 a h) (fun q => q = (nI (cst t W), h)) := by
    unfold f_X2_costOf f_X2_costOf_4
    refine Ev_FU (fun m p h1 => ∃ i, i + m = W.length ∧ p = (nI (cst t (W.take i)), nI i) ∧ h1 = h) W.length (0, 0) h (by omega) ⟨0, by omega, rfl, rfl⟩ ?_
    rintro m p h1 rec ⟨i, hi, rfl, rfl⟩ ih
    unfold f_X2_costOf_4b
    dsimp only
    rw [rW.1]
    by_cases q : i < W.length
    · have hl := hWm i q
      have hr := rW.2 i q
      rw [Nat.zero_add] at hr
      rw [if_pos (nI_lt q (by omega)), x_getN A rW hW (by decide) q, Option.bind_some]
      dsimp only
      rw [x_priceOf L.nt X hm30 hl, Option.bind_some]
      dsimp only
      rw [lt_def, nI_add, nI_1]
      refine ih (m - 1) _ _ (by omega) ⟨i + 1, by omega, ?_, rfl⟩
      rw [take_succ' q, cst_app]
      rfl
    · have : i = W.length := by omega
      subst this
      rw [if_neg (nI_nlt (Nat.le_refl _) (by omega)), List.take_length]
      exact Ev_some rfl
  obtain ⟨q, e, rfl⟩ := key
  exact e
/-- the class looks at one place -/
theorem x_oneGuard {h : MH} {a : AB} {b g : Nat} (w : wfA a) (X : XR h a) (hb : b < nM (sN (aS a))) (hg : g < nN (sN (aS a))) : ∃ h1, f_X10_foundRound 0 (nI b) (nI g) h = some (bI (rpC (sN (aS a)) b g), h1) ∧ XR h1 a ∧ (¬ rpC (sN (aS a)) b g ∨ (rpC (sN (aS a)) b g ∧ ∃ h2 ys, f_X10_planned 0 197 h1 = some (bI (fwv (ys.getD 0 none) < 1000), h2) ∧ XR h2 a ∧ plS (sN (aS a)) (sB (aS a)) (aD a) (rpW (sN (aS a)) b g) ys ∧ (∀ z, ys.getD 0 none = some z → gI h2 180 0 = nI z.1 ∧ z.1 ≤ 12) ∧ f_X2_costOf 2 197 h2 = some (nI (dist (barN (sN (aS a)) b) g (nF (sN (aS a)) b)), h2))) := by
  have wN := w.1.1
  obtain ⟨h1, e1, X1, f1, r1⟩ := x_foundRound w X hb hg
  refine ⟨h1, e1, X1, ?_⟩
  by_cases hc : rpC (sN (aS a)) b g
  · refine Or.inr ⟨hc, ?_⟩
    obtain ⟨hch, h9, h0, hcs⟩ := rpW_ch wN hb hg hc
    have rW : rowIs h1 197 (rpW (sN (aS a)) b g) := r1 hc
    obtain ⟨h2, ys, ex2, X2, f2, px, Rx, eE⟩ := x_planned w X1 X1.1.rou (Or.inr rfl) rW (by omega) hch
    have hyl := plS_len px
    have hge : ys.getD 0 (some (0, 0, 0)) = ys.getD 0 none := by
      cases ys with
      | nil => simp at hyl; omega
      | cons y zs => rfl
    rw [hge] at ex2
    have rW2 : rowIs h2 197 (rpW (sN (aS a)) b g) := rW.fr (f2.1 _ (by decide)) (f2.1 _ (by decide))
    refine ⟨h2, ys, ex2, X2, px, fun z ez => ?_, ?_⟩
    · have := Rx.1 0 (by omega)
      rw [Nat.zero_add, ez] at this
      exact ⟨this.1.1, (this.2 z rfl).1⟩
    · obtain ⟨L2, S2, -⟩ := XR_iff.mp X2
      rw [x_costOf wN L2 S2.1 L2.rou rW2 (by omega) (fun j hj => chF_mem hch j hj), hcs]
  · exact Or.inl hc
theorem ok_guards : J_guards RR := by
  rintro x1 hx hm ⟨a, w, X, M⟩
  obtain ⟨L, S, -⟩ := XR_iff.mp X
  have M0 := M.told (v := 0)
  obtain ⟨mL, mS, -⟩ := MR_iff.mp M0
  have wN := w.1.1
  have hn10 := wN.2.1
  have hm30 := wN.2.2.1
  have wW := w.1.2.2.2.2
  have h16 := wW.1
  have e0 : (0 : Int32).toInt = 0 := rfl
  have e2 : (2 : Int32).toInt = 2 := rfl
  have eS : gI hx 18 1 = nI (sW (aS a)).length := S.2.2.2.1
  by_cases c0 : (sW (aS a)).length = 0
  · refine ⟨-1, hx, sI hm 0 0 0, ?_, ?_, a, w, X, M0⟩
    · unfold f_X10_guards
      rw [L.r0, Option.bind_some, L.s6, Option.bind_some, eS, if_pos (by rw [c0]; rfl)]
    · unfold f_X11_guards
      rw [lt_def, m_wayLong mL mS.2.2.2.2.1, Option.bind_some, if_pos (by rw [c0]; rfl)]
  · have n0 : ¬ nI (sW (aS a)).length = 0 := fun z => c0 (nI_inj (b := 0) (by omega) (by decide) z)
    by_cases c1 : 0 ≤ x1.toInt ∧ x1.toInt ≤ 2
    · have hWm : ∀ j, j < (sW (aS a)).length → (sW (aS a)).getD j 0 < nM (sN (aS a)) := wW.2.1
      have hlast := hWm ((sW (aS a)).length - 1) (by omega)
      have hgo := (wN.2.2.2 _ hlast).2.1
      generalize hg : nT (sN (aS a)) ((sW (aS a)).getD ((sW (aS a)).length - 1) 0) = g at *
      -- what each place's repair takes
      have hos : ∃ os : Nat → Option (Nat × Nat), ∀ j, j < (sW (aS a)).length → isRp (sN (aS a)) (sB (aS a)) (aD a) ((sW (aS a)).getD j 0) g (os j) := by
        have : ∀ j, ∃ o, j < (sW (aS a)).length → isRp (sN (aS a)) (sB (aS a)) (aD a) ((sW (aS a)).getD j 0) g o := fun j => by
          by_cases q : j < (sW (aS a)).length
          · obtain ⟨mNo, mYes⟩ := m_laysRepair w M0 (hWm j q) hgo
            by_cases hc : rpC (sN (aS a)) ((sW (aS a)).getD j 0) g
            · obtain ⟨h', ys, e, MW', p, R, _⟩ := mYes hc
              have hyl := plS_len p
              have h0 := (rpW_ch wN (hWm j q) hgo hc).2.2.1
              cases ez : ys.getD 0 none with
              | none => exact ⟨none, fun _ => Or.inr ⟨ys, p, ez⟩⟩
              | some z => exact ⟨some (z.1, _), fun _ => ⟨hc, ys, z, p, ez, rfl, ((R.1 0 (by omega)).2 z ez).1⟩⟩
            · exact ⟨none, fun _ => Or.inl hc⟩
          · exact ⟨none, fun z => absurd z q⟩
        obtain ⟨f, hf⟩ := Classical.skolem.mp this
        exact ⟨f, hf⟩
      obtain ⟨os, hos⟩ := hos
      have hdb : ∀ j p, j < (sW (aS a)).length → os j = some p → p.1 ≤ 12 ∧ p.2 ≤ 1000000 := fun j p hj ep => by
        have := hos j hj
        rw [ep] at this
        obtain ⟨c, ys, z, p1, p2, p3, p4⟩ := this
        rw [p3]
        exact ⟨p4, Nat.le_of_lt c.2⟩
      have hLb : ∀ i, i ≤ (sW (aS a)).length → gLb os i ≤ 12 := by
        intro i
        induction i with
        | zero => intro _; exact Nat.zero_le _
        | succ i ih =>
          intro hi
          have h1 := ih (by omega)
          unfold gLb
          cases e : os i with
          | none => exact h1
          | some p => have := (hdb i p (by omega) e).1; show max _ _ ≤ 12; omega
      have hA : ∀ i, i ≤ (sW (aS a)).length → cst (sN (aS a)) ((sW (aS a)).take i) ≤ 1584 := fun i hi => by
        have h1 := cst_le wN (ls := (sW (aS a)).take i) (fun l hl => by
          obtain ⟨k, hk, ek⟩ := mem_getD (List.mem_of_mem_take hl)
          rw [← ek]; exact hWm k hk)
        rw [List.length_take] at h1
        omega
      have hCb : ∀ i, i ≤ (sW (aS a)).length → gCs os (gA (sN (aS a)) (sW (aS a))) i ≤ 1001584 := by
        intro i
        induction i with
        | zero => intro _; exact Nat.zero_le _
        | succ i ih =>
          intro hi
          have h1 := ih (by omega)
          unfold gCs
          cases e : os i with
          | none => exact h1
          | some p => have := (hdb i p (by omega) e).2; have h5 : gA (sN (aS a)) (sW (aS a)) i ≤ 1584 := hA i (by omega); show max _ _ ≤ 1001584; omega
      have htk : ∀ i, i < (sW (aS a)).length → cst (sN (aS a)) ((sW (aS a)).take (i + 1)) = cst (sN (aS a)) ((sW (aS a)).take i) + nC (sN (aS a)) ((sW (aS a)).getD i 0) := fun i hi => by
        rw [take_succ' hi, cst_app]; rfl
      have keyX : Ev (f_X10_guards_46 0 x1 18 (nI g) FU (0, 0, 0, 0, 0) hx) (fun q => XR q.2 a ∧ q.1 = (if x1 = 0 then (gst os (gA (sN (aS a)) (sW (aS a))) (sW (aS a)).length).1 else if x1 = 1 then (gst os (gA (sN (aS a)) (sW (aS a))) (sW (aS a)).length).2.1 else (gst os (gA (sN (aS a)) (sW (aS a))) (sW (aS a)).length).2.2.1)) := by
        unfold f_X10_guards_46
        refine Ev_FU (fun m p h1 => ∃ i, i + m = (sW (aS a)).length ∧ p = gst os (gA (sN (aS a)) (sW (aS a))) i ∧ XR h1 a) (sW (aS a)).length (0, 0, 0, 0, 0) hx (by omega) ⟨0, by omega, rfl, X⟩ ?_
        rintro m p h1 rec ⟨i, hi, rfl, X1⟩ ih
        obtain ⟨L1, S1, -⟩ := XR_iff.mp X1
        unfold f_X10_guards_46b
        show Ev (if nI i < gI h1 18 1 then _ else _) _
        rw [show gI h1 18 1 = nI (sW (aS a)).length from S1.2.2.2.1]
        by_cases q : i < (sW (aS a)).length
        · have hb := hWm i q
          have hr := S1.2.2.2.2 i q
          rw [Nat.zero_add] at hr
          obtain ⟨h2, e2, X2, hh⟩ := x_oneGuard w X1 hb hgo
          have hisr := hos i q
          have tail : ∀ h3, XR h3 a → ∀ x4 x5 x6, (x4, x5, x6) = ((gst os (gA (sN (aS a)) (sW (aS a))) (i + 1)).1, (gst os (gA (sN (aS a)) (sW (aS a))) (i + 1)).2.1, (gst os (gA (sN (aS a)) (sW (aS a))) (i + 1)).2.2.1) → Ev (f_X10_guards_133 rec 0 x1 18 (nI g) x4 x5 x6 (nI (cst (sN (aS a)) ((sW (aS a)).take i))) (nI i) (nI ((sW (aS a)).getD i 0)) h3) (fun q => XR q.2 a ∧ q.1 = (if x1 = 0 then (gst os (gA (sN (aS a)) (sW (aS a))) (sW (aS a)).length).1 else if x1 = 1 then (gst os (gA (sN (aS a)) (sW (aS a))) (sW (aS a)).length).2.1 else (gst os (gA (sN (aS a)) (sW (aS a))) (sW (aS a)).length).2.2.1)) := fun h3 X3 x4 x5 x6 hx => by
            obtain ⟨L3, S3, -⟩ := XR_iff.mp X3
            unfold f_X10_guards_133
            rw [L3.r0, Option.bind_some, L3.s0, Option.bind_some, x_priceOf L3.nt S3.1 hm30 hb, Option.bind_some]
            dsimp only
            rw [lt_def, nI_add, nI_1, ← htk i q]
            refine ih (m - 1) _ _ (by omega) ⟨i + 1, by omega, ?_, X3⟩
            have h1 : x4 = (gst os (gA (sN (aS a)) (sW (aS a))) (i + 1)).1 := congrArg Prod.fst hx
            have h2 : x5 = (gst os (gA (sN (aS a)) (sW (aS a))) (i + 1)).2.1 := congrArg (fun q => q.2.1) hx
            have h3 : x6 = (gst os (gA (sN (aS a)) (sW (aS a))) (i + 1)).2.2.1 := congrArg (fun q => q.2.2) hx
            rw [h1, h2, h3]
            rfl
          rw [if_pos (nI_lt q (by omega))]
          show Ev ((f_X5_get 18 (nI i) h1).bind _) _
          rw [x_getN L1.way S1.2.2.2 wW.1 (by decide) q, Option.bind_some]
          dsimp only
          rw [e2, Option.bind_some]
          dsimp only
          rcases hh with hc | ⟨hc, h3, ys, e3, X3, px, hz, ec⟩
          · have : os i = none := isRp_fun hisr (show isRp _ _ _ _ _ none from Or.inl hc)
            rw [if_pos (bI_0.mpr hc)]
            exact tail h2 X2 _ _ _ (gst_none this)
          · rw [if_neg (fun z => bI_0.mp z hc), X2.1.r16, Option.bind_some, e3, Option.bind_some]
            dsimp only
            cases ez : ys.getD 0 none with
            | none =>
              have : os i = none := isRp_fun hisr (show isRp _ _ _ _ _ none from Or.inr ⟨ys, px, ez⟩)
              rw [if_pos (bI_0.mpr (by decide))]
              exact tail h3 X3 _ _ _ (gst_none this)
            | some z =>
              obtain ⟨z1, z2⟩ := hz z ez
              have hos_ : os i = some (z.1, dist (barN (sN (aS a)) ((sW (aS a)).getD i 0)) g (nF (sN (aS a)) ((sW (aS a)).getD i 0))) := isRp_fun hisr (show isRp _ _ _ _ _ (some _) from ⟨hc, ys, z, px, ez, rfl, z2⟩)
              have hd2 := (hdb i _ q hos_).2
              have L3 := X3.1
              have b1 := hLb i (by omega)
              have b2 := hCb i (by omega)
              have b3 := hA i (by omega)
              dsimp only at hd2
              rw [if_neg (fun y => bI_0.mp y (show fwv (some z) < 1000 from by show z.1 < 1000; omega)), lt_def, L3.r13, Option.bind_some, L3.i3, Option.bind_some, show ldI h3 180 0 = some (gI h3 180 0) from ldI_ok (i := 0) (by rw [L3.w180]; decide) (by decide), Option.bind_some, z1, lt_def, L3.r0, Option.bind_some, L3.s0, Option.bind_some, L3.r16, Option.bind_some, ec, Option.bind_some, lt_def]
              refine tail h3 X3 _ _ _ ?_
              exact gst_some hos_ (by omega) (by omega) (by show z.1 < 2 ^ 31; omega) (by show gA (sN (aS a)) (sW (aS a)) i + dist _ g _ < 2 ^ 31; unfold gA; omega)
        · have : i = (sW (aS a)).length := by omega
          subst this
          rw [if_neg (nI_nlt (Nat.le_refl _) (by omega))]
          by_cases k0 : x1 = 0
          · rw [if_pos k0]; exact Ev_some ⟨X1, by rw [if_pos k0]⟩
          · rw [if_neg k0]
            by_cases k1 : x1 = 1
            · rw [if_pos k1]; exact Ev_some ⟨X1, by rw [if_neg k0, if_pos k1]⟩
            · rw [if_neg k1]; exact Ev_some ⟨X1, by rw [if_neg k0, if_neg k1]⟩
      have keyM : Ev (f_X11_guards_56 0 x1 (nI g) FU (0, 0, 0, 0, 0) (sI hm 0 0 0)) (fun q => MR q.2 a ∧ q.1 = (if x1 = 0 then (gst os (gA (sN (aS a)) (sW (aS a))) (sW (aS a)).length).1 else if x1 = 1 then (gst os (gA (sN (aS a)) (sW (aS a))) (sW (aS a)).length).2.1 else (gst os (gA (sN (aS a)) (sW (aS a))) (sW (aS a)).length).2.2.1)) := by
        unfold f_X11_guards_56
        refine Ev_FU (fun m p h1 => ∃ i, i + m = (sW (aS a)).length ∧ p = gst os (gA (sN (aS a)) (sW (aS a))) i ∧ MR h1 a) (sW (aS a)).length (0, 0, 0, 0, 0) (sI hm 0 0 0) (by omega) ⟨0, by omega, rfl, M0⟩ ?_
        rintro m p h1 rec ⟨i, hi, rfl, M1⟩ ih
        obtain ⟨L1, S1, -⟩ := MR_iff.mp M1
        unfold f_X11_guards_56b
        rw [m_wayLong L1 S1.2.2.2.2.1, Option.bind_some]
        show Ev (if nI i < nI (sW (aS a)).length then _ else _) _
        by_cases q : i < (sW (aS a)).length
        · have hb := hWm i q
          obtain ⟨mNo, mYes⟩ := m_laysRepair w M1 hb hgo
          have hisr := hos i q
          have tail : ∀ h3, MR h3 a → ∀ x4 x5 x6, (x4, x5, x6) = ((gst os (gA (sN (aS a)) (sW (aS a))) (i + 1)).1, (gst os (gA (sN (aS a)) (sW (aS a))) (i + 1)).2.1, (gst os (gA (sN (aS a)) (sW (aS a))) (i + 1)).2.2.1) → Ev (f_X11_guards_124 rec 0 x1 (nI g) x4 x5 x6 (nI (cst (sN (aS a)) ((sW (aS a)).take i))) (nI i) (nI ((sW (aS a)).getD i 0)) h3) (fun q => MR q.2 a ∧ q.1 = (if x1 = 0 then (gst os (gA (sN (aS a)) (sW (aS a))) (sW (aS a)).length).1 else if x1 = 1 then (gst os (gA (sN (aS a)) (sW (aS a))) (sW (aS a)).length).2.1 else (gst os (gA (sN (aS a)) (sW (aS a))) (sW (aS a)).length).2.2.1)) := fun h3 M3 x4 x5 x6 hx => by
            obtain ⟨L3, S3, -⟩ := MR_iff.mp M3
            unfold f_X11_guards_124
            rw [m_costOf L3 S3.1 wN hb, Option.bind_some, lt_def, nI_add, nI_1, ← htk i q]
            refine ih (m - 1) _ _ (by omega) ⟨i + 1, by omega, ?_, M3⟩
            have h1 : x4 = (gst os (gA (sN (aS a)) (sW (aS a))) (i + 1)).1 := congrArg Prod.fst hx
            have h2 : x5 = (gst os (gA (sN (aS a)) (sW (aS a))) (i + 1)).2.1 := congrArg (fun q => q.2.1) hx
            have h3 : x6 = (gst os (gA (sN (aS a)) (sW (aS a))) (i + 1)).2.2.1 := congrArg (fun q => q.2.2) hx
            rw [h1, h2, h3]
            rfl
          rw [if_pos (nI_lt q (by omega))]
          show Ev ((f_X11_wayLink 0 (nI i) h1).bind _) _
          rw [m_wayLink L1 (by omega), Option.bind_some]
          dsimp only
          rw [S1.2.2.2.2.2 i q]
          by_cases hc : rpC (sN (aS a)) ((sW (aS a)).getD i 0) g
          · obtain ⟨h2, ys, e2, MW2, px, R2, g19⟩ := mYes hc
            have hyl := plS_len px
            have h0 := (rpW_ch wN hb hgo hc).2.2.1
            have hR0 := R2.1 0 (by omega)
            rw [Nat.zero_add] at hR0
            rw [e2, Option.bind_some]
            dsimp only
            cases ez : ys.getD 0 none with
            | none =>
              have : os i = none := isRp_fun hisr (show isRp _ _ _ _ _ none from Or.inr ⟨ys, px, ez⟩)
              rw [if_pos (bI_0.mpr (by decide))]
              exact tail h2 MW2.1 _ _ _ (gst_none this)
            | some z =>
              have z2 := (hR0.2 z ez).1
              rw [ez] at hR0
              have hos_ : os i = some (z.1, dist (barN (sN (aS a)) ((sW (aS a)).getD i 0)) g (nF (sN (aS a)) ((sW (aS a)).getD i 0))) := isRp_fun hisr (show isRp _ _ _ _ _ (some _) from ⟨hc, ys, z, px, ez, rfl, z2⟩)
              have hd2 := (hdb i _ q hos_).2
              obtain ⟨L3, S3, -⟩ := MR_iff.mp MW2.1
              have b1 := hLb i (by omega)
              have b2 := hCb i (by omega)
              have b3 := hA i (by omega)
              have wF := (wN.2.2.2 _ hb).1
              dsimp only at hd2
              rw [if_neg (fun y => bI_0.mp y (show fwv (some z) < 1000 from by show z.1 < 1000; omega)), lt_def, L3.r28, Option.bind_some, show ldI h2 13 0 = some (gI h2 13 0) from ldI_ok (i := 0) (by rw [L3.n13]; decide) (by decide), Option.bind_some, hR0.1.1, lt_def, L3.r34, Option.bind_some, m_from L3 S3.1 wN hb, Option.bind_some]
              dsimp only
              rw [ldI_ok (by rw [L3.n19]; omega) (by omega), Option.bind_some, g19, lt_def]
              refine tail h2 MW2.1 _ _ _ ?_
              exact gst_some hos_ (by omega) (by omega) (by show z.1 < 2 ^ 31; omega) (by show gA (sN (aS a)) (sW (aS a)) i + dist _ g _ < 2 ^ 31; unfold gA; omega)
          · obtain ⟨h2, e2, M2⟩ := mNo hc
            have : os i = none := isRp_fun hisr (show isRp _ _ _ _ _ none from Or.inl hc)
            rw [e2, Option.bind_some, if_pos rfl]
            exact tail h2 M2 _ _ _ (gst_none this)
        · have : i = (sW (aS a)).length := by omega
          subst this
          rw [if_neg (nI_nlt (Nat.le_refl _) (by omega))]
          by_cases k0 : x1 = 0
          · rw [if_pos k0]; exact Ev_some ⟨M1, by rw [if_pos k0]⟩
          · rw [if_neg k0]
            by_cases k1 : x1 = 1
            · rw [if_pos k1]; exact Ev_some ⟨M1, by rw [if_neg k0, if_pos k1]⟩
            · rw [if_neg k1]; exact Ev_some ⟨M1, by rw [if_neg k0, if_neg k1]⟩
      obtain ⟨⟨r1, hx'⟩, ex, X', er⟩ := keyX
      obtain ⟨⟨r2, hm'⟩, em, M', er2⟩ := keyM
      dsimp only at X' er M' er2
      have hr12 : r2 = r1 := er2.trans er.symm
      subst hr12
      have hlr := S.2.2.2.2 ((sW (aS a)).length - 1) (by omega)
      rw [Nat.zero_add] at hlr
      have epi : pI (sW (aS a)).length = nI ((sW (aS a)).length - 1) := by
        rw [show (sW (aS a)).length = ((sW (aS a)).length - 1) + 1 by omega, pI_s]
        rfl
      refine ⟨r2, hx', hm', ?_, ?_, a, w, X', M'⟩
      · unfold f_X10_guards
        rw [L.r0, Option.bind_some, L.s6, Option.bind_some, eS, if_neg n0, if_neg (by rw [zlt, e0]; omega), if_neg (by rw [zlt, e2]; omega)]
        rw [x_wayEnd L S w.1, Option.bind_some, if_neg c0, hg]
        exact ex
      · unfold f_X11_guards
        rw [lt_def, m_wayLong mL mS.2.2.2.2.1, Option.bind_some, if_neg n0]
        dsimp only
        rw [m_inL (l := 0) (k := 2) rfl rfl, Option.bind_some, if_neg (fun z => bI_0.mp z (by omega))]
        dsimp only
        rw [m_wayLong mL mS.2.2.2.2.1, Option.bind_some]
        dsimp only
        rw [pI_sub, epi, m_wayLink mL (by omega), Option.bind_some]
        dsimp only
        rw [mS.2.2.2.2.2 _ (by omega), m_to mL mS.1 wN hlast, Option.bind_some, hg]
        exact em
    · refine ⟨-1, hx, sI hm 0 0 0, ?_, ?_, a, w, X, M0⟩
      · unfold f_X10_guards
        rw [L.r0, Option.bind_some, L.s6, Option.bind_some, eS, if_neg n0]
        by_cases q : x1 < 0
        · rw [if_pos q]
        · rw [if_neg q, if_pos (by rw [zlt, e0] at q; rw [zlt, e2]; omega)]
      · unfold f_X11_guards
        rw [lt_def, m_wayLong mL mS.2.2.2.2.1, Option.bind_some, if_neg n0]
        dsimp only
        rw [m_inL (l := 0) (k := 2) rfl rfl, Option.bind_some, if_pos (bI_0.mpr (by omega))]
