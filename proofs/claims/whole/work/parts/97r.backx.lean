/-! ===== the class counts back ===== -/
/-- 1 for a row that few labels write, else 0 -/
noncomputable def gdR (t : NT) (B : Nat → Option (Nat × List Nat)) (D d : Nat) (R : List Nat) : Nat := @ite Nat (∃ ys z, plS t B D R ys ∧ ys.getD 0 none = some z ∧ z.1 ≤ d) (Classical.propDecidable _) 1 0
theorem gdR_of {t : NT} {B : Nat → Option (Nat × List Nat)} {D d : Nat} {R : List Nat} {ys : List (Option TR)} (p : plS t B D R ys) (hd : d ≤ 12) : gdR t B D d R = if d < fwv (ys.getD 0 none) then 0 else 1 := by
  unfold gdR
  cases e : ys.getD 0 none with
  | none =>
    rw [if_pos (show d < fwv none from by show d < 1000; omega), if_neg]
    rintro ⟨ys', z, p', e', h'⟩
    rw [plS_fun p' p, e] at e'
    cases e'
  | some y =>
    by_cases q : d < fwv (some y)
    · rw [if_pos q, if_neg]
      rintro ⟨ys', z, p', e', h'⟩
      rw [plS_fun p' p, e] at e'
      have q : d < y.1 := q
      rw [← Option.some.inj e'] at h'
      omega
    · rw [if_neg q, if_pos]
      have q : ¬ d < y.1 := q
      exact ⟨ys, y, p, e, by omega⟩
/-- what the class holds while it counts back -/
def XQ (h : MH) (r : Nat) (t : NT) (B : Nat → Option (Nat × List Nat)) (D a b k d : Nat) (R : List Nat) (v : Nat) : Prop := WE h r t B ∧ gI h 178 1 = nI 6 ∧ gI h 178 2 = nI D ∧ gI h 178 6 = nI a ∧ gI h 178 7 = nI (6 - k) ∧ gI h 178 8 = nI d ∧ lrep (gI h 179) (6 - R.length) R ∧ chF t v R b ∧ ∃ ys, plS t B D R ys ∧ xrep h (6 - R.length) ys
def sees (x : Int32) (sn : List Nat) : Prop := ∀ i, i < 32 → (bit x i = true ↔ i ∈ sn)
theorem sees.add {x : Int32} {sn : List Nat} {l : Nat} (hl : l < 32) (s : sees x sn) : sees (x ||| ((1 : Int32) <<< (nI l &&& 31))) (l :: sn) := fun i hi => by
  rw [bit_or, bit_one hl, Bool.or_eq_true, s i hi, decide_eq_true_iff, List.mem_cons]
  constructor
  · rintro (z | z)
    · exact Or.inr z
    · exact Or.inl z.symm
  · rintro (z | z)
    · exact Or.inr z.symm
    · exact Or.inl z
theorem sees.one {l : Nat} (hl : l < 32) : sees ((1 : Int32) <<< (nI l &&& 31)) [l] := fun i hi => by
  rw [bit_one hl, decide_eq_true_iff, List.mem_singleton]
  exact ⟨fun z => z.symm, fun z => z.symm⟩
def bkX : List Nat := [179, 180, 181, 182]
def frB (i : Nat) (h h' : MH) : Prop := frm bkX h h' ∧ ∀ c j, i ≤ j → gI h' c j = gI h c j
theorem frB.rf {i : Nat} {h : MH} : frB i h h := ⟨frm.rf, fun _ _ _ => rfl⟩
theorem frB.tr {i : Nat} {h h1 h2 : MH} (a : frB i h h1) (b : frB i h1 h2) : frB i h h2 := ⟨frm.tr a.1 b.1, fun c j hj => (b.2 c j hj).trans (a.2 c j hj)⟩
theorem frB.le {i i' : Nat} {h h' : MH} (hi : i ≤ i') (a : frB i h h') : frB i' h h' := ⟨a.1, fun c j hj => a.2 c j (by omega)⟩
theorem XQ.fr {h h' : MH} {r : Nat} {t : NT} {B : Nat → Option (Nat × List Nat)} {D a b k d : Nat} {R : List Nat} {v : Nat} (hr : r + 2 < 178) (f : frB (6 - R.length) h h') (X : XQ h r t B D a b k d R v) : XQ h' r t B D a b k d R v := by
  obtain ⟨E, e1, e2, e6, e7, e8, l, c, ys, p, x⟩ := X
  have g := f.1.1 178 (by decide)
  refine ⟨E.fr f.1 (by decide) hr, by rw [g]; exact e1, by rw [g]; exact e2, by rw [g]; exact e6, by rw [g]; exact e7, by rw [g]; exact e8, fun i hi => by rw [f.2 179 _ (by omega)]; exact l i hi, c, ys, p, ⟨fun j hj => ⟨(x.1 j hj).1.cg' (fun c _ => f.2 c _ (by omega)), (x.1 j hj).2⟩, by rw [f.2 180 _ (by omega)]; exact x.2⟩⟩
/-- one link more at the front -/
theorem x_front {h : MH} {r : Nat} {t : NT} {B : Nat → Option (Nat × List Nat)} {D a b k d l : Nat} {R : List Nat} {v : Nat} (w : wfN t) (wB : wfB t B) (hr : r + 2 < 178) (hD : D ≤ 12) (hR : R.length < 6) (X : XQ h r t B D a b k d R v) (hl : l < nM t) (hT : nT t l = v) : ∃ h' y, f_X9_writeFrom 178 2 r (nI (5 - R.length)) (sI h 179 (5 - R.length) (nI l)) = some h' ∧ frB (6 - R.length) h h' ∧ XQ h' r t B D a b k d (l :: R) (nF t l) ∧ gI h' 180 (5 - R.length) = nI (fwv y) ∧ okT y ∧ ∃ ys, plS t B D (l :: R) (y :: ys) := by
  obtain ⟨E, e1, e2, e6, e7, e8, lr, c, ys, p, x⟩ := X
  have hyl := plS_len p
  have f1 : frm bkX h (sI h 179 (5 - R.length) (nI l)) := frm.sI (by decide) frm.rf
  have E1 := E.fr f1 (by decide) hr
  have hch : chF t (nF t l) (l :: R) b := ⟨hl, rfl, by rw [hT]; exact c⟩
  have g1 : ∀ cc j, j ≠ 5 - R.length → gI (sI h 179 (5 - R.length) (nI l)) cc j = gI h cc j := fun cc j hj => gI_sI_nk hj
  have lr1 : lrep (gI (sI h 179 (5 - R.length) (nI l)) 179) (5 - R.length) (l :: R) := by
    intro i hi
    cases i with
    | zero => exact gI_s _ _ _ _
    | succ i =>
      have hi : i + 1 < R.length + 1 := by rw [List.length_cons] at hi; exact hi
      rw [g1 _ _ (by omega)]
      have := lr i (by omega)
      rw [show 5 - R.length + (i + 1) = 6 - R.length + i by omega, this]
      rfl
  have x1 : xrep (sI h 179 (5 - R.length) (nI l)) (5 - R.length + 1) ys := by
    rw [show 5 - R.length + 1 = 6 - R.length by omega]
    exact ⟨fun j hj => ⟨(x.1 j hj).1.cg' (fun cc _ => g1 cc _ (by omega)), (x.1 j hj).2⟩, by rw [g1 _ _ (by omega)]; exact x.2⟩
  obtain ⟨h', e', y, f2, g2, p2, o2, b2⟩ := x_writeFrom (i := 5 - R.length) (l := l) (D := D) (zs := ys) w wB E1 hr lr1 (by omega) hyl (by rw [f1.1 178 (by decide), e1]; congr 1; omega) (by rw [f1.1 178 (by decide)]; exact e2) hD hch x1
  have fB : frB (6 - R.length) h h' := ⟨frm.tr f1 (f2.up (by decide)), fun cc j hj => by rw [g2 _ _ (by omega), g1 _ _ (by omega)]⟩
  have g178 := fB.1.1 178 (by decide)
  have hlen : 6 - (l :: R).length = 5 - R.length := by rw [List.length_cons]; omega
  refine ⟨h', y, e', fB, ⟨E.fr fB.1 (by decide) hr, by rw [g178]; exact e1, by rw [g178]; exact e2, by rw [g178]; exact e6, by rw [g178]; exact e7, by rw [g178]; exact e8, ?_, hch, y :: ys, ⟨y, ys, rfl, p, b2⟩, ?_⟩, p2.fw, o2, ys, y, ys, rfl, p, b2⟩
  · rw [hlen, f2.1 179 (by decide)]; exact lr1
  · rw [hlen]
    refine ⟨fun j hj => ?_, ?_⟩
    · cases j with
      | zero => exact ⟨p2, o2⟩
      | succ j =>
        have hj : j + 1 < ys.length + 1 := by rw [List.length_cons] at hj; exact hj
        have := x.1 j (by omega)
        rw [show 5 - R.length + (j + 1) = 6 - R.length + j by omega]
        exact ⟨this.1.cg' (fun cc _ => fB.2 cc _ (by omega)), this.2⟩
    · rw [List.length_cons, show 5 - R.length + (ys.length + 1) = 6 - R.length + ys.length by omega, fB.2 180 _ (by omega)]
      exact x.2
theorem x_countBack {r : Nat} {t : NT} {B : Nat → Option (Nat × List Nat)} {D a b k d : Nat} (w : wfN t) (wB : wfB t B) (hr : r + 2 < 178) (hD : D ≤ 12) (hd : d ≤ 12) (hk : k ≤ 6) (ha : a < nN t) : ∀ (n j : Nat) (R sn : List Nat) (v : Nat) (x : Int32) (h : MH), j < n → R.length + j = k → v ≠ a → sees x sn → XQ h r t B D a b k d R v → v < nN t → Ev (f_X9_countBack 178 2 r n (nI v, nI (6 - R.length), x) h) (fun q => q.1 = nI (cw (nT t) (nF t) (nU t) (nM t) a (fun Q => gdR t B D d Q.reverse) j sn R.reverse v) ∧ frB (6 - R.length) h q.2) := by
  have hn10 := w.2.1
  have hm30 := w.2.2.1
  intro n
  induction n with
  | zero => intro j R sn v x h hj; omega
  | succ n IH =>
    intro j R sn v x h hj hRj hva hs X hv
    have hX := X
    obtain ⟨E, e1, e2, e6, e7, e8, lr, c, ys, p, xr⟩ := X
    have hyl := plS_len p
    show Ev (f_X9_countBackb (f_X9_countBack 178 2 r n) 178 2 r (nI v) (nI (6 - R.length)) x h) _
    unfold f_X9_countBackb
    rw [e7, e1]
    cases j with
    | zero =>
      rw [if_neg (nI_nlt (by omega) (by omega))]
      refine Ev_some ⟨?_, frB.rf⟩
      show (0 : Int32) = nI (if v = a then _ else 0)
      rw [if_neg hva]
      rfl
    | succ j =>
      rw [if_pos (nI_lt (by omega) (by omega)), if_pos (show (0 : Int32) < nI (6 - R.length) from nI_lt (a := 0) (by omega) (by omega)), if_neg (nI_nlt (by omega) (by omega)), lt_def, show nI (6 - R.length) - 1 = nI (5 - R.length) by rw [pI_sub, show 6 - R.length = (5 - R.length) + 1 by omega, pI_s]]
      rw [cw_s, if_neg hva]
      unfold f_X9_countBack_37
      refine Ev_FU (fun m p h1 => ∃ l, l + m = nM t ∧ p = (nI (sumTo (fun l => if nT t l = v ∧ nU t l = true ∧ nF t l ∉ sn then cw (nT t) (nF t) (nU t) (nM t) a (fun Q => gdR t B D d Q.reverse) j (nF t l :: sn) (R.reverse ++ [l]) (nF t l) else 0) l), nI l) ∧ frB (6 - R.length) h h1) (nM t) (0, 0) h (by omega) ⟨0, by omega, rfl, frB.rf⟩ ?_
      rintro m p h1 rec ⟨l, hl, rfl, f1⟩ ih
      have X1 : XQ h1 r t B D a b k d R v := hX.fr hr f1
      have E1 := X1.1
      have L1 := E1.1
      unfold f_X9_countBack_37b
      show Ev (if nI l < gI h1 2 1 then _ else _) _
      rw [show gI h1 2 1 = nI (nM t) from E1.2.1.2.1]
      by_cases q : l < nM t
      · obtain ⟨w1, w2, w3, w4, w5⟩ := w.2.2.2 l q
        have xl := E1.2.1.2.2.2.1 l q
        have step : ∀ (c : Nat) h2, frB (6 - R.length) h h2 → c = (if nT t l = v ∧ nU t l = true ∧ nF t l ∉ sn then cw (nT t) (nF t) (nU t) (nM t) a (fun Q => gdR t B D d Q.reverse) j (nF t l :: sn) (R.reverse ++ [l]) (nF t l) else 0) → Ev (f_X9_countBack_177 (f_X9_countBack 178 2 r n) rec 178 2 r (nI v) x (nI (sumTo (fun l => if nT t l = v ∧ nU t l = true ∧ nF t l ∉ sn then cw (nT t) (nF t) (nU t) (nM t) a (fun Q => gdR t B D d Q.reverse) j (nF t l :: sn) (R.reverse ++ [l]) (nF t l) else 0) l + c)) (nI (5 - R.length)) (nI l) h2) (fun q => q.1 = nI (sumTo (fun l => if nT t l = v ∧ nU t l = true ∧ nF t l ∉ sn then cw (nT t) (nF t) (nU t) (nM t) a (fun Q => gdR t B D d Q.reverse) j (nF t l :: sn) (R.reverse ++ [l]) (nF t l) else 0) (nM t)) ∧ frB (6 - R.length) h q.2) := fun c h2 f2 hc => by
          unfold f_X9_countBack_177
          rw [nI_1]
          refine ih (m - 1) _ _ (by omega) ⟨l + 1, by omega, ?_, f2⟩
          rw [hc]
          rfl
        have skip : ¬ (nT t l = v ∧ nU t l = true ∧ nF t l ∉ sn) → Ev (f_X9_countBack_177 (f_X9_countBack 178 2 r n) rec 178 2 r (nI v) x (nI (sumTo (fun l => if nT t l = v ∧ nU t l = true ∧ nF t l ∉ sn then cw (nT t) (nF t) (nU t) (nM t) a (fun Q => gdR t B D d Q.reverse) j (nF t l :: sn) (R.reverse ++ [l]) (nF t l) else 0) l)) (nI (5 - R.length)) (nI l) h1) (fun q => q.1 = nI (sumTo (fun l => if nT t l = v ∧ nU t l = true ∧ nF t l ∉ sn then cw (nT t) (nF t) (nU t) (nM t) a (fun Q => gdR t B D d Q.reverse) j (nF t l :: sn) (R.reverse ++ [l]) (nF t l) else 0) (nM t)) ∧ frB (6 - R.length) h q.2) := fun z => step 0 h1 f1 (by rw [if_neg z])
        rw [if_pos (nI_lt q (by omega)), L1.n3, Option.bind_some]
        show Ev ((ldI h1 3 (nI l)).bind _) _
        rw [ldI_ok (by rw [L1.z3]; omega) (by omega), Option.bind_some, show gI h1 3 l = nI (nF t l) from xl.1, L1.n4, Option.bind_some]
        show Ev ((ldI h1 4 (nI l)).bind _) _
        rw [ldI_ok (by rw [L1.z4]; omega) (by omega), Option.bind_some, show gI h1 4 l = nI (nT t l) from xl.2.1]
        by_cases c1 : nT t l = v
        · rw [if_pos (by rw [c1])]
          show Ev ((f_X2_isUp 2 (nI l) h1).bind _) _
          rw [w_isUp w E1 q, Option.bind_some]
          by_cases c2 : nU t l = true
          · rw [if_neg (fun z => bI_0.mp z c2)]
            have hb := bit_ush (x := x) (l := nF t l) (by omega)
            have hsb := hs (nF t l) (by omega)
            by_cases c3 : nF t l ∈ sn
            · rw [if_neg (fun z => by rw [hsb.mpr c3] at hb; exact absurd (hb.mp z) (by decide))]
              exact skip (fun z => z.2.2 c3)
            · rw [if_pos (hb.mpr (by cases e : bit x (nF t l) with | false => rfl | true => exact absurd (hsb.mp e) c3))]
              have cyes : nT t l = v ∧ nU t l = true ∧ nF t l ∉ sn := ⟨c1, c2, c3⟩
              obtain ⟨h2, y, e', f2, X2, g2, o2, ys2, p2⟩ := x_front w wB hr hD (by omega) X1 q c1
              have L2 := X2.1.1
              have go : ¬ (nF t l ≠ a ∧ j = 0) → Ev (f_X9_countBack_109 (f_X9_countBack 178 2 r n) rec 178 2 r (nI v) x (nI (sumTo (fun l => if nT t l = v ∧ nU t l = true ∧ nF t l ∉ sn then cw (nT t) (nF t) (nU t) (nM t) a (fun Q => gdR t B D d Q.reverse) j (nF t l :: sn) (R.reverse ++ [l]) (nF t l) else 0) l)) (nI (5 - R.length)) (nI l) (nI (nF t l)) h1) (fun q => q.1 = nI (sumTo (fun l => if nT t l = v ∧ nU t l = true ∧ nF t l ∉ sn then cw (nT t) (nF t) (nU t) (nM t) a (fun Q => gdR t B D d Q.reverse) j (nF t l :: sn) (R.reverse ++ [l]) (nF t l) else 0) (nM t)) ∧ frB (6 - R.length) h q.2) := fun hgo => by
                unfold f_X9_countBack_109
                rw [L1.i0, Option.bind_some, stI_ok (by rw [L1.w179]; omega) (by omega), Option.bind_some, e', Option.bind_some, X2.2.2.2.1]
                by_cases c4 : nF t l = a
                · rw [if_pos (by rw [c4]), L2.i3, Option.bind_some, ldI_ok (by rw [L2.w180]; omega) (by omega), Option.bind_some, g2, X2.2.2.2.2.2.1]
                  have hg : gdR t B D d (l :: R) = if d < fwv y then 0 else 1 := gdR_of p2 hd
                  have hcw : cw (nT t) (nF t) (nU t) (nM t) a (fun Q => gdR t B D d Q.reverse) j (nF t l :: sn) (R.reverse ++ [l]) (nF t l) = gdR t B D d (l :: R) := by
                    rw [c4, cw_g]
                    show gdR t B D d (R.reverse ++ [l]).reverse = _
                    rw [List.reverse_append, List.reverse_reverse]
                    rfl
                  by_cases c5 : d < fwv y
                  · rw [if_pos (nI_lt c5 (fwv_lt o2))]
                    refine step 0 h2 (f1.tr f2) ?_
                    rw [if_pos cyes, hcw, hg, if_pos c5]
                  · rw [if_neg (nI_nlt (by omega) (by omega)), nI_1]
                    refine step 1 h2 (f1.tr f2) ?_
                    rw [if_pos cyes, hcw, hg, if_neg c5]
                · rw [if_neg (fun z => c4 (nI_inj (by omega) (by omega) z))]
                  have hlen : 6 - (l :: R).length = 5 - R.length := by rw [List.length_cons]; omega
                  have := IH j (l :: R) (nF t l :: sn) (nF t l) (x ||| ((1 : Int32) <<< (nI (nF t l) &&& 31))) h2 (by omega) (by rw [List.length_cons]; omega) c4 (hs.add (by omega)) X2 w1
                  rw [hlen] at this
                  refine Ev_to this (fun q z => ?_)
                  obtain ⟨z1, z2⟩ := z
                  rw [lt_def, z1, nI_add]
                  refine step _ q.2 ((f1.tr f2).tr (z2.le (by omega))) ?_
                  rw [if_pos cyes, List.reverse_cons]
              by_cases c4 : nF t l = a
              · rw [if_pos (by rw [show gI h1 178 6 = nI a from X1.2.2.2.1, c4])]
                exact go (fun z => z.1 c4)
              · rw [if_neg (show ¬ nI (nF t l) = gI h1 178 6 by rw [show gI h1 178 6 = nI a from X1.2.2.2.1]; exact fun z => c4 (nI_inj (by omega) (by omega) z)), show gI h1 178 7 = nI (6 - k) from X1.2.2.2.2.1]
                by_cases c5 : j = 0
                · rw [if_neg (nI_nlt (by omega) (by omega))]
                  refine step 0 h1 f1 ?_
                  rw [if_pos cyes, c5]
                  show 0 = (if nF t l = a then _ else 0)
                  rw [if_neg c4]
                · rw [if_pos (nI_lt (by omega) (by omega))]
                  exact go (fun z => c5 z.2)
          · rw [if_pos (bI_0.mpr c2)]
            exact skip (fun z => c2 z.2.1)
        · rw [if_neg (fun z => c1 (nI_inj (by omega) (by omega) z))]
          exact skip (fun z => c1 z.1)
      · have : l = nM t := by omega
        subst this
        rw [if_neg (nI_nlt (Nat.le_refl _) (by omega))]
        exact Ev_some ⟨rfl, f1⟩
