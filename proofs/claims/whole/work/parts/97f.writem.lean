/-! ===== the reference's writer ===== -/
def wCel : List Nat := [0, 4, 5, 6, 7, 8, 9, 10, 11, 13, 14, 15, 16]
def frW (h h' : MH) : Prop := frm wCel h h' ∧ ∀ k, k ∉ mFld → k ≠ 7 → gI h' 0 k = gI h 0 k
theorem frW.rf {h : MH} : frW h h := ⟨frm.rf, fun _ _ _ => rfl⟩
theorem frW.tr {h h1 h2 : MH} (a : frW h h1) (b : frW h1 h2) : frW h h2 := ⟨frm.tr a.1 b.1, fun k hk h7 => (b.2 k hk h7).trans (a.2 k hk h7)⟩
theorem frN.frW {h h' : MH} (f : frN h h') : frW h h' := ⟨f.1.up (by decide), f.2⟩
theorem frW.sI {h h' : MH} {b k : Nat} {v : Int32} (hb : b = 13 ∨ b = 14 ∨ b = 15 ∨ b = 16) (a : frW h h') : frW h (sI h' b k v) := ⟨frm.sI (by rcases hb with e | e | e | e <;> rw [e] <;> decide) a.1, fun j hj h7 => by rw [gI_sI_ne (by omega)]; exact a.2 j hj h7⟩
theorem MR.s13 {h : MH} {a : AB} {b k : Nat} {v : Int32} (hb : 12 ≤ b ∧ b ≤ 16) (M : MR h a) : MR (sI h b k v) a :=
  MR.cg (show ML (sI h b k v) from M.1) (fun k _ => gI_sI_ne (by omega)) (gI_sI_f (by omega)) (gI_sI_f (by omega)) (gI_sI_f (by omega)) (gI_sI_f (by omega)) (gI_sI_f (by omega)) (gI_sI_f (by omega)) rfl M
/-- the row at hand -/
def MW (h : MH) (a : AB) (W : List Nat) : Prop := MR h a ∧ gI h 0 27 = nI W.length ∧ lrep (gI h 12) 0 W
theorem MW.fr {h h' : MH} {a : AB} {W : List Nat} (f : frW h h') (M' : MR h' a) (M : MW h a W) : MW h' a W := ⟨M', by rw [f.2 27 (by decide) (by decide)]; exact M.2.1, by rw [f.1.1 12 (by decide)]; exact M.2.2⟩
section MWS
variable {h : MH} {a : AB} {W : List Nat}
theorem m_way {i : Nat} (M : MW h a W) (hi : i < W.length) (hW : W.length ≤ 16) : ldI h 12 (nI i) = some (nI (W.getD i 0)) := by
  have := M.2.2 i hi
  rw [Nat.zero_add] at this
  rw [ldI_ok (by rw [M.1.1.n12]; omega) (by omega), this]
theorem m_nodeAt {i : Nat} (w : wfA a) (M : MW h a W) (hi : i < W.length) (hW : W.length ≤ 16) (hl : W.getD i 0 < nM (sN (aS a))) : f_X11_nodeAt 0 (nI i) h = some (nI (nF (sN (aS a)) (W.getD i 0)), h) := by
  obtain ⟨L, S, -⟩ := MR_iff.mp M.1
  unfold f_X11_nodeAt
  rw [L.r26, Option.bind_some, m_way M hi hW, Option.bind_some, m_from L S.1 w.1.1 hl, Option.bind_some]
theorem pre_step {T ls : List Nat} : ∀ k, k ≤ T.length → T.length ≤ ls.length → ((∀ j, j < k → T.getD j 0 = ls.getD j 0) ↔ T.take k <+: ls) := by
  intro k hk hl
  constructor
  · intro h
    refine ⟨ls.drop k, ?_⟩
    have : T.take k = ls.take k := by
      refine List.ext_getElem ?_ (fun j h1 h2 => ?_)
      · rw [List.length_take, List.length_take]; omega
      · rw [List.length_take] at h1
        have := h j (by omega)
        rw [List.getD_eq_getElem?_getD, List.getD_eq_getElem?_getD, List.getElem?_eq_getElem (by omega), List.getElem?_eq_getElem (by omega)] at this
        rw [List.getElem_take, List.getElem_take]
        exact this
    rw [this, List.take_append_drop]
  · rintro ⟨r, hr⟩ j hj
    rw [← hr, List.getD_eq_getElem?_getD, List.getD_eq_getElem?_getD, List.getElem?_append_left (by rw [List.length_take]; omega), List.getElem?_take_of_lt hj]
theorem m_covered {i : Nat} {d : Option Nat} {s : PK} {sh : Bool} {t : NT} (M : MW h a W) (K : MKE h t d s sh) (hi : i ≤ W.length) (hW : W.length ≤ 16) (hT : (pT s).length ≤ 648) (hTb : ∀ j, j < (pT s).length → (pT s).getD j 0 < 30) (hWb : ∀ j, j < W.length → W.getD j 0 < 30) : f_X11_covered 0 (nI i) h = some (nI (cvd (d, s) (W.drop i)), h) := by
  have L := M.1.1
  have hdl : (W.drop i).length = W.length - i := List.length_drop
  have key : Ev (f_X11_covered 0 (nI i) h) (fun q => q = (nI (cvd (d, s) (W.drop i)), h)) := by
    unfold f_X11_covered
    rw [K.2.2.2.1]
    unfold cvd
    dsimp only
    by_cases c1 : pE s = true
    · obtain ⟨k1, k2⟩ := K.2.2.2.2.2.1 c1
      rw [if_neg (fun z => bI_0.mp z c1), k1]
      by_cases c2 : (pT s).length = 0
      · rw [if_pos (by rw [c2]; rfl)]
        refine Ev_some ?_
        split
        · rw [c2]; rfl
        · rfl
      · rw [if_neg (show ¬ nI (pT s).length = 0 from fun z => c2 (nI_inj (b := 0) (by omega) (by decide) z)), M.2.1, show nI W.length - nI i = nI (W.length - i) from by
          have := subI (a := i) (b := W.length - i)
          rw [show i + (W.length - i) = W.length by omega] at this
          exact this]
        by_cases c3 : W.length - i < (pT s).length
        · rw [if_pos (nI_lt c3 (by omega)), if_neg (fun z => by have := (List.isPrefixOf_iff_prefix.mp z.2).length_le; omega)]
          exact Ev_some rfl
        · rw [if_neg (nI_nlt (by omega) (by omega))]
          unfold f_X11_covered_31
          refine Ev_FU (fun m p h1 => ∃ k, k + m = (pT s).length ∧ p = nI k ∧ h1 = h ∧ ∀ j, j < k → (pT s).getD j 0 = (W.drop i).getD j 0) (pT s).length 0 h (by omega) ⟨0, by omega, rfl, rfl, fun j hj => absurd hj (Nat.not_lt_zero _)⟩ ?_
          rintro m p h1 rec ⟨k, hk, rfl, rfl, hp⟩ ih
          unfold f_X11_covered_31b
          rw [k1]
          by_cases q : k < (pT s).length
          · have hTk := k2 k q
            rw [Nat.zero_add] at hTk
            have b1 := hTb k q
            have b2 := hWb (i + k) (by omega)
            rw [if_pos (nI_lt q (by omega)), L.r19, Option.bind_some, ldI_ok (by rw [L.n7]; omega) (by omega), Option.bind_some, hTk, L.r26, Option.bind_some, nI_add, m_way M (by omega) hW, Option.bind_some, nI_1]
            by_cases c5 : (pT s).getD k 0 = W.getD (i + k) 0
            · rw [if_pos (by rw [c5])]
              refine ih (m - 1) _ _ (by omega) ⟨k + 1, by omega, rfl, rfl, fun j hj => ?_⟩
              by_cases q2 : j = k
              · rw [q2, getD_drop]; exact c5
              · exact hp j (by omega)
            · rw [if_neg (fun z => c5 (nI_inj (by omega) (by omega) z)), if_neg (fun z => c5 ?_)]
              · exact Ev_some rfl
              · have hpre := List.isPrefixOf_iff_prefix.mp z.2
                have := (pre_step (T := pT s) (ls := W.drop i) (pT s).length (Nat.le_refl _) (by omega)).mpr (by rw [List.take_length]; exact hpre) k q
                rw [this, getD_drop]
          · have hk' : k = (pT s).length := by omega
            subst hk'
            rw [if_neg (nI_nlt (Nat.le_refl _) (by omega)), if_pos ⟨c1, List.isPrefixOf_iff_prefix.mpr (by
              have := (pre_step (T := pT s) (ls := W.drop i) (pT s).length (Nat.le_refl _) (by omega)).mp hp
              rw [List.take_length] at this
              exact this)⟩]
            exact Ev_some rfl
    · rw [if_pos (bI_0.mpr c1), if_neg (fun z => c1 z.1)]
      exact Ev_some rfl
  obtain ⟨q, e, rfl⟩ := key
  exact e
theorem m_goesW {i u la o : Nat} {ks : List Nat} (w : wfA a) (M : MW h a W) (hu : u < nN (sN (aS a))) (hk : stkOK ks) (hla : la = 1 ∨ la = 3 ∨ la = 16) (hl : lrep (gI h la) o ks) (ho : o + ks.length ≤ gN h la) (hN : gN h la < 2 ^ 31) (hi : i ≤ W.length) (hW : W.length ≤ 16) (hWb : ∀ j, j < W.length → W.getD j 0 < nM (sN (aS a))) : ∃ h', f_X11_goes 0 (nI u) la (nI o) (nI ks.length) 0 h = some h' ∧ frW h h' ∧ MW h' a W ∧ f_X11_covered 0 (nI i) h' = some (nI (cvd (pkt (sN (aS a)) (sB (aS a)) u ks) (W.drop i)), h') ∧ ∀ b, 12 ≤ b → gI h' b = gI h b := by
  have wN := w.1.1
  have hm30 := wN.2.2.1
  obtain ⟨h', e, M', f, K⟩ := m_goes (sh := false) (xs := 0) w M.1 hu hk hla hl ho hN rfl
  obtain ⟨z1, z2, z3, z4, z5, z6, z7⟩ := pkt_end (B := sB (aS a)) wN w.1.2.1 hu hk
  have MW' := M.fr f.frW M'
  exact ⟨h', e, f.frW, MW', m_covered MW' K hi hW z3 (fun j hj => Nat.lt_of_lt_of_le (chF_mem z6 j hj) hm30) (fun j hj => by have := hWb j hj; omega), fun b hb => f.1.1 b (by simp; omega)⟩
theorem m_coveredByN {i v : Nat} (w : wfA a) (M : MW h a W) (hv : v < nN (sN (aS a))) (hi : i < W.length) (hW : W.length ≤ 16) (hWb : ∀ j, j < W.length → W.getD j 0 < nM (sN (aS a))) : ∃ h', f_X11_coveredBy 0 (nI i) (nI v) h = some (nI (cvd (pkt (sN (aS a)) (sB (aS a)) (nF (sN (aS a)) (W.getD i 0)) [v]) (W.drop i)), h') ∧ frW h h' ∧ MW h' a W ∧ ∀ b, 13 ≤ b → b ≤ 15 → gI h' b = gI h b := by
  have hn10 := w.1.1.2.1
  have L := M.1.1
  have hl := hWb i hi
  have M1 : MW (sI h 16 0 (nI v)) a W := ⟨M.1.s13 (by decide), by rw [gI_sI_ne (by decide)]; exact M.2.1, by rw [gI_sI_f (by decide)]; exact M.2.2⟩
  obtain ⟨h', e, f, M', ec, eg⟩ := m_goesW (i := i) (u := nF (sN (aS a)) (W.getD i 0)) (la := 16) (o := 0) (ks := [v]) w M1 (w.1.1.2.2.2 _ hl).1 ⟨by simp, fun j hj => by
    have : j = 0 := by simp at hj; omega
    rw [this]; show isLab v; unfold isLab; omega⟩ (Or.inr (Or.inr rfl)) (fun j hj => by
    have : j = 0 := by simp at hj; omega
    rw [this]; exact gI_s _ _ _ _) (by show 0 + 1 ≤ gN h 16; rw [L.n16]; decide) (by show gN h 16 < _; rw [L.n16]; decide) (by omega) hW hWb
  refine ⟨h', ?_, frW.tr (frW.sI (by omega) frW.rf) f, M', fun b h1 h2 => ?_⟩
  · unfold f_X11_coveredBy
    rw [if_pos (show nI v < 100 from nI_lt (b := 100) (by omega) (by decide)), L.r31, Option.bind_some, show stI h 16 0 (nI v) = some (sI h 16 0 (nI v)) from stI_ok (i := 0) (by rw [L.n16]; decide) (by decide), Option.bind_some, m_nodeAt w M1 hi hW hl, Option.bind_some]
    dsimp only
    rw [show gR (sI h 16 0 (nI v)) 0 31 = some 16 from L.r31, Option.bind_some, show f_X11_goes 0 (nI (nF (sN (aS a)) (W.getD i 0))) 16 0 1 0 (sI h 16 0 (nI v)) = some h' from e, Option.bind_some, ec, Option.bind_some]
  · rw [eg b (by omega), gI_sI_f (by omega)]
theorem m_coveredByL {i : Nat} (w : wfA a) (M : MW h a W) (hi : i < W.length) (hW : W.length ≤ 16) (hWb : ∀ j, j < W.length → W.getD j 0 < nM (sN (aS a))) : f_X11_coveredBy 0 (nI i) (nI (100 + W.getD i 0)) h = some (bI (nU (sN (aS a)) (W.getD i 0) = true), h) := by
  have hm30 := w.1.1.2.2.1
  obtain ⟨L, S, -⟩ := MR_iff.mp M.1
  have hl := hWb i hi
  unfold f_X11_coveredBy
  rw [if_neg (show ¬ nI (100 + W.getD i 0) < 100 from nI_nlt (b := 100) (by omega) (by omega)), L.r26, Option.bind_some, m_way M hi hW, Option.bind_some, if_pos (show nI (100 + W.getD i 0) - 100 = nI (W.getD i 0) from subI (a := 100)), Option.bind_some, m_way M hi hW, Option.bind_some, m_isUp L S.1 w.1.1 hl, Option.bind_some]
  unfold bI
  by_cases c : nU (sN (aS a)) (W.getD i 0) = true
  · rw [if_pos c, if_neg (show ¬ (1 : Int32) = 0 by decide)]
  · rw [if_neg c, if_pos (show (0 : Int32) = 0 from rfl)]
noncomputable def cvB (t : NT) (B : Nat → Option (Nat × List Nat)) (u b : Nat) (LS : List Nat) : Nat := match B b with
  | none => 0
  | some q => if q.1 = u then cvd (pkt t B u q.2) LS else 0
theorem m_coveredByB {i b : Nat} (w : wfA a) (M : MW h a W) (hb : b < 6) (hi : i < W.length) (hW : W.length ≤ 16) (hWb : ∀ j, j < W.length → W.getD j 0 < nM (sN (aS a))) : ∃ h', f_X11_coveredByBinding 0 (nI i) (nI b) h = some (nI (cvB (sN (aS a)) (sB (aS a)) (nF (sN (aS a)) (W.getD i 0)) b (W.drop i)), h') ∧ frW h h' ∧ MW h' a W ∧ ∀ b, 12 ≤ b → gI h' b = gI h b := by
  have hn10 := w.1.1.2.1
  obtain ⟨L, S, -⟩ := MR_iff.mp M.1
  have hl := hWb i hi
  have hu := (w.1.1.2.2.2 _ hl).1
  have ms := S.2.1 b hb
  unfold f_X11_coveredByBinding cvB
  rw [L.r1, Option.bind_some, show (122 : Int32) + nI b = nI (122 + b) from nI_add 122 b, m_now L (by omega), Option.bind_some, m_nodeAt w M hi hW hl, Option.bind_some]
  dsimp only
  rw [nI_1]
  cases eB : sB (aS a) b with
  | none =>
    rw [ms.1 eB, if_neg (fun z => by have := nI_inj (a := 0) (by decide) (by omega) z; omega)]
    exact ⟨h, rfl, frW.rf, M, fun _ _ => rfl⟩
  | some q =>
    obtain ⟨q1, q2, q3⟩ := ms.2 q eB
    obtain ⟨b1, b2, b3, b4⟩ := w.1.2.1 b hb q eB
    rw [q1]
    dsimp only
    by_cases c : q.1 = nF (sN (aS a)) (W.getD i 0)
    · obtain ⟨h', e, f, M', ec, eg⟩ := m_goesW (i := i) (u := nF (sN (aS a)) (W.getD i 0)) (la := 1) (o := 134 + 6 * b) (ks := q.2) w M hu ⟨by omega, fun j hj => plLab_is (b4 j hj)⟩ (Or.inl rfl) q3 (by rw [L.n1]; omega) (by rw [L.n1]; decide) (by omega) hW hWb
      rw [if_pos (by rw [c]), if_pos c, m_nodeAt w M hi hW hl, Option.bind_some]
      dsimp only
      rw [L.r1, Option.bind_some, Option.bind_some, show (128 : Int32) + nI b = nI (128 + b) from nI_add 128 b, m_now L (by omega), Option.bind_some, q2, show (134 : Int32) + 6 * nI b = nI (134 + 6 * b) from by
        show nI 134 + nI 6 * nI b = _
        rw [pk_mul, nI_add], e, Option.bind_some, ec, Option.bind_some]
      exact ⟨h', rfl, f, M', eg⟩
    · rw [if_neg (fun z => c (by have := nI_inj (by omega) (by omega) z; omega)), if_neg c]
      exact ⟨h, rfl, frW.rf, M, fun _ _ => rfl⟩
end MWS
def prM (h : MH) (j : Nat) (y : Option TR) : Prop := match y with
  | none => gI h 13 j = -1
  | some z => gI h 13 j = nI z.1 ∧ gI h 14 j = nI z.2.2 ∧ gI h 15 j = nI z.2.1
def fwm (y : Option TR) : Int32 := match y with
  | none => -1
  | some z => nI z.1
theorem prM.fw {h : MH} {j : Nat} {y : Option TR} (p : prM h j y) : gI h 13 j = fwm y := by
  cases y with
  | none => exact p
  | some z => exact p.1
theorem prM.cg {h h' : MH} {j : Nat} {y : Option TR} (hg : ∀ b, 13 ≤ b → b ≤ 15 → gI h' b j = gI h b j) (p : prM h j y) : prM h' j y := by
  cases y with
  | none => show gI h' 13 j = _; rw [hg 13 (by decide) (by decide)]; exact p
  | some z =>
    obtain ⟨p1, p2, p3⟩ := p
    exact ⟨by rw [hg 13 (by decide) (by decide)]; exact p1, by rw [hg 14 (by decide) (by decide)]; exact p2, by rw [hg 15 (by decide) (by decide)]; exact p3⟩
def mrep (h : MH) (i : Nat) (ys : List (Option TR)) : Prop := (∀ j, j < ys.length → prM h (i + j) (ys.getD j none) ∧ okT (ys.getD j none)) ∧ gI h 13 (i + ys.length) = nI 0
theorem mrep.cg {h h' : MH} {i : Nat} {ys : List (Option TR)} (hg : ∀ b, 13 ≤ b → b ≤ 15 → ∀ j, i ≤ j → gI h' b j = gI h b j) (R : mrep h i ys) : mrep h' i ys := ⟨fun j hj => ⟨(R.1 j hj).1.cg (fun b h1 h2 => hg b h1 h2 _ (by omega)), (R.1 j hj).2⟩, by rw [hg 13 (by decide) (by decide) _ (by omega)]; exact R.2⟩
theorem m_fwAt {h : MH} {i c : Nat} {zs : List (Option TR)} (R : mrep h (i + 1) zs) (hc : 1 ≤ c) (hc2 : c ≤ zs.length + 1) : gI h 13 (i + c) = (match offs zs c with
  | some f => nI f
  | none => -1) := by
  rcases offs_is hc hc2 with ⟨e, o⟩ | ⟨e, y, ey, o⟩
  · rw [o, e, show i + (zs.length + 1) = i + 1 + zs.length by omega]; exact R.2
  · rw [o]
    have := (R.1 (c - 1) (by omega)).1
    rw [ey, show i + 1 + (c - 1) = i + c by omega] at this
    cases y with
    | none => exact this
    | some z => exact this.1
theorem m_tries {h : MH} {i c lab g D : Nat} {zs : List (Option TR)} {cur : Option TR} {S : TR → Prop} {xg : Int32} (L : ML h) (eD : gI h 0 4 = nI D) (hD : D ≤ 12) (h16 : i + 1 + zs.length ≤ 16) (R : mrep h (i + 1) zs) (C : prM h i cur) (okc : okT cur) (hc : c ≤ zs.length + 1) (hlab : lab < 300) (hg : 1 ≤ c → 1 ≤ g ∧ g ≤ 12 ∧ xg = nI g) (hb : isBest S cur) : ∃ h' cur', f_X11_tries 0 (nI i) (nI lab) (nI c) xg h = some h' ∧ frm [13, 14, 15] h h' ∧ (∀ a j, j ≠ i → gI h' a j = gI h a j) ∧ prM h' i cur' ∧ okT cur' ∧ isBest (fun x => S x ∨ totL D zs g c lab x) cur' := by
  have same : (∀ x, ¬ totL D zs g c lab x) → f_X11_tries 0 (nI i) (nI lab) (nI c) xg h = some h → ∃ h' cur', f_X11_tries 0 (nI i) (nI lab) (nI c) xg h = some h' ∧ frm [13, 14, 15] h h' ∧ (∀ a j, j ≠ i → gI h' a j = gI h a j) ∧ prM h' i cur' ∧ okT cur' ∧ isBest (fun x => S x ∨ totL D zs g c lab x) cur' := fun hn e =>
    ⟨h, cur, e, frm.rf, fun _ _ _ => rfl, C, okc, isBest_cg (fun x => ⟨Or.inl, fun z => z.elim id (fun z => absurd z (hn x))⟩) hb⟩
  by_cases c0 : c = 0
  · refine same (fun x z => by have := z.1; omega) ?_
    unfold f_X11_tries
    rw [if_pos (by rw [c0]; rfl)]
  · obtain ⟨g1, g2, rfl⟩ := hg (by omega)
    have l1 : ¬ nI c = 0 := fun z => c0 (nI_inj (b := 0) (by omega) (by decide) z)
    have hf := m_fwAt R (c := c) (by omega) (by omega)
    have q1 : ldI h 13 (nI (i + c)) = some (gI h 13 (i + c)) := ldI_ok (by rw [L.n13]; omega) (by omega)
    have q2 : ldI h 13 (nI i) = some (fwm cur) := by rw [ldI_ok (by rw [L.n13]; omega) (by omega), C.fw]
    have q3 : ldI h 14 (nI i) = some (gI h 14 i) := ldI_ok (by rw [L.n14]; omega) (by omega)
    have q4 : ldI h 15 (nI i) = some (gI h 15 i) := ldI_ok (by rw [L.n15]; omega) (by omega)
    cases eo : offs zs c with
    | none =>
      rw [eo] at hf
      have hf : gI h 13 (i + c) = -1 := hf
      refine same (fun x z => by obtain ⟨_, _, f, z3, _⟩ := z; rw [eo] at z3; cases z3) ?_
      unfold f_X11_tries
      rw [if_neg l1, L.r28, Option.bind_some, nI_add, q1, Option.bind_some, hf, if_pos rfl]
    | some f =>
      rw [eo] at hf
      have hf : gI h 13 (i + c) = nI f := hf
      have hfb := offs_bd (fun j hj => (R.1 j hj).2) (by omega) (by omega) eo
      have l0 : ¬ nI f = -1 := nI_m1 (by omega)
      by_cases c2 : D < f + g
      · refine same (fun x z => by obtain ⟨_, _, f', z3, z4, _⟩ := z; rw [eo] at z3; have := Option.some.inj z3; omega) ?_
        unfold f_X11_tries
        rw [if_neg l1, L.r28, Option.bind_some, nI_add, q1, Option.bind_some, hf, if_neg l0, Option.bind_some, q1, Option.bind_some, hf, lt_def, eD, show (1 : Int32) + nI f = nI (1 + f) from nI_add 1 f]
        by_cases c3 : D < 1 + f
        · rw [if_pos (nI_lt c3 (by omega))]
        · rw [if_neg (nI_nlt (by omega) (by omega)), Option.bind_some, q1, Option.bind_some, hf, nI_add, if_pos (nI_lt (by omega) (by omega))]
      · have l3 : ¬ nI D < nI (1 + f) := nI_nlt (by omega) (by omega)
        have l4 : ¬ nI D < nI (g + f) := nI_nlt (by omega) (by omega)
        have htot : ∀ x, totL D zs g c lab x ↔ x = (f + 1, c, lab) := fun x => by
          constructor
          · rintro ⟨_, _, f', z3, z4, z5⟩
            rw [eo] at z3
            rw [z5, ← Option.some.inj z3]
          · rintro rfl
            exact ⟨by omega, by omega, f, eo, by omega, rfl⟩
        have hcg : ∀ cur', isBest (fun x => S x ∨ x = (f + 1, c, lab)) cur' → isBest (fun x => S x ∨ totL D zs g c lab x) cur' := fun cur' z => isBest_cg (fun x => by rw [htot x]) z
        have pre : f_X11_tries 0 (nI i) (nI lab) (nI c) (nI g) h = (if fwm cur = -1 then f_X11_tries_119 0 (nI i) (nI lab) (nI c) (nI (1 + f)) h else if nI (1 + f) < fwm cur then f_X11_tries_119 0 (nI i) (nI lab) (nI c) (nI (1 + f)) h else if nI (1 + f) = fwm cur then (if gI h 15 i < nI c then f_X11_tries_119 0 (nI i) (nI lab) (nI c) (nI (1 + f)) h else if nI c = gI h 15 i then (if nI lab < gI h 14 i then f_X11_tries_119 0 (nI i) (nI lab) (nI c) (nI (1 + f)) h else f_X11_tries_123 0 (nI i) (nI lab) (nI c) (nI (1 + f)) h) else f_X11_tries_123 0 (nI i) (nI lab) (nI c) (nI (1 + f)) h) else f_X11_tries_123 0 (nI i) (nI lab) (nI c) (nI (1 + f)) h) := by
          unfold f_X11_tries
          rw [if_neg l1]
          simp only [L.r28, L.r29, L.r30, Option.bind_some, nI_add, q1, q2, q3, q4, hf, eD, lt_def, if_neg l0, show (1 : Int32) + nI f = nI (1 + f) from nI_add 1 f, if_neg l3, if_neg l4]
        have kp : f_X11_tries_123 0 (nI i) (nI lab) (nI c) (nI (1 + f)) h = some h := by
          unfold f_X11_tries_123 f_X11_tries_124
          rw [if_pos rfl]
        have keep : ∀ z, cur = some z → ¬ bet (f + 1, c, lab) z → f_X11_tries 0 (nI i) (nI lab) (nI c) (nI g) h = f_X11_tries_123 0 (nI i) (nI lab) (nI c) (nI (1 + f)) h → ∃ h' cur', f_X11_tries 0 (nI i) (nI lab) (nI c) (nI g) h = some h' ∧ frm [13, 14, 15] h h' ∧ (∀ a j, j ≠ i → gI h' a j = gI h a j) ∧ prM h' i cur' ∧ okT cur' ∧ isBest (fun x => S x ∨ totL D zs g c lab x) cur' := fun z ez hz e =>
          ⟨h, cur, e.trans kp, frm.rf, fun _ _ _ => rfl, C, okc, hcg _ (by rw [ez] at hb ⊢; exact isBest_old hb hz)⟩
        have set : (∀ z, cur = some z → ¬ bet z (f + 1, c, lab)) → f_X11_tries 0 (nI i) (nI lab) (nI c) (nI g) h = f_X11_tries_119 0 (nI i) (nI lab) (nI c) (nI (1 + f)) h → ∃ h' cur', f_X11_tries 0 (nI i) (nI lab) (nI c) (nI g) h = some h' ∧ frm [13, 14, 15] h h' ∧ (∀ a j, j ≠ i → gI h' a j = gI h a j) ∧ prM h' i cur' ∧ okT cur' ∧ isBest (fun x => S x ∨ totL D zs g c lab x) cur' := fun hz e => by
          refine ⟨sI (sI (sI h 13 i (nI (1 + f))) 14 i (nI lab)) 15 i (nI c), some (f + 1, c, lab), ?_, frm.sI (by decide) (frm.sI (by decide) (frm.sI (by decide) frm.rf)), fun a j hj => by rw [gI_sI_nk hj, gI_sI_nk hj, gI_sI_nk hj], ⟨?_, ?_, ?_⟩, fun z ez => ?_, hcg _ (isBest_new hb hz)⟩
          · rw [e]
            unfold f_X11_tries_119 f_X11_tries_124
            rw [if_neg (show ¬ (1 : Int32) = 0 by decide), L.r28, Option.bind_some, stI_ok (by rw [L.n13]; omega) (by omega), Option.bind_some, show gR (sI h 13 i (nI (1 + f))) 0 29 = some 14 from L.r29, Option.bind_some, stI_ok (by rw [gN_sI, L.n14]; omega) (by omega), Option.bind_some, show gR (sI (sI h 13 i (nI (1 + f))) 14 i (nI lab)) 0 30 = some 15 from L.r30, Option.bind_some, stI_ok (by rw [gN_sI, gN_sI, L.n15]; omega) (by omega), Option.bind_some]
          · rw [gI_sI_ne (by decide), gI_sI_ne (by decide), gI_s, Nat.add_comm]
          · rw [gI_sI_ne (by decide), gI_s]
          · rw [gI_s]
          · rw [← Option.some.inj ez]
            exact ⟨by dsimp only; omega, by dsimp only; omega, hlab, by dsimp only; omega, by dsimp only; omega⟩
        cases hcur : cur with
        | none =>
          rw [hcur] at pre
          rw [show fwm none = -1 from rfl, if_pos rfl] at pre
          exact set (fun z ez => by rw [hcur] at ez; cases ez) pre
        | some z =>
          rw [hcur] at pre C okc
          obtain ⟨o1, o2, o3, o4, o5⟩ := okc z rfl
          obtain ⟨p1, p2, p3⟩ := C
          rw [show fwm (some z) = nI z.1 from rfl, p2, p3, if_neg (nI_m1 (by omega))] at pre
          by_cases d1 : 1 + f < z.1
          · rw [if_pos (nI_lt d1 (by omega))] at pre
            exact set (fun z' ez => by rw [hcur] at ez; rw [← Option.some.inj ez]; unfold bet; dsimp only; omega) pre
          · rw [if_neg (nI_nlt (by omega) (by omega))] at pre
            by_cases d2 : 1 + f = z.1
            · rw [if_pos (by rw [d2])] at pre
              by_cases d3 : z.2.1 < c
              · rw [if_pos (nI_lt d3 (by omega))] at pre
                exact set (fun z' ez => by rw [hcur] at ez; rw [← Option.some.inj ez]; unfold bet; dsimp only; omega) pre
              · rw [if_neg (nI_nlt (by omega) (by omega))] at pre
                by_cases d4 : c = z.2.1
                · rw [if_pos (by rw [d4])] at pre
                  by_cases d5 : lab < z.2.2
                  · rw [if_pos (nI_lt d5 (by omega))] at pre
                    exact set (fun z' ez => by rw [hcur] at ez; rw [← Option.some.inj ez]; unfold bet; dsimp only; omega) pre
                  · rw [if_neg (nI_nlt (by omega) (by omega))] at pre
                    exact keep z hcur (by unfold bet; dsimp only; omega) pre
                · rw [if_neg (fun q => d4 (nI_inj (by omega) (by omega) q))] at pre
                  exact keep z hcur (by unfold bet; dsimp only; omega) pre
            · rw [if_neg (fun q => d2 (nI_inj (by omega) (by omega) q))] at pre
              exact keep z hcur (by unfold bet; dsimp only; omega) pre
