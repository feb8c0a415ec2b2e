/-! ===== the reference's writer: fewest labels ===== -/
section MFW
variable {h : MH} {a : AB} {W : List Nat}
theorem MR.w3 {h h' : MH} {a : AB} (f : frm [13, 14, 15] h h') (M : MR h a) : MR h' a :=
  MR.cg (ML.fr f M.1) (fun k _ => by rw [f.1 0 (by decide)]) (f.1 _ (by decide)) (f.1 _ (by decide)) (f.1 _ (by decide)) (f.1 _ (by decide)) (f.1 _ (by decide)) (f.1 _ (by decide)) (f.2.1 _ (by decide)) M
theorem frW.w3 {h h' : MH} (f : frm [13, 14, 15] h h') : frW h h' := ⟨f.up (by decide), fun k _ _ => by rw [f.1 0 (by decide)]⟩
theorem m_place {i e : Nat} {zs : List (Option TR)} {k17 : Int32 → MH → Option MH} {Post : MH → Prop} (w : wfA a) (M : MW h a W) (hi : i < W.length) (hW : W.length ≤ 16) (hch : chF (sN (aS a)) (nF (sN (aS a)) (W.getD i 0)) (W.drop i) e) (hWb : ∀ j, j < W.length → W.getD j 0 < nM (sN (aS a))) (hzl : i + 1 + zs.length = W.length) (R : mrep h (i + 1) zs) (C : prM h i none) (hk : ∀ h' y, frW h h' → MW h' a W → (∀ b, 13 ≤ b → b ≤ 15 → ∀ j, j ≠ i → gI h' b j = gI h b j) → prM h' i y → okT y → isBest (candS (sN (aS a)) (sB (aS a)) (aD a) (W.getD i 0) (W.drop (i + 1)) zs) y → Ev (k17 (pI i) h') Post) : Ev (f_X11_laysFewest_30 k17 0 (nI i) FU 0 h) Post := by
  have wN := w.1.1
  have hn10 := wN.2.1
  have hm30 := wN.2.2.1
  have hl := hWb i hi
  have hdc := drop_cons hi
  have hu := (wN.2.2.2 _ hl).1
  have hD := w.2.2.1.2
  have hdl : (W.drop i).length = W.length - i := List.length_drop
  generalize ht : sN (aS a) = t at *
  generalize hB : sB (aS a) = B at *
  generalize hu' : nF t (W.getD i 0) = u at *
  unfold f_X11_laysFewest_30
  refine Ev_FU (fun m p h1 => ∃ v cur, v + m = nN t ∧ p = nI v ∧ frW h h1 ∧ MW h1 a W ∧ (∀ b, 13 ≤ b → b ≤ 15 → ∀ j, j ≠ i → gI h1 b j = gI h b j) ∧ prM h1 i cur ∧ okT cur ∧ isBest (fun x => ∃ v', v' < v ∧ totL (aD a) zs 1 (cvd (pkt t B u [v']) (W.drop i)) v' x) cur) (nN t) 0 h (by omega) ⟨0, none, by omega, rfl, frW.rf, M, fun _ _ _ _ _ => rfl, C, fun z ez => (by cases ez), fun x z => by obtain ⟨v', z1, _⟩ := z; omega⟩ ?_
  rintro m p h1 rec ⟨v, cur, hvm, rfl, f1, M1, g1, C1, okc1, hb1⟩ ih
  have step : ∀ h2, frW h h2 → MW h2 a W → (∀ b, 13 ≤ b → b ≤ 15 → ∀ j, j ≠ i → gI h2 b j = gI h b j) → mrep h2 (i + 1) zs ∧ gI h2 0 4 = nI (aD a) := fun h2 f2 M2 g2 => ⟨R.cg (fun b h3 h4 j hj => g2 b h3 h4 j (by omega)), (MR_iff.mp M2.1).2.2.2.1⟩
  obtain ⟨L1, S1, -⟩ := MR_iff.mp M1.1
  unfold f_X11_laysFewest_30b
  rw [m_n L1 (show MN (gI h1 1) t from by rw [← ht]; exact S1.1) wN, Option.bind_some]
  dsimp only
  by_cases q : v < nN t
  · obtain ⟨h2, e2, f2, M2, g2⟩ := m_coveredByN (i := i) (v := v) w M1 (by rw [ht]; exact q) hi hW (by rw [ht]; exact hWb)
    rw [ht, hB, hu'] at e2
    rw [if_pos (nI_lt q (by omega)), e2, Option.bind_some]
    dsimp only
    have g12 : ∀ b, 13 ≤ b → b ≤ 15 → ∀ j, j ≠ i → gI h2 b j = gI h b j := fun b h3 h4 j hj => by rw [g2 b h3 h4]; exact g1 b h3 h4 j hj
    obtain ⟨R2, eD2⟩ := step h2 (frW.tr f1 f2) M2 g12
    have C2 : prM h2 i cur := C1.cg (fun b h3 h4 => by rw [g2 b h3 h4])
    have hcl := cvd_le (r := pkt t B u [v]) (ls := W.drop i)
    obtain ⟨h3, cur3, e3, f3, g3, C3, okc3, hb3⟩ := m_tries (c := cvd (pkt t B u [v]) (W.drop i)) (lab := v) (g := 1) (xg := 1) M2.1.1 eD2 hD (by omega) R2 C2 okc1 (by omega) (by omega) (fun _ => ⟨by decide, by decide, rfl⟩) hb1
    rw [e3, Option.bind_some, nI_1]
    have M3 : MW h3 a W := M2.fr (frW.w3 f3) (M2.1.w3 f3)
    refine ih (m - 1) _ _ (by omega) ⟨v + 1, cur3, by omega, rfl, frW.tr (frW.tr f1 f2) (frW.w3 f3), M3, fun b h4 h5 j hj => by rw [g3 b j hj]; exact g12 b h4 h5 j hj, C3, okc3, isBest_cg (fun x => ?_) hb3⟩
    constructor
    · rintro (⟨v', z1, z2⟩ | z)
      · exact ⟨v', by omega, z2⟩
      · exact ⟨v, by omega, z⟩
    · rintro ⟨v', z1, z2⟩
      by_cases qq : v' = v
      · subst qq; exact Or.inr z2
      · exact Or.inl ⟨v', by omega, z2⟩
  · have hv' : v = nN t := by omega
    subst hv'
    have eL := m_coveredByL (i := i) w M1 hi hW (by rw [ht]; exact hWb)
    rw [ht] at eL
    rw [if_neg (nI_nlt (Nat.le_refl _) (by omega)), L1.r26, Option.bind_some, m_way M1 hi hW, Option.bind_some, Option.bind_some, m_way M1 hi hW, Option.bind_some, show (100 : Int32) + nI (W.getD i 0) = nI (100 + W.getD i 0) from nI_add 100 _, eL, Option.bind_some]
    dsimp only
    obtain ⟨R1, eD1⟩ := step h1 f1 M1 g1
    obtain ⟨h3, cur3, e3, f3, g3, C3, okc3, hb3⟩ := m_tries (c := if nU t (W.getD i 0) = true then 1 else 0) (lab := 100 + W.getD i 0) (g := 1) (xg := 1) M1.1.1 eD1 hD (by omega) R1 C1 okc1 (by split <;> omega) (by omega) (fun _ => ⟨by decide, by decide, rfl⟩) hb1
    have eb : nI (if nU t (W.getD i 0) = true then 1 else 0) = bI (nU t (W.getD i 0) = true) := by
      unfold bI
      split <;> rfl
    rw [eb] at e3
    rw [e3, Option.bind_some]
    have M3 : MW h3 a W := M1.fr (frW.w3 f3) (M1.1.w3 f3)
    have g13 : ∀ b, 13 ≤ b → b ≤ 15 → ∀ j, j ≠ i → gI h3 b j = gI h b j := fun b h4 h5 j hj => by rw [g3 b j hj]; exact g1 b h4 h5 j hj
    unfold f_X11_laysFewest_88
    clear ih
    refine Ev_FU (fun m p h4 => ∃ b cur4, b + m = 6 ∧ p = nI b ∧ frW h h4 ∧ MW h4 a W ∧ (∀ b, 13 ≤ b → b ≤ 15 → ∀ j, j ≠ i → gI h4 b j = gI h b j) ∧ prM h4 i cur4 ∧ okT cur4 ∧ isBest (fun x => ((∃ v', v' < nN t ∧ totL (aD a) zs 1 (cvd (pkt t B u [v']) (W.drop i)) v' x) ∨ totL (aD a) zs 1 (if nU t (W.getD i 0) = true then 1 else 0) (100 + W.getD i 0) x) ∨ ∃ b' y, b' < b ∧ B b' = some y ∧ y.1 = u ∧ totL (aD a) zs y.2.length (cvd (pkt t B u y.2) (W.drop i)) (200 + b') x) cur4) 6 0 h3 (by omega) ⟨0, cur3, by omega, rfl, frW.tr f1 (frW.w3 f3), M3, g13, C3, okc3, isBest_cg (fun x => ⟨Or.inl, fun z => z.elim id (fun z => by obtain ⟨b', y, z1, _⟩ := z; omega)⟩) hb3⟩ ?_
    rintro m p h4 rec ⟨b, cur4, hbm, rfl, f4, M4, g4, C4, okc4, hb4⟩ ih
    unfold f_X11_laysFewest_88b
    by_cases qb : b < 6
    · obtain ⟨h5, e5, f5, M5, g5⟩ := m_coveredByB (i := i) (b := b) w M4 qb hi hW (by rw [ht]; exact hWb)
      rw [ht, hB, hu'] at e5
      obtain ⟨L5, S5, -⟩ := MR_iff.mp M5.1
      have ms := S5.2.1 b qb
      rw [hB] at ms
      rw [if_pos (show nI b < 6 from nI_lt (b := 6) qb (by decide)), e5, Option.bind_some]
      dsimp only
      rw [L5.r1, Option.bind_some, show (128 : Int32) + nI b = nI (128 + b) from nI_add 128 b, m_now L5 (by omega), Option.bind_some, show (200 : Int32) + nI b = nI (200 + b) from nI_add 200 b, nI_1]
      have g15 : ∀ b, 13 ≤ b → b ≤ 15 → ∀ j, j ≠ i → gI h5 b j = gI h b j := fun b h6 h7 j hj => by rw [g5 b (by omega)]; exact g4 b h6 h7 j hj
      obtain ⟨R5, eD5⟩ := step h5 (frW.tr f4 f5) M5 g15
      have C5 : prM h5 i cur4 := C4.cg (fun b h6 h7 => by rw [g5 b (by omega)])
      have hcv : cvB t B u b (W.drop i) ≤ W.length - i := by
        unfold cvB
        cases B b with
        | none => exact Nat.zero_le _
        | some y =>
          show (if _ then _ else _) ≤ _
          split
          · have := cvd_le (r := pkt t B u y.2) (ls := W.drop i); omega
          · omega
      obtain ⟨h6, cur6, e6, f6, g6, C6, okc6, hb6⟩ := m_tries (c := cvB t B u b (W.drop i)) (lab := 200 + b) (g := (match B b with
        | some y => y.2.length
        | none => 0)) (xg := gI h5 1 (128 + b)) M5.1.1 eD5 hD (by omega) R5 C5 okc4 (by omega) (by omega) (fun hc => by
          cases eB : B b with
          | none =>
            unfold cvB at hc
            rw [eB] at hc
            have hc : 1 ≤ 0 := hc
            omega
          | some y =>
            have wB := w.1.2.1 b qb y (by rw [hB]; exact eB)
            exact ⟨wB.2.1, by show y.2.length ≤ 12; omega, (ms.2 y eB).2.1⟩) hb4
      rw [e6, Option.bind_some]
      have M6 : MW h6 a W := M5.fr (frW.w3 f6) (M5.1.w3 f6)
      refine ih (m - 1) _ _ (by omega) ⟨b + 1, cur6, by omega, rfl, frW.tr (frW.tr f4 f5) (frW.w3 f6), M6, fun b h7 h8 j hj => by rw [g6 b j hj]; exact g15 b h7 h8 j hj, C6, okc6, isBest_cg (fun x => ?_) hb6⟩
      constructor
      · rintro ((z | ⟨b', y, z1, z2⟩) | z)
        · exact Or.inl z
        · exact Or.inr ⟨b', y, by omega, z2⟩
        · unfold cvB at z
          cases eB : B b with
          | none => rw [eB] at z; have z1 : 1 ≤ 0 := z.1; omega
          | some y =>
            rw [eB] at z
            have z : totL (aD a) zs y.2.length (if y.1 = u then cvd (pkt t B u y.2) (W.drop i) else 0) (200 + b) x := z
            by_cases cu : y.1 = u
            · rw [if_pos cu] at z
              exact Or.inr ⟨b, y, by omega, eB, cu, z⟩
            · rw [if_neg cu] at z; exact absurd z.1 (by decide)
      · rintro (z | ⟨b', y, z1, z2, z3, z4⟩)
        · exact Or.inl (Or.inl z)
        · by_cases qq : b' = b
          · subst qq
            refine Or.inr ?_
            unfold cvB
            rw [z2]
            show totL (aD a) zs y.2.length (if y.1 = u then cvd (pkt t B u y.2) (W.drop i) else 0) (200 + b') x
            rw [if_pos z3]; exact z4
          · exact Or.inl (Or.inr ⟨b', y, by omega, z2, z3, z4⟩)
    · have : b = 6 := by omega
      subst this
      rw [if_neg (show ¬ nI 6 < 6 by decide), pI_add]
      refine hk h4 cur4 f4 M4 g4 C4 okc4 (isBest_cg (fun x => ?_) hb4)
      constructor
      · rintro ((⟨v', z1, z2⟩ | z) | ⟨b', y, z1, z2, z3, z4⟩)
        · exact ⟨1, _, v', Or.inl ⟨rfl, z1, by rw [hu', ← hdc]⟩, z2⟩
        · by_cases cU : nU t (W.getD i 0) = true
          · rw [if_pos cU] at z
            exact ⟨1, 1, _, Or.inr (Or.inl ⟨rfl, rfl, rfl, cU⟩), z⟩
          · rw [if_neg cU] at z; exact absurd z.1 (by decide)
        · exact ⟨y.2.length, _, _, Or.inr (Or.inr ⟨b', y, z1, z2, by rw [hu']; exact z3, rfl, rfl, by rw [hu', ← hdc]⟩), z4⟩
      · rintro ⟨g, c', lab, hkk, z⟩
        rcases hkk with ⟨k1, k2, k3⟩ | ⟨k1, k2, k3, k4⟩ | ⟨b', y, k1, k2, k3, k4, k5, k6⟩
        · rw [hu', ← hdc] at k3
          subst k1 k3
          exact Or.inl (Or.inl ⟨lab, k2, z⟩)
        · subst k1 k2 k3
          refine Or.inl (Or.inr ?_)
          rw [if_pos k4]; exact z
        · rw [hu', ← hdc] at k6
          rw [hu'] at k3
          subst k4 k5 k6
          exact Or.inr ⟨b', y, k1, k2, k3, z⟩
theorem m_laysFewest {u e : Nat} (w : wfA a) (M : MW h a W) (hW : W.length ≤ 16) (hch : chF (sN (aS a)) u W e) : ∃ h' ys, f_X11_laysFewest 0 h = some h' ∧ frW h h' ∧ MW h' a W ∧ plS (sN (aS a)) (sB (aS a)) (aD a) W ys ∧ mrep h' 0 ys := by
  have key : Ev (f_X11_laysFewest 0 h) (fun h' => ∃ ys, frW h h' ∧ MW h' a W ∧ plS (sN (aS a)) (sB (aS a)) (aD a) W ys ∧ mrep h' 0 ys) := by
    have L := M.1.1
    unfold f_X11_laysFewest
    rw [L.r28, Option.bind_some, M.2.1, stI_ok (by rw [L.n13]; omega) (by omega), Option.bind_some, lt_def, gI_sI_ne (by decide), M.2.1, pI_sub]
    have f0 : frm [13, 14, 15] h (sI h 13 W.length 0) := frm.sI (by decide) frm.rf
    unfold f_X11_laysFewest_17
    refine Ev_FU (fun m p h2 => ∃ zs, m ≤ W.length ∧ p = pI m ∧ frW h h2 ∧ MW h2 a W ∧ plS (sN (aS a)) (sB (aS a)) (aD a) (W.drop m) zs ∧ mrep h2 m zs) W.length (pI W.length) (sI h 13 W.length 0) (by omega) ⟨[], Nat.le_refl _, rfl, frW.w3 f0, M.fr (frW.w3 f0) (M.1.w3 f0), by rw [List.drop_length]; exact rfl, ⟨fun j hj => absurd hj (Nat.not_lt_zero _), gI_s _ _ _ _⟩⟩ ?_
    rintro m p h2 rec ⟨zs, hm, rfl, f2, M2, p2, R2⟩ ih
    unfold f_X11_laysFewest_17b
    cases m with
    | zero =>
      rw [if_pos (show pI 0 < 0 by decide)]
      exact Ev_some ⟨zs, f2, M2, by rw [List.drop_zero] at p2; exact p2, R2⟩
    | succ i =>
      have L2 := M2.1.1
      have hdc := drop_cons (ls := W) (k := i) (by omega)
      obtain ⟨u', hu'⟩ := chF_drop (i := i) hch
      have hu2 := hu'
      rw [hdc] at hu2
      have hzl : zs.length = (W.drop (i + 1)).length := plS_len p2
      have hdl : (W.drop (i + 1)).length = W.length - (i + 1) := List.length_drop
      have f3 : frm [13, 14, 15] h2 (sI h2 13 i (-1)) := frm.sI (by decide) frm.rf
      have M3 : MW (sI h2 13 i (-1)) a W := M2.fr (frW.w3 f3) (M2.1.w3 f3)
      rw [pI_s, if_neg (nI_nn (by omega)), L2.r28, Option.bind_some, stI_ok (by rw [L2.n13]; omega) (by omega), Option.bind_some]
      refine m_place (i := i) (e := e) (zs := zs) w M3 (by omega) hW (by rw [hu2.2.1]; exact hu') (fun j hj => chF_mem hch j hj) (by omega) (R2.cg (fun b h4 h5 j hj => by rw [gI_sI_nk (by omega)])) (gI_s _ _ _ _) (fun h4 y f4 M4 g4 C4 ok4 b4 => ?_)
      refine ih i _ _ (by omega) ⟨y :: zs, by omega, rfl, frW.tr (frW.tr f2 (frW.w3 f3)) f4, M4, ?_, ?_, ?_⟩
      · rw [hdc]; exact ⟨y, zs, rfl, p2, b4⟩
      · intro j hj
        cases j with
        | zero => exact ⟨C4, ok4⟩
        | succ j =>
          have := R2.1 j (by rw [List.length_cons] at hj; omega)
          refine ⟨?_, this.2⟩
          rw [show i + (j + 1) = i + 1 + j by omega]
          exact this.1.cg (fun b h5 h6 => by rw [g4 b h5 h6 _ (by omega), gI_sI_nk (by omega)])
      · rw [List.length_cons, g4 13 (by decide) (by decide) _ (by omega), gI_sI_nk (by omega), show i + (zs.length + 1) = i + 1 + zs.length by omega]
        exact R2.2
  obtain ⟨h', e, ys, z⟩ := key
  exact ⟨h', ys, e, z⟩
end MFW
