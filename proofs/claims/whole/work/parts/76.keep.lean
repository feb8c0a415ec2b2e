/-! ===== keep ===== -/
theorem least {P : Nat → Prop} : ∀ n, P n → ∃ m, P m ∧ m ≤ n ∧ ∀ j, j < m → ¬ P j := by
  intro n
  induction n using Nat.strongRecOn with
  | ind n ih =>
    intro hn
    by_cases h : ∃ j, j < n ∧ P j
    · obtain ⟨j, hj, pj⟩ := h
      obtain ⟨m, pm, hm, hq⟩ := ih j hj pj
      exact ⟨m, pm, by omega, hq⟩
    · exact ⟨n, hn, Nat.le_refl _, fun j hj pj => h ⟨j, hj, pj⟩⟩
theorem getD_get {ls : List Nat} {i : Nat} (h : i < ls.length) : ls.getD i 0 = ls[i] := by
  simp [List.getD, List.getElem?_eq_getElem h]
theorem list_eq {ls W : List Nat} (hl : ls.length = W.length) (h : ∀ i, i < ls.length → ls.getD i 0 = W.getD i 0) : ls = W :=
  List.ext_getElem hl (fun i h1 h2 => by have := h i h1; rw [getD_get h1, getD_get h2] at this; exact this)
theorem x_isSame {h : MH} {a c w b w' k : Nat} {ls W : List Nat} (A : rowsAt h a c w) (hc : c < 100) (hw : w < 100) (B : rowAt h b w') (hw' : w' < 100) (hk : k < c) (hl : ls.length ≤ w) (hl' : W.length ≤ w') (e1 : gI h (a + 1) k = nI ls.length) (e2 : lrep (gI h (a + 2)) (w * k) ls) (r : rowIs h b W) (b1 : ∀ i, i < ls.length → ls.getD i 0 < 1000) (b2 : ∀ i, i < W.length → W.getD i 0 < 1000) : f_X6_isSame a (nI k) b h = some (bI (ls = W), h) := by
  unfold f_X6_isSame
  rw [x_sizeOf A (by omega) hk, Option.bind_some, e1, r.1]
  by_cases hlen : ls.length = W.length
  · rw [if_pos (by rw [hlen])]
    have key : Ev (f_X6_isSame_16 a (nI k) b FU 0 h) (fun q => q = (bI (ls = W), h)) := by
      unfold f_X6_isSame_16
      refine Ev_FU (fun m p h1 => ∃ i, i + m = ls.length ∧ p = nI i ∧ h1 = h ∧ ∀ j, j < i → ls.getD j 0 = W.getD j 0) ls.length 0 h (by omega) ⟨0, by omega, rfl, rfl, fun j hj => by omega⟩ ?_
      rintro m p h1 rec ⟨i, hi, rfl, rfl, e3⟩ ih
      unfold f_X6_isSame_16b
      rw [r.1, ← hlen]
      by_cases q : i < ls.length
      · have e4 := x_rget A hc hw hk hl e1 e2 (x := nI i)
        rw [nI_toInt (by omega), if_pos (by omega), Int.toNat_natCast] at e4
        have e5 := r.2 i (by omega)
        rw [Nat.zero_add] at e5
        have hb1 := b1 i q
        have hb2 := b2 i (by omega)
        rw [if_pos (nI_lt q (by omega)), e4, Option.bind_some]
        dsimp only
        rw [x_getN B r hl' (by omega) (by omega), Option.bind_some]
        dsimp only
        by_cases q2 : ls.getD i 0 = W.getD i 0
        · rw [if_pos (by rw [q2]), nI_1]
          refine ih (m - 1) _ _ (by omega) ⟨i + 1, by omega, rfl, rfl, fun j hj => ?_⟩
          by_cases q3 : j = i
          · rw [q3]; exact q2
          · exact e3 j (by omega)
        · rw [if_neg (fun z => q2 (nI_inj (by omega) (by omega) z))]
          refine Ev_some ?_
          unfold bI
          rw [if_neg (fun z => q2 (by rw [z]))]
      · rw [if_neg (fun z => q ((nI_ltI (by omega) (by omega)).mp z))]
        refine Ev_some ?_
        unfold bI
        rw [if_pos (list_eq hlen (fun j hj => e3 j (by omega)))]
    obtain ⟨q, e, rfl⟩ := key
    exact e
  · rw [if_neg (fun z => hlen (nI_inj (by omega) (by omega) z))]
    unfold bI
    rw [if_neg (fun z => hlen (by rw [z]))]
theorem m_isKept {h : MH} {k : Nat} {ls W : List Nat} (L : ML h) (hk : k < 12) (hl : ls.length ≤ 16) (hl' : W.length ≤ 16) (e1 : gI h 1 (291 + k) = nI ls.length) (e2 : lrep (gI h 1) (303 + 16 * k) ls) (r1 : gI h 1 495 = nI W.length) (r2 : lrep (gI h 1) 496 W) (b1 : ∀ i, i < ls.length → ls.getD i 0 < 1000) (b2 : ∀ i, i < W.length → W.getD i 0 < 1000) : f_X11_isKeptAs 0 (nI k) h = some (bI (ls = W), h) := by
  have e291 : 291 + nI k = nI (291 + k) := nI_add 291 k
  unfold f_X11_isKeptAs
  rw [L.r1, Option.bind_some, e291, m_now L (by omega), Option.bind_some, e1, m_wayLong L r1, Option.bind_some]
  dsimp only
  by_cases hlen : ls.length = W.length
  · rw [if_pos (by rw [hlen])]
    have key : Ev (f_X11_isKeptAs_21 0 (nI k) FU 0 h) (fun q => q = (bI (ls = W), h)) := by
      unfold f_X11_isKeptAs_21
      refine Ev_FU (fun m p h1 => ∃ i, i + m = ls.length ∧ p = nI i ∧ h1 = h ∧ ∀ j, j < i → ls.getD j 0 = W.getD j 0) ls.length 0 h (by omega) ⟨0, by omega, rfl, rfl, fun j hj => by omega⟩ ?_
      rintro m p h1 rec ⟨i, hi, rfl, rfl, e3⟩ ih
      unfold f_X11_isKeptAs_21b
      rw [m_wayLong L r1, Option.bind_some, ← hlen]
      dsimp only
      by_cases q : i < ls.length
      · have e6 : 303 + 16 * nI k + nI i = nI (303 + 16 * k + i) := by
          show nI 303 + nI 16 * nI k + nI i = _
          rw [pk_mul, nI_add, nI_add]
        have e4 := e2 i q
        have e5 := r2 i (by omega)
        have hb1 := b1 i q
        have hb2 := b2 i (by omega)
        rw [if_pos (nI_lt q (by omega)), L.r1, Option.bind_some, e6, m_now L (by omega), Option.bind_some, e4, m_wayLink L (by omega), Option.bind_some, e5]
        by_cases q2 : ls.getD i 0 = W.getD i 0
        · rw [if_pos (by rw [q2]), nI_1]
          refine ih (m - 1) _ _ (by omega) ⟨i + 1, by omega, rfl, rfl, fun j hj => ?_⟩
          by_cases q3 : j = i
          · rw [q3]; exact q2
          · exact e3 j (by omega)
        · rw [if_neg (fun z => q2 (nI_inj (by omega) (by omega) z))]
          refine Ev_some ?_
          unfold bI
          rw [if_neg (fun z => q2 (by rw [z]))]
      · rw [if_neg (fun z => q ((nI_ltI (by omega) (by omega)).mp z))]
        refine Ev_some ?_
        unfold bI
        rw [if_pos (list_eq hlen (fun j hj => e3 j (by omega)))]
    obtain ⟨q, e, rfl⟩ := key
    exact e
  · rw [if_neg (fun z => hlen (nI_inj (by omega) (by omega) z))]
    unfold bI
    rw [if_neg (fun z => hlen (by rw [z]))]
def stKe (s : ST) (K : List (List Nat)) : ST := (s.1, s.2.1, s.2.2.1, K, s.2.2.2.2)
theorem XS.kep {h h' : MH} {s : ST} {W : List Nat} (w : wfS s) (hg : ∀ k, 1 ≤ k → k < 19 → k ≠ 15 → k ≠ 16 → gI h' (1 + k) = gI h (1 + k)) (g0 : gI h' 1 4 = nI ((sK s).length + 1)) (g15 : ∀ b, b ≠ (sK s).length → gI h' 16 b = gI h 16 b) (g16 : ∀ j, j < 16 * (sK s).length ∨ 16 * (sK s).length + 16 ≤ j → gI h' 17 j = gI h 17 j) (n15 : gI h' 16 (sK s).length = nI W.length) (n16 : lrep (gI h' 17) (16 * (sK s).length) W) (X : XS h 1 s) : XS h' 1 (stKe s (sK s ++ [W])) := by
  obtain ⟨x1, x2, x3, x4⟩ := X
  have k9 := hg 9 (by omega) (by omega) (by omega) (by omega); have k10 := hg 10 (by omega) (by omega) (by omega) (by omega); have k12 := hg 12 (by omega) (by omega) (by omega) (by omega); have k13 := hg 13 (by omega) (by omega) (by omega) (by omega); have k17 := hg 17 (by omega) (by omega) (by omega) (by omega); have k18 := hg 18 (by omega) (by omega) (by omega) (by omega)
  refine ⟨x1.fr (fun k hk => ?_), ?_, ⟨?_, fun k hk => ?_⟩, ?_⟩
  · rw [Nat.add_assoc]; exact hg (1 + k) (by omega) (by omega) (by omega) (by omega)
  · rw [k9, k10, k12, k13]; exact x2
  · show gI h' 1 4 = nI (sK s ++ [W]).length
    rw [List.length_append]; exact g0
  · have hk : k < (sK s ++ [W]).length := hk
    rw [List.length_append] at hk
    have hk : k < (sK s).length + 1 := hk
    show gI h' 16 k = nI ((sK s ++ [W]).getD k []).length ∧ lrep (gI h' 17) (16 * k) ((sK s ++ [W]).getD k [])
    rw [getD_app]
    by_cases q : k < (sK s).length
    · rw [if_pos q, g15 k (by omega)]
      have := (w.2.2.2.1.2 k q).1.1
      exact ⟨(x3.2 k q).1, (x3.2 k q).2.mv (fun i hi => g16 _ (by omega))⟩
    · have : k = (sK s).length := by omega
      subst this
      rw [if_neg q, if_pos rfl]
      exact ⟨n15, n16⟩
  · rw [k17, k18]; exact x4
theorem MS.kep {g g' : Nat → Int32} {s : ST} {W : List Nat} (w : wfS s) (h12 : (sK s).length < 12) (hg : ∀ j, j ≠ 290 → j ≠ 291 + (sK s).length → (j < 303 + 16 * (sK s).length ∨ 319 + 16 * (sK s).length ≤ j) → g' j = g j) (g0 : g' 290 = nI ((sK s).length + 1)) (n15 : g' (291 + (sK s).length) = nI W.length) (n16 : lrep g' (303 + 16 * (sK s).length) W) (X : MS g s) : MS g' (stKe s (sK s ++ [W])) := by
  obtain ⟨⟨n0, n1, n2⟩, x2, x3, x4, x5⟩ := X
  have hm : nM (sN s) ≤ 30 := w.1.2.2.1
  refine ⟨⟨by rw [hg _ (by omega) (by omega) (by omega)]; exact n0, by rw [hg _ (by omega) (by omega) (by omega)]; exact n1, fun l hl => ?_⟩, fun d hd => ⟨fun e => ?_, fun q e => ?_⟩, fun d hd => ⟨fun e => ?_, fun q e => ?_⟩, ⟨?_, fun k hk => ?_⟩, ?_, ?_⟩
  · have hl : l < nM (sN s) := hl
    rw [hg _ (by omega) (by omega) (by omega), hg _ (by omega) (by omega) (by omega), hg _ (by omega) (by omega) (by omega), hg _ (by omega) (by omega) (by omega)]; exact n2 l hl
  · rw [hg _ (by omega) (by omega) (by omega)]; exact (x2 d hd).1 e
  · obtain ⟨y1, y2, y3⟩ := (x2 d hd).2 q e
    have := (w.2.1 d hd q e).2.2.1
    exact ⟨by rw [hg _ (by omega) (by omega) (by omega)]; exact y1, by rw [hg _ (by omega) (by omega) (by omega)]; exact y2, y3.mv (fun i hi => hg _ (by omega) (by omega) (by omega))⟩
  · rw [hg _ (by omega) (by omega) (by omega)]; exact (x3 d hd).1 e
  · obtain ⟨y1, y2, y3, y4⟩ := (x3 d hd).2 q e
    have := (w.2.2.1 d hd q e).2.2.2.1
    exact ⟨by rw [hg _ (by omega) (by omega) (by omega)]; exact y1, by rw [hg _ (by omega) (by omega) (by omega)]; exact y2, by rw [hg _ (by omega) (by omega) (by omega)]; exact y3, y4.mv (fun i hi => hg _ (by omega) (by omega) (by omega))⟩
  · show g' 290 = nI (sK s ++ [W]).length
    rw [List.length_append]; exact g0
  · have hk : k < (sK s ++ [W]).length := hk
    rw [List.length_append] at hk
    have hk : k < (sK s).length + 1 := hk
    show g' (291 + k) = nI ((sK s ++ [W]).getD k []).length ∧ lrep g' (303 + 16 * k) ((sK s ++ [W]).getD k [])
    rw [getD_app]
    by_cases q : k < (sK s).length
    · rw [if_pos q, hg _ (by omega) (by omega) (by omega)]
      have := (w.2.2.2.1.2 k q).1.1
      exact ⟨(x4.2 k q).1, (x4.2 k q).2.mv (fun i hi => hg _ (by omega) (by omega) (by omega))⟩
    · have : k = (sK s).length := by omega
      subst this
      rw [if_neg q, if_pos rfl]
      exact ⟨n15, n16⟩
  · rw [hg _ (by omega) (by omega) (by omega)]; exact x5.1
  · exact x5.2.mv (fun i hi => hg _ (by omega) (by omega) (by omega))
theorem wfS.kep {s : ST} {W : List Nat} (w : wfS s) (h12 : (sK s).length < 12) (hW : wayOK (sN s) W) (h1 : 1 ≤ W.length) : wfS (stKe s (sK s ++ [W])) := by
  refine ⟨w.1, w.2.1, w.2.2.1, ⟨?_, fun k hk => ?_⟩, w.2.2.2.2⟩
  · show (sK s ++ [W]).length ≤ 12
    rw [List.length_append]; exact h12
  · have hk : k < (sK s ++ [W]).length := hk
    rw [List.length_append] at hk
    have hk : k < (sK s).length + 1 := hk
    show wayOK (sN s) ((sK s ++ [W]).getD k []) ∧ 1 ≤ ((sK s ++ [W]).getD k []).length
    rw [getD_app]
    by_cases q : k < (sK s).length
    · rw [if_pos q]; exact w.2.2.2.1.2 k q
    · rw [if_neg q, if_pos (by omega)]; exact ⟨hW, h1⟩
theorem m_keep81 {h : MH} {W : List Nat} {k : Nat} (L : ML h) (hk : k < 12) (hl : W.length ≤ 16) (r1 : gI h 1 495 = nI W.length) (r2 : lrep (gI h 1) 496 W) : ∃ h', f_X11_keep_81 0 (nI k) FU 0 h = some (nI k, h') ∧ frm [1] h h' ∧ gI h' 1 290 = nI (k + 1) ∧ lrep (gI h' 1) (303 + 16 * k) W ∧ ∀ j, j ≠ 290 → (j < 303 + 16 * k ∨ 319 + 16 * k ≤ j) → gI h' 1 j = gI h 1 j := by
  have key : Ev (f_X11_keep_81 0 (nI k) FU 0 h) (fun q => q.1 = nI k ∧ frm [1] h q.2 ∧ gI q.2 1 290 = nI (k + 1) ∧ lrep (gI q.2 1) (303 + 16 * k) W ∧ ∀ j, j ≠ 290 → (j < 303 + 16 * k ∨ 319 + 16 * k ≤ j) → gI q.2 1 j = gI h 1 j) := by
    unfold f_X11_keep_81
    refine Ev_FU (fun m p h1 => ∃ i, i + m = W.length ∧ p = nI i ∧ frm [1] h h1 ∧ (∀ j, j < i → gI h1 1 (303 + 16 * k + j) = nI (W.getD j 0)) ∧ ∀ j, (j < 303 + 16 * k ∨ 319 + 16 * k ≤ j) → gI h1 1 j = gI h 1 j) W.length 0 h (by omega) ⟨0, by omega, rfl, frm.rf, fun j hj => by omega, fun j hj => rfl⟩ ?_
    rintro m p h1 rec ⟨i, hi, rfl, f, e3, e4⟩ ih
    have L1 := L.fr f
    unfold f_X11_keep_81b
    rw [m_wayLong L1 (by rw [e4 _ (by omega)]; exact r1), Option.bind_some]
    dsimp only
    by_cases q : i < W.length
    · have e6 : 303 + 16 * nI k + nI i = nI (303 + 16 * k + i) := by
        show nI 303 + nI 16 * nI k + nI i = _
        rw [pk_mul, nI_add, nI_add]
      have e5 := r2 i q
      rw [if_pos (nI_lt q (by omega)), L1.r1, Option.bind_some, m_wayLink L1 (by omega), Option.bind_some, e4 _ (by omega), e5, e6]
      dsimp only
      rw [stI_ok (by rw [L1.n1]; omega) (by omega), Option.bind_some, nI_1]
      refine ih (m - 1) _ _ (by omega) ⟨i + 1, by omega, rfl, f.sI (by simp), fun j hj => ?_, fun j hj => ?_⟩
      · rw [gI_sI]
        by_cases q' : j = i
        · rw [if_pos ⟨rfl, by omega⟩, q']
        · rw [if_neg (fun z => q' (by omega))]; exact e3 j (by omega)
      · rw [gI_sI_nk (by omega)]; exact e4 j hj
    · have s290 : ∀ v, stI h1 1 290 v = some (sI h1 1 290 v) := fun v => stI_ok (i := 290) (by rw [L1.n1]; omega) (by decide)
      rw [if_neg (fun z => q ((nI_ltI (by omega) (by omega)).mp z)), L1.r1, Option.bind_some, s290, Option.bind_some, nI_1]
      refine Ev_some ⟨rfl, f.sI (by simp), gI_s _ _ _ _, fun j hj => ?_, fun j j1 j2 => ?_⟩
      · show gI (sI h1 1 290 (nI (k + 1))) 1 (303 + 16 * k + j) = _
        rw [gI_sI_nk (by omega)]; exact e3 j (by omega)
      · show gI (sI h1 1 290 (nI (k + 1))) 1 j = _
        rw [gI_sI_nk j1]; exact e4 j j2
  obtain ⟨⟨r', h'⟩, e, er, g⟩ := key
  dsimp only at er g
  subst er
  exact ⟨h', e, g⟩
