/-! ===== counts: one node (the table alone is known) ===== -/
theorem m_tabd {h : MH} {t : NT} {u v : Nat} (w : wfN t) (L : ML h) (Q : tabIs h t (dist t)) (hu : u < nN t) (hv : v < nN t) : f_X11_far2 0 (nI u) (nI v) h = some (nI (dist t v u), h) := m_tab w L Q hu hv
theorem m_isOnT {h : MH} {l u v : Nat} {t : NT} (w : wfN t) (L : ML h) (N : MN (gI h 1) t) (Q : tabIs h t (dist t)) (hl : l < nM t) (hu : u < nN t) (hv : v < nN t) : f_X11_isOn 0 (nI l) (nI u) (nI v) h = some (bI (onB t v u l = true), h) := by
  have hm30 := w.2.2.1
  have hn10 := w.2.1
  obtain ⟨w1, w2, w3, w4, w5⟩ := w.2.2.2 l hl
  have b1 : dist t v u ≤ 1000000 := (dist_bel w hv).2.1 _ hu
  have b2 : dist t v (nT t l) ≤ 1000000 := (dist_bel w hv).2.1 _ w2
  have e0 : dist t v v = 0 := (dist_bel w hv).1
  unfold f_X11_isOn
  rw [m_from L N w hl, Option.bind_some]
  dsimp only
  by_cases c0 : nF t l = u
  · rw [if_pos (by rw [c0]), m_isUp L N w hl, Option.bind_some]
    by_cases c1 : nU t l = true
    · rw [if_neg (fun z => bI_0.mp z c1)]
      dsimp only
      rw [m_tabd w L Q hu hv, Option.bind_some]
      dsimp only
      by_cases c2 : dist t v u < 1000000
      · rw [if_pos (show nI (dist t v u) < 1000000 from (nI_ltI (by omega) (by decide)).mpr c2)]
        by_cases c4 : u = v
        · rw [if_pos (by rw [c4])]
          unfold bI
          rw [if_neg (onB_no (fun z => by have := z.2.2.2; rw [c4, e0] at this; omega))]
        · rw [if_neg (fun z => c4 (nI_inj (by omega) (by omega) z)), m_costOf L N w hl, Option.bind_some]
          dsimp only
          rw [m_to L N w hl, Option.bind_some]
          dsimp only
          rw [m_tabd w L Q w2 hv, Option.bind_some]
          dsimp only
          rw [m_tabd w L Q hu hv, Option.bind_some, nI_add]
          dsimp only
          by_cases c3 : nC t l + dist t v (nT t l) = dist t v u
          · rw [if_pos (by rw [c3])]
            unfold bI
            rw [if_pos (onB_iff.mpr ⟨c1, c0, c2, c3⟩)]
          · rw [if_neg (fun z => c3 (nI_inj (by omega) (by omega) z))]
            unfold bI
            rw [if_neg (onB_no (fun z => c3 z.2.2.2))]
      · rw [if_neg (show ¬ nI (dist t v u) < 1000000 from fun z => c2 ((nI_ltI (by omega) (by decide)).mp z))]
        unfold bI
        rw [if_neg (onB_no (fun z => c2 z.2.2.1))]
    · rw [if_pos (bI_0.mpr c1)]
      unfold bI
      rw [if_neg (onB_no (fun z => c1 z.1))]
  · rw [if_neg (fun z => c0 (nI_inj (by omega) (by omega) z))]
    unfold bI
    rw [if_neg (onB_no (fun z => c0 z.2.1))]
theorem m_l132 {h : MH} {t : NT} {u v : Nat} {x3 : Int32} {k37 k97 : Int32 → MH → Option MH} {Post : MH → Prop} (w : wfN t) (L : ML h) (N : MN (gI h 1) t) (Q : tabIs h t (dist t)) (hu : u < nN t) (hv : v < nN t) (huv : u ≠ v) (hc : ∀ l, l < nM t → onB t v u l = true → gL h 5 (10 * nT t l + v) = lN (cnt t v (nT t l))) (hk : Ev (k97 (nI (u + 1)) (sL h 5 (10 * u + v) (lN (cnt t v u)))) Post) : Ev (f_X11_laysPaths_132 k37 k97 0 (nI v) x3 (nI u) FU (0, 0) h) Post := by
  have hm30 := w.2.2.1
  have hn10 := w.2.1
  unfold f_X11_laysPaths_132
  refine Ev_FU (fun m p h1 => ∃ i, i + m = nM t ∧ p = (lN (sumTo (fun l => if onB t v u l then cnt t v (nT t l) else 0) i), nI i) ∧ h1 = h) (nM t) (0, 0) h (by omega) ⟨0, by omega, rfl, rfl⟩ ?_
  rintro m p h1 rec ⟨i, hi, rfl, rfl⟩ ih
  unfold f_X11_laysPaths_132b f_X11_laysPaths_174 f_X11_laysPaths_194
  dsimp only
  rw [m_links L N, Option.bind_some]
  dsimp only
  by_cases q : i < nM t
  · have w2 := (w.2.2.2 i q).2.1
    rw [if_pos (nI_lt q (by omega)), m_isOnT w L N Q q hu hv, Option.bind_some, nI_1]
    by_cases c : onB t v u i = true
    · rw [if_neg (fun z => bI_0.mp z c)]
      dsimp only
      rw [L.r9, Option.bind_some, m_to L N w q, Option.bind_some, ix10']
      dsimp only
      rw [ldL_ok (by rw [L.n5]; omega) (by omega), Option.bind_some, lt_def, hc i q c, lN_add]
      refine ih (m - 1) _ _ (by omega) ⟨i + 1, by omega, ?_, rfl⟩
      show _ = (lN (sumTo _ i + if onB t v u i then cnt t v (nT t i) else 0), _)
      rw [if_pos c]
    · rw [if_pos (bI_0.mpr c)]
      refine ih (m - 1) _ _ (by omega) ⟨i + 1, by omega, ?_, rfl⟩
      show _ = (lN (sumTo _ i + if onB t v u i then cnt t v (nT t i) else 0), _)
      rw [if_neg c]
      rfl
  · have : i = nM t := by omega
    subst this
    rw [if_neg (nI_nlt (Nat.le_refl _) (by omega)), L.r9, Option.bind_some, ix10', stL_ok (by rw [L.n5]; omega) (by omega), Option.bind_some, nI_1, ← cnt_rec w hv hu huv]
    exact hk
