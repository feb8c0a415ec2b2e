/-! ===== counts: the next distance ===== -/
theorem m_l49 {h : MH} {t : NT} {v e : Nat} {k37 : Int32 → MH → Option MH} {Post : MH → Prop} (w : wfN t) (L : ML h) (N : MN (gI h 1) t) (Q : tabIs h t (dist t)) (hv : v < nN t) (he : e < 1000000) (hk : ∀ d, e < d → d ≤ 1000000 → (∀ u, u < nN t → dist t v u < d → dist t v u ≤ e) → (d = 1000000 ∨ ∃ u, u < nN t ∧ dist t v u = d) → Ev (f_X11_laysPaths_97 k37 0 (nI v) (nI d) FU 0 h) Post) : Ev (f_X11_laysPaths_49 k37 0 (nI v) (nI e) FU (1000000, 0) h) Post := by
  have hn10 := w.2.1
  unfold f_X11_laysPaths_49
  refine Ev_FU (fun m p h1 => ∃ i d, i + m = nN t ∧ p = (nI d, nI i) ∧ h1 = h ∧ e < d ∧ d ≤ 1000000 ∧ (∀ u, u < i → dist t v u < d → dist t v u ≤ e) ∧ (d = 1000000 ∨ ∃ u, u < nN t ∧ dist t v u = d)) (nN t) (1000000, 0) h (by omega) ⟨0, 1000000, by omega, rfl, rfl, he, Nat.le_refl _, fun u hu => absurd hu (Nat.not_lt_zero _), Or.inl rfl⟩ ?_
  rintro m p h1 rec ⟨i, d, hi, rfl, rfl, d1, d2, d3, d4⟩ ih
  unfold f_X11_laysPaths_49b f_X11_laysPaths_88
  dsimp only
  rw [m_n L N w, Option.bind_some]
  dsimp only
  by_cases q : i < nN t
  · have b1 : dist t v i ≤ 1000000 := (dist_bel w hv).2.1 _ q
    rw [if_pos (nI_lt q (by omega)), m_tabd w L Q q hv, Option.bind_some, nI_1]
    dsimp only
    by_cases c : e < dist t v i
    · rw [if_pos ((nI_ltI (by omega) (by omega)).mpr c), m_tabd w L Q q hv, Option.bind_some]
      dsimp only
      by_cases c2 : dist t v i < d
      · rw [if_pos ((nI_ltI (by omega) (by omega)).mpr c2), m_tabd w L Q q hv, Option.bind_some]
        refine ih (m - 1) _ _ (by omega) ⟨i + 1, dist t v i, by omega, rfl, rfl, c, b1, fun u hu hu' => ?_, Or.inr ⟨i, q, rfl⟩⟩
        by_cases q2 : u = i
        · rw [q2] at hu'; omega
        · exact d3 u (by omega) (by omega)
      · rw [if_neg (fun z => c2 ((nI_ltI (by omega) (by omega)).mp z))]
        refine ih (m - 1) _ _ (by omega) ⟨i + 1, d, by omega, rfl, rfl, d1, d2, fun u hu hu' => ?_, d4⟩
        by_cases q2 : u = i
        · rw [q2] at hu'; exact absurd hu' c2
        · exact d3 u (by omega) hu'
    · rw [if_neg (fun z => c ((nI_ltI (by omega) (by omega)).mp z))]
      refine ih (m - 1) _ _ (by omega) ⟨i + 1, d, by omega, rfl, rfl, d1, d2, fun u hu hu' => ?_, d4⟩
      by_cases q2 : u = i
      · rw [q2]; omega
      · exact d3 u (by omega) hu'
  · rw [if_neg (fun z => q ((nI_ltI (by omega) (by omega)).mp z))]
    exact hk d d1 d2 (fun u hu => d3 u (by omega)) d4
