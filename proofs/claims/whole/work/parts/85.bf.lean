/-! ===== the reference's rounds, one link ===== -/
def tabIs (h : MH) (t : NT) (T : Nat → Nat → Nat) : Prop := ∀ u v, u < nN t → v < nN t → gI h 4 (10 * u + v) = nI (T v u)
theorem m_tab {h : MH} {t : NT} {T : Nat → Nat → Nat} {u v : Nat} (w : wfN t) (L : ML h) (Q : tabIs h t T) (hu : u < nN t) (hv : v < nN t) : f_X11_far2 0 (nI u) (nI v) h = some (nI (T v u), h) := by
  have hn10 := w.2.1
  unfold f_X11_far2
  rw [L.r8, Option.bind_some, ix10', ldI_ok (by rw [L.n4]; omega) (by omega), Option.bind_some, Q u v hu hv]
theorem m_l83 {h : MH} {t : NT} {T : Nat → Nat → Nat} {l : Nat} {x1 : Int32} {k52 k62 : Int32 → MH → Option MH} {Post : MH → Prop} (w : wfN t) (L : ML h) (N : MN (gI h 1) t) (hl : l < nM t) (Q : tabIs h t T) (hT : ∀ u v, u < nN t → v < nN t → T v u ≤ 1000000) (hk : ∀ h', frm [4] h h' → tabIs h' t (fun v => bfS t l (T v)) → Ev (k62 (nI (l + 1)) h') Post) : Ev (f_X11_laysFar_83 k52 k62 0 x1 (nI l) FU 0 h) Post := by
  have hn10 := w.2.1
  obtain ⟨w1, w2, w3, w4, w5⟩ := w.2.2.2 l hl
  unfold f_X11_laysFar_83
  refine Ev_FU (fun m p h1 => ∃ i, i + m = nN t ∧ p = nI i ∧ frm [4] h h1 ∧ tabIs h1 t (fun v => if v < i then bfS t l (T v) else T v)) (nN t) 0 h (by omega) ⟨0, by omega, rfl, frm.rf, fun u v hu hv => by show _ = nI ((if v < 0 then _ else T v) u); rw [if_neg (by omega)]; exact Q u v hu hv⟩ ?_
  rintro m p h1 rec ⟨i, hi, rfl, f, Q1⟩ ih
  have L1 := L.fr f
  have N1 : MN (gI h1 1) t := by rw [f.1 1 (by simp)]; exact N
  unfold f_X11_laysFar_83b f_X11_laysFar_141 f_X11_laysFar_147
  rw [m_n L1 N1 w, Option.bind_some]
  dsimp only
  by_cases q : i < nN t
  · have g1 := m_tab w L1 Q1 w2 q
    have g2 := m_tab w L1 Q1 w1 q
    rw [if_neg (by omega)] at g1 g2
    have b1 := hT (nT t l) i w2 q
    have b2 := hT (nF t l) i w1 q
    rw [if_pos (nI_lt q (by omega)), m_costOf L1 N1 w hl, Option.bind_some]
    dsimp only
    rw [m_to L1 N1 w hl, Option.bind_some]
    dsimp only
    rw [g1, Option.bind_some, lt_def]
    dsimp only
    rw [m_from L1 N1 w hl, Option.bind_some]
    dsimp only
    rw [g2, Option.bind_some, nI_add, nI_1]
    dsimp only
    by_cases c : nC t l + T i (nT t l) < T i (nF t l)
    · rw [if_pos ((nI_ltI (by omega) (by omega)).mpr c), L1.r8, Option.bind_some, m_from L1 N1 w hl, Option.bind_some, ix10', stI_ok (by rw [L1.n4]; omega) (by omega), Option.bind_some]
      refine ih (m - 1) _ _ (by omega) ⟨i + 1, by omega, rfl, f.sI (by simp), fun u v hu hv => ?_⟩
      show gI (sI h1 4 (10 * nF t l + i) (nI (nC t l + T i (nT t l)))) 4 (10 * u + v) = nI ((if v < i + 1 then bfS t l (T v) else T v) u)
      by_cases q2 : v = i
      · subst q2
        rw [if_pos (by omega)]
        unfold bfS
        by_cases q3 : u = nF t l
        · subst q3
          rw [if_pos ⟨rfl, c⟩, gI_s]
        · rw [if_neg (fun z => q3 z.1), gI_sI_nk (by omega)]
          have := Q1 u v hu hv
          dsimp only at this
          rw [if_neg (by omega)] at this
          exact this
      · rw [gI_sI_nk (by omega)]
        have := Q1 u v hu hv
        dsimp only at this
        rw [this]
        by_cases q3 : v < i
        · rw [if_pos q3, if_pos (by omega)]
        · rw [if_neg q3, if_neg (by omega)]
    · rw [if_neg (fun z => c ((nI_ltI (by omega) (by omega)).mp z))]
      refine ih (m - 1) _ _ (by omega) ⟨i + 1, by omega, rfl, f, fun u v hu hv => ?_⟩
      have := Q1 u v hu hv
      dsimp only at this ⊢
      rw [this]
      by_cases q3 : v < i
      · rw [if_pos q3, if_pos (by omega)]
      · rw [if_neg q3]
        by_cases q4 : v = i
        · subst q4
          rw [if_pos (by omega)]
          unfold bfS
          by_cases q5 : u = nF t l
          · subst q5
            rw [if_neg (fun z => c z.2)]
          · rw [if_neg (fun z => q5 z.1)]
        · rw [if_neg (by omega)]
  · have : i = nN t := by omega
    subst this
    rw [if_neg (nI_nlt (Nat.le_refl _) (by omega)), nI_1]
    refine hk h1 f (fun u v hu hv => ?_)
    have := Q1 u v hu hv
    dsimp only at this ⊢
    rw [if_pos hv] at this
    exact this
