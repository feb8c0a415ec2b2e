/-! ===== counts: one distance ===== -/
def cntOK (h : MH) (t : NT) (v d : Nat) : Prop := ∀ u, u < nN t → dist t v u ≤ d → gL h 5 (10 * u + v) = lN (cnt t v u)
def cntSame (h h' : MH) (t : NT) (v d : Nat) : Prop := (∀ u, u < nN t → d < dist t v u → gL h' 5 (10 * u + v) = gL h 5 (10 * u + v)) ∧ ∀ u v', u < nN t → v' < nN t → v' ≠ v → gL h' 5 (10 * u + v') = gL h 5 (10 * u + v')
theorem m_l97 {h : MH} {t : NT} {v d e : Nat} {k37 : Int32 → MH → Option MH} {Post : MH → Prop} (w : wfN t) (L : ML h) (N : MN (gI h 1) t) (Q : tabIs h t (dist t)) (hv : v < nN t) (hd : d < 1000000) (h0 : e < d) (hg : ∀ u, u < nN t → dist t v u < d → dist t v u ≤ e) (hc : cntOK h t v e) (hk : ∀ h', frm [5] h h' → gI h' 5 = gI h 5 → cntOK h' t v d → cntSame h h' t v d → Ev (k37 (nI d) h') Post) : Ev (f_X11_laysPaths_97 k37 0 (nI v) (nI d) FU 0 h) Post := by
  have hn10 := w.2.1
  unfold f_X11_laysPaths_97
  refine Ev_FU (fun m p h1 => ∃ i, i + m = nN t ∧ p = nI i ∧ frm [5] h h1 ∧ gI h1 5 = gI h 5 ∧ cntOK h1 t v e ∧ (∀ u, u < i → dist t v u = d → gL h1 5 (10 * u + v) = lN (cnt t v u)) ∧ cntSame h h1 t v d) (nN t) 0 h (by omega) ⟨0, by omega, rfl, frm.rf, rfl, hc, fun u hu => absurd hu (Nat.not_lt_zero _), fun _ _ _ => rfl, fun _ _ _ _ _ => rfl⟩ ?_
  rintro m p h1 rec ⟨i, hi, rfl, f, f5, c1, c2, c3⟩ ih
  have L1 := L.fr f
  have N1 : MN (gI h1 1) t := by rw [f.1 1 (by simp)]; exact N
  have Q1 : tabIs h1 t (dist t) := by unfold tabIs; rw [f.1 4 (by simp)]; exact Q
  unfold f_X11_laysPaths_97b f_X11_laysPaths_194 f_X11_laysPaths_200
  rw [m_n L1 N1 w, Option.bind_some]
  dsimp only
  by_cases q : i < nN t
  · have b1 : dist t v i ≤ 1000000 := (dist_bel w hv).2.1 _ q
    rw [if_pos (nI_lt q (by omega)), if_pos (show nI d < 1000000 from (nI_ltI (by omega) (by decide)).mpr hd), m_tabd w L1 Q1 q hv, Option.bind_some]
    dsimp only
    by_cases c : dist t v i = d
    · rw [if_pos (by rw [c])]
      have e0 : dist t v v = 0 := (dist_bel w hv).1
      have hiv : i ≠ v := fun z => by rw [z, e0] at c; omega
      refine m_l132 w L1 N1 Q1 q hv hiv (fun l hl ho => ?_) ?_
      · have ho := onB_iff.mp ho
        have w4 := (w.2.2.2 l hl).2.2.2.1
        have := ho.2.2.2
        exact c1 _ (w.2.2.2 l hl).2.1 (hg _ (w.2.2.2 l hl).2.1 (by omega))
      · refine ih (m - 1) _ _ (by omega) ⟨i + 1, by omega, rfl, f.sL (by simp), f5, fun u hu hu' => ?_, fun u hu hu' => ?_, fun u hu hu' => ?_, fun u v' hu hv' hne => ?_⟩
        · rw [gL_sL, if_neg (fun z => by have : u = i := by omega
                                         rw [this] at hu'; omega)]
          exact c1 u hu hu'
        · by_cases q2 : u = i
          · rw [gL_sL, if_pos ⟨rfl, by rw [q2]⟩, q2]
          · rw [gL_sL, if_neg (fun z => q2 (by omega))]; exact c2 u (by omega) hu'
        · rw [gL_sL, if_neg (fun z => by have : u = i := by omega
                                         rw [this] at hu'; omega)]
          exact c3.1 u hu hu'
        · rw [gL_sL, if_neg (fun z => by omega)]; exact c3.2 u v' hu hv' hne
    · rw [if_neg (fun z => c (nI_inj (by omega) (by omega) z)), nI_1]
      refine ih (m - 1) _ _ (by omega) ⟨i + 1, by omega, rfl, f, f5, c1, fun u hu hu' => ?_, c3⟩
      by_cases q2 : u = i
      · rw [q2] at hu'; exact absurd hu' c
      · exact c2 u (by omega) hu'
  · rw [if_neg (fun z => q ((nI_ltI (by omega) (by omega)).mp z))]
    refine hk h1 f f5 (fun u hu hu' => ?_) c3
    by_cases q2 : dist t v u = d
    · exact c2 u (by omega) q2
    · exact c1 u hu (hg u hu (by omega))
