/-! ===== all rounds ===== -/
theorem m_l62 {h : MH} {t : NT} {T : Nat → Nat → Nat} {r : Nat} {x1 : Int32} {k52 : Int32 → MH → Option MH} {Post : MH → Prop} (w : wfN t) (L : ML h) (N : MN (gI h 1) t) (Q : tabIs h t T) (hT : ∀ v, v < nN t → bfI t v r (T v)) (hk : ∀ h' T', frm [4] h h' → tabIs h' t T' → (∀ v, v < nN t → bfI t v (r + 1) (T' v)) → Ev (k52 (x1 + 1) h') Post) : Ev (f_X11_laysFar_62 k52 0 x1 FU 0 h) Post := by
  have hm30 := w.2.2.1
  unfold f_X11_laysFar_62
  refine Ev_FU (fun m p h1 => ∃ i T', i + m = nM t ∧ p = nI i ∧ frm [4] h h1 ∧ tabIs h1 t T' ∧ ∀ v, v < nN t → bfR t v r i (T' v)) (nM t) 0 h (by omega) ⟨0, T, by omega, rfl, frm.rf, Q, fun v hv => bfR_0 (hT v hv)⟩ ?_
  rintro m p h1 rec ⟨i, T', hi, rfl, f, Q1, R1⟩ ih
  have L1 := L.fr f
  have N1 : MN (gI h1 1) t := by rw [f.1 1 (by simp)]; exact N
  unfold f_X11_laysFar_62b f_X11_laysFar_147
  rw [m_links L1 N1, Option.bind_some]
  dsimp only
  by_cases q : i < nM t
  · rw [if_pos (nI_lt q (by omega)), m_isUp L1 N1 w q, Option.bind_some]
    by_cases c : nU t i = true
    · rw [if_neg (fun z => bI_0.mp z c)]
      refine m_l83 w L1 N1 q Q1 (fun u v hu hv => ((R1 v hv).1.1 u hu).2) (fun h' f' Q' => ?_)
      exact ih (m - 1) _ _ (by omega) ⟨i + 1, _, by omega, rfl, frm.tr f f', Q', fun v hv => bfR_up w hv q c (R1 v hv)⟩
    · rw [if_pos (bI_0.mpr c), nI_1]
      exact ih (m - 1) _ _ (by omega) ⟨i + 1, T', by omega, rfl, f, Q1, fun v hv => bfR_dn c (R1 v hv)⟩
  · have : i = nM t := by omega
    subst this
    rw [if_neg (nI_nlt (Nat.le_refl _) (by omega))]
    exact hk h1 T' f Q1 (fun v hv => bfR_end w hv (R1 v hv))
theorem m_l52 {h : MH} {t : NT} {T : Nat → Nat → Nat} {Post : MH → Prop} (w : wfN t) (L : ML h) (N : MN (gI h 1) t) (Q : tabIs h t T) (hT : ∀ v, v < nN t → bfI t v 0 (T v)) (hk : ∀ h', frm [4] h h' → tabIs h' t (fun v u => dist t v u) → Ev (f_X11_laysFar_161 0 FU 0 h') Post) : Ev (f_X11_laysFar_52 0 FU 0 h) Post := by
  have hn10 := w.2.1
  unfold f_X11_laysFar_52
  refine Ev_FU (fun m p h1 => ∃ i T', i + m = nN t ∧ p = nI i ∧ frm [4] h h1 ∧ tabIs h1 t T' ∧ ∀ v, v < nN t → bfI t v i (T' v)) (nN t) 0 h (by omega) ⟨0, T, by omega, rfl, frm.rf, Q, hT⟩ ?_
  rintro m p h1 rec ⟨i, T', hi, rfl, f, Q1, R1⟩ ih
  have L1 := L.fr f
  have N1 : MN (gI h1 1) t := by rw [f.1 1 (by simp)]; exact N
  unfold f_X11_laysFar_52b
  rw [m_n L1 N1 w, Option.bind_some]
  dsimp only
  by_cases q : i < nN t
  · rw [if_pos (nI_lt q (by omega))]
    refine m_l62 w L1 N1 Q1 R1 (fun h' T2 f' Q' R' => ?_)
    rw [nI_1]
    exact ih (m - 1) _ _ (by omega) ⟨i + 1, T2, by omega, rfl, frm.tr f f', Q', R'⟩
  · have : i = nN t := by omega
    subst this
    rw [if_neg (nI_nlt (Nat.le_refl _) (by omega))]
    refine hk h1 f (fun u v hu hv => ?_)
    show _ = nI (dist t v u)
    rw [Q1 u v hu hv, bf_end (R1 v hv) u hu]
