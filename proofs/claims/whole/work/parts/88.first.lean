/-! ===== the table at first ===== -/
theorem zf_dg : ∀ p, p < 100 → ((nI p / 10 = nI p - nI p / 10 * 10) ↔ p / 10 = p % 10) := by decide +kernel
theorem m_l15 {h : MH} {t : NT} {Post : MH → Prop} (w : wfN t) (L : ML h) (hk : ∀ h', frm [4] h h' → tabIs h' t (fun v u => if u = v then 0 else 1000000) → Ev (f_X11_laysFar_52 0 FU 0 h') Post) : Ev (f_X11_laysFar_15 0 FU 0 h) Post := by
  have hn10 := w.2.1
  unfold f_X11_laysFar_15
  refine Ev_FU (fun m p h1 => ∃ i, i + m = 100 ∧ p = nI i ∧ frm [4] h h1 ∧ ∀ j, j < i → gI h1 4 j = nI (if j / 10 = j % 10 then 0 else 1000000)) 100 0 h (by omega) ⟨0, by omega, rfl, frm.rf, fun j hj => by omega⟩ ?_
  rintro m p h1 rec ⟨i, hi, rfl, f, e1⟩ ih
  have L1 := L.fr f
  unfold f_X11_laysFar_15b f_X11_laysFar_43
  by_cases q : i < 100
  · rw [if_pos (show nI i < 100 from (nI_ltI (by omega) (by decide)).mpr q), L1.r8, Option.bind_some, if_neg (show ¬ (10 : Int32) = 0 by decide), if_neg (show ¬ (10 : Int32) = 0 by decide), nI_1]
    by_cases c : i / 10 = i % 10
    · rw [if_pos ((zf_dg i q).mpr c), stI_ok (by rw [L1.n4]; exact q) (by omega), Option.bind_some]
      refine ih (m - 1) _ _ (by omega) ⟨i + 1, by omega, rfl, f.sI (by simp), fun j hj => ?_⟩
      by_cases q2 : j = i
      · rw [q2, gI_s, if_pos c]; rfl
      · rw [gI_sI_nk q2]; exact e1 j (by omega)
    · rw [if_neg (fun z => c ((zf_dg i q).mp z)), stI_ok (by rw [L1.n4]; exact q) (by omega), Option.bind_some]
      refine ih (m - 1) _ _ (by omega) ⟨i + 1, by omega, rfl, f.sI (by simp), fun j hj => ?_⟩
      by_cases q2 : j = i
      · rw [q2, gI_s, if_neg c]; rfl
      · rw [gI_sI_nk q2]; exact e1 j (by omega)
  · rw [if_neg (show ¬ nI i < 100 from fun z => q ((nI_ltI (by omega) (by decide)).mp z))]
    refine hk h1 f (fun u v hu hv => ?_)
    show _ = nI (if u = v then 0 else 1000000)
    rw [e1 _ (by omega)]
    by_cases c : u = v
    · rw [if_pos c, if_pos (by omega)]
    · rw [if_neg c, if_neg (by omega)]
