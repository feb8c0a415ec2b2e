/-! ===== look ===== -/
theorem x_setOfThere {h : MH} {a n : Nat} {B : Nat → Bool} (hn : gN h a = n) (h30 : n ≤ 30) (e0 : ∀ i, i < n → B i = false → gI h a i = -1) (e1 : ∀ i, i < n → B i = true → ¬ gI h a i = -1) : f_X10_setOfThere a h = some (setF B n, h) := by
  have key : Ev (f_X10_setOfThere a h) (fun q => q = (setF B n, h)) := by
    unfold f_X10_setOfThere f_X10_setOfThere_4
    refine Ev_FU (fun m p h1 => ∃ i, i + m = n ∧ p = (setF B i, nI i) ∧ h1 = h) n (0, 0) h (by omega) ⟨0, by omega, rfl, rfl⟩ ?_
    rintro m p h1 rec ⟨i, hi, rfl, rfl⟩ ih
    unfold f_X10_setOfThere_4b f_X10_setOfThere_23
    dsimp only
    rw [hn, oN]
    by_cases q : i < n
    · rw [if_pos (nI_lt q (by omega)), ldI_ok (by rw [hn]; exact q) (by omega), Option.bind_some, nI_1]
      refine Ev_if (fun z => ?_) (fun z => ?_)
      · refine ih (m - 1) _ _ (by omega) ⟨i + 1, by omega, ?_, rfl⟩
        have hb : ¬ B i = true := fun y => e1 i q y z
        show _ = (setF B (i + 1), _)
        rw [setF, if_neg hb]
      · rw [lt_def]
        refine ih (m - 1) _ _ (by omega) ⟨i + 1, by omega, ?_, rfl⟩
        have hb : B i = true := by
          cases y : B i
          · exact absurd (e0 i q y) z
          · rfl
        show _ = (setF B (i + 1), _)
        rw [setF, if_pos hb]
    · have : i = n := by omega
      subst this
      rw [if_neg (nI_nlt (Nat.le_refl _) (by omega))]
      exact Ev_some rfl
  obtain ⟨q, e, rfl⟩ := key
  exact e
theorem m_setOf {h : MH} {o n : Nat} {B : Nat → Bool} (L : ML h) (h30 : n ≤ 30) (ho : o + n ≤ 512) (e0 : ∀ i, i < n → B i = false → ¬ 0 < gI h 1 (o + i)) (e1 : ∀ i, i < n → B i = true → 0 < gI h 1 (o + i)) : f_X11_setOf 0 (nI o) (nI n) h = some (setF B n, h) := by
  have key : Ev (f_X11_setOf 0 (nI o) (nI n) h) (fun q => q = (setF B n, h)) := by
    unfold f_X11_setOf f_X11_setOf_5
    refine Ev_FU (fun m p h1 => ∃ i, i + m = n ∧ p = (setF B i, nI i) ∧ h1 = h) n (0, 0) h (by omega) ⟨0, by omega, rfl, rfl⟩ ?_
    rintro m p h1 rec ⟨i, hi, rfl, rfl⟩ ih
    unfold f_X11_setOf_5b f_X11_setOf_30
    dsimp only
    by_cases q : i < n
    · rw [if_pos (nI_lt q (by omega)), L.r1, Option.bind_some, nI_add, m_now L (by omega), Option.bind_some, nI_1]
      refine Ev_if (fun z => ?_) (fun z => ?_)
      · rw [lt_def]
        refine ih (m - 1) _ _ (by omega) ⟨i + 1, by omega, ?_, rfl⟩
        have hb : B i = true := by
          cases y : B i
          · exact absurd z (e0 i q y)
          · rfl
        show _ = (setF B (i + 1), _)
        rw [setF, if_pos hb]
      · refine ih (m - 1) _ _ (by omega) ⟨i + 1, by omega, ?_, rfl⟩
        have hb : ¬ B i = true := fun y => z (e1 i q y)
        show _ = (setF B (i + 1), _)
        rw [setF, if_neg hb]
    · have : i = n := by omega
      subst this
      rw [if_neg (nI_nlt (Nat.le_refl _) (by omega))]
      exact Ev_some rfl
  obtain ⟨q, e, rfl⟩ := key
  exact e
theorem zf_mask : ∀ m, m < 31 → ∀ i, i < 32 → bit (((1 : Int32) <<< (nI m &&& 31)) - 1) i = decide (i < m) := by decide +kernel
theorem setF_not {U : Nat → Bool} {m : Nat} (hm : m ≤ 30) : (((1 : Int32) <<< (nI m &&& 31)) - 1) &&& (setF (fun l => !U l) m ^^^ (-1 : Int32)) = setF U m := by
  refine bit_ext (fun i hi => ?_)
  rw [bit_and, bit_xor, bit_setF (by omega), bit_setF (by omega), zf_mask m (by omega) i hi, bit_m1 i hi]
  cases U i <;> cases decide (i < m) <;> rfl
def csum (t : NT) (W : List Nat) : Nat → Int32
  | 0 => 0
  | i + 1 => csum t W i + nI (nC t (W.getD i 0))
theorem x_costSum {h : MH} {s : ST} (L : XL h) (S : XS h 1 s) (w : wfS s) : f_X2_costOf 2 18 h = some (csum (sN s) (sW s) (sW s).length, h) := by
  have h16 := w.2.2.2.2.1
  have hm30 := w.1.2.2.1
  have key : Ev (f_X2_costOf 2 18 h) (fun q => q = (csum (sN s) (sW s) (sW s).length, h)) := by
    unfold f_X2_costOf f_X2_costOf_4
    refine Ev_FU (fun m p h1 => ∃ i, i + m = (sW s).length ∧ p = (csum (sN s) (sW s) i, nI i) ∧ h1 = h) (sW s).length (0, 0) h (by omega) ⟨0, by omega, rfl, rfl⟩ ?_
    rintro m p h1 rec ⟨i, hi, rfl, rfl⟩ ih
    unfold f_X2_costOf_4b
    dsimp only
    have e1 : gI h1 18 1 = nI (sW s).length := S.2.2.2.1
    rw [e1]
    by_cases q : i < (sW s).length
    · have e2 : gI h1 19 (0 + i) = nI ((sW s).getD i 0) := S.2.2.2.2 i q
      rw [Nat.zero_add] at e2
      have hl := w.2.2.2.2.2.1 i q
      have e3 : gI h1 5 ((sW s).getD i 0) = nI (nC (sN s) ((sW s).getD i 0)) := (S.1.2.2.2.1 _ hl).2.2
      rw [if_pos (nI_lt q (by omega)), x_getN L.way S.2.2.2 h16 (by decide) q, Option.bind_some]
      dsimp only
      rw [x_priceOf L.nt S.1 hm30 hl, Option.bind_some]
      dsimp only
      rw [lt_def, nI_1]
      exact ih (m - 1) _ _ (by omega) ⟨i + 1, by omega, rfl, rfl⟩
    · have : i = (sW s).length := by omega
      subst this
      rw [if_neg (nI_nlt (Nat.le_refl _) (by omega))]
      exact Ev_some rfl
  obtain ⟨q, e, rfl⟩ := key
  exact e
theorem m_costSum {h : MH} {s : ST} (L : ML h) (S : MS (gI h 1) s) (w : wfS s) : f_X11_costs 0 h = some (csum (sN s) (sW s) (sW s).length, h) := by
  have h16 := w.2.2.2.2.1
  have hm30 := w.1.2.2.1
  have key : Ev (f_X11_costs 0 h) (fun q => q = (csum (sN s) (sW s) (sW s).length, h)) := by
    unfold f_X11_costs f_X11_costs_4
    refine Ev_FU (fun m p h1 => ∃ i, i + m = (sW s).length ∧ p = (csum (sN s) (sW s) i, nI i) ∧ h1 = h) (sW s).length (0, 0) h (by omega) ⟨0, by omega, rfl, rfl⟩ ?_
    rintro m p h1 rec ⟨i, hi, rfl, rfl⟩ ih
    unfold f_X11_costs_4b
    dsimp only
    rw [m_wayLong L S.2.2.2.2.1, Option.bind_some]
    dsimp only
    by_cases q : i < (sW s).length
    · have hl := w.2.2.2.2.2.1 i q
      rw [if_pos (nI_lt q (by omega)), m_wayLink L (by omega), Option.bind_some, S.2.2.2.2.2 i q]
      dsimp only
      rw [m_costOf L S.1 w.1 hl, Option.bind_some, lt_def, nI_1]
      exact ih (m - 1) _ _ (by omega) ⟨i + 1, by omega, rfl, rfl⟩
    · have : i = (sW s).length := by omega
      subst this
      rw [if_neg (nI_nlt (Nat.le_refl _) (by omega))]
      exact Ev_some rfl
  obtain ⟨q, e, rfl⟩ := key
  exact e
