/-! ===== the reference reads its tape ===== -/
def TB (h : MH) (P : List Nat) (i : Nat) : Prop := ML h ∧ lrep (gI h 20) 0 P ∧ gI h 0 40 = nI i ∧ gI h 0 41 = nI P.length
def TM (h : MH) (P : List Nat) (i : Nat) : Prop := TB h P i ∧ gI h 0 39 = -1
def TW (h : MH) (P : List Nat) (k p : Nat) : Prop := (∃ i, i ≤ P.length ∧ TB h P i) ∧ gI h 0 38 = nI k ∧ gI h 0 39 = nI p ∧ p ≤ 500
def frG (h h' : MH) : Prop := frm [0] h h' ∧ ∀ k, k ≠ 40 → gI h' 0 k = gI h 0 k
def frE (h h' : MH) : Prop := frm [0] h h' ∧ ∀ k, k ≠ 38 → k ≠ 39 → k ≠ 40 → gI h' 0 k = gI h 0 k
theorem frG.rf {h : MH} : frG h h := ⟨frm.rf, fun _ _ => rfl⟩
theorem frE.rf {h : MH} : frE h h := ⟨frm.rf, fun _ _ _ _ => rfl⟩
theorem frG.tr {h h1 h2 : MH} (a : frG h h1) (b : frG h1 h2) : frG h h2 := ⟨frm.tr a.1 b.1, fun k hk => (b.2 k hk).trans (a.2 k hk)⟩
theorem frE.tr {h h1 h2 : MH} (a : frE h h1) (b : frE h1 h2) : frE h h2 := ⟨frm.tr a.1 b.1, fun k h1 h2 h3 => (b.2 k h1 h2 h3).trans (a.2 k h1 h2 h3)⟩
theorem frG.E {h h' : MH} (a : frG h h') : frE h h' := ⟨a.1, fun k _ _ h3 => a.2 k h3⟩
theorem TB.fr {h h' : MH} {P : List Nat} {i j : Nat} (f : frE h h') (e : gI h' 0 40 = nI j) (T : TB h P i) : TB h' P j := ⟨T.1.fr f.1, by rw [f.1.1 20 (by decide)]; exact T.2.1, e, by rw [f.2 41 (by decide) (by decide) (by decide)]; exact T.2.2.2⟩
theorem TB.to {h : MH} {P : List Nat} {i j : Nat} (T : TB h P i) : frG h (sI h 0 40 (nI j)) ∧ TB (sI h 0 40 (nI j)) P j := by
  have f : frG h (sI h 0 40 (nI j)) := ⟨frm.sI (by decide) frm.rf, fun k hk => gI_sI_nk hk⟩
  exact ⟨f, T.fr f.E (gI_s _ _ _ _)⟩
theorem TM.fr {h h' : MH} {P : List Nat} {i j : Nat} (f : frG h h') (e : TB h' P j) (T : TM h P i) : TM h' P j := ⟨e, by rw [f.2 39 (by decide)]; exact T.2⟩
section TPM
variable {h : MH} {P : List Nat} {i : Nat}
theorem m_here (o : okP P) (T : TB h P i) (hi : i ≤ P.length) : f_X11_here 0 h = some (bvI (bt P i), h) := by
  have h500 := o.1
  unfold f_X11_here bvI
  rw [T.2.2.1, T.2.2.2]
  by_cases q : i < P.length
  · have := T.2.1 i q
    rw [Nat.zero_add] at this
    rw [if_pos (nI_lt q (by omega)), T.1.r36, Option.bind_some, ldI_ok (by rw [T.1.n20]; omega) (by omega), Option.bind_some, this, if_pos ((bt_lt o).mpr q), bt_in q]
  · rw [if_neg (nI_nlt (by omega) (by omega)), if_neg (fun z => q ((bt_lt o).mp z))]
theorem m_blanks (o : okP P) (T : TB h P i) (hi : i ≤ P.length) : ∃ h', f_X11_behindBlanks 0 h = some (bvI (bt P (skp P i)), h') ∧ frG h h' ∧ TB h' P (skp P i) := by
  have h500 := o.1
  have key : Ev (f_X11_behindBlanks 0 h) (fun q => q.1 = bvI (bt P (skp P i)) ∧ frG h q.2 ∧ TB q.2 P (skp P i)) := by
    unfold f_X11_behindBlanks f_X11_behindBlanks_0
    refine Ev_FU (fun m _ h1 => ∃ j, j + m = P.length ∧ frG h h1 ∧ TB h1 P j ∧ skp P i = skp P j) (P.length - i) () h (by omega) ⟨i, by omega, frG.rf, T, rfl⟩ ?_
    rintro m p h1 rec ⟨j, hj, f1, T1, e⟩ ih
    unfold f_X11_behindBlanks_0b
    rw [m_here o T1 (by omega), Option.bind_some]
    by_cases q : bt P j = 32
    · have := (bt_lt (i := j) o).mp (by omega)
      rw [if_pos (show bvI (bt P j) = 32 from (bv_is (c := 32) (by decide) (bt_le o)).mpr q), lt_def]
      dsimp only
      rw [T1.2.2.1, nI_1]
      exact ih (m - 1) _ _ (by omega) ⟨j + 1, by omega, f1.tr T1.to.1, T1.to.2, by rw [e, skp_step o q]⟩
    · rw [if_neg (show ¬ bvI (bt P j) = 32 from fun z => q ((bv_is (c := 32) (by decide) (bt_le o)).mp z))]
      dsimp only
      rw [m_here o T1 (by omega), Option.bind_some, e, skp_stop o q]
      exact Ev_some ⟨rfl, f1, T1⟩
  obtain ⟨⟨r, h'⟩, e, k1, k2, k3⟩ := key
  dsimp only at k1 k2 k3
  exact ⟨h', by rw [e, k1], k2, k3⟩
theorem m_noWrong (T : TM h P i) : f_X11_isWrong 0 h = some (0, h) := by
  unfold f_X11_isWrong; rw [if_pos T.2]
theorem m_wrong {k p : Nat} (T : TW h P k p) : f_X11_isWrong 0 h = some (1, h) := by
  have := T.2.2.2
  unfold f_X11_isWrong; rw [T.2.2.1, if_neg (nI_m1 (by omega))]
theorem m_errs {k p : Nat} (T : TM h P i) (hi : i ≤ P.length) (hp : p ≤ 500) : ∃ h', f_X11_errs 0 (nI k) (nI p) h = some (0, h') ∧ frE h h' ∧ TW h' P k p := by
  have f : frE h (sI (sI h 0 38 (nI k)) 0 39 (nI p)) := ⟨frm.sI (by decide) (frm.sI (by decide) frm.rf), fun j h1 h2 _ => by rw [gI_sI_nk h2, gI_sI_nk h1]⟩
  refine ⟨_, ?_, f, ⟨i, hi, T.1.fr f ?_⟩, ?_, gI_s _ _ _ _, hp⟩
  · unfold f_X11_errs
    rw [m_noWrong T, Option.bind_some]
    rfl
  · rw [gI_sI_nk (by decide), gI_sI_nk (by decide)]; exact T.1.2.2.1
  · rw [gI_sI_nk (by decide), gI_s]
theorem m_errsW {k p : Nat} {x y : Int32} (T : TW h P k p) : f_X11_errs 0 x y h = some (0, h) := by
  unfold f_X11_errs
  rw [m_wrong T, Option.bind_some]
  rfl
theorem m_letters (o : okP P) (T : TB h P i) (hi : i ≤ P.length) : f_X11_letters 0 h = some (nI (rn (ltB P) i), h) := by
  have h500 := o.1
  have key : Ev (f_X11_letters 0 h) (fun q => q = (nI (rn (ltB P) i), h)) := by
    unfold f_X11_letters f_X11_letters_2
    refine Ev_FU (fun m p h1 => ∃ n, i + n + m = P.length ∧ p = nI n ∧ h1 = h ∧ ∀ j, j < n → ltB P (i + j) = true) (P.length - i) 0 h (by omega) ⟨0, by omega, rfl, rfl, fun j hj => absurd hj (Nat.not_lt_zero _)⟩ ?_
    rintro m p h1 rec ⟨n, hn, rfl, rfl, e⟩ ih
    unfold f_X11_letters_2b
    rw [T.2.2.1, T.2.2.2, nI_add]
    by_cases q : i + n < P.length
    · have hT := T.2.1 (i + n) q
      rw [Nat.zero_add] at hT
      have eL : ldI h1 20 (nI (i + n)) = some (nI (bt P (i + n))) := by rw [ldI_ok (by rw [T.1.n20]; omega) (by omega), hT, bt_in q]
      have hb := (bt_lt (i := i + n) o).mpr q
      rw [if_pos (nI_lt q (by omega)), T.1.r36, Option.bind_some, eL, Option.bind_some]
      by_cases q1 : bt P (i + n) < 97
      · rw [if_pos (show nI (bt P (i + n)) < 97 from nI_lt (b := 97) q1 (by decide))]
        exact Ev_some (by rw [rn_uniq ⟨e, decide_eq_false (fun z => by have := z.1; omega)⟩ (rn_is o lt_out i)])
      · rw [if_neg (show ¬ nI (bt P (i + n)) < 97 from nI_nlt (b := 97) (by omega) (by omega)), Option.bind_some, eL, Option.bind_some]
        by_cases q2 : 122 < bt P (i + n)
        · rw [if_pos (show 122 < nI (bt P (i + n)) from nI_lt (a := 122) q2 (by omega))]
          exact Ev_some (by rw [rn_uniq ⟨e, decide_eq_false (fun z => by have := z.2; omega)⟩ (rn_is o lt_out i)])
        · rw [if_neg (show ¬ 122 < nI (bt P (i + n)) from nI_nlt (a := 122) (by omega) (by decide)), lt_def, nI_1]
          refine ih (m - 1) _ _ (by omega) ⟨n + 1, by omega, rfl, rfl, fun j hj => ?_⟩
          by_cases q3 : j = n
          · rw [q3]; exact decide_eq_true ⟨by omega, by omega⟩
          · exact e j (by omega)
    · rw [if_neg (nI_nlt (by omega) (by omega))]
      exact Ev_some (by rw [rn_uniq ⟨e, lt_out _ (by omega)⟩ (rn_is o lt_out i)])
  obtain ⟨q, e, rfl⟩ := key
  exact e
theorem m_takesWord {s : Nat} (o : okP P) (T : TM h P i) (hi : i ≤ P.length) (hs : s < 7) : (isWd P s (skp P i) → ∃ h', f_X11_takesWord 0 s h = some (1, h') ∧ frG h h' ∧ TM h' P (skp P i + (wd s).length)) ∧ (¬ isWd P s (skp P i) → ∃ h', f_X11_takesWord 0 s h = some (0, h') ∧ frG h h' ∧ TM h' P (skp P i)) := by
  have h500 := o.1
  have h5 := (wd_5 s hs).1
  obtain ⟨h1, e1, f1, T1⟩ := m_blanks o T.1 hi
  have hsk := skp_in o hi
  have hin := rn_in o (lt_out (P := P)) hsk.2
  have TM1 := T.fr f1 T1
  have pre : f_X11_takesWord 0 s h = (if nI (rn (ltB P) (skp P i)) = nI (wd s).length then f_X11_takesWord_29 0 s FU 0 h1 else some (0, h1)) := by
    unfold f_X11_takesWord
    rw [m_noWrong T, Option.bind_some, if_pos rfl]
    dsimp only
    rw [e1, Option.bind_some]
    dsimp only
    rw [m_letters o T1 hsk.2, Option.bind_some, wd_len s hs, Option.bind_some]
  rw [pre]
  by_cases c : rn (ltB P) (skp P i) = (wd s).length
  · rw [if_pos (by rw [c])]
    have key : Ev (f_X11_takesWord_29 0 s FU 0 h1) (fun q => (isWd P s (skp P i) → q = (1, sI h1 0 40 (nI (skp P i + (wd s).length)))) ∧ (¬ isWd P s (skp P i) → q = (0, h1))) := by
      unfold f_X11_takesWord_29
      refine Ev_FU (fun m p h2 => ∃ k, k + m = (wd s).length ∧ p = nI k ∧ h2 = h1 ∧ ∀ j, j < k → bt P (skp P i + j) = (wd s).getD j 0) (wd s).length 0 h1 (by omega) ⟨0, by omega, rfl, rfl, fun j hj => absurd hj (Nat.not_lt_zero _)⟩ ?_
      rintro m p h2 rec ⟨k, hk, rfl, rfl, e⟩ ih
      unfold f_X11_takesWord_29b
      rw [wd_len s hs, Option.bind_some]
      by_cases q : k < (wd s).length
      · have hl := wd_lt s hs k q
        have hT := T1.2.1 (skp P i + k) (by omega)
        rw [Nat.zero_add] at hT
        have hb := (bt_lt (i := skp P i + k) o).mpr (by omega)
        rw [if_pos (nI_lt q (by omega)), T1.1.r36, Option.bind_some, T1.2.2.1, nI_add, ldI_ok (by rw [T1.1.n20]; omega) (by omega), Option.bind_some, hT, ← bt_in (by omega), wd_chr s hs k q, Option.bind_some]
        by_cases q2 : bt P (skp P i + k) = (wd s).getD k 0
        · rw [if_pos (by rw [q2]), nI_1]
          refine ih (m - 1) _ _ (by omega) ⟨k + 1, by omega, rfl, rfl, fun j hj => ?_⟩
          by_cases q3 : j = k
          · rw [q3]; exact q2
          · exact e j (by omega)
        · rw [if_neg (fun z => q2 (nI_inj (by omega) (by omega) z))]
          exact Ev_some ⟨fun z => absurd (z.1 k q) q2, fun _ => rfl⟩
      · have : k = (wd s).length := by omega
        subst this
        rw [if_neg (nI_nlt (Nat.le_refl _) (by omega)), Option.bind_some, T1.2.2.1, nI_add, lt_def]
        exact Ev_some ⟨fun _ => rfl, fun z => absurd ((isWd_rn o hs).mpr ⟨c, e⟩) z⟩
    obtain ⟨q, e, k1, k2⟩ := key
    refine ⟨fun z => ⟨_, by rw [e, k1 z], f1.tr T1.to.1, TM1.fr T1.to.1 T1.to.2⟩, fun z => ⟨h1, by rw [e, k2 z], f1, TM1⟩⟩
  · rw [if_neg (fun z => c (nI_inj (by omega) (by omega) z))]
    exact ⟨fun z => absurd ((isWd_rn o hs).mp z).1 c, fun _ => ⟨h1, rfl, f1, TM1⟩⟩
theorem m_takesWordW {s k p : Nat} (T : TW h P k p) : f_X11_takesWord 0 s h = some (0, h) := by
  unfold f_X11_takesWord
  rw [m_wrong T, Option.bind_some]
  rfl
theorem m_isDg {n : Nat} (hn : n ≤ 256) : f_X11_isDigit 0 (bvI n) h = some (bI (isDg n), h) := by
  unfold f_X11_isDigit bvI
  by_cases q : n < 256
  · rw [if_pos q]
    by_cases q1 : n < 48
    · rw [if_pos (show nI n < 48 from nI_lt (b := 48) q1 (by decide)), show bI (isDg n) = 0 from if_neg (fun z => by have := z.1; omega)]
    · rw [if_neg (show ¬ nI n < 48 from nI_nlt (b := 48) (by omega) (by omega))]
      by_cases q2 : 57 < n
      · rw [if_pos (show 57 < nI n from nI_lt (a := 57) q2 (by omega)), show bI (isDg n) = 0 from if_neg (fun z => by have := z.2; omega)]
      · rw [if_neg (show ¬ 57 < nI n from nI_nlt (a := 57) (by omega) (by decide)), show bI (isDg n) = 1 from if_pos ⟨by omega, by omega⟩]
  · rw [if_neg q, if_pos (by decide), show bI (isDg n) = 0 from if_neg (fun z => by have := z.2; omega)]
theorem m_digits {lo hi' : Nat} (o : okP P) (T : TM h P i) (hi : i ≤ P.length) (hlo : lo ≤ 99) (hhi : hi' ≤ 99) : (∀ k p, nmb P i lo hi' = .inl (k, p) → ∃ h', f_X11_digits 0 (nI lo) (nI hi') h = some (0, h') ∧ frE h h' ∧ TW h' P k p) ∧ (∀ v e, nmb P i lo hi' = .inr (v, e) → ∃ h', f_X11_digits 0 (nI lo) (nI hi') h = some (nI v, h') ∧ frG h h' ∧ TM h' P e) := by
  have h500 := o.1
  have key : Ev (f_X11_digits 0 (nI lo) (nI hi') h) (fun q => (∀ k p, nmb P i lo hi' = .inl (k, p) → q.1 = 0 ∧ frE h q.2 ∧ TW q.2 P k p) ∧ (∀ v e, nmb P i lo hi' = .inr (v, e) → q.1 = nI v ∧ frG h q.2 ∧ TM q.2 P e)) := by
    have hF : ∀ k p h1 j, p ≤ 500 → nmb P i lo hi' = .inl (k, p) → frG h h1 → TM h1 P j → j ≤ P.length → Ev ((f_X11_errs 0 (nI k) (nI p) h1).bind fun q_4 => some (q_4.1, q_4.2)) (fun q => (∀ k p, nmb P i lo hi' = .inl (k, p) → q.1 = 0 ∧ frE h q.2 ∧ TW q.2 P k p) ∧ (∀ v e, nmb P i lo hi' = .inr (v, e) → q.1 = nI v ∧ frG h q.2 ∧ TM q.2 P e)) := fun k p h1 j hp e f1 T1 hj => by
      obtain ⟨h2, e2, f2, T2⟩ := m_errs (k := k) (p := p) T1 hj hp
      rw [e2, Option.bind_some]
      refine Ev_some ⟨fun k' p' e' => ?_, fun v e' z => (by rw [e] at z; cases z)⟩
      have e3 := Sum.inl.inj (e.symm.trans e')
      have e4 : k = k' := congrArg Prod.fst e3
      have e5 : p = p' := congrArg Prod.snd e3
      subst e4 e5
      exact ⟨rfl, f1.E.tr f2, T2⟩
    unfold f_X11_digits
    rw [m_noWrong T, Option.bind_some, if_pos rfl]
    dsimp only
    rw [m_here o T.1 hi, Option.bind_some]
    dsimp only
    rw [m_isDg (bt_le o), Option.bind_some]
    by_cases c : isDg (bt P i)
    · rw [if_neg (fun z => bI_0.mp z c), lt_def]
      dsimp only
      rw [T.1.2.2.1]
      have hno : ¬ rn (dgB P) i = 0 := fun z => by
        have := (rn_is o (dg_out (P := P)) i).2
        rw [z, Nat.add_zero] at this
        unfold dgB at this
        rw [decide_eq_true c] at this
        cases this
      unfold f_X11_digits_38
      refine Ev_FU (fun m p h1 => ∃ n v, i + n + m = P.length ∧ p = nI v ∧ frG h h1 ∧ TM h1 P (i + n) ∧ (∀ j, j < n → dgB P (i + j) = true) ∧ (v = dv P i n ∨ (9999 < v ∧ 9999 < dv P i n)) ∧ v ≤ 99999) (P.length - i) 0 h (by omega) ⟨0, 0, by omega, rfl, frG.rf, T, fun j hj => absurd hj (Nat.not_lt_zero _), Or.inl rfl, by omega⟩ ?_
      rintro m p h1 rec ⟨n, v, hn, rfl, f1, T1, e, hv, hv5⟩ ih
      unfold f_X11_digits_38b
      rw [m_here o T1.1 (by omega), Option.bind_some]
      dsimp only
      rw [m_isDg (bt_le o), Option.bind_some]
      by_cases q : isDg (bt P (i + n))
      · have hb := (bt_lt (i := i + n) o).mp (by omega)
        have nx : ∀ v', (v' = dv P i (n + 1) ∨ (9999 < v' ∧ 9999 < dv P i (n + 1))) → v' ≤ 99999 → Ev (f_X11_digits_75 rec 0 (nI lo) (nI hi') (nI i) (nI v') h1) (fun q => (∀ k p, nmb P i lo hi' = .inl (k, p) → q.1 = 0 ∧ frE h q.2 ∧ TW q.2 P k p) ∧ (∀ v e, nmb P i lo hi' = .inr (v, e) → q.1 = nI v ∧ frG h q.2 ∧ TM q.2 P e)) := fun v' a1 a2 => by
          unfold f_X11_digits_75
          rw [lt_def, T1.1.2.2.1, nI_1]
          refine ih (m - 1) _ _ (by omega) ⟨n + 1, v', by omega, rfl, f1.tr T1.1.to.1, T1.fr T1.1.to.1 T1.1.to.2, fun j hj => ?_, a1, a2⟩
          by_cases q3 : j = n
          · rw [q3]; exact decide_eq_true q
          · exact e j (by omega)
        have hdv : dv P i (n + 1) = 10 * dv P i n + (bt P (i + n) - 48) := rfl
        rw [if_neg (fun z => bI_0.mp z q)]
        by_cases q2 : 9999 < v
        · rw [if_pos (show 9999 < nI v from nI_lt (a := 9999) q2 (by omega))]
          exact nx v (Or.inr ⟨q2, by omega⟩) hv5
        · rw [if_neg (show ¬ 9999 < nI v from nI_nlt (a := 9999) (by omega) (by decide))]
          dsimp only
          rw [m_here o T1.1 (by omega), Option.bind_some]
          dsimp only
          rw [show bvI (bt P (i + n)) = nI (bt P (i + n)) from if_pos (by omega), ix10', nI_sub48 (by omega)]
          exact nx _ (Or.inl (by omega)) (by omega)
      · have hrn := rn_uniq ⟨e, decide_eq_false q⟩ (rn_is o (dg_out (P := P)) i)
        rw [if_pos (bI_0.mpr q)]
        dsimp only
        rw [m_inL (l := lo) (k := hi') (by rw [z64, nI_toInt (by omega)]) (by rw [z64, nI_toInt (by omega)]), Option.bind_some, nI_toInt (by omega)]
        by_cases q2 : lo ≤ dv P i n ∧ dv P i n ≤ hi'
        · have ev : v = dv P i n := by omega
          rw [if_neg (fun z => bI_0.mp z (by omega))]
          have en : nmb P i lo hi' = .inr (dv P i n, i + n) := by unfold nmb; rw [if_neg hno, ← hrn, if_pos q2]
          refine Ev_some ⟨fun k p z => (by rw [en] at z; cases z), fun v' e' z => ?_⟩
          have e2 := Sum.inr.inj (en.symm.trans z)
          have e3 : dv P i n = v' := congrArg Prod.fst e2
          have e4 : i + n = e' := congrArg Prod.snd e2
          subst e3 e4
          exact ⟨by rw [ev], f1, T1⟩
        · rw [if_pos (bI_0.mpr (by omega))]
          exact hF 2 i h1 (i + n) (by omega) (by unfold nmb; rw [if_neg hno, ← hrn, if_neg q2]) f1 T1 (by omega)
    · rw [if_pos (bI_0.mpr c)]
      dsimp only
      rw [T.1.2.2.1]
      exact hF 1 i h i (by omega) (by unfold nmb; rw [if_pos (rn_stop o dg_out (decide_eq_false c))]) frG.rf T hi
  obtain ⟨⟨r, h'⟩, e, k1, k2⟩ := key
  dsimp only at k1 k2
  refine ⟨fun k p z => ?_, fun v e' z => ?_⟩
  · obtain ⟨a1, a2, a3⟩ := k1 k p z
    exact ⟨h', by rw [e, a1], a2, a3⟩
  · obtain ⟨a1, a2, a3⟩ := k2 v e' z
    exact ⟨h', by rw [e, a1], a2, a3⟩
theorem m_digitsW {k p : Nat} {x y : Int32} (T : TW h P k p) : f_X11_digits 0 x y h = some (0, h) := by
  unfold f_X11_digits
  rw [m_wrong T, Option.bind_some]
  rfl
theorem m_number {lo hi' : Nat} (o : okP P) (T : TM h P i) (hi : i ≤ P.length) (hlo : lo ≤ 99) (hhi : hi' ≤ 99) : (∀ k p, nmb P (skp P i) lo hi' = .inl (k, p) → ∃ h', f_X11_number 0 (nI lo) (nI hi') h = some (0, h') ∧ frE h h' ∧ TW h' P k p) ∧ (∀ v e, nmb P (skp P i) lo hi' = .inr (v, e) → ∃ h', f_X11_number 0 (nI lo) (nI hi') h = some (nI v, h') ∧ frG h h' ∧ TM h' P e) := by
  obtain ⟨h1, e1, f1, T1⟩ := m_blanks o T.1 hi
  obtain ⟨k1, k2⟩ := m_digits (lo := lo) (hi' := hi') o (T.fr f1 T1) (skp_in o hi).2 hlo hhi
  have pre : f_X11_number 0 (nI lo) (nI hi') h = (f_X11_digits 0 (nI lo) (nI hi') h1).bind fun q_3 => some (q_3.1, q_3.2) := by
    unfold f_X11_number
    rw [m_noWrong T, Option.bind_some, if_pos rfl]
    dsimp only
    rw [e1, Option.bind_some]
  rw [pre]
  refine ⟨fun k p z => ?_, fun v e z => ?_⟩
  · obtain ⟨h', e', f', T'⟩ := k1 k p z
    exact ⟨h', by rw [e', Option.bind_some], f1.E.tr f', T'⟩
  · obtain ⟨h', e', f', T'⟩ := k2 v e z
    exact ⟨h', by rw [e', Option.bind_some], f1.tr f', T'⟩
theorem m_numberW {k p : Nat} {x y : Int32} (T : TW h P k p) : f_X11_number 0 x y h = some (0, h) := by
  unfold f_X11_number
  rw [m_wrong T, Option.bind_some]
  rfl
theorem m_must {c : Nat} (o : okP P) (T : TM h P i) (hi : i ≤ P.length) (hc : c < 256) : (bt P (skp P i) = c → ∃ h', f_X11_must 0 (nI c) h = some h' ∧ frG h h' ∧ TM h' P (skp P i + 1)) ∧ (¬ bt P (skp P i) = c → ∃ h', f_X11_must 0 (nI c) h = some h' ∧ frE h h' ∧ TW h' P 1 (skp P i)) := by
  have h500 := o.1
  obtain ⟨h1, e1, f1, T1⟩ := m_blanks o T.1 hi
  have hsk := skp_in o hi
  have TM1 := T.fr f1 T1
  unfold f_X11_must
  rw [m_noWrong T, Option.bind_some, if_pos rfl]
  dsimp only
  rw [e1, Option.bind_some]
  dsimp only
  constructor
  · intro q
    refine ⟨_, ?_, f1.tr T1.to.1, TM1.fr T1.to.1 T1.to.2⟩
    rw [if_pos ((bv_is hc (bt_le o)).mpr q), lt_def, T1.2.2.1, nI_1]
  · intro q
    obtain ⟨h2, e2, f2, T2⟩ := m_errs (k := 1) (p := skp P i) TM1 hsk.2 (by omega)
    refine ⟨h2, ?_, f1.E.tr f2, T2⟩
    rw [if_neg (fun z => q ((bv_is hc (bt_le o)).mp z)), T1.2.2.1, show (1 : Int32) = nI 1 from rfl, e2, Option.bind_some]
theorem m_mustW {k p : Nat} {x : Int32} (T : TW h P k p) : f_X11_must 0 x h = some h := by
  unfold f_X11_must
  rw [m_wrong T, Option.bind_some]
  rfl
end TPM
