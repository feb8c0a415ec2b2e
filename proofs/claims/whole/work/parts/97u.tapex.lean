/-! ===== the class reads its tape ===== -/
def bvI (n : Nat) : Int32 := if n < 256 then nI n else -1
theorem by_and : ∀ b, b < 256 → (nI b).toInt8.toInt32 &&& 255 = nI b := by decide +kernel
theorem by_lt : ∀ b, b < 256 → ((if (nI b).toInt8.toInt32 < 97 then 0 else if 122 < (nI b).toInt8.toInt32 then 0 else 1 : Int32) = bI (isLt b)) := by decide +kernel
theorem by_dg : ∀ b, b < 256 → ((if (nI b).toInt8.toInt32 < 48 then 0 else if 57 < (nI b).toInt8.toInt32 then 0 else 1 : Int32) = bI (isDg b)) := by decide +kernel
def TX (h : MH) (P : List Nat) (i : Nat) : Prop := XL h ∧ xP h P ∧ gI h 159 2 = nI i
def frT (h h' : MH) : Prop := frm [159] h h' ∧ ∀ k, k ≠ 2 → gI h' 159 k = gI h 159 k
def frF (h h' : MH) : Prop := frm [159] h h' ∧ gI h' 159 1 = gI h 159 1
def FT (h : MH) (k p : Nat) : Prop := gI h 159 3 = nI k ∧ gI h 159 4 = nI p
theorem frT.rf {h : MH} : frT h h := ⟨frm.rf, fun _ _ => rfl⟩
theorem frT.tr {h h1 h2 : MH} (a : frT h h1) (b : frT h1 h2) : frT h h2 := ⟨frm.tr a.1 b.1, fun k hk => (b.2 k hk).trans (a.2 k hk)⟩
theorem frT.F {h h' : MH} (a : frT h h') : frF h h' := ⟨a.1, a.2 1 (by decide)⟩
theorem frF.tr {h h1 h2 : MH} (a : frF h h1) (b : frF h1 h2) : frF h h2 := ⟨frm.tr a.1 b.1, b.2.trans a.2⟩
theorem TX.fr {h h' : MH} {P : List Nat} {i j : Nat} (f : frT h h') (e : gI h' 159 2 = nI j) (T : TX h P i) : TX h' P j := ⟨T.1.fr f.1 (by decide), T.2.1.fr (f.2 1 (by decide)) (f.1.1 160 (by decide)), e⟩
theorem TX.to {h : MH} {P : List Nat} {i j : Nat} (T : TX h P i) : frT h (sI h 159 2 (nI j)) ∧ TX (sI h 159 2 (nI j)) P j := by
  have f : frT h (sI h 159 2 (nI j)) := ⟨frm.sI (by decide) frm.rf, fun k hk => gI_sI_nk hk⟩
  exact ⟨f, T.fr f (gI_s _ _ _ _)⟩
theorem nI_sub48 {n : Nat} (h : 48 ≤ n) : nI n - 48 = nI (n - 48) := by
  have : nI n = nI (n - 48) + nI 48 := by rw [nI_add]; congr 1; omega
  rw [this, show (48 : Int32) = nI 48 from rfl, Int32.sub_eq_add_neg, Int32.add_assoc, Int32.add_right_neg, Int32.add_zero]
section TPX
variable {h : MH} {P : List Nat} {i : Nat}
theorem x_byteAt {j : Nat} (o : okP P) (T : TX h P i) (hj : j < 2 ^ 31) : f_X8_byteAt 159 (nI j) h = some (bvI (bt P j), h) := by
  have h500 := o.1
  unfold f_X8_byteAt bvI
  rw [if_neg (nI_nn hj), T.2.1.1]
  by_cases q : j < P.length
  · rw [if_pos (nI_lt q (by omega)), T.1.y159, Option.bind_some, ldI_ok (by rw [T.1.z160]; omega) (by omega), Option.bind_some, T.2.1.2 j q, if_pos ((bt_lt o).mpr q), by_and _ (o.2 j q), bt_in q]
  · rw [if_neg (nI_nlt (by omega) (by omega)), if_neg (fun z => q ((bt_lt o).mp z))]
theorem bv_is {c n : Nat} (hc : c < 256) (hn : n ≤ 256) : bvI n = nI c ↔ n = c := by
  unfold bvI
  by_cases q : n < 256
  · rw [if_pos q]; exact ⟨fun z => nI_inj (by omega) (by omega) z, fun z => by rw [z]⟩
  · rw [if_neg q]; exact ⟨fun z => absurd z.symm (nI_m1 (by omega)), fun z => by omega⟩
theorem bt_le (o : okP P) {j : Nat} : bt P j ≤ 256 := by
  by_cases q : j < P.length
  · have := (bt_lt o).mpr q; omega
  · rw [bt_out (by omega)]; exact Nat.le_refl _
theorem x_isLetterAt {j : Nat} (o : okP P) (T : TX h P i) (hj : j < 2 ^ 31) : f_X8_isLetterAt 159 (nI j) h = some (bI (isLt (bt P j)), h) := by
  have h500 := o.1
  unfold f_X8_isLetterAt
  rw [if_neg (nI_nn hj), T.2.1.1]
  by_cases q : j < P.length
  · have e : ldI h 160 (nI j) = some ((nI (P.getD j 0)).toInt8.toInt32) := by rw [ldI_ok (by rw [T.1.z160]; omega) (by omega), T.2.1.2 j q]
    rw [if_pos (nI_lt q (by omega)), T.1.y159, Option.bind_some, e, Option.bind_some, Option.bind_some, e, Option.bind_some, bt_in q, ← by_lt _ (o.2 j q)]
    split
    · rfl
    · split <;> rfl
  · rw [if_neg (nI_nlt (by omega) (by omega)), bt_out (by omega)]
    rfl
theorem x_isDigitAt {j : Nat} (o : okP P) (T : TX h P i) (hj : j < 2 ^ 31) : f_X8_isDigitAt 159 (nI j) h = some (bI (isDg (bt P j)), h) := by
  have h500 := o.1
  unfold f_X8_isDigitAt
  rw [if_neg (nI_nn hj), T.2.1.1]
  by_cases q : j < P.length
  · have e : ldI h 160 (nI j) = some ((nI (P.getD j 0)).toInt8.toInt32) := by rw [ldI_ok (by rw [T.1.z160]; omega) (by omega), T.2.1.2 j q]
    rw [if_pos (nI_lt q (by omega)), T.1.y159, Option.bind_some, e, Option.bind_some, Option.bind_some, e, Option.bind_some, bt_in q, ← by_dg _ (o.2 j q)]
    split
    · rfl
    · split <;> rfl
  · rw [if_neg (nI_nlt (by omega) (by omega)), bt_out (by omega)]
    rfl
theorem x_skip (o : okP P) (T : TX h P i) (hi : i ≤ P.length) : ∃ h', f_X8_skipBlanks 159 h = some h' ∧ frT h h' ∧ TX h' P (skp P i) := by
  have h500 := o.1
  have key : Ev (f_X8_skipBlanks 159 h) (fun h' => frT h h' ∧ TX h' P (skp P i)) := by
    unfold f_X8_skipBlanks f_X8_skipBlanks_2
    refine Ev_FU (fun m p h1 => ∃ c, c + m = 500 ∧ p = nI c ∧ frT h h1 ∧ TX h1 P (i + c) ∧ i + c ≤ P.length ∧ skp P i = skp P (i + c)) 500 0 h (by omega) ⟨0, by omega, rfl, frT.rf, T, hi, rfl⟩ ?_
    rintro m p h1 rec ⟨c, hc, rfl, f1, T1, hcl, e⟩ ih
    unfold f_X8_skipBlanks_2b
    by_cases q : c < 500
    · rw [if_pos (show nI c < 500 from nI_lt (b := 500) q (by decide)), T1.2.2, x_byteAt o T1 (by omega), Option.bind_some]
      by_cases q2 : bt P (i + c) = 32
      · have := (bt_lt (i := i + c) o).mp (by omega)
        rw [if_pos (show bvI (bt P (i + c)) = 32 from (bv_is (c := 32) (by decide) (bt_le o)).mpr q2), lt_def]
        dsimp only
        rw [T1.2.2, nI_1, nI_1]
        refine ih (m - 1) _ _ (by omega) ⟨c + 1, by omega, rfl, f1.tr T1.to.1, T1.to.2, by omega, ?_⟩
        rw [e, skp_step o q2]
        rfl
      · rw [if_neg (show ¬ bvI (bt P (i + c)) = 32 from fun z => q2 ((bv_is (c := 32) (by decide) (bt_le o)).mp z))]
        refine Ev_some ⟨f1, ?_⟩
        rw [e, skp_stop o q2]
        exact T1
    · rw [if_neg (show ¬ nI c < 500 from nI_nlt (b := 500) (by omega) (by omega))]
      refine Ev_some ⟨f1, ?_⟩
      rw [e, skp_stop o (by rw [bt_out (by omega)]; decide)]
      exact T1
  exact key
theorem x_isWord {s : Nat} (o : okP P) (T : TX h P i) (hi : i ≤ P.length) (hs : s < 7) : f_X8_isWord 159 s h = some (bI (isWd P s i), h) := by
  have h500 := o.1
  have h5 := (wd_5 s hs).1
  have key : Ev (f_X8_isWord 159 s h) (fun q => q = (bI (isWd P s i), h)) := by
    unfold f_X8_isWord f_X8_isWord_2
    refine Ev_FU (fun m p h1 => ∃ k, k + m = (wd s).length ∧ p = nI k ∧ h1 = h ∧ ∀ j, j < k → bt P (i + j) = (wd s).getD j 0) (wd s).length 0 h (by omega) ⟨0, by omega, rfl, rfl, fun j hj => absurd hj (Nat.not_lt_zero _)⟩ ?_
    rintro m p h1 rec ⟨k, hk, rfl, rfl, e⟩ ih
    unfold f_X8_isWord_2b
    rw [wd_len s hs, Option.bind_some]
    by_cases q : k < (wd s).length
    · have hl := wd_lt s hs k q
      rw [if_pos (nI_lt q (by omega)), T.2.2, nI_add, x_byteAt o T (by omega), Option.bind_some, wd_chr s hs k q, Option.bind_some]
      by_cases q2 : bt P (i + k) = (wd s).getD k 0
      · rw [if_pos ((bv_is (by omega) (bt_le o)).mpr q2), nI_1]
        refine ih (m - 1) _ _ (by omega) ⟨k + 1, by omega, rfl, rfl, fun j hj => ?_⟩
        by_cases q3 : j = k
        · rw [q3]; exact q2
        · exact e j (by omega)
      · rw [if_neg (fun z => q2 ((bv_is (by omega) (bt_le o)).mp z))]
        refine Ev_some ?_
        unfold bI
        rw [if_neg (fun z => q2 (z.1 k q))]
    · have : k = (wd s).length := by omega
      subst this
      rw [if_neg (nI_nlt (Nat.le_refl _) (by omega)), Option.bind_some, T.2.2, nI_add, x_isLetterAt o T (by omega), Option.bind_some]
      by_cases q2 : isLt (bt P (i + (wd s).length))
      · rw [if_neg (fun z => bI_0.mp z q2)]
        exact Ev_some (by rw [show bI (isWd P s i) = 0 from if_neg (fun z => z.2 q2)])
      · rw [if_pos (bI_0.mpr q2)]
        exact Ev_some (by rw [show bI (isWd P s i) = 1 from if_pos ⟨e, q2⟩])
  obtain ⟨q, e, rfl⟩ := key
  exact e
theorem x_fault {k p : Nat} : f_X8_foundFault 159 (nI k) (nI p) h = some (0, sI (sI h 159 3 (nI k)) 159 4 (nI p)) ∧ frF h (sI (sI h 159 3 (nI k)) 159 4 (nI p)) ∧ FT (sI (sI h 159 3 (nI k)) 159 4 (nI p)) k p := ⟨rfl, ⟨frm.sI (by decide) (frm.sI (by decide) frm.rf), by rw [gI_sI_nk (by decide), gI_sI_nk (by decide)]⟩, by rw [gI_sI_nk (by decide), gI_s], gI_s _ _ _ _⟩
theorem x_takeWord {s : Nat} (o : okP P) (T : TX h P i) (hi : i ≤ P.length) (hs : s < 7) : (isWd P s i → ∃ h', f_X8_takeWord 159 s h = some (1, h') ∧ frT h h' ∧ TX h' P (i + (wd s).length)) ∧ (¬ isWd P s i → ∃ h', f_X8_takeWord 159 s h = some (0, h') ∧ frF h h' ∧ FT h' 1 i) := by
  unfold f_X8_takeWord
  rw [x_isWord o T hi hs, Option.bind_some]
  constructor
  · intro q
    refine ⟨sI h 159 2 (nI (i + (wd s).length)), ?_, T.to⟩
    rw [if_neg (fun z => bI_0.mp z q), wd_len s hs, Option.bind_some]
    dsimp only
    rw [T.2.2, nI_add]
    rfl
  · intro q
    refine ⟨_, ?_, (x_fault (h := h) (k := 1) (p := i)).2⟩
    rw [if_pos (bI_0.mpr q)]
    dsimp only
    rw [T.2.2, show (1 : Int32) = nI 1 from rfl, x_fault.1, Option.bind_some, if_pos (Or.inl rfl)]
theorem x_takeSign {c : Nat} (o : okP P) (T : TX h P i) (hi : i ≤ P.length) (hc : c < 256) : (bt P (skp P i) = c → ∃ h', f_X8_takeSign 159 (nI c) h = some (1, h') ∧ frT h h' ∧ TX h' P (skp P i + 1)) ∧ (¬ bt P (skp P i) = c → ∃ h', f_X8_takeSign 159 (nI c) h = some (0, h') ∧ frF h h' ∧ FT h' 1 (skp P i)) := by
  have h500 := o.1
  obtain ⟨h1, e1, f1, T1⟩ := x_skip o T hi
  have hsk := skp_in o hi
  unfold f_X8_takeSign
  rw [e1, Option.bind_some, T1.2.2, x_byteAt o T1 (by omega), Option.bind_some]
  constructor
  · intro q
    refine ⟨sI h1 159 2 (nI (skp P i + 1)), ?_, f1.tr T1.to.1, T1.to.2⟩
    rw [if_pos ((bv_is hc (bt_le o)).mpr q)]
    dsimp only
    rw [T1.2.2, nI_1]
    rfl
  · intro q
    refine ⟨_, ?_, f1.F.tr (x_fault (h := h1) (k := 1) (p := skp P i)).2.1, (x_fault (h := h1) (k := 1) (p := skp P i)).2.2⟩
    rw [if_neg (fun z => q ((bv_is hc (bt_le o)).mp z))]
    dsimp only
    rw [T1.2.2, show (1 : Int32) = nI 1 from rfl, x_fault.1, Option.bind_some, if_pos (Or.inl rfl)]
theorem x_takeNumber {lo hi' : Nat} (o : okP P) (T : TX h P i) (hi : i ≤ P.length) (hlo : lo ≤ 99) (hhi : hi' ≤ 99) : (∀ k p, nmb P i lo hi' = .inl (k, p) → ∃ h', f_X8_takeNumber 159 (nI lo) (nI hi') h = some (-1, h') ∧ frF h h' ∧ FT h' k p) ∧ (∀ v e, nmb P i lo hi' = .inr (v, e) → ∃ h', f_X8_takeNumber 159 (nI lo) (nI hi') h = some (nI v, h') ∧ frT h h' ∧ TX h' P e) := by
  have h500 := o.1
  have key : Ev (f_X8_takeNumber 159 (nI lo) (nI hi') h) (fun q => (∀ k p, nmb P i lo hi' = .inl (k, p) → q.1 = -1 ∧ frF h q.2 ∧ FT q.2 k p) ∧ (∀ v e, nmb P i lo hi' = .inr (v, e) → q.1 = nI v ∧ frT h q.2 ∧ TX q.2 P e)) := by
    unfold f_X8_takeNumber f_X8_takeNumber_11
    rw [lt_def, T.2.2]
    have fin : ∀ n h1, n = rn (dgB P) i → frT h h1 → TX h1 P (i + n) → Ev (f_X8_takeNumber_70 159 (nI lo) (nI hi') (nI i) (nI (min 100 (dv P i n))) h1) (fun q => (∀ k p, nmb P i lo hi' = .inl (k, p) → q.1 = -1 ∧ frF h q.2 ∧ FT q.2 k p) ∧ (∀ v e, nmb P i lo hi' = .inr (v, e) → q.1 = nI v ∧ frT h q.2 ∧ TX q.2 P e)) := fun n h1 hn f1 T1 => by
      have hin := rn_in o (dg_out (P := P)) hi
      have hF : ∀ k p, k < 100 → nmb P i lo hi' = .inl (k, p) → Ev ((f_X8_foundFault 159 (nI k) (nI p) h1).bind fun q_1 => some ((-1 : Int32), q_1.2)) (fun q => (∀ k p, nmb P i lo hi' = .inl (k, p) → q.1 = -1 ∧ frF h q.2 ∧ FT q.2 k p) ∧ (∀ v e, nmb P i lo hi' = .inr (v, e) → q.1 = nI v ∧ frT h q.2 ∧ TX q.2 P e)) := fun k p hk e => by
        rw [(x_fault (h := h1) (k := k) (p := p)).1, Option.bind_some]
        refine Ev_some ⟨fun k' p' e' => ?_, fun v e' z => by rw [e] at z; cases z⟩
        have e2 := Sum.inl.inj (e.symm.trans e')
        have e3 : k = k' := congrArg Prod.fst e2
        have e4 : p = p' := congrArg Prod.snd e2
        subst e3 e4
        exact ⟨rfl, f1.F.tr x_fault.2.1, x_fault.2.2⟩
      unfold f_X8_takeNumber_70
      rw [T1.2.2]
      by_cases q : n = 0
      · subst q
        rw [if_pos (by rw [Nat.add_zero]), Nat.add_zero]
        exact hF 1 i (by omega) (by unfold nmb; rw [if_pos hn.symm])
      · rw [if_neg (fun z => q (by have := nI_inj (by omega) (by omega) z; omega))]
        have hno : ¬ rn (dgB P) i = 0 := by omega
        unfold f_X8_takeNumber_102
        by_cases q2 : lo ≤ dv P i n ∧ dv P i n ≤ hi'
        · rw [if_neg (nI_nlt (by omega) (by omega)), if_neg (nI_nlt (by omega) (by omega))]
          have e : nmb P i lo hi' = .inr (dv P i n, i + n) := by unfold nmb; rw [if_neg hno, ← hn, if_pos q2]
          refine Ev_some ⟨fun k p z => (by rw [e] at z; cases z), fun v e' z => ?_⟩
          have e2 := Sum.inr.inj (e.symm.trans z)
          have e3 : dv P i n = v := congrArg Prod.fst e2
          have e4 : i + n = e' := congrArg Prod.snd e2
          subst e3 e4
          exact ⟨by show nI (min 100 (dv P i n)) = _; rw [Nat.min_eq_right (by omega)], f1, T1⟩
        · have e : nmb P i lo hi' = .inl (2, i) := by unfold nmb; rw [if_neg hno, ← hn, if_neg q2]
          by_cases q3 : min 100 (dv P i n) < lo
          · rw [if_pos (nI_lt q3 (by omega))]
            exact hF 2 i (by omega) e
          · rw [if_neg (nI_nlt (by omega) (by omega)), if_pos (nI_lt (by omega) (by omega))]
            exact hF 2 i (by omega) e
    refine Ev_FU (fun m p h1 => ∃ n, n + m = 500 ∧ p = (nI (min 100 (dv P i n)), nI n) ∧ frT h h1 ∧ TX h1 P (i + n) ∧ i + n ≤ P.length ∧ ∀ j, j < n → dgB P (i + j) = true) 500 (0, 0) h (by omega) ⟨0, by omega, rfl, frT.rf, T, hi, fun j hj => absurd hj (Nat.not_lt_zero _)⟩ ?_
    rintro m p h1 rec ⟨n, hn, rfl, f1, T1, hnl, e⟩ ih
    unfold f_X8_takeNumber_11b
    show Ev (if nI n < 500 then _ else _) _
    by_cases q : n < 500
    · rw [if_pos (show nI n < 500 from nI_lt (b := 500) q (by decide)), T1.2.2, x_isDigitAt o T1 (by omega), Option.bind_some]
      by_cases q2 : isDg (bt P (i + n))
      · have hb := (bt_lt (i := i + n) o).mp (by omega)
        rw [if_neg (fun z => bI_0.mp z q2)]
        dsimp only
        rw [T1.2.2, x_byteAt o T1 (by omega), Option.bind_some, lt_def, lt_def]
        dsimp only
        rw [T1.2.2, show bvI (bt P (i + n)) = nI (bt P (i + n)) from if_pos (by omega), ix10, show nI (10 * min 100 (dv P i n) + bt P (i + n)) - 48 = nI (10 * min 100 (dv P i n) + bt P (i + n) - 48) from nI_sub48 (by omega), show ((if nI (10 * min 100 (dv P i n) + bt P (i + n) - 48) < 100 then nI (10 * min 100 (dv P i n) + bt P (i + n) - 48) else 100) : Int32) = nI (min 100 (dv P i (n + 1))) from ?_, nI_1, nI_1]
        · refine ih (m - 1) _ _ (by omega) ⟨n + 1, by omega, rfl, f1.tr T1.to.1, T1.to.2, by omega, fun j hj => ?_⟩
          by_cases q3 : j = n
          · rw [q3]; exact decide_eq_true q2
          · exact e j (by omega)
        · have hdv : dv P i (n + 1) = 10 * dv P i n + (bt P (i + n) - 48) := rfl
          by_cases q3 : 10 * min 100 (dv P i n) + bt P (i + n) - 48 < 100
          · rw [if_pos (show nI (10 * min 100 (dv P i n) + bt P (i + n) - 48) < 100 from nI_lt (b := 100) q3 (by decide))]
            congr 1
            omega
          · rw [if_neg (show ¬ nI (10 * min 100 (dv P i n) + bt P (i + n) - 48) < 100 from nI_nlt (b := 100) (by omega) (by omega))]
            show nI 100 = _
            congr 1
            omega
      · rw [if_pos (bI_0.mpr q2)]
        exact fin n h1 (rn_uniq ⟨e, decide_eq_false q2⟩ (rn_is o dg_out i)) f1 T1
    · rw [if_neg (show ¬ nI n < 500 from nI_nlt (b := 500) (by omega) (by omega))]
      exact fin n h1 (rn_uniq ⟨e, dg_out _ (by omega)⟩ (rn_is o dg_out i)) f1 T1
  obtain ⟨⟨r, h'⟩, e, k1, k2⟩ := key
  dsimp only at k1 k2
  refine ⟨fun k p z => ?_, fun v e' z => ?_⟩
  · obtain ⟨a1, a2, a3⟩ := k1 k p z
    exact ⟨h', by rw [e, a1], a2, a3⟩
  · obtain ⟨a1, a2, a3⟩ := k2 v e' z
    exact ⟨h', by rw [e, a1], a2, a3⟩
end TPX
