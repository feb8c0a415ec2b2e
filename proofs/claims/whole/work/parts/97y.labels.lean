/-! ===== the labels of a binding in both readers ===== -/
section LL
variable {bx bm hx hm : MH} {P : List Nat} {i : Nat} {t : NT} {B : Nat → Option (Nat × List Nat)} {b nd : Nat} {ls : List Nat}
theorem nmb_at {i lo hi k p : Nat} (e : nmb P i lo hi = .inl (k, p)) : p = i := by
  unfold nmb at e
  by_cases q : rn (dgB P) i = 0
  · rw [if_pos q] at e
    exact (congrArg Prod.snd (Sum.inl.inj e)).symm
  · rw [if_neg q] at e
    by_cases q2 : lo ≤ dv P i (rn (dgB P) i) ∧ dv P i (rn (dgB P) i) ≤ hi
    · rw [if_pos q2] at e; cases e
    · rw [if_neg q2] at e
      exact (congrArg Prod.snd (Sum.inl.inj e)).symm
/-- the seventh label: the fault is laid over whatever is there -/
theorem m_seventh {h : MH} {x1 x3 : Int32} {j l : Nat} (T : TB h P l) (hl : l ≤ P.length) (hj : j ≤ 500) : ∃ h', f_X11_labels 0 x1 (nI 6) x3 (nI j) h = some (nI 6, h') ∧ frE h h' ∧ TW h' P 4 j := by
  have f : frE h (sI (sI h 0 38 4) 0 39 (nI j)) := ⟨frm.sI (by decide) (frm.sI (by decide) frm.rf), fun k h1 h2 _ => by rw [gI_sI_nk h2, gI_sI_nk h1]⟩
  refine ⟨_, ?_, f, ⟨l, hl, T.fr f ?_⟩, ?_, gI_s _ _ _ _, hj⟩
  · unfold f_X11_labels
    rw [if_pos (show nI 6 = 6 from rfl)]
    rfl
  · rw [gI_sI_nk (by decide), gI_sI_nk (by decide)]; exact T.2.2.1
  · rw [gI_sI_nk (by decide), gI_s]; rfl
theorem c_one (o : okP P) (C : LB bx bm hx hm P i t B b nd ls) (hi : skp P i = i) {hmS hm0 : MH} {v0 : Int32} (e0 : f_X11_behindBlanks 0 hmS = some (v0, hm0)) (f0 : frG hm hm0) (T0 : TB hm0 P i) {k84 : Int32 → MH → Option MH} (hW : ∀ z h k p, TW h P k p → k84 z h = some h) : (∃ k p hx' hm', f_X8_readOneLabel 159 (nI b) (nI ls.length) hx = some (0, hx') ∧ f_X11_readBinding_105 k84 0 (nI b) (nI nd) (nI ls.length) hmS = some hm' ∧ FP bx bm hx' hm' P k p) ∨ (∃ x e hx' hm', f_X8_readOneLabel 159 (nI b) (nI ls.length) hx = some (1, hx') ∧ f_X11_readBinding_105 k84 0 (nI b) (nI nd) (nI ls.length) hmS = k84 (nI (ls.length + 1)) hm' ∧ i < e ∧ LB bx bm hx' hm' P e t B b nd (ls ++ [x])) := by
  have h500 := o.1
  have hil := C.2.2.1
  have hk6 : ls.length ≤ 6 := C.2.2.2.2.2.2.2.1
  have hb : b < 6 := C.2.2.2.2.2.1
  have TM0 : TM hm0 P i := C.2.1.1.fr f0 T0
  have C0 : LB bx bm hx hm0 P i t B b nd ls := C.to frT.rf C.1.1 f0 TM0 hil
  have w5 := x_isWord (s := 5) o C.1.1 hil (by decide)
  have w6 := x_isWord (s := 6) o C.1.1 hil (by decide)
  have m5 := m_takesWord (s := 5) o TM0 hil (by decide)
  rw [hi] at m5
  have M105 : ∀ v h', f_X11_readLabel 0 hm0 = some (v, h') → f_X11_readBinding_105 k84 0 (nI b) (nI nd) (nI ls.length) hmS = (f_X11_isWrong 0 h').bind fun q_4 => if q_4.1 = 0 then f_X11_readBinding_144 k84 0 (nI i) (nI b) (nI nd) (nI ls.length) v q_4.2 else if gI q_4.2 0 38 = 1 then (if gI q_4.2 0 39 = nI i then f_X11_readBinding_156 k84 0 (nI b) (nI nd) (nI ls.length) q_4.2 else f_X11_readBinding_144 k84 0 (nI i) (nI b) (nI nd) (nI ls.length) v q_4.2) else f_X11_readBinding_144 k84 0 (nI i) (nI b) (nI nd) (nI ls.length) v q_4.2 := fun v h' e => by
    unfold f_X11_readBinding_105
    rw [e0, Option.bind_some, lt_def]
    dsimp only
    rw [T0.2.2.1, e, Option.bind_some]
  -- a letter stands here
  have go : ∀ (fl : Bool) hm1, (i + 1 ≤ P.length) → frG hm0 hm1 → TM hm1 P (i + 1) → f_X8_readOneLabel 159 (nI b) (nI ls.length) hx = f_X8_readOneLabel_30 159 (nI b) (nI ls.length) (if fl then 1 else 0) hx → (f_X11_readLabel 0 hm0 = (f_X11_digits 0 0 (nI (if fl then 9 else 29)) hm1).bind fun q => some ((if fl then q.1 else 100 + q.1), q.2)) → (∃ k p hx' hm', f_X8_readOneLabel 159 (nI b) (nI ls.length) hx = some (0, hx') ∧ f_X11_readBinding_105 k84 0 (nI b) (nI nd) (nI ls.length) hmS = some hm' ∧ FP bx bm hx' hm' P k p) ∨ (∃ x e hx' hm', f_X8_readOneLabel 159 (nI b) (nI ls.length) hx = some (1, hx') ∧ f_X11_readBinding_105 k84 0 (nI b) (nI nd) (nI ls.length) hmS = k84 (nI (ls.length + 1)) hm' ∧ i < e ∧ LB bx bm hx' hm' P e t B b nd (ls ++ [x])) := fun fl hm1 hi1 f1 T1 eX eM => by
    have htop : (if fl then 9 else 29) ≤ 99 := by cases fl <;> decide
    obtain ⟨d1, d2⟩ := m_digits (lo := 0) (hi' := if fl then 9 else 29) o T1 hi1 (by omega) htop
    have TX1 := C.1.1.to (j := i + 1)
    obtain ⟨n1, n2⟩ := x_takeNumber (lo := 0) (hi' := if fl then 9 else 29) o TX1.2 hi1 (by omega) htop
    -- the reference past the letter, at fault
    have mbad : ∀ (v : Nat) h', TB h' P v → v ≤ P.length → frE hm0 h' → ls.length = 6 → ∀ x, ∃ hm', f_X11_readBinding_144 k84 0 (nI i) (nI b) (nI nd) (nI ls.length) x h' = some hm' ∧ frE hm0 hm' ∧ TW hm' P 4 i := fun v h' T' hv f' h6 x => by
      obtain ⟨h2, e2, f2, T2⟩ := m_seventh (x1 := nI b) (x3 := x) (j := i) T' hv (by omega)
      refine ⟨h2, ?_, f'.tr f2, T2⟩
      unfold f_X11_readBinding_144 f_X11_readBinding_156
      rw [h6, e2, Option.bind_some]
      exact hW _ _ _ _ T2
    rw [eX]
    have e30 : f_X8_readOneLabel_30 159 (nI b) (nI ls.length) (if fl then 1 else 0) hx = if nI ls.length < 6 then f_X8_readOneLabel_69 159 (nI b) (if fl then 1 else 0) 159 0 (nI (if fl then 9 else 29)) (sI hx 159 2 (nI (i + 1))) else (f_X8_foundFault 159 4 (gI hx 159 2) hx).bind fun q_2 => if q_2.1 = 0 ∨ q_2.1 = 1 then some (q_2.1, q_2.2) else none := by
      unfold f_X8_readOneLabel_30
      rw [lt_def, C.1.1.2.2, nI_1]
      cases fl <;> rfl
    rw [e30]
    by_cases c6 : ls.length < 6
    · rw [if_pos (show nI ls.length < 6 from nI_lt (b := 6) c6 (by decide))]
      unfold f_X8_readOneLabel_69
      cases en : nmb P (i + 1) 0 (if fl then 9 else 29) with
      | inl kp =>
        obtain ⟨k, p⟩ := kp
        obtain ⟨hxa, a1, a2, a3⟩ := n1 k p en
        obtain ⟨hma, b1, b2, b3⟩ := d1 k p en
        have a1 : f_X8_takeNumber 159 0 (nI (if fl then 9 else 29)) (sI hx 159 2 (nI (i + 1))) = some (-1, hxa) := a1
        have b1 : f_X11_digits 0 0 (nI (if fl then 9 else 29)) hm1 = some (0, hma) := b1
        have hp := nmb_at en
        left
        refine ⟨k, p, hxa, hma, by rw [a1, Option.bind_some, if_pos rfl], ?_, C0.bad (TX1.1.F.tr a2) a3 (f1.E.tr b2) b3 (nmb_bad en)⟩
        rw [M105 _ _ (by rw [eM, b1, Option.bind_some]), m_wrong b3, Option.bind_some]
        dsimp only
        have e144 : ∀ x, f_X11_readBinding_144 k84 0 (nI i) (nI b) (nI nd) (nI ls.length) x hma = some hma := fun x => by
          unfold f_X11_readBinding_144 f_X11_readBinding_156 f_X11_labels f_X11_labels_42
          rw [if_neg (show ¬ nI ls.length = 6 from fun z => by have := nI_inj (b := 6) (by omega) (by decide) z; omega), m_wrong b3, Option.bind_some]
          dsimp only
          rw [if_neg (by decide), Option.bind_some]
          exact hW _ _ _ _ b3
        rw [if_neg (by decide), e144, if_neg (show ¬ gI hma 0 39 = nI i from fun z => by rw [b3.2.2.1, hp] at z; have := nI_inj (by omega) (by omega) z; omega)]
        split <;> rfl
      | inr ve =>
        obtain ⟨v, e⟩ := ve
        obtain ⟨hxa, a1, a2, a3⟩ := n2 v e en
        obtain ⟨hma, b1, b2, b3⟩ := d2 v e en
        have a1 : f_X8_takeNumber 159 0 (nI (if fl then 9 else 29)) (sI hx 159 2 (nI (i + 1))) = some (nI v, hxa) := a1
        have b1 : f_X11_digits 0 0 (nI (if fl then 9 else 29)) hm1 = some (nI v, hma) := b1
        have hv := nmb_ok o hi1 en
        have htp : (if fl then 9 else 29) ≤ 29 := by cases fl <;> decide
        have hv2 : v ≤ 29 := by omega
        have C2 : LB bx bm hxa hma P e t B b nd ls := C0.to (TX1.1.tr a2) a3 (f1.tr b2) b3 hv.2.2.2
        have C3 := c_lab (x := if fl then v else 100 + v) C2 c6 (by
          cases fl with
          | true =>
            have : v ≤ 9 := hv.2.1
            exact Or.inl (by show v < 10; omega)
          | false => exact Or.inr (by show 100 ≤ 100 + v ∧ 100 + v < 130; omega))
        right
        have La := C2.1.1.1
        have xb := (C2.1.2.1.2.2.2.2 b hb).2 (nd, ls) (if_pos rfl)
        have eadd : ∀ x : Int32, f_X6_add 166 (nI b) x hxa = some (sI (sI hxa 168 (6 * b + ls.length) x) 167 b (nI (ls.length + 1))) := fun x => x_radd (a := 166) (c := 6) (w := 6) La.tape.2.2.2.2.2.2.2.2.2.2.2.2 (by decide) (by decide) hb c6 xb.2.1
        refine ⟨if fl then v else 100 + v, e, _, _, ?_, ?_, by omega, C3⟩
        · rw [a1, Option.bind_some]
          dsimp only
          rw [if_neg (nI_m1 (by omega)), La.t159, Option.bind_some, show gR hxa 161 7 = some 166 from La.tape.2.2.2.2.2.2.2.1, Option.bind_some]
          unfold f_X8_readOneLabel_104
          cases fl with
          | true =>
            rw [if_neg (by decide), eadd, Option.bind_some]
            rfl
          | false =>
            rw [if_pos (show (if false = true then (1 : Int32) else 0) = 0 from rfl), show (100 : Int32) + nI v = nI (100 + v) from nI_add 100 v, eadd, Option.bind_some]
            rfl
        · have Lm := C2.2.1.1.1.1
          rw [M105 _ _ (by rw [eM, b1, Option.bind_some]), m_noWrong b3, Option.bind_some]
          dsimp only
          rw [if_pos rfl, show (if fl = true then nI v else 100 + nI v) = nI (if fl then v else 100 + v) by cases fl with | true => rfl | false => exact nI_add 100 v]
          unfold f_X11_readBinding_144 f_X11_readBinding_156 f_X11_labels f_X11_labels_42
          rw [if_neg (show ¬ nI ls.length = 6 from fun z => by have := nI_inj (b := 6) (by omega) (by decide) z; omega), m_noWrong b3, Option.bind_some]
          dsimp only
          rw [if_pos rfl, Lm.r1, Option.bind_some, show (134 : Int32) + 6 * nI b + nI ls.length = nI (134 + 6 * b + ls.length) by rw [show (6 : Int32) = nI 6 from rfl, pk_mul, show (134 : Int32) = nI 134 from rfl, nI_add, nI_add], stI_ok (by rw [Lm.n1]; omega) (by omega), Option.bind_some, Option.bind_some, nI_1]
    · have h6 : ls.length = 6 := by omega
      left
      rw [if_neg (show ¬ nI ls.length < 6 from nI_nlt (b := 6) (by omega) (by omega)), C.1.1.2.2]
      have ex : f_X8_foundFault 159 4 (nI i) hx = some (0, sI (sI hx 159 3 (nI 4)) 159 4 (nI i)) := (x_fault (h := hx) (k := 4) (p := i)).1
      cases en : nmb P (i + 1) 0 (if fl then 9 else 29) with
      | inl kp =>
        obtain ⟨k, p⟩ := kp
        obtain ⟨hma, b1, b2, b3⟩ := d1 k p en
        have b1 : f_X11_digits 0 0 (nI (if fl then 9 else 29)) hm1 = some (0, hma) := b1
        have hp := nmb_at en
        obtain ⟨l, hl, Tl⟩ := b3.1
        have hmb := mbad l hma Tl hl (f1.E.tr b2) h6
        obtain ⟨hmc, e2, f2, T2⟩ := hmb (if fl then (0 : Int32) else 100 + 0)
        refine ⟨4, i, _, hmc, by rw [ex, Option.bind_some]; exact if_pos (Or.inl rfl), ?_, C0.bad x_fault.2.1 x_fault.2.2 f2 T2 (by decide)⟩
        rw [M105 _ _ (by rw [eM, b1, Option.bind_some]), m_wrong b3, Option.bind_some]
        dsimp only
        rw [if_neg (by decide), if_neg (show ¬ gI hma 0 39 = nI i from fun z => by rw [b3.2.2.1, hp] at z; have := nI_inj (by omega) (by omega) z; omega)]
        split <;> exact e2
      | inr ve =>
        obtain ⟨v, e⟩ := ve
        obtain ⟨hma, b1, b2, b3⟩ := d2 v e en
        have b1 : f_X11_digits 0 0 (nI (if fl then 9 else 29)) hm1 = some (nI v, hma) := b1
        have hv := nmb_ok o hi1 en
        have hmb := mbad e hma b3.1 hv.2.2.2 (f1.tr b2).E h6
        obtain ⟨hmc, e2, f2, T2⟩ := hmb (if fl then nI v else 100 + nI v)
        refine ⟨4, i, _, hmc, by rw [ex, Option.bind_some]; exact if_pos (Or.inl rfl), ?_, C0.bad x_fault.2.1 x_fault.2.2 f2 T2 (by decide)⟩
        rw [M105 _ _ (by rw [eM, b1, Option.bind_some]), m_noWrong b3, Option.bind_some]
        dsimp only
        rw [if_pos rfl]
        exact e2
  by_cases c5 : isWd P 5 i
  · obtain ⟨hm1, e1, f1, T1⟩ := m5.1 c5
    have hin := isWd_in o (by decide : 5 < 7) c5
    refine go true hm1 hin f1 T1 ?_ ?_
    · unfold f_X8_readOneLabel
      rw [w5, Option.bind_some, if_neg (fun z => bI_0.mp z c5), show bI (isWd P 5 i) = 1 from if_pos c5]
      rfl
    · unfold f_X11_readLabel
      rw [e1, Option.bind_some]
      rfl
  · obtain ⟨hm1, e1, f1, T1⟩ := m5.2 c5
    have m6 := m_takesWord (s := 6) o T1 hil (by decide)
    rw [hi] at m6
    by_cases c6 : isWd P 6 i
    · obtain ⟨hm2, e2, f2, T2⟩ := m6.1 c6
      have hin := isWd_in o (by decide : 6 < 7) c6
      refine go false hm2 hin (f1.tr f2) T2 ?_ ?_
      · unfold f_X8_readOneLabel
        rw [w5, Option.bind_some, if_pos (bI_0.mpr c5)]
        dsimp only
        rw [w6, Option.bind_some, if_neg (fun z => bI_0.mp z c6), show bI (isWd P 5 i) = 0 from if_neg c5]
        rfl
      · unfold f_X11_readLabel
        rw [e1, Option.bind_some]
        dsimp only
        rw [if_pos rfl, e2, Option.bind_some]
        rfl
    · obtain ⟨hm2, e2, f2, T2⟩ := m6.2 c6
      obtain ⟨hm3, e3, f3, T3⟩ := m_errs (k := 1) (p := i) T2 hil (by omega)
      left
      refine ⟨1, i, _, hm3, ?_, ?_, C0.bad (x_fault (h := hx) (k := 1) (p := i)).2.1 x_fault.2.2 ((f1.tr f2).E.tr f3) T3 (by decide)⟩
      · unfold f_X8_readOneLabel
        rw [w5, Option.bind_some, if_pos (bI_0.mpr c5)]
        dsimp only
        rw [w6, Option.bind_some, if_pos (bI_0.mpr c6)]
        dsimp only
        rw [C.1.1.2.2, show f_X8_foundFault 159 1 (nI i) hx = _ from (x_fault (h := hx) (k := 1) (p := i)).1, Option.bind_some]
        exact if_pos (Or.inl rfl)
      · rw [M105 0 hm3 (by
          unfold f_X11_readLabel
          rw [e1, Option.bind_some]
          dsimp only
          rw [if_pos rfl, e2, Option.bind_some]
          dsimp only
          rw [if_pos rfl, T2.1.2.2.1, show f_X11_errs 0 1 (nI i) hm2 = _ from e3, Option.bind_some]), m_wrong T3, Option.bind_some]
        dsimp only
        rw [if_neg (by decide), if_pos (show gI hm3 0 38 = 1 from T3.2.1), if_pos T3.2.2.1]
        exact hW _ _ _ _ T3
end LL
