/-! ===== on a shortest way: isOn, next ===== -/
theorem onB_no {t : NT} {v u l : Nat} (h : ¬ onL t v u l) : ¬ onB t v u l = true := fun z => h (onB_iff.mp z)
theorem m_far2 {h : MH} {t : NT} {u v : Nat} (w : wfN t) (L : ML h) (Q : farIs h t) (hu : u < nN t) (hv : v < nN t) : f_X11_far2 0 (nI u) (nI v) h = some (nI (dist t v u), h) := by
  have hn10 := w.2.1
  unfold f_X11_far2
  rw [L.r8, Option.bind_some, ix10', ldI_ok (by rw [L.n4]; omega) (by omega), Option.bind_some, (Q u v hu hv).1]
theorem m_isOn {h : MH} {l u v : Nat} {t : NT} (w : wfN t) (L : ML h) (N : MN (gI h 1) t) (Q : farIs h t) (hl : l < nM t) (hu : u < nN t) (hv : v < nN t) : f_X11_isOn 0 (nI l) (nI u) (nI v) h = some (bI (onB t v u l = true), h) := by
  have hm30 := w.2.2.1
  have hn10 := w.2.1
  obtain ⟨w1, w2, w3, w4, w5⟩ := w.2.2.2 l hl
  have b1 : dist t v u ≤ 1000000 := (dist_bel w hv).2.1 _ hu
  have b2 : dist t v (nT t l) ≤ 1000000 := (dist_bel w hv).2.1 _ w2
  have e0 : dist t v v = 0 := (dist_bel w hv).1
  unfold f_X11_isOn
  rw [m_from L N w hl, Option.bind_some]
  dsimp only
  by_cases c0 : nF t l = u
  · rw [if_pos (by rw [c0]), m_isUp L N w hl, Option.bind_some]
    by_cases c1 : nU t l = true
    · rw [if_neg (fun z => bI_0.mp z c1)]
      dsimp only
      rw [m_far2 w L Q hu hv, Option.bind_some]
      dsimp only
      by_cases c2 : dist t v u < 1000000
      · rw [if_pos (show nI (dist t v u) < 1000000 from (nI_ltI (by omega) (by decide)).mpr c2)]
        by_cases c4 : u = v
        · rw [if_pos (by rw [c4])]
          unfold bI
          rw [if_neg (onB_no (fun z => by have := z.2.2.2; rw [c4, e0] at this; omega))]
        · rw [if_neg (fun z => c4 (nI_inj (by omega) (by omega) z)), m_costOf L N w hl, Option.bind_some]
          dsimp only
          rw [m_to L N w hl, Option.bind_some]
          dsimp only
          rw [m_far2 w L Q w2 hv, Option.bind_some]
          dsimp only
          rw [m_far2 w L Q hu hv, Option.bind_some, nI_add]
          dsimp only
          by_cases c3 : nC t l + dist t v (nT t l) = dist t v u
          · rw [if_pos (by rw [c3])]
            unfold bI
            rw [if_pos (onB_iff.mpr ⟨c1, c0, c2, c3⟩)]
          · rw [if_neg (fun z => c3 (nI_inj (by omega) (by omega) z))]
            unfold bI
            rw [if_neg (onB_no (fun z => c3 z.2.2.2))]
      · rw [if_neg (show ¬ nI (dist t v u) < 1000000 from fun z => c2 ((nI_ltI (by omega) (by decide)).mp z))]
        unfold bI
        rw [if_neg (onB_no (fun z => c2 z.2.2.1))]
    · rw [if_pos (bI_0.mpr c1)]
      unfold bI
      rw [if_neg (onB_no (fun z => c1 z.1))]
  · rw [if_neg (fun z => c0 (nI_inj (by omega) (by omega) z))]
    unfold bI
    rw [if_neg (onB_no (fun z => c0 z.2.1))]
theorem setF_off {U : Nat → Bool} : ∀ (n : Nat), (∀ l, l < n → ¬ U l = true) → setF U n = 0 := by
  intro n
  induction n with
  | zero => intro _; rfl
  | succ n ih =>
    intro h
    rw [setF, if_neg (h n (Nat.lt_succ_self _))]
    exact ih (fun l hl => h l (by omega))
theorem x_onSetG {h : MH} {r a u v : Nat} {t : NT} {B : Nat → Option (Nat × List Nat)} {d : Nat → Nat} {U : Nat → Bool} (w : wfN t) (R : rtAt h r 100) (Q : ∀ x, x < nN t → gI h (r + 1) (10 * v + x) = nI (d x)) (hd : ∀ x, x < nN t → d x ≤ 1000000) (A : netAt h a) (X : XN h a t B) (hU : ∀ l, l < nM t → (U l = true ↔ nU t l = true ∧ nF t l = u ∧ d u < 1000000 ∧ nC t l + d (nT t l) = d u)) (hu : u < nN t) (hv : v < nN t) : f_X4_onSet r a (nI u) (nI v) h = some (setF U (nM t), h) := by
  have hm30 := w.2.2.1
  have hn10 := w.2.1
  have eD : ∀ x, x < nN t → f_X4_distance r (nI x) (nI v) h = some (nI (d x), h) := fun x hx => by
    rw [x_distIn (by omega) (by omega), R.1, Option.bind_some, ix10, ldI_ok (by rw [R.2.2.1]; omega) (by omega), Option.bind_some, Q x hx]
  have bu := hd u hu
  have key : Ev (f_X4_onSet r a (nI u) (nI v) h) (fun q => q = (setF U (nM t), h)) := by
    unfold f_X4_onSet
    rw [eD u hu, Option.bind_some]
    dsimp only
    unfold f_X4_onSet_14
    refine Ev_FU (fun m p h1 => ∃ i, i + m = nM t ∧ p = (setF U i, nI i) ∧ h1 = h) (nM t) (0, 0) h (by omega) ⟨0, by omega, rfl, rfl⟩ ?_
    rintro m p h1 rec ⟨i, hi, rfl, rfl⟩ ih
    unfold f_X4_onSet_14b
    dsimp only
    rw [X.2.1]
    by_cases q : i < nM t
    · obtain ⟨w1, w2, w3, w4, w5⟩ := w.2.2.2 i q
      obtain ⟨y1, y2, y3⟩ := X.2.2.2.1 i q
      have b2 := hd _ w2
      have off : ¬ U i = true → Ev (f_X4_onSet_99 rec r a (nI u) (nI v) (nI (d u)) (setF U i) (nI i) h1) (fun q => q = (setF U (nM t), h1)) := fun c => by
        unfold f_X4_onSet_99
        rw [nI_1]
        refine ih (m - 1) _ _ (by omega) ⟨i + 1, by omega, ?_, rfl⟩
        show _ = (setF U (i + 1), _)
        rw [setF, if_neg c]
      have no : ¬ U i = true → Ev (f_X4_onSet_57 rec r a (nI u) (nI v) (nI (d u)) (setF U i) (nI i) h1) (fun q => q = (setF U (nM t), h1)) := fun c => by
        unfold f_X4_onSet_57 f_X4_onSet_58
        rw [if_pos rfl]
        exact off c
      by_cases c2 : d u < 1000000
      · rw [if_pos (nI_lt q (by omega)), if_pos (show nI (d u) < 1000000 from (nI_ltI (by omega) (by decide)).mpr c2), A.1, Option.bind_some, ldI_ok (by rw [A.2.2.2.2.2.1]; omega) (by omega), Option.bind_some, y1]
        by_cases c0 : nF t i = u
        · rw [if_pos (by rw [c0]), X.2.2.1]
          by_cases c1 : nU t i = true
          · rw [if_neg (fun z => by rw [bit_ush (by omega), bit_setF (by omega)] at z; simp [q, c1] at z)]
            unfold f_X4_onSet_58
            rw [if_neg (by decide), A.2.2.1, Option.bind_some, ldI_ok (by rw [A.2.2.2.2.2.2.2.1]; omega) (by omega), Option.bind_some, y3, A.2.1, Option.bind_some, ldI_ok (by rw [A.2.2.2.2.2.2.1]; omega) (by omega), Option.bind_some, y2, eD _ w2, Option.bind_some]
            dsimp only
            rw [nI_add]
            by_cases c3 : nC t i + d (nT t i) = d u
            · rw [if_pos (by rw [c3]), lt_def]
              unfold f_X4_onSet_99
              rw [nI_1]
              refine ih (m - 1) _ _ (by omega) ⟨i + 1, by omega, ?_, rfl⟩
              show _ = (setF U (i + 1), _)
              rw [setF, if_pos ((hU i q).mpr ⟨c1, c0, c2, c3⟩)]
            · rw [if_neg (fun z => c3 (nI_inj (by omega) (by omega) z))]
              exact off (fun z => c3 ((hU i q).mp z).2.2.2)
          · rw [if_pos (by rw [bit_ush (by omega), bit_setF (by omega)]; simp [c1])]
            exact no (fun z => c1 ((hU i q).mp z).1)
        · rw [if_neg (fun z => c0 (nI_inj (by omega) (by omega) z))]
          exact no (fun z => c0 ((hU i q).mp z).2.1)
      · rw [if_pos (nI_lt q (by omega)), if_neg (show ¬ nI (d u) < 1000000 from fun z => c2 ((nI_ltI (by omega) (by decide)).mp z))]
        refine Ev_some ?_
        rw [setF_off i (fun l hl z => c2 ((hU l (by omega)).mp z).2.2.1), setF_off (nM t) (fun l hl z => c2 ((hU l hl).mp z).2.2.1)]
    · have : i = nM t := by omega
      subst this
      rw [if_neg (nI_nlt (Nat.le_refl _) (by omega))]
      exact Ev_some rfl
  obtain ⟨q, e, rfl⟩ := key
  exact e
theorem x_onSet {h : MH} {r a u v : Nat} {t : NT} {B : Nat → Option (Nat × List Nat)} (w : wfN t) (R : rtAt h r 100) (Q : rtIs h r t) (A : netAt h a) (X : XN h a t B) (hu : u < nN t) (hv : v < nN t) : f_X4_onSet r a (nI u) (nI v) h = some (setF (onB t v u) (nM t), h) :=
  x_onSetG (d := dist t v) w R (fun x hx => (Q x v hx hv).1) (fun x hx => (dist_bel w hv).2.1 x hx) A X (fun l _ => onB_iff) hu hv
theorem m_next32 {h : MH} {u v : Nat} {t : NT} (w : wfN t) (L : ML h) (N : MN (gI h 1) t) (Q : farIs h t) (hu : u < nN t) (hv : v < nN t) : f_X11_next_32 0 (nI u) (nI v) FU (0, 0) h = some (setF (onB t v u) (nM t), h) := by
  have hm30 := w.2.2.1
  have key : Ev (f_X11_next_32 0 (nI u) (nI v) FU (0, 0) h) (fun q => q = (setF (onB t v u) (nM t), h)) := by
    unfold f_X11_next_32
    refine Ev_FU (fun m p h1 => ∃ i, i + m = nM t ∧ p = (setF (onB t v u) i, nI i) ∧ h1 = h) (nM t) (0, 0) h (by omega) ⟨0, by omega, rfl, rfl⟩ ?_
    rintro m p h1 rec ⟨i, hi, rfl, rfl⟩ ih
    unfold f_X11_next_32b f_X11_next_59
    dsimp only
    rw [m_links L N, Option.bind_some]
    dsimp only
    by_cases q : i < nM t
    · rw [if_pos (nI_lt q (by omega)), m_isOn w L N Q q hu hv, Option.bind_some, nI_1]
      by_cases c1 : onB t v u i = true
      · rw [if_neg (fun z => bI_0.mp z c1), lt_def]
        refine ih (m - 1) _ _ (by omega) ⟨i + 1, by omega, ?_, rfl⟩
        show _ = (setF (onB t v u) (i + 1), _)
        rw [setF, if_pos c1]
      · rw [if_pos (bI_0.mpr c1)]
        refine ih (m - 1) _ _ (by omega) ⟨i + 1, by omega, ?_, rfl⟩
        show _ = (setF (onB t v u) (i + 1), _)
        rw [setF, if_neg c1]
    · have : i = nM t := by omega
      subst this
      rw [if_neg (nI_nlt (Nat.le_refl _) (by omega))]
      exact Ev_some rfl
  obtain ⟨q, e, rfl⟩ := key
  exact e
theorem ok_next (fX : FreshX) (fM : FreshM) : J_next RR := by
  rintro x1 x2 hx hm ⟨a, w, X, M⟩
  obtain ⟨L, S, K, D, A, I, P, F, C⟩ := XR_iff.mp X
  have M0 := M.told (v := 0)
  obtain ⟨mL, mS, mK', mD, mA', mI', mP', mF', mC'⟩ := MR_iff.mp M0
  have wN := w.1.1
  have hn10 := wN.2.1
  have eh := fun x => x_hasNode (x := x) S.1.1 (by omega)
  have el := fun x => m_isNode mL mS.1 wN (x := x)
  by_cases c1 : 0 ≤ x1.toInt ∧ x1.toInt < nN (sN (aS a))
  · by_cases c2 : 0 ≤ x2.toInt ∧ x2.toInt < nN (sN (aS a))
    · obtain ⟨u, hu, rfl⟩ := ofZ c1.1 c1.2
      obtain ⟨v, hv, rfl⟩ := ofZ c2.1 c2.2
      obtain ⟨hx1, ex, X1, e0, R1⟩ := fX hx a w X
      obtain ⟨hm1, em, M1, e1, R2⟩ := fM _ a w M0
      obtain ⟨L1, S1, -⟩ := XR_iff.mp X1
      obtain ⟨mL1, mS1, -⟩ := MR_iff.mp M1
      refine ⟨setF (onB (sN (aS a)) v u) (nM (sN (aS a))), hx1, hm1, ?_, ?_, a, w, X1, M1⟩
      · unfold f_X10_next
        rw [L.r0, Option.bind_some, L.s0, Option.bind_some, eh, Option.bind_some, if_neg (fun q => bI_0.mp q c1)]
        dsimp only
        rw [L.r0, Option.bind_some, L.s0, Option.bind_some, eh, Option.bind_some, if_neg (fun q => bI_0.mp q c2)]
        dsimp only
        rw [ex, Option.bind_some]
        dsimp only
        rw [L1.r0, Option.bind_some, L1.s0, Option.bind_some, x_onSet wN L1.rt R1 L1.nt S1.1 hu hv, Option.bind_some]
      · unfold f_X11_next
        rw [lt_def, el, Option.bind_some, if_neg (fun q => bI_0.mp q c1)]
        dsimp only
        rw [el, Option.bind_some, if_neg (fun q => bI_0.mp q c2)]
        dsimp only
        rw [em, Option.bind_some, m_next32 wN mL1 mS1.1 R2 hu hv]
    · refine ⟨0, hx, sI hm 0 0 0, ?_, ?_, a, w, X, M0⟩
      · unfold f_X10_next
        rw [L.r0, Option.bind_some, L.s0, Option.bind_some, eh, Option.bind_some, if_neg (fun q => bI_0.mp q c1)]
        dsimp only
        rw [L.r0, Option.bind_some, L.s0, Option.bind_some, eh, Option.bind_some, if_pos (bI_0.mpr c2)]
      · unfold f_X11_next
        rw [lt_def, el, Option.bind_some, if_neg (fun q => bI_0.mp q c1)]
        dsimp only
        rw [el, Option.bind_some, if_pos (bI_0.mpr c2)]
  · refine ⟨0, hx, sI hm 0 0 0, ?_, ?_, a, w, X, M0⟩
    · unfold f_X10_next
      rw [L.r0, Option.bind_some, L.s0, Option.bind_some, eh, Option.bind_some, if_pos (bI_0.mpr c1)]
    · unfold f_X11_next
      rw [lt_def, el, Option.bind_some, if_pos (bI_0.mpr c1)]
