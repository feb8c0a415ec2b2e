/-! ===== stays ===== -/
theorem m_setCost {h : MH} {a : AB} {b c c0 : Nat} {W : List Nat} (w : wfA a) (hb : b < nM (sN (aS a))) (M : MW h (setS a (stN (aS a) (tCost (sN (aS a)) b c0))) W) : MW (sI (sI h 1 (62 + b) (nI c)) 0 7 0) (setS a (stN (aS a) (tCost (sN (aS a)) b c))) W := by
  have hm30 := w.1.1.2.2.1
  obtain ⟨⟨L, S, K, D, A, I, P, F, C⟩, e27, e12⟩ := M
  have g0 : ∀ k, k ≠ 7 → gI (sI (sI h 1 (62 + b) (nI c)) 0 7 0) 0 k = gI h 0 k := fun k hk => by rw [gI_sI_nk hk, gI_sI_ne (by decide)]
  have gb : ∀ k, k ≠ 0 → k ≠ 1 → gI (sI (sI h 1 (62 + b) (nI c)) 0 7 0) k = gI h k := fun k h0 h1 => by rw [gI_sI_f h0, gI_sI_f h1]
  have f : frm [0, 1] h (sI (sI h 1 (62 + b) (nI c)) 0 7 0) := frm.sI (by decide) (frm.sI (by decide) frm.rf)
  have g1 : ∀ j, j ≠ 62 + b → gI (sI (sI h 1 (62 + b) (nI c)) 0 7 0) 1 j = gI h 1 j := fun j hj => by rw [gI_sI_ne (by decide), gI_sI_nk hj]
  have g1b : gI (sI (sI h 1 (62 + b) (nI c)) 0 7 0) 1 (62 + b) = nI c := by rw [gI_sI_ne (by decide), gI_s]
  refine ⟨MR_iff.mpr ⟨L.fr f, ?_, mK.fr (g0 6 (by decide)) (gb 3 (by decide) (by decide)) K, by rw [g0 4 (by decide)]; exact D, mA.fr (g0 3 (by decide)) (gb 2 (by decide) (by decide)) A, mI.fr (g0 44 (by decide)) (gb 22 (by decide) (by decide)) I, mP.fr (g0 37 (by decide)) (gb 20 (by decide) (by decide)) P, mF.fr (g0 38 (by decide)) (g0 39 (by decide)) F, Or.inr (gI_s _ _ _ _)⟩, by rw [g0 27 (by decide)]; exact e27, by rw [gb 12 (by decide) (by decide)]; exact e12⟩
  have S1 : MN (gI h 1) (tCost (sN (aS a)) b c0) := S.1
  refine MS.net (g := gI h 1) (s := stN (aS a) (tCost (sN (aS a)) b c0)) (t := tCost (sN (aS a)) b c) (fun j hj => g1 j (by omega)) ⟨?_, ?_, fun j hj => ⟨?_, ?_, ?_, ?_⟩⟩ S
  · rw [g1 _ (by omega)]; exact S1.1
  · rw [g1 _ (by omega)]; exact S1.2.1
  all_goals have hj : j < nM (sN (aS a)) := hj
  · rw [g1 _ (by omega)]; exact (S1.2.2 j hj).1
  · rw [g1 _ (by omega)]; exact (S1.2.2 j hj).2.1
  · show gI _ 1 (62 + j) = nI (if j = b then c else nC (sN (aS a)) j)
    by_cases q : j = b
    · rw [if_pos q, q]; exact g1b
    · rw [if_neg q, g1 _ (by omega)]
      have := (S1.2.2 j hj).2.2.1
      rw [dn_C q] at this
      exact this
  · rw [g1 _ (by omega)]; exact (S1.2.2 j hj).2.2.2
theorem wfA.cost {a : AB} {b c : Nat} (w : wfA a) (hc : 1 ≤ c ∧ c ≤ 99) : wfA (setS a (stN (aS a) (tCost (sN (aS a)) b c))) := w.st (w.1.net (w.1.1.cost hc) rfl (Nat.le_refl _) (fun _ _ => ⟨rfl, rfl⟩))
theorem m_fewestBy {h : MH} {a : AB} {b c c0 : Nat} (w : wfA a) (hb : b < nM (sN (aS a))) (hc : 1 ≤ c ∧ c ≤ 99) (hW : 0 < (sW (aS a)).length) (M : MW h (setS a (stN (aS a) (tCost (sN (aS a)) b c0))) (sW (aS a))) : ∃ h' ys, f_X11_fewestBy 0 (nI b) (nI c) h = some (fwm (ys.getD 0 none), h') ∧ plS (tCost (sN (aS a)) b c) (sB (aS a)) (aD a) (sW (aS a)) ys ∧ okT (ys.getD 0 none) ∧ MW h' (setS a (stN (aS a) (tCost (sN (aS a)) b c))) (sW (aS a)) := by
  have hm30 := w.1.1.2.2.1
  have h16 := w.1.2.2.2.2.1
  obtain ⟨u, e, hch⟩ := w.1.2.2.2.2.ch
  have L := M.1.1
  obtain ⟨h', ys, e1, f1, M1, p1, R1⟩ := m_laysFewest (u := u) (e := e) (w.cost (b := b) hc) (m_setCost (c := c) w hb M) h16 (show chF (tCost (sN (aS a)) b c) u (sW (aS a)) e from chF_cost hch)
  have p1 : plS (tCost (sN (aS a)) b c) (sB (aS a)) (aD a) (sW (aS a)) ys := p1
  have hl := plS_len p1
  have R0 := R1.1 0 (by omega)
  rw [Nat.zero_add] at R0
  refine ⟨h', ys, ?_, p1, R0.2, M1⟩
  unfold f_X11_fewestBy
  rw [L.r1, Option.bind_some, show (62 : Int32) + nI b = nI (62 + b) from nI_add 62 b, stI_ok (by rw [L.n1]; omega) (by omega), Option.bind_some, lt_def, e1, Option.bind_some, M1.1.1.r28, Option.bind_some, show ldI h' 13 0 = some (gI h' 13 0) from ldI_ok (i := 0) (by rw [M1.1.1.n13]; decide) (by decide), Option.bind_some, R0.1.fw]
/-! the walk, cost by cost -/
def nxC (s : Bool) (c : Nat) : Nat := if s then c + 1 else c - 1
def atC (s : Bool) (o j : Nat) : Nat := if s then o + j else o - j
def remC (s : Bool) (c : Nat) : Nat := if s then 99 - c else c - 1
def stC (s : Bool) : Int32 := if s then 1 else -1
def wkC (G : Nat → Nat) (o : Nat) (s : Bool) : Nat → Nat → Nat
  | 0, c => c
  | k + 1, c => if (1 ≤ nxC s c ∧ nxC s c ≤ 99) ∧ G (nxC s c) = G o then wkC G o s k (nxC s c) else c
theorem wkC_s {G : Nat → Nat} {o : Nat} {s : Bool} {k c : Nat} : wkC G o s (k + 1) c = if (1 ≤ nxC s c ∧ nxC s c ≤ 99) ∧ G (nxC s c) = G o then wkC G o s k (nxC s c) else c := rfl
theorem stC_nx {s : Bool} {c : Nat} (hc : 1 ≤ c) : nI c + stC s = nI (nxC s c) := by
  cases s with
  | true => exact nI_1 _
  | false =>
    show nI c + (-1) = nI (c - 1)
    obtain ⟨k, rfl⟩ : ∃ k, c = k + 1 := ⟨c - 1, by omega⟩
    rw [← nI_1, Nat.add_sub_cancel, Int32.add_assoc]
    show nI k + 0 = nI k
    rw [Int32.add_zero]
theorem stC_at {s : Bool} {o j : Nat} (hj : s = false → j ≤ o) : nI o + stC s * nI j = nI (atC s o j) := by
  cases s with
  | true =>
    show nI o + 1 * nI j = nI (o + j)
    rw [Int32.one_mul, nI_add]
  | false =>
    have hj := hj rfl
    show nI o + (-1) * nI j = nI (o - j)
    obtain ⟨k, rfl⟩ : ∃ k, o = k + j := ⟨o - j, by omega⟩
    rw [← nI_add, Nat.add_sub_cancel, Int32.neg_mul, Int32.one_mul, Int32.add_assoc, show nI j + -nI j = 0 by (first | exact Int32.add_right_neg _ | exact Int32.add_neg_cancel _ | grind), Int32.add_zero]
theorem wkC_all {G : Nat → Nat} {o : Nat} {s : Bool} (hG : ∀ c, 1 ≤ c → c ≤ 99 → G c = G o) : ∀ (k c : Nat), 1 ≤ c → c ≤ 99 → remC s c ≤ k → wkC G o s k c = if s then 99 else 1 := by
  intro k
  induction k with
  | zero =>
    intro c h1 h2 h3
    show c = _
    cases s
    · have : c - 1 ≤ 0 := h3
      show c = 1
      omega
    · have : 99 - c ≤ 0 := h3
      show c = 99
      omega
  | succ k ih =>
    intro c h1 h2 h3
    rw [wkC_s]
    by_cases q : 1 ≤ nxC s c ∧ nxC s c ≤ 99
    · rw [if_pos ⟨q, hG _ q.1 q.2⟩]
      refine ih _ q.1 q.2 ?_
      cases s
      · have q1 : 1 ≤ c - 1 := q.1
        have h3 : c - 1 ≤ k + 1 := h3
        show c - 1 - 1 ≤ k
        omega
      · have h3 : 99 - c ≤ k + 1 := h3
        show 99 - (c + 1) ≤ k
        omega
    · rw [if_neg (fun z => q z.1)]
      cases s
      · show c = 1
        have q : ¬ (1 ≤ c - 1 ∧ c - 1 ≤ 99) := q
        omega
      · show c = 99
        have q : ¬ (1 ≤ c + 1 ∧ c + 1 ≤ 99) := q
        omega
theorem fwm_fwv {y y' : Option TR} (h : okT y) (h' : okT y') : fwm y = fwm y' ↔ fwv y = fwv y' := by
  cases y with
  | none =>
    cases y' with
    | none => exact ⟨fun _ => rfl, fun _ => rfl⟩
    | some z =>
      have := (h' z rfl).1
      exact ⟨fun e => absurd (show nI z.1 = -1 from e.symm) (nI_m1 (by omega)), fun e => by have e : 1000 = z.1 := e; omega⟩
  | some z =>
    have h1 := (h z rfl).1
    cases y' with
    | none => exact ⟨fun e => absurd (show nI z.1 = -1 from e) (nI_m1 (by omega)), fun e => by have e : z.1 = 1000 := e; omega⟩
    | some z' =>
      have h2 := (h' z' rfl).1
      exact ⟨fun e => nI_inj (a := z.1) (b := z'.1) (by omega) (by omega) e, fun e => by show nI z.1 = nI z'.1; rw [show z.1 = z'.1 from e]⟩
theorem fwv_lt {y : Option TR} (h : okT y) : fwv y < 2 ^ 31 := by
  cases y with
  | none => show 1000 < 2 ^ 31; decide
  | some z => have := (h z rfl).1; show z.1 < 2 ^ 31; omega
/-- the fewest, cost by cost -/
def isFw (a : AB) (b : Nat) (F : Nat → Option TR) : Prop := ∀ c, 1 ≤ c ∧ c ≤ 99 → okT (F c) ∧ ∃ ys, plS (tCost (sN (aS a)) b c) (sB (aS a)) (aD a) (sW (aS a)) ys ∧ ys.getD 0 none = F c
theorem m_staysEnd {h : MH} {a : AB} {b c0 : Nat} {x6 : Int32} {W : List Nat} (w : wfA a) (hb : b < nM (sN (aS a))) (M : MW h (setS a (stN (aS a) (tCost (sN (aS a)) b c0))) W) : ∃ h', f_X11_stays_107 0 (nI b) (nI (nC (sN (aS a)) b)) x6 h = some (x6, h') ∧ MR h' a := by
  have hm30 := w.1.1.2.2.1
  have L := M.1.1
  have := (m_setCost (c := nC (sN (aS a)) b) w hb M).1
  rw [tCost_own] at this
  refine ⟨_, ?_, this⟩
  unfold f_X11_stays_107
  rw [L.r1, Option.bind_some, show (62 : Int32) + nI b = nI (62 + b) from nI_add 62 b, stI_ok (by rw [L.n1]; omega) (by omega), Option.bind_some]
  rfl
theorem m_stWalk {h : MH} {a : AB} {b : Nat} {F : Nat → Option TR} {s : Bool} (w : wfA a) (hb : b < nM (sN (aS a))) (hW : 0 < (sW (aS a)).length) (hF : isFw a b F) (M : MW h (setS a (stN (aS a) (tCost (sN (aS a)) b (nC (sN (aS a)) b)))) (sW (aS a))) : ∃ h', f_X11_stays_65 0 (nI b) (nI (nC (sN (aS a)) b)) (fwm (F (nC (sN (aS a)) b))) (stC s) FU (nI (nC (sN (aS a)) b)) h = some (nI (wkC (fun c => fwv (F c)) (nC (sN (aS a)) b) s (remC s (nC (sN (aS a)) b) + 1) (nC (sN (aS a)) b)), h') ∧ MR h' a := by
  have ho := (w.1.1.2.2.2 b hb).2.2.2
  generalize eo : nC (sN (aS a)) b = o at *
  have key : Ev (f_X11_stays_65 0 (nI b) (nI o) (fwm (F o)) (stC s) FU (nI o) h) (fun q => q.1 = nI (wkC (fun c => fwv (F c)) o s (remC s o + 1) o) ∧ MR q.2 a) := by
    unfold f_X11_stays_65
    refine Ev_FU (fun m p h1 => ∃ c, m = remC s c ∧ p = nI c ∧ 1 ≤ c ∧ c ≤ 99 ∧ MW h1 (setS a (stN (aS a) (tCost (sN (aS a)) b c))) (sW (aS a)) ∧ wkC (fun c => fwv (F c)) o s (remC s o + 1) o = wkC (fun c => fwv (F c)) o s (m + 1) c) (remC s o) (nI o) h (by unfold remC; split <;> omega) ⟨o, rfl, rfl, ho.1, ho.2, M, rfl⟩ ?_
    rintro m p h1 rec ⟨c, hm, rfl, c1, c2, M1, e⟩ ih
    have hnx : nxC s c ≤ 100 := by unfold nxC; split <;> omega
    obtain ⟨h9, e9, M9⟩ := m_staysEnd (x6 := nI c) w hb M1
    rw [eo] at e9
    have stop : ¬ ((1 ≤ nxC s c ∧ nxC s c ≤ 99) ∧ fwv (F (nxC s c)) = fwv (F o)) → nI c = nI (wkC (fun c => fwv (F c)) o s (remC s o + 1) o) := fun z => by
      rw [e, wkC_s, if_neg z]
    unfold f_X11_stays_65b
    rw [stC_nx c1, m_inL (l := 1) (k := 99) rfl rfl, Option.bind_some]
    by_cases q : 1 ≤ nxC s c ∧ nxC s c ≤ 99
    · rw [if_neg (fun z => bI_0.mp z (by rw [nI_toInt (by omega)]; omega))]
      dsimp only
      obtain ⟨h2, ys, e2, p2, o2, M2⟩ := m_fewestBy (c := nxC s c) w hb q hW M1
      obtain ⟨oF, ys', p', e'⟩ := hF _ q
      have := plS_fun p2 p'
      subst this
      rw [e2, Option.bind_some, e']
      dsimp only
      by_cases k : fwv (F (nxC s c)) = fwv (F o)
      · rw [if_pos ((fwm_fwv oF (hF o ho).1).mpr k), lt_def]
        have hr : remC s c = remC s (nxC s c) + 1 := by
          cases s
          · have q1 : 1 ≤ c - 1 := q.1
            show c - 1 = c - 1 - 1 + 1
            omega
          · have q1 : c + 1 ≤ 99 := q.2
            show 99 - c = 99 - (c + 1) + 1
            omega
        refine ih (remC s (nxC s c)) _ _ (by omega) ⟨nxC s c, rfl, rfl, q.1, q.2, M2, ?_⟩
        rw [e, wkC_s, if_pos ⟨q, k⟩, hm, hr]
      · obtain ⟨h8, e8, M8⟩ := m_staysEnd (x6 := nI c) w hb M2
        rw [eo] at e8
        rw [if_neg (fun z => k ((fwm_fwv oF (hF o ho).1).mp z)), e8]
        exact Ev_some ⟨stop (fun z => k z.2), M8⟩
    · rw [if_pos (bI_0.mpr (by rw [nI_toInt (by omega)]; omega))]
      dsimp only
      rw [e9]
      exact Ev_some ⟨stop (fun z => q z.1), M9⟩
  obtain ⟨⟨v, h'⟩, e1, e2, M2⟩ := key
  dsimp only at e2 M2
  exact ⟨h', by rw [e1, e2], M2⟩
theorem x_stWalk {h0 : MH} {a : AB} {b : Nat} {F : Nat → Option TR} {s : Bool} (w : wfA a) (X : XR h0 a) (hb : b < nM (sN (aS a))) (hU : nU (sN (aS a)) b = true) (hW : 0 < (sW (aS a)).length) (hF : isFw a b F) : ∃ h', f_X10_lastAlike 0 (nI b) (stC s) h0 = some (nI (wkC (fun c => fwv (F c)) (nC (sN (aS a)) b) s (remC s (nC (sN (aS a)) b) + 1) (nC (sN (aS a)) b)), h') ∧ XR h' a := by
  have wN := w.1.1
  have wB : wfN (barN (sN (aS a)) b) := wN
  have hm30 := wN.2.2.1
  have ho := (wN.2.2.2 b hb).2.2.2
  obtain ⟨L, S, -⟩ := XR_iff.mp X
  have fit : ∀ c ys, 1 ≤ c ∧ c ≤ 99 → plS (tCost (sN (aS a)) b c) (sB (aS a)) (aD a) (sW (aS a)) ys → ys.getD 0 none = F c := fun c ys hc p => by
    obtain ⟨-, ys', p', e'⟩ := hF c hc
    rw [plS_fun p p', e']
  have key : Ev (f_X10_lastAlike 0 (nI b) (stC s) h0) (fun q => q.1 = nI (wkC (fun c => fwv (F c)) (nC (sN (aS a)) b) s (remC s (nC (sN (aS a)) b) + 1) (nC (sN (aS a)) b)) ∧ XR q.2 a) := by
    unfold f_X10_lastAlike
    rw [L.r0, Option.bind_some, L.s0, Option.bind_some, L.n5, Option.bind_some, ldI_ok (by rw [L.z5]; omega) (by omega), Option.bind_some, show gI h0 5 b = nI (nC (sN (aS a)) b) from (S.1.2.2.2.1 b hb).2.2, L.r10, Option.bind_some]
    refine Ev_to (x_findAll (ob := some b) wB L.wo L.nt (S.1.xb (some b)) (fun l => barO_U (o := some b) l) (fun b' hb' => by rw [← Option.some.inj hb']; omega) (by omega)) (fun h1 z => ?_)
    obtain ⟨f1, R1⟩ := z
    have s1 : SX h0 h1 (sN (aS a)) b := ⟨f1.up (by decide), fun j _ => by rw [f1.1 5 (by decide)], R1, f1.2.1 5 (by decide)⟩
    refine Ev_to (x_fewestAt w X hb hU ho hW s1) (fun q z => ?_)
    obtain ⟨ys, p2, r2, s2⟩ := z
    rw [r2, fit _ ys ho p2]
    generalize eo : nC (sN (aS a)) b = o at *
    unfold f_X10_lastAlike_41
    refine Ev_FU (fun m p h3 => ∃ c j, m = remC s c ∧ p = (nI c, nI (j + 1)) ∧ c = atC s o j ∧ j < 99 ∧ 1 ≤ c ∧ c ≤ 99 ∧ (s = false → j < o) ∧ SX h0 h3 (sN (aS a)) b ∧ wkC (fun c => fwv (F c)) o s (remC s o + 1) o = wkC (fun c => fwv (F c)) o s (m + 1) c) (remC s o) (nI o, 1) q.2 (by unfold remC; split <;> omega) ⟨o, 0, rfl, rfl, by unfold atC; split <;> omega, by omega, ho.1, ho.2, fun _ => by omega, s2, rfl⟩ ?_
    rintro m p h3 rec ⟨c, j, hm, rfl, hcj, hj, c1, c2, hs, s3, e⟩ ih
    have hnx : nxC s c ≤ 100 := by unfold nxC; split <;> omega
    have hat : atC s o (j + 1) = nxC s c := by
      rw [hcj]; unfold atC nxC
      split <;> omega
    have stop : ∀ h4, SX h0 h4 (sN (aS a)) b → ¬ ((1 ≤ nxC s c ∧ nxC s c ≤ 99) ∧ fwv (F (nxC s c)) = fwv (F o)) → Ev (f_X10_lastAlike_90 (nI b) 2 (nI o) (nI c) h4) (fun q => q.1 = nI (wkC (fun c => fwv (F c)) o s (remC s o + 1) o) ∧ XR q.2 a) := fun h4 s4 z => by
      rw [e, wkC_s, if_neg z, ← eo]
      exact x_backCost X hb w s4
    unfold f_X10_lastAlike_41b
    show Ev (if nI (j + 1) < 99 then _ else _) _
    by_cases q0 : j + 1 < 99
    · rw [if_pos (show nI (j + 1) < 99 from nI_lt (b := 99) q0 (by decide)), lt_def]
      show Ev ((f_X10_isAmount (nI o + stC s * nI (j + 1)) h3).bind _) _
      rw [stC_at (fun z => by have := hs z; omega), hat, x_isAmount, Option.bind_some]
      dsimp only
      by_cases q1 : 1 ≤ nxC s c ∧ nxC s c ≤ 99
      · rw [if_neg (fun z => bI_0.mp z (by rw [nI_toInt (by omega)]; omega))]
        refine Ev_to (x_fewestAt w X hb hU q1 hW s3) (fun q z => ?_)
        obtain ⟨ys', p4, r4, s4⟩ := z
        rw [r4, fit _ ys' q1 p4]
        by_cases k : fwv (F (nxC s c)) = fwv (F o)
        · have hr : remC s c = remC s (nxC s c) + 1 := by
            cases s
            · have q1 : 1 ≤ c - 1 := q1.1
              show c - 1 = c - 1 - 1 + 1
              omega
            · have q1 : c + 1 ≤ 99 := q1.2
              show 99 - c = 99 - (c + 1) + 1
              omega
          rw [if_pos (by rw [k]), nI_1]
          refine ih (remC s (nxC s c)) _ _ (by omega) ⟨nxC s c, j + 1, rfl, rfl, hat.symm, q0, q1.1, q1.2, fun z => ?_, s4, ?_⟩
          · have h1 := q1.1
            rw [← hat, z] at h1
            have h1 : 1 ≤ o - (j + 1) := h1
            omega
          · rw [e, wkC_s, if_pos ⟨q1, k⟩, hm, hr]
        · rw [if_neg (fun z => k (nI_inj (fwv_lt (hF _ q1).1) (fwv_lt (hF _ ho).1) z))]
          exact stop _ s4 (fun z => k z.2)
      · rw [if_pos (bI_0.mpr (by rw [nI_toInt (by omega)]; omega))]
        exact stop _ s3 (fun z => q1 z.1)
    · rw [if_neg (show ¬ nI (j + 1) < 99 from nI_nlt (b := 99) (by omega) (by omega))]
      refine stop _ s3 (fun z => ?_)
      have h1 := z.1
      rw [← hat] at h1
      have : j = 98 := by omega
      subst this
      cases s
      · have h1 : 1 ≤ o - (98 + 1) ∧ _ := h1
        omega
      · have h1 : _ ∧ o + (98 + 1) ≤ 99 := h1
        omega
  obtain ⟨⟨v, h'⟩, e1, e2, M2⟩ := key
  dsimp only at e2 M2
  exact ⟨h', by rw [e1, e2], M2⟩
theorem ok_stays : J_stays RR := by
  rintro x1 x2 hx hm ⟨a, w, X, M⟩
  obtain ⟨L, S, -⟩ := XR_iff.mp X
  have M0 := M.told (v := 0)
  obtain ⟨mL, mS, -⟩ := MR_iff.mp M0
  have wN := w.1.1
  have hm30 := wN.2.2.1
  have wW := w.1.2.2.2.2
  have h16 := wW.1
  have eS : gI hx 18 1 = nI (sW (aS a)).length := S.2.2.2.1
  have e0 : (0 : Int32).toInt = 0 := rfl
  have e1 : (1 : Int32).toInt = 1 := rfl
  by_cases c1 : 0 ≤ x1.toInt ∧ x1.toInt < nM (sN (aS a))
  · obtain ⟨b, hb, rfl⟩ := ofZ c1.1 c1.2
    have ho := (wN.2.2.2 b hb).2.2.2
    by_cases c2 : (sW (aS a)).length = 0
    · refine ⟨-1, hx, sI hm 0 0 0, ?_, ?_, a, w, X, M0⟩
      · unfold f_X10_stays
        rw [L.r0, Option.bind_some, L.s0, Option.bind_some, x_hasLink S.1.2.1 (by omega), Option.bind_some, if_neg (fun z => bI_0.mp z c1)]
        dsimp only
        rw [L.r0, Option.bind_some, L.s6, Option.bind_some, if_pos (by rw [eS, c2]; rfl)]
      · unfold f_X11_stays
        rw [lt_def, m_isLink mL mS.1 wN, Option.bind_some, if_neg (fun z => bI_0.mp z c1)]
        dsimp only
        rw [m_wayLong mL mS.2.2.2.2.1, Option.bind_some, if_pos (by rw [c2]; rfl)]
    · have n0 : ¬ nI (sW (aS a)).length = 0 := fun z => c2 (nI_inj (b := 0) (by omega) (by decide) z)
      have ux : f_X10_stays 0 (nI b) x2 hx = (if x2 < 0 then some ((-1 : Int32), hx) else if 1 < x2 then some ((-1 : Int32), hx) else (if bI (nU (sN (aS a)) b = true) = 0 then (if x2 = 0 then some (1, hx) else some (99, hx)) else (if x2 = 0 then f_X10_stays_70 0 (nI b) (-1) hx else f_X10_stays_70 0 (nI b) 1 hx))) := by
        unfold f_X10_stays
        rw [L.r0, Option.bind_some, L.s0, Option.bind_some, x_hasLink S.1.2.1 (by omega), Option.bind_some, if_neg (fun z => bI_0.mp z c1)]
        dsimp only
        rw [L.r0, Option.bind_some, L.s6, Option.bind_some, if_neg (by rw [eS]; exact n0), x_isUp S.1.2.1 S.1.2.2.1 (by omega) hb, Option.bind_some]
      have um : f_X11_stays 0 (nI b) x2 hm = (if bI ((0 : Int) ≤ x2.toInt ∧ x2.toInt ≤ 1) = 0 then some ((-1 : Int32), sI hm 0 0 0) else (f_X11_takesWay 0 (sI hm 0 0 0)).bind fun q_5 => (f_X11_costOf 0 (nI b) q_5).bind fun q_6 => (f_X11_fewestBy 0 (nI b) q_6.1 q_6.2).bind fun q_7 => if x2 = 0 then f_X11_stays_60 0 (nI b) q_6.1 q_7.1 (-1 : Int32) q_7.2 else f_X11_stays_60 0 (nI b) q_6.1 q_7.1 1 q_7.2) := by
        unfold f_X11_stays
        rw [lt_def, m_isLink mL mS.1 wN, Option.bind_some, if_neg (fun z => bI_0.mp z c1)]
        dsimp only
        rw [m_wayLong mL mS.2.2.2.2.1, Option.bind_some, if_neg n0]
        dsimp only
        rw [m_inL (l := 0) (k := 1) rfl rfl, Option.bind_some]
        rfl
      rw [ux, um]
      by_cases c3 : 0 ≤ x2.toInt ∧ x2.toInt ≤ 1
      · obtain ⟨hm1, em1, MW1, -⟩ := m_takesWay w M0
        have MWo : MW hm1 (setS a (stN (aS a) (tCost (sN (aS a)) b (nC (sN (aS a)) b)))) (sW (aS a)) := by rw [tCost_own]; exact MW1
        have hF : ∃ F, isFw a b F := by
          have : ∀ c, ∃ y, 1 ≤ c ∧ c ≤ 99 → okT y ∧ ∃ ys, plS (tCost (sN (aS a)) b c) (sB (aS a)) (aD a) (sW (aS a)) ys ∧ ys.getD 0 none = y := fun c => by
            by_cases q : 1 ≤ c ∧ c ≤ 99
            · obtain ⟨h', ys, e, p, o, _⟩ := m_fewestBy (c := c) w hb q (by omega) MWo
              exact ⟨_, fun _ => ⟨o, ys, p, rfl⟩⟩
            · exact ⟨none, fun z => absurd z q⟩
          obtain ⟨F, hF⟩ := Classical.skolem.mp this
          exact ⟨F, hF⟩
        obtain ⟨F, hF⟩ := hF
        obtain ⟨hm2, ys, em2, pm2, om2, MW2⟩ := m_fewestBy (c := nC (sN (aS a)) b) w hb ho (by omega) MWo
        have eF : ys.getD 0 none = F (nC (sN (aS a)) b) := by
          obtain ⟨-, ys', p', e'⟩ := hF _ ho
          rw [plS_fun pm2 p', e']
        obtain ⟨L1, S1, -⟩ := MR_iff.mp MW1.1
        rw [if_neg (show ¬ x2 < 0 by rw [zlt, e0]; omega), if_neg (show ¬ 1 < x2 by rw [zlt, e1]; omega), if_neg (fun z => bI_0.mp z c3), em1, Option.bind_some, m_costOf L1 S1.1 wN hb, Option.bind_some]
        dsimp only
        rw [em2, Option.bind_some, eF]
        dsimp only
        have pick : ∀ s : Bool, ∀ (X0 : Option (Int32 × MH)), (X0 = if bI (nU (sN (aS a)) b = true) = 0 then some ((if s then 99 else 1 : Int32), hx) else f_X10_stays_70 0 (nI b) (stC s) hx) → ∃ r hx' hm', X0 = some (r, hx') ∧ f_X11_stays_60 0 (nI b) (nI (nC (sN (aS a)) b)) (fwm (F (nC (sN (aS a)) b))) (stC s) hm2 = some (r, hm') ∧ RR hx' hm' := fun s X0 eX => by
          obtain ⟨hm3, em3, M3⟩ := m_stWalk (s := s) w hb (by omega) hF MW2
          by_cases c4 : nU (sN (aS a)) b = true
          · obtain ⟨hx3, ex3, X3⟩ := x_stWalk (s := s) w X hb c4 (by omega) hF
            refine ⟨_, hx3, hm3, ?_, em3, a, w, X3, M3⟩
            rw [eX, if_neg (fun z => bI_0.mp z c4)]
            unfold f_X10_stays_70
            rw [ex3, Option.bind_some]
          · have hG : ∀ c, 1 ≤ c → c ≤ 99 → (fun c => fwv (F c)) c = (fun c => fwv (F c)) (nC (sN (aS a)) b) := fun c h1 h2 => by
              obtain ⟨-, ys1, p1, q1⟩ := hF c ⟨h1, h2⟩
              obtain ⟨-, ys2, p2, q2⟩ := hF _ ho
              have hWm : ∀ l, l ∈ sW (aS a) → l < nM (sN (aS a)) := fun l hl => by
                obtain ⟨k, hk, ek⟩ := mem_getD hl
                rw [← ek]; exact wW.2.1 k hk
              show fwv (F c) = fwv (F _)
              rw [← q1, ← q2, plS_fun (dn_plS wN ⟨h1, h2⟩ c4 hWm p1) (dn_plS wN ho c4 hWm p2)]
            rw [wkC_all hG _ _ ho.1 ho.2 (by omega)] at em3
            refine ⟨_, hx, hm3, ?_, em3, a, w, X, M3⟩
            rw [eX, if_pos (bI_0.mpr c4)]
            cases s <;> rfl
        by_cases c5 : x2 = 0
        · rw [if_pos c5, if_pos c5, if_pos c5]
          exact pick false _ rfl
        · rw [if_neg c5, if_neg c5, if_neg c5]
          exact pick true _ rfl
      · refine ⟨-1, hx, sI hm 0 0 0, ?_, if_pos (bI_0.mpr c3), a, w, X, M0⟩
        by_cases q : x2 < 0
        · rw [if_pos q]
        · rw [if_neg q, if_pos (by rw [zlt, e0] at q; rw [zlt, e1]; omega)]
  · refine ⟨-1, hx, sI hm 0 0 0, ?_, ?_, a, w, X, M0⟩
    · unfold f_X10_stays
      rw [L.r0, Option.bind_some, L.s0, Option.bind_some, x_hasLink S.1.2.1 (by omega), Option.bind_some, if_pos (bI_0.mpr c1)]
    · unfold f_X11_stays
      rw [lt_def, m_isLink mL mS.1 wN, Option.bind_some, if_pos (bI_0.mpr c1)]
