/-! ===== ends, exact, high, course, share ===== -/
/-- links one behind the other -/
def chF (t : NT) : Nat → List Nat → Nat → Prop
  | u, [], e => u = e
  | u, l :: ls, e => l < nM t ∧ nF t l = u ∧ chF t (nT t l) ls e
theorem chF_app {t : NT} {e f : Nat} {ks : List Nat} : ∀ {ls : List Nat} {u : Nat}, chF t u ls e → chF t e ks f → chF t u (ls ++ ks) f := by
  intro ls
  induction ls with
  | nil => intro u h1 h2; rw [show u = e from h1]; exact h2
  | cons l ls ih => intro u h1 h2; exact ⟨h1.1, h1.2.1, ih h1.2.2 h2⟩
theorem chF_mem {t : NT} {e : Nat} : ∀ {ls : List Nat} {u : Nat}, chF t u ls e → ∀ i, i < ls.length → ls.getD i 0 < nM t := by
  intro ls
  induction ls with
  | nil => intro u _ i hi; simp at hi
  | cons l ls ih =>
    intro u h i hi
    cases i with
    | zero => exact h.1
    | succ i => exact ih h.2.2 i (by rw [List.length_cons] at hi; omega)
theorem chF_nx {t : NT} {e : Nat} : ∀ {ls : List Nat} {u : Nat}, chF t u ls e → ∀ i, i + 1 < ls.length → nT t (ls.getD i 0) = nF t (ls.getD (i + 1) 0) := by
  intro ls
  induction ls with
  | nil => intro u _ i hi; simp at hi
  | cons l ls ih =>
    intro u h i hi
    cases i with
    | zero =>
      cases ls with
      | nil => simp at hi
      | cons j ls => exact h.2.2.2.1.symm
    | succ i => exact ih h.2.2 i (by rw [List.length_cons] at hi; omega)
theorem chF_way {t : NT} {u e : Nat} {ls : List Nat} (h : chF t u ls e) (hl : ls.length ≤ 16) : wayOK t ls := ⟨hl, chF_mem h, chF_nx h⟩
theorem sp_ch' {t : NT} {v : Nat} (w : wfN t) (hv : v < nN t) : ∀ (k u : Nat), cl t v u < k → u < nN t → dist t v u < 1000000 → chF t u (sp t v u) v := by
  intro k
  induction k with
  | zero => intro u h; omega
  | succ k ih =>
    intro u hk hu hd
    by_cases q : u = v
    · rw [q, sp_v]; exact rfl
    · obtain ⟨l, hl, hU, hF, he⟩ := (dist_bel w hv).2.2.2 u hu q hd
      have ho : onB t v u l = true := onB_iff.mpr ⟨hU, hF, hd, he.symm⟩
      cases e : fstB (onB t v u) (nM t) with
      | none => rw [fstB_none e l hl] at ho; cases ho
      | some j =>
        obtain ⟨h3, h4, _⟩ := fstB_some e
        have o := on_near w h3 h4
        have h1 := cl_lt (t := t) (v := v) (u := u) o.2.1 o.1
        rw [sp_cons w hu q e]
        exact ⟨h3, o.2.2.1, ih _ (by omega) o.2.1 (by omega)⟩
theorem sp_ch {t : NT} {v u : Nat} (w : wfN t) (hv : v < nN t) (hu : u < nN t) (hd : dist t v u < 1000000) : chF t u (sp t v u) v := sp_ch' w hv _ u (Nat.lt_succ_self _) hu hd
theorem pkStep_ch {t : NT} {B : Nat → Option (Nat × List Nat)} {x u : Nat} {H : List Nat} {s : PK} {q : List Nat × PK} (w : wfN t) (hu : pN s < nN t) (h : chF t u (pT s) (pN s)) (e : pkStep t B x H s = some q) : chF t u (pT q.2) (pN q.2) := by
  unfold pkStep at e
  by_cases c1 : x < 100
  · rw [if_pos c1] at e
    by_cases c2 : x < nN t ∧ dist t x (pN s) < 1000000
    · rw [if_pos c2] at e
      obtain rfl := Option.some.inj e
      exact chF_app h (sp_ch w c2.1 hu c2.2)
    · rw [if_neg c2] at e; cases e
  · rw [if_neg c1] at e
    by_cases c2 : x < 200
    · rw [if_pos c2] at e
      by_cases c3 : x - 100 < nM t ∧ nU t (x - 100) = true ∧ nF t (x - 100) = pN s
      · rw [if_pos c3] at e
        obtain rfl := Option.some.inj e
        exact chF_app h ⟨c3.1, c3.2.2, rfl⟩
      · rw [if_neg c3] at e; cases e
    · rw [if_neg c2] at e
      cases eB : B (x - 200) with
      | none => rw [eB] at e; cases e
      | some b =>
        rw [eB] at e
        have e : (if b.1 = pN s then some (b.2 ++ H, pkBind (b.2 ++ H) s) else none) = some q := e
        by_cases c3 : b.1 = pN s
        · rw [if_pos c3] at e
          obtain rfl := Option.some.inj e
          exact h
        · rw [if_neg c3] at e; cases e
def pkEnd (t : NT) (u : Nat) (r : Option Nat × PK) : Prop := pN r.2 < nN t ∧ pH r.2 ≤ 17 ∧ (pT r.2).length ≤ 648 ∧ (∀ l, pA r.2 l ≤ 84 * zz t) ∧ (∀ c, r.1 = some c → c < 84) ∧ chF t u (pT r.2) (pN r.2) ∧ (pE r.2 = true → r.1 = none)
theorem pkRun_end {t : NT} {B : Nat → Option (Nat × List Nat)} {u : Nat} (w : wfN t) (wB : wfB t B) : ∀ (k c : Nat) (H : List Nat) (s : PK), pkOK t c H s → chF t u (pT s) (pN s) → pkEnd t u (pkRun t B k c H s) := by
  intro k
  induction k with
  | zero =>
    intro c H s O h
    obtain ⟨O1, O2, O3, O4, O5, O6, O7, O8⟩ := O
    refine ⟨O4, O7, ?_, fun l => ?_, fun c hc => (by cases hc), h, fun _ => rfl⟩
    · show (pT s).length ≤ 648
      omega
    · exact Nat.le_trans (O5 l) (Nat.mul_le_mul_right _ (by omega))
  | succ k ih =>
    intro c H s O h
    cases H with
    | nil =>
      obtain ⟨O1, O2, O3, O4, O5, O6, O7, O8⟩ := O
      refine ⟨O4, O7, ?_, fun l => ?_, fun c hc => (by cases hc), h, fun _ => rfl⟩
      · show (pT s).length ≤ 648
        omega
      · exact Nat.le_trans (O5 l) (Nat.mul_le_mul_right _ (by omega))
    | cons x H =>
      cases e : pkStep t B x H s with
      | none =>
        rw [pkRun_none e]
        obtain ⟨O1, O2, O3, O4, O5, O6, O7, O8⟩ := O
        refine ⟨O4, O7, ?_, fun l => ?_, fun c' hc => ?_, h, fun z => by cases z⟩
        · show (pT s).length ≤ 648
          omega
        · exact Nat.le_trans (O5 l) (Nat.mul_le_mul_right _ (by omega))
        · have hc : c = c' := Option.some.inj hc
          have e1 : wtL 7 (x :: H) = (if x < 200 then 1 else 7) + wtL 7 H := rfl
          rw [e1] at O2
          split at O2 <;> omega
      | some q =>
        rw [pkRun_some e]
        exact ih (c + 1) q.1 q.2 (pkOK_step w wB O e) (pkStep_ch w O.2.2.2.1 h e)
theorem pkt_end {t : NT} {B : Nat → Option (Nat × List Nat)} {u : Nat} {ks : List Nat} (w : wfN t) (wB : wfB t B) (hu : u < nN t) (hk : stkOK ks) : pkEnd t u (pkt t B u ks) := pkRun_end w wB _ _ _ _ (pkOK_0 hu hk) rfl
theorem XR.xe {h : MH} {a : AB} (X : XR h a) (R : rtIs h 169 (sN (aS a))) : XE h (sN (aS a)) (sB (aS a)) := by
  obtain ⟨L, S, -⟩ := XR_iff.mp X
  exact ⟨L, S.1, R⟩
theorem x_sendOK {h : MH} {a : AB} {u : Nat} {ks : List Nat} (w : wfA a) (X : XR h a) (r : rowIs h 184 ks) (hk : stkOK ks) (hu : u < nN (sN (aS a))) : ∃ h1 h2, f_X10_freshRoutes 0 h = some (169, h1) ∧ f_X3_run 183 2 169 (nI u) h1 = some h2 ∧ XR h1 a ∧ XR h2 a ∧ frm [0, 170, 171] h h1 ∧ frm pkX h1 h2 ∧ XKE h2 (sN (aS a)) (pkt (sN (aS a)) (sB (aS a)) u ks).1 (pkt (sN (aS a)) (sB (aS a)) u ks).2 := by
  obtain ⟨h1, e1, X1, z1, R1, f1, g1⟩ := freshX2 h a w X
  have r1 : rowIs h1 184 ks := r.fr (f1.1 _ (by decide)) (f1.1 _ (by decide))
  obtain ⟨h2, e2, f2, K2⟩ := x_run w.1.1 w.1.2.1 (X1.xe R1) r1 hk hu
  exact ⟨h1, h2, e1, e2, X1, X1.fr f2 (by decide), f1, f2, K2⟩
theorem x_sent {h : MH} {a : AB} {u : Nat} (w : wfA a) (X : XR h a) (hu : u < nN (sN (aS a))) : ∃ h', f_X10_sent 0 (nI u) h = some (1, h') ∧ XR h' a ∧ XKE h' (sN (aS a)) (pkt (sN (aS a)) (sB (aS a)) u (aK a)).1 (pkt (sN (aS a)) (sB (aS a)) u (aK a)).2 := by
  obtain ⟨L, S, K, D, A, I, P, F, C⟩ := XR_iff.mp X
  have hn10 := w.1.1.2.1
  obtain ⟨h1, e1, f1, r1⟩ := x_rowCopy (show rowAt h 184 12 from ⟨L.y184, L.z185⟩) L.stk K w.2.1.1 w.2.1.1 (by decide) (by decide)
  have X1 : XR h1 a := X.fr f1 (by decide)
  obtain ⟨h2, h3, e2, e3, X2, X3, f2, f3, K3⟩ := x_sendOK w X1 r1 w.2.1 hu
  obtain ⟨L1, S1, -⟩ := XR_iff.mp X1
  refine ⟨h3, ?_, X3, K3⟩
  unfold f_X10_sent
  rw [L.r0, Option.bind_some, L.s0, Option.bind_some, x_hasNode S.1.1 (by omega), Option.bind_some, nI_toInt (by omega), if_neg (fun z => bI_0.mp z (by omega))]
  dsimp only
  rw [L.r14, Option.bind_some, L.k0, Option.bind_some, L.r1, Option.bind_some, e1, Option.bind_some, L1.r14, Option.bind_some, L1.r0, Option.bind_some, L1.s0, Option.bind_some, e2, Option.bind_some]
  dsimp only
  rw [e3, Option.bind_some]
theorem x_sentNo {h : MH} {a : AB} {x : Int32} (w : wfA a) (X : XR h a) (hx : ¬ (0 ≤ x.toInt ∧ x.toInt < nN (sN (aS a)))) : f_X10_sent 0 x h = some (0, h) := by
  obtain ⟨L, S, K, D, A, I, P, F, C⟩ := XR_iff.mp X
  have hn10 := w.1.1.2.1
  unfold f_X10_sent
  rw [L.r0, Option.bind_some, L.s0, Option.bind_some, x_hasNode S.1.1 (by omega), Option.bind_some, if_pos (bI_0.mpr hx)]
theorem m_sent {h : MH} {a : AB} {u : Nat} {sh : Bool} {xs : Int32} (w : wfA a) (M : MR h a) (hu : u < nN (sN (aS a))) (hxs : xs = bI (sh = true)) : ∃ h', f_X11_goes 0 (nI u) 3 0 (gI h 0 6) xs h = some h' ∧ MR h' a ∧ frN h h' ∧ MKE h' (sN (aS a)) (pkt (sN (aS a)) (sB (aS a)) u (aK a)).1 (pkt (sN (aS a)) (sB (aS a)) u (aK a)).2 sh := by
  obtain ⟨L, S, K, D, A, I, P, F, C⟩ := MR_iff.mp M
  have := w.2.1.1
  obtain ⟨h', e, z⟩ := m_goes (la := 3) (o := 0) (ks := aK a) w M hu w.2.1 (Or.inr (Or.inl rfl)) K.2 (by rw [L.n3]; omega) (by rw [L.n3]; decide) hxs
  refine ⟨h', ?_, z⟩
  rw [K.1]
  exact e
theorem bIb {b : Bool} : bI (b = true) = 0 ↔ b = false := by
  rw [bI_0]; cases b <;> simp
theorem ok_ends : J_ends RR := by
  rintro x1 hx hm ⟨a, w, X, M⟩
  have M0 := M.told (v := 0)
  obtain ⟨mL, mS, -⟩ := MR_iff.mp M0
  have wN := w.1.1
  have hn10 := wN.2.1
  by_cases c1 : 0 ≤ x1.toInt ∧ x1.toInt < nN (sN (aS a))
  · obtain ⟨u, hu, rfl⟩ := ofZ c1.1 c1.2
    obtain ⟨hx', ex, X', K⟩ := x_sent w X hu
    obtain ⟨hm', em, M', f, J⟩ := m_sent (sh := false) (xs := 0) w M0 hu rfl
    obtain ⟨z1, z2, z3, z4, z5, z6, z7⟩ := pkt_end wN w.1.2.1 hu w.2.1
    have L' := X'.1
    have fi : fpl (pkt (sN (aS a)) (sB (aS a)) u (aK a)).1 = -1 ↔ (pkt (sN (aS a)) (sB (aS a)) u (aK a)).1 = none := fpl_m1 (fun b hb => by have := z5 b hb; omega)
    refine ⟨if (pkt (sN (aS a)) (sB (aS a)) u (aK a)).1 = none then nI (pN (pkt (sN (aS a)) (sB (aS a)) u (aK a)).2) else -2 - fpl (pkt (sN (aS a)) (sB (aS a)) u (aK a)).1, hx', hm', ?_, ?_, a, w, X', M'⟩
    · unfold f_X10_ends f_X3_outcome
      rw [ex, Option.bind_some]
      dsimp only
      rw [if_neg (by decide), L'.r14, Option.bind_some, K.1]
      by_cases q : (pkt (sN (aS a)) (sB (aS a)) u (aK a)).1 = none
      · rw [if_pos (fi.mpr q), Option.bind_some, if_pos q, K.2.1]
      · rw [if_neg (fun z => q (fi.mp z)), Option.bind_some, if_neg q]
    · unfold f_X11_ends f_X11_endOf
      rw [lt_def, m_isNode mL mS.1 wN, Option.bind_some, if_neg (fun z => bI_0.mp z c1)]
      dsimp only
      rw [mL.r5, Option.bind_some, em, Option.bind_some, J.1]
      by_cases q : (pkt (sN (aS a)) (sB (aS a)) u (aK a)).1 = none
      · rw [if_pos (bI_0.mpr (fun z => z q)), Option.bind_some, if_pos q, J.2.2.1]
      · obtain ⟨c, hc⟩ := Option.ne_none_iff_exists'.mp q
        rw [if_neg (fun z => bI_0.mp z q), Option.bind_some, if_neg q, J.2.1 c hc, hc]
        rfl
  · refine ⟨-1, hx, sI hm 0 0 0, ?_, ?_, a, w, X, M0⟩
    · unfold f_X10_ends
      rw [x_sentNo w X c1, Option.bind_some, if_pos rfl]
    · unfold f_X11_ends
      rw [lt_def, m_isNode mL mS.1 wN, Option.bind_some, if_pos (bI_0.mpr c1)]
theorem ok_exact : J_exact RR := by
  rintro x1 hx hm ⟨a, w, X, M⟩
  have M0 := M.told (v := 0)
  obtain ⟨mL, mS, -⟩ := MR_iff.mp M0
  have wN := w.1.1
  have hn10 := wN.2.1
  by_cases c1 : 0 ≤ x1.toInt ∧ x1.toInt < nN (sN (aS a))
  · obtain ⟨u, hu, rfl⟩ := ofZ c1.1 c1.2
    obtain ⟨hx', ex, X', K⟩ := x_sent w X hu
    obtain ⟨hm', em, M', f, J⟩ := m_sent (sh := false) (xs := 0) w M0 hu rfl
    have L' := X'.1
    refine ⟨bI (pE (pkt (sN (aS a)) (sB (aS a)) u (aK a)).2 = true), hx', hm', ?_, ?_, a, w, X', M'⟩
    · unfold f_X10_exact
      rw [ex, Option.bind_some]
      dsimp only
      rw [if_neg (by decide), L'.r14, Option.bind_some, K.2.2.2.1]
      by_cases q : pE (pkt (sN (aS a)) (sB (aS a)) u (aK a)).2 = true
      · rw [if_neg (fun z => bI_0.mp z q)]; unfold bI; rw [if_pos q]
      · rw [if_pos (bI_0.mpr q)]; unfold bI; rw [if_neg q]
    · unfold f_X11_exact
      rw [lt_def, m_isNode mL mS.1 wN, Option.bind_some, if_neg (fun z => bI_0.mp z c1)]
      dsimp only
      rw [mL.r5, Option.bind_some, em, Option.bind_some, J.2.2.2.1]
      by_cases q : pE (pkt (sN (aS a)) (sB (aS a)) u (aK a)).2 = true
      · rw [if_neg (fun z => bI_0.mp z q)]; unfold bI; rw [if_pos q]
      · rw [if_pos (bI_0.mpr q)]; unfold bI; rw [if_neg q]
  · refine ⟨-1, hx, sI hm 0 0 0, ?_, ?_, a, w, X, M0⟩
    · unfold f_X10_exact
      rw [x_sentNo w X c1, Option.bind_some, if_pos rfl]
    · unfold f_X11_exact
      rw [lt_def, m_isNode mL mS.1 wN, Option.bind_some, if_pos (bI_0.mpr c1)]
theorem ok_high : J_high RR := by
  rintro x1 hx hm ⟨a, w, X, M⟩
  have M0 := M.told (v := 0)
  obtain ⟨mL, mS, -⟩ := MR_iff.mp M0
  have wN := w.1.1
  have hn10 := wN.2.1
  by_cases c1 : 0 ≤ x1.toInt ∧ x1.toInt < nN (sN (aS a))
  · obtain ⟨u, hu, rfl⟩ := ofZ c1.1 c1.2
    obtain ⟨hx', ex, X', K⟩ := x_sent w X hu
    obtain ⟨hm', em, M', f, J⟩ := m_sent (sh := false) (xs := 0) w M0 hu rfl
    have L' := X'.1
    refine ⟨nI (pH (pkt (sN (aS a)) (sB (aS a)) u (aK a)).2), hx', hm', ?_, ?_, a, w, X', M'⟩
    · unfold f_X10_high
      rw [ex, Option.bind_some]
      dsimp only
      rw [if_neg (by decide), L'.r14, Option.bind_some, K.2.2.1]
    · unfold f_X11_high
      rw [lt_def, m_isNode mL mS.1 wN, Option.bind_some, if_neg (fun z => bI_0.mp z c1)]
      dsimp only
      rw [mL.r5, Option.bind_some, em, Option.bind_some, J.2.2.2.2.1]
  · refine ⟨-1, hx, sI hm 0 0 0, ?_, ?_, a, w, X, M0⟩
    · unfold f_X10_high
      rw [x_sentNo w X c1, Option.bind_some, if_pos rfl]
    · unfold f_X11_high
      rw [lt_def, m_isNode mL mS.1 wN, Option.bind_some, if_pos (bI_0.mpr c1)]
