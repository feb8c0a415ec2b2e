/-! ===== the fewest at another cost ===== -/
section FB
variable {t : NT} {b c : Nat}
theorem chF_cost {e : Nat} : ∀ {ls : List Nat} {u : Nat}, chF t u ls e → chF (tCost t b c) u ls e := by
  intro ls
  induction ls with
  | nil => intro u h; exact h
  | cons l ls ih => intro u h; exact ⟨h.1, h.2.1, ih h.2.2⟩
theorem tCost_own : tCost t b (nC t b) = t := by
  show (nN t, nM t, nF t, nT t, (fun j => if j = b then nC t b else nC t j), nU t) = t
  have : (fun j => if j = b then nC t b else nC t j) = nC t := by
    funext j
    by_cases q : j = b
    · rw [if_pos q, q]
    · rw [if_neg q]
  rw [this]
  rfl
end FB
def stX : List Nat := [5, 173, 174, 176, 177, 178, 179, 180, 181, 182]
/-- where the class stands while it tries costs of link b -/
def SX (h0 h : MH) (t : NT) (b : Nat) : Prop := frm stX h0 h ∧ (∀ j, j ≠ b → gI h 5 j = gI h0 5 j) ∧ rtIs h 172 (barN t b) ∧ gL h 5 = gL h0 5
theorem x_fewestAt {h0 h : MH} {a : AB} {b c : Nat} (w : wfA a) (X : XR h0 a) (hb : b < nM (sN (aS a))) (hU : nU (sN (aS a)) b = true) (hc : 1 ≤ c ∧ c ≤ 99) (hW : 0 < (sW (aS a)).length) (s : SX h0 h (sN (aS a)) b) : Ev (f_X10_fewestAt 0 (nI b) (nI c) h) (fun q => ∃ ys, plS (tCost (sN (aS a)) b c) (sB (aS a)) (aD a) (sW (aS a)) ys ∧ q.1 = nI (fwv (ys.getD 0 none)) ∧ SX h0 q.2 (sN (aS a)) b) := by
  obtain ⟨L0, S0, -, D0, -⟩ := XR_iff.mp X
  have wN := w.1.1
  have hm30 := wN.2.2.1
  have h16 := w.1.2.2.2.2.1
  obtain ⟨u, e, hch⟩ := w.1.2.2.2.2.ch
  obtain ⟨f, g5, R, l5⟩ := s
  have L := L0.fr f (by decide)
  have f1 : frm stX h0 (sI h 5 b (nI c)) := frm.sI (by decide) f
  have L1 := L0.fr f1 (by decide)
  have N1 : XN (sI h 5 b (nI c)) 2 (tCost (sN (aS a)) b c) (sB (aS a)) := by
    refine XN.net (h := h0) (t := sN (aS a)) (f1.1 _ (by decide)) (f1.1 _ (by decide)) (f1.1 _ (by decide)) ?_ ?_ ?_ (fun j hj => ⟨?_, ?_, ?_⟩) S0.1
    · rw [f1.1 _ (by decide)]; exact S0.1.1
    · rw [f1.1 _ (by decide)]; exact S0.1.2.1
    · rw [f1.1 _ (by decide)]; exact S0.1.2.2.1
    · rw [f1.1 _ (by decide)]; exact (S0.1.2.2.2.1 j hj).1
    · rw [f1.1 _ (by decide)]; exact (S0.1.2.2.2.1 j hj).2.1
    · show gI (sI h 5 b (nI c)) 5 j = nI (if j = b then c else nC (sN (aS a)) j)
      by_cases q : j = b
      · rw [if_pos q, q, gI_s]
      · rw [if_neg q, gI_sI_nk q, g5 j q]; exact (S0.1.2.2.2.1 j hj).2.2
  have wt : wfN (tCost (sN (aS a)) b c) := wN.cost hc
  have wB : wfB (tCost (sN (aS a)) b c) (sB (aS a)) := (w.1.net wt rfl (Nat.le_refl _) (fun _ _ => ⟨rfl, rfl⟩)).2.1
  have R1 : rtIs (sI h 5 b (nI c)) 172 (barN (tCost (sN (aS a)) b c) b) := rt_cost wN hc (R.fr (gI_sI_f (by decide)) rfl)
  unfold f_X10_fewestAt
  rw [L.r0, Option.bind_some, L.s0, Option.bind_some, L.n5, Option.bind_some, stI_ok (by rw [L.z5]; omega) (by omega), Option.bind_some, L1.r11, Option.bind_some, L1.r10, Option.bind_some, L1.r0, Option.bind_some, L1.s0, Option.bind_some]
  refine Ev_to (x_join wt L1 N1 hb hU R1) (fun h2 z => ?_)
  obtain ⟨f2, R2⟩ := z
  have f02 : frm stX h0 h2 := frm.tr f1 (f2.up (by decide))
  have L2 := L0.fr f02 (by decide)
  have N2 : XN h2 2 (tCost (sN (aS a)) b c) (sB (aS a)) := N1.fr (fun k hk => f2.1 _ (by unfold jnX; simp; omega))
  have rW2 : rowIs h2 18 (sW (aS a)) := rowIs.fr (f02.1 _ (by decide)) (f02.1 _ (by decide)) S0.2.2.2
  rw [L2.r13, Option.bind_some, L2.r0, Option.bind_some, L2.s0, Option.bind_some, L2.r11, Option.bind_some, Option.bind_some, L2.s6, Option.bind_some, show gI h2 0 2 = nI (aD a) by rw [f02.1 0 (by decide)]; exact D0]
  refine Ev_to (x_plan (D := aD a) wt wB (show WE h2 175 _ _ from ⟨L2, N2, L2.tri, R2⟩) (by decide) L2.way (by decide) rW2 h16 (chF_cost hch) w.2.2.1.2) (fun q z => ?_)
  obtain ⟨ys, f3, p3, r3, x3, y3, d3⟩ := z
  have f03 : frm stX h0 q.2 := frm.tr f02 (f3.up (by decide))
  have L3 := L0.fr f03 (by decide)
  have hl := plS_len p3
  have hx := (x3.1 0 (by omega)).1
  rw [Nat.zero_add] at hx
  rw [L3.r13, Option.bind_some, L3.i3, Option.bind_some, show ldI q.2 180 0 = some (gI q.2 180 0) from ldI_ok (i := 0) (by rw [L3.w180]; decide) (by decide), Option.bind_some, hx.fw]
  refine Ev_some ⟨ys, p3, rfl, f03, fun j hj => ?_, ?_, by rw [f3.2.1 5 (by decide), f2.2.1 5 (by decide)]; exact l5⟩
  · rw [f3.1 5 (by decide), f2.1 5 (by decide), gI_sI_nk hj]; exact g5 j hj
  · refine R.fr ?_ ?_
    · rw [f3.1 _ (by decide), f2.1 _ (by decide), gI_sI_f (by decide)]
    · rw [f3.2.1 _ (by decide), f2.2.1 _ (by decide)]; rfl
theorem x_backCost {h0 h : MH} {a : AB} {b : Nat} {x6 : Int32} (X : XR h0 a) (hb : b < nM (sN (aS a))) (w : wfA a) (s : SX h0 h (sN (aS a)) b) : Ev (f_X10_lastAlike_90 (nI b) 2 (nI (nC (sN (aS a)) b)) x6 h) (fun q => q.1 = x6 ∧ XR q.2 a) := by
  obtain ⟨L0, S0, -⟩ := XR_iff.mp X
  have hm30 := w.1.1.2.2.1
  obtain ⟨f, g5, R, l5⟩ := s
  have L := L0.fr f (by decide)
  unfold f_X10_lastAlike_90
  rw [L.n5, Option.bind_some, stI_ok (by rw [L.z5]; omega) (by omega), Option.bind_some]
  have e5 : gI (sI h 5 b (nI (nC (sN (aS a)) b))) 5 = gI h0 5 := by
    funext j
    by_cases q : j = b
    · rw [q, gI_s]; exact (S0.1.2.2.2.1 b hb).2.2.symm
    · rw [gI_sI_nk q]; exact g5 j q
  have f1 : frm [173, 174, 176, 177, 178, 179, 180, 181, 182] h0 (sI h 5 b (nI (nC (sN (aS a)) b))) := by
    refine ⟨fun k hk => ?_, fun k hk => ?_, f.2.2.1, f.2.2.2.1, f.2.2.2.2⟩
    · by_cases q : k = 5
      · rw [q]; exact e5
      · rw [gI_sI_f q]; exact f.1 k (by unfold stX; simp at hk ⊢; omega)
    · by_cases q : k = 5
      · rw [q]; exact l5
      · exact f.2.1 k (by unfold stX; simp at hk ⊢; omega)
  exact Ev_some ⟨rfl, X.fr f1 (by decide)⟩
