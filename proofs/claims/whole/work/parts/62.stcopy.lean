/-! ===== a whole state is copied ===== -/
theorem lrep.mv {g g' : Nat → Int32} {o : Nat} {ls : List Nat} (e : ∀ i, i < ls.length → g' (o + i) = g (o + i)) (h : lrep g o ls) : lrep g' o ls := fun i hi => (e i hi).trans (h i hi)
theorem XN.cp {h h' : MH} {a b : Nat} {t : NT} {B : Nat → Option (Nat × List Nat)} (wn : wfN t) (wb : wfB t B) (j0 : ∀ j, j < 3 → gI h' a j = gI h b j) (j1 : ∀ k, 1 ≤ k → k ≤ 3 → ∀ j, j < 30 → gI h' (a + k) j = gI h (b + k) j) (j4 : ∀ k, k = 4 ∨ k = 6 → ∀ j, j < 6 → gI h' (a + k) j = gI h (b + k) j) (j7 : ∀ j, j < 36 → gI h' (a + 7) j = gI h (b + 7) j) (X : XN h b t B) : XN h' a t B := by
  obtain ⟨x0, x1, x2, x3, x4⟩ := X
  have hm : nM t ≤ 30 := wn.2.2.1
  refine ⟨(j0 0 (by omega)).trans x0, (j0 1 (by omega)).trans x1, (j0 2 (by omega)).trans x2, fun l hl => ⟨(j1 1 (by omega) (by omega) l (by omega)).trans (x3 l hl).1, (j1 2 (by omega) (by omega) l (by omega)).trans (x3 l hl).2.1, (j1 3 (by omega) (by omega) l (by omega)).trans (x3 l hl).2.2⟩, fun b' hb => ⟨fun e => (j4 4 (Or.inl rfl) b' hb).trans ((x4 b' hb).1 e), fun q hq => ?_⟩⟩
  obtain ⟨y1, y2, y3⟩ := (x4 b' hb).2 q hq
  have := (wb b' hb q hq).2.2.1
  exact ⟨(j4 4 (Or.inl rfl) b' hb).trans y1, (j4 6 (Or.inr rfl) b' hb).trans y2, lrep.mv (fun i hi => j7 _ (by omega)) y3⟩
def stAds (a : Nat) : List Nat := [a, a + 1, a + 2, a + 3, a + 4, a + 5, a + 7, a + 8, a + 9, a + 10, a + 12, a + 13, a + 15, a + 16, a + 17, a + 18]
theorem stAds_mem {a q : Nat} (h : q ∈ stAds a) : a ≤ q ∧ q ≤ a + 18 ∧ q ≠ a + 6 ∧ q ≠ a + 11 ∧ q ≠ a + 14 := by
  simp [stAds] at h
  omega
theorem x_stCopy {h : MH} {a b : Nat} {s : ST} (A : stAt h a) (B : stAt h b) (hab : a + 19 ≤ b ∨ b + 19 ≤ a) (w : wfS s) (S : XS h b s) : ∃ h', f_X7_copyFrom a b h = some h' ∧ frm (stAds a) h h' ∧ XS h' a s := by
  obtain ⟨a0, a1, a2, a3, a5, a6, an, az9, az10, ar11, ar14, aw⟩ := A
  obtain ⟨b0, b1, b2, b3, b5, b6, bn, bz9, bz10, br11, br14, bw⟩ := B
  obtain ⟨s1, s2, s3, s4⟩ := S
  obtain ⟨h1, e1, f1, j1, j2, j3, j4⟩ := x_netCopy (h := h) (a := a + 1) (b := b + 1) an bn (by omega)
  obtain ⟨h2, e2, f2, j5⟩ := x_cp (h := h1) (a := a + 9) (b := b + 9) (n := 8) (x := 8) rfl (by rw [f1.2.2.2.1]; omega) (by rw [f1.2.2.2.1]; omega) (by decide)
  obtain ⟨h3, e3, f3, j6⟩ := x_cp (h := h2) (a := a + 10) (b := b + 10) (n := 8) (x := 8) rfl (by rw [f2.2.2.2.1, f1.2.2.2.1]; omega) (by rw [f2.2.2.2.1, f1.2.2.2.1]; omega) (by decide)
  have g3 : frm [a + 1, a + 2, a + 3, a + 4, a + 5, a + 7, a + 8, a + 9, a + 10] h h3 := frm.tr (f1.up (by simp [ntAds])) (frm.tr (f2.up (by simp)) (f3.up (by simp)))
  obtain ⟨h4, e4, f4, j7, j8⟩ := x_rowsCopy (h := h3) (a := a + 11) (b := b + 11) (c := 8) (w := 12) (ar11.fr g3 (by simp)) (br11.fr g3 (by simp; omega)) (by decide) (by decide) (by omega)
  have g4 : frm [a + 1, a + 2, a + 3, a + 4, a + 5, a + 7, a + 8, a + 9, a + 10, a + 12, a + 13] h h4 := frm.tr (g3.up (by simp)) (f4.up (by simp))
  have f5 : frm [a] h4 (sI h4 a 4 (gI h4 b 4)) := frm.sI (by simp) frm.rf
  have g5 : frm [a, a + 1, a + 2, a + 3, a + 4, a + 5, a + 7, a + 8, a + 9, a + 10, a + 12, a + 13] h (sI h4 a 4 (gI h4 b 4)) := frm.tr (g4.up (by simp)) (f5.up (by simp))
  obtain ⟨h6, e6, f6, j9, j10⟩ := x_rowsCopy (h := sI h4 a 4 (gI h4 b 4)) (a := a + 14) (b := b + 14) (c := 12) (w := 16) (ar14.fr g5 (by simp)) (br14.fr g5 (by simp; omega)) (by decide) (by decide) (by omega)
  have g6 : frm [a, a + 1, a + 2, a + 3, a + 4, a + 5, a + 7, a + 8, a + 9, a + 10, a + 12, a + 13, a + 15, a + 16] h h6 := frm.tr (g5.up (by simp)) (f6.up (by simp))
  have s4' : rowIs h6 (b + 17) (sW s) := rowIs.fr (h := h) (g6.1 _ (by simp; omega)) (g6.1 _ (by simp; omega)) s4
  obtain ⟨h7, e7, f7, r7⟩ := x_rowCopy (h := h6) (a := a + 17) (b := b + 17) (w := 16) (w' := 16) (ls := sW s) (aw.fr g6) (bw.fr g6) s4' w.2.2.2.2.1 w.2.2.2.2.1 (by decide) (by omega)
  refine ⟨h7, ?_, frm.tr (g6.up (by simp [stAds])) (f7.up (by simp [stAds])), ?_, ?_, ?_, r7⟩
  · unfold f_X7_copyFrom
    have k1 : gR h1 = gR h := f1.2.2.1
    have k2 : gR h2 = gR h := f2.2.2.1.trans k1
    rw [a0, Option.bind_some, b0, Option.bind_some, e1, Option.bind_some, k1, b1, Option.bind_some, a1, Option.bind_some, e2, Option.bind_some, k2, b2, Option.bind_some, a2, Option.bind_some, e3, Option.bind_some, g3.2.2.1, a3, Option.bind_some, b3, Option.bind_some, e4, Option.bind_some, lt_def, g5.2.2.1, a5, Option.bind_some, b5, Option.bind_some, e6, Option.bind_some, g6.2.2.1, a6, Option.bind_some, b6, Option.bind_some, e7, Option.bind_some]
  · have y : ∀ k, k ≤ 7 → gI h7 (a + 1 + k) = gI h1 (a + 1 + k) := by
      intro k hk
      rw [f7.1 _ (by simp; omega), f6.1 _ (by simp; omega), f5.1 _ (by simp; omega), f4.1 _ (by simp; omega), f3.1 _ (by simp; omega), f2.1 _ (by simp; omega)]
    have y0 := y 0 (by omega)
    rw [Nat.add_zero] at y0
    refine XN.cp w.1 w.2.1 (fun j hj => ?_) (fun k k1 k3 j hj => ?_) (fun k hk j hj => ?_) (fun j hj => ?_) s1
    · rw [y0]; exact j1 j hj
    · rw [y k (by omega)]; exact j2 k k1 k3 j hj
    · rw [y k (by omega)]; exact j3 k hk j hj
    · rw [y 7 (by omega)]; exact j4 j hj
  · have y9 : ∀ j, j < 8 → gI h7 (a + 9) j = gI h (b + 9) j := fun j hj => by
      rw [f7.1 _ (by simp), f6.1 _ (by simp), f5.1 _ (by simp), f4.1 _ (by simp), f3.1 _ (by simp), j5 j hj, f1.1 _ (by simp [ntAds]; omega)]
    have y10 : ∀ j, j < 8 → gI h7 (a + 10) j = gI h (b + 10) j := fun j hj => by
      rw [f7.1 _ (by simp), f6.1 _ (by simp), f5.1 _ (by simp), f4.1 _ (by simp), j6 j hj, f2.1 _ (by simp; omega), f1.1 _ (by simp [ntAds]; omega)]
    have y12 : ∀ j, j < 8 → gI h7 (a + 12) j = gI h (b + 12) j := fun j hj => by
      rw [f7.1 _ (by simp), f6.1 _ (by simp), f5.1 _ (by simp)]
      exact (j7 j hj).trans (congrFun (g3.1 (b + 12) (by simp; omega)) j)
    have y13 : ∀ j, j < 96 → gI h7 (a + 13) j = gI h (b + 13) j := fun j hj => by
      rw [f7.1 _ (by simp), f6.1 _ (by simp), f5.1 _ (by simp)]
      exact (j8 j hj).trans (congrFun (g3.1 (b + 13) (by simp; omega)) j)
    intro d hd
    obtain ⟨z1, z2⟩ := s2 d hd
    refine ⟨fun e => (y9 d hd).trans (z1 e), fun q hq => ?_⟩
    obtain ⟨v1, v2, v3, v4⟩ := z2 q hq
    have := (w.2.2.1 d hd q hq).2.2.2.1
    exact ⟨(y9 d hd).trans v1, (y10 d hd).trans v2, (y12 d hd).trans v3, lrep.mv (fun i hi => y13 _ (by omega)) v4⟩
  · have y15 : ∀ j, j < 12 → gI h7 (a + 15) j = gI h (b + 15) j := fun j hj => by
      rw [f7.1 _ (by simp)]
      exact (j9 j hj).trans (congrFun (g5.1 (b + 15) (by simp; omega)) j)
    have y16 : ∀ j, j < 192 → gI h7 (a + 16) j = gI h (b + 16) j := fun j hj => by
      rw [f7.1 _ (by simp)]
      exact (j10 j hj).trans (congrFun (g5.1 (b + 16) (by simp; omega)) j)
    refine ⟨?_, fun k hk => ?_⟩
    · rw [f7.1 _ (by simp; omega), f6.1 _ (by simp; omega), gI_s, g4.1 _ (by simp; omega)]
      exact s3.1
    · have hk12 : (sK s).length ≤ 12 := w.2.2.2.1.1
      have hw := (w.2.2.2.1.2 k hk).1.1
      exact ⟨(y15 k (by omega)).trans (s3.2 k hk).1, lrep.mv (fun i hi => y16 _ (by omega)) (s3.2 k hk).2⟩
