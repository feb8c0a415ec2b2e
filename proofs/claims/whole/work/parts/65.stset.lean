/-! ===== the state is replaced, the routes being stale ===== -/
def setS (a : AB) (s : ST) : AB := (s, a.2)
theorem wfA.st {a : AB} {s : ST} (w : wfA a) (hs : wfS s) : wfA (setS a s) := ⟨hs, w.2⟩
theorem XR.st {Y : List Nat} {h h' : MH} {a : AB} {s : ST} (f : frm Y h h') (hY : ∀ q, q ∈ Y → 1 ≤ q ∧ q ≤ 19 ∧ q ≠ 7 ∧ q ≠ 12 ∧ q ≠ 15) (S' : XS h' 1 s) (e : gI h 0 12 = 1) (R : XR h a) : XR h' (setS a s) := by
  obtain ⟨L, S, K, D, A, I, P, F, C⟩ := XR_iff.mp R
  have u : ∀ b, b = 0 ∨ 20 ≤ b → gI h' b = gI h b := fun b hb => f.1 b (fun q => by have := hY b q; omega)
  refine XR_iff.mpr ⟨L.fr f (fun q hq hq' => ?_), S', K.fr (u 20 (by omega)) (u 21 (by omega)), by rw [u 0 (by omega)]; exact D, A.fr (fun b b1 b2 => u b (by omega)) f.2.2.1, I.fr (by rw [u 0 (by omega)]) (by rw [u 0 (by omega)]) (fun b b1 b2 => u b (by omega)), P.fr (by rw [u 159 (by omega)]) (u 160 (by omega)), F.fr (by rw [u 159 (by omega)]) (by rw [u 159 (by omega)]), Or.inr (by rw [u 0 (by omega)]; exact e)⟩
  have := hY q hq'
  simp [rowsAds] at hq
  omega
theorem MR.st {h h' : MH} {a : AB} {s : ST} (f : frm [1] h h') (S' : MS (gI h' 1) s) (e : gI h 0 7 = 0) (R : MR h a) : MR h' (setS a s) := by
  obtain ⟨L, S, K, D, A, I, P, F, C⟩ := MR_iff.mp R
  have u : ∀ b, b ≠ 1 → gI h' b = gI h b := fun b hb => f.1 b (by simp; exact hb)
  have u0 := u 0 (by decide)
  exact MR_iff.mpr ⟨L.fr f, S', K.fr (by rw [u0]) (u 3 (by decide)), by rw [u0]; exact D, A.fr (by rw [u0]) (u 2 (by decide)), I.fr (by rw [u0]) (u 22 (by decide)), P.fr (by rw [u0]) (u 20 (by decide)), F.fr (by rw [u0]) (by rw [u0]), Or.inr (by rw [u0]; exact e)⟩
def stN (s : ST) (t : NT) : ST := (t, s.2)
theorem wfS.net {s : ST} {t : NT} (w : wfS s) (wt : wfN t) (hn : nN t = nN (sN s)) (hm : nM (sN s) ≤ nM t) (hl : ∀ l, l < nM (sN s) → nF t l = nF (sN s) l ∧ nT t l = nT (sN s) l) : wfS (stN s t) := by
  have wy : ∀ W, wayOK (sN s) W → wayOK t W := by
    rintro W ⟨a, b, c⟩
    refine ⟨a, fun i hi => Nat.lt_of_lt_of_le (b i hi) hm, fun i hi => ?_⟩
    rw [(hl _ (b i (by omega))).2, (hl _ (b (i + 1) hi)).1]
    exact c i hi
  refine ⟨wt, fun b hb q hq => ?_, fun d hd q hq => ?_, ⟨w.2.2.2.1.1, fun k hk => ⟨wy _ (w.2.2.2.1.2 k hk).1, (w.2.2.2.1.2 k hk).2⟩⟩, wy _ w.2.2.2.2⟩
  · have := w.2.1 b hb q hq
    show q.1 < nN t ∧ _
    rw [hn]; exact this
  · have := w.2.2.1 d hd q hq
    show q.1 < nN t ∧ _
    rw [hn]; exact this
theorem XN.net {h h' : MH} {a : Nat} {t t' : NT} {B : Nat → Option (Nat × List Nat)} (h4 : gI h' (a + 4) = gI h (a + 4)) (h6 : gI h' (a + 6) = gI h (a + 6)) (h7 : gI h' (a + 7) = gI h (a + 7)) (e0 : gI h' a 0 = nI (nN t')) (e1 : gI h' a 1 = nI (nM t')) (e2 : gI h' a 2 = setF (nU t') (nM t')) (e3 : ∀ l, l < nM t' → gI h' (a + 1) l = nI (nF t' l) ∧ gI h' (a + 2) l = nI (nT t' l) ∧ gI h' (a + 3) l = nI (nC t' l)) (X : XN h a t B) : XN h' a t' B := by
  refine ⟨e0, e1, e2, e3, ?_⟩
  rw [h4, h6, h7]
  exact X.2.2.2.2
theorem XS.net {h h' : MH} {a : Nat} {s : ST} {t : NT} (hg : ∀ k, k < 19 → k = 0 ∨ 9 ≤ k → gI h' (a + k) = gI h (a + k)) (N : XN h' (a + 1) t (sB s)) (X : XS h a s) : XS h' a (stN s t) := by
  obtain ⟨x1, x2, x3, x4⟩ := X
  have g0 := hg 0 (by decide) (by omega); have g9 := hg 9 (by decide) (by omega); have g10 := hg 10 (by decide) (by omega); have g12 := hg 12 (by decide) (by omega); have g13 := hg 13 (by decide) (by omega); have g15 := hg 15 (by decide) (by omega); have g16 := hg 16 (by decide) (by omega); have g17 := hg 17 (by decide) (by omega); have g18 := hg 18 (by decide) (by omega)
  rw [Nat.add_zero] at g0
  refine ⟨N, ?_, ?_, ?_⟩
  · rw [g9, g10, g12, g13]; exact x2
  · rw [g0, g15, g16]; exact x3
  · rw [g17, g18]; exact x4
theorem MS.net {g g' : Nat → Int32} {s : ST} {t : NT} (hg : ∀ j, 122 ≤ j → g' j = g j) (N : MN g' t) (X : MS g s) : MS g' (stN s t) := by
  obtain ⟨x1, x2, x3, x4, x5⟩ := X
  refine ⟨N, fun b hb => ⟨fun e => ?_, fun q e => ?_⟩, fun d hd => ⟨fun e => ?_, fun q e => ?_⟩, ⟨?_, fun k hk => ?_⟩, ?_, ?_⟩
  · rw [hg _ (by omega)]; exact (x2 b hb).1 e
  · obtain ⟨y1, y2, y3⟩ := (x2 b hb).2 q e
    exact ⟨by rw [hg _ (by omega)]; exact y1, by rw [hg _ (by omega)]; exact y2, y3.cgi (fun i hi => hg _ (by omega))⟩
  · rw [hg _ (by omega)]; exact (x3 d hd).1 e
  · obtain ⟨y1, y2, y3, y4⟩ := (x3 d hd).2 q e
    exact ⟨by rw [hg _ (by omega)]; exact y1, by rw [hg _ (by omega)]; exact y2, by rw [hg _ (by omega)]; exact y3, y4.cgi (fun i hi => hg _ (by omega))⟩
  · rw [hg _ (by omega)]; exact x4.1
  · obtain ⟨y1, y2⟩ := x4.2 k hk
    exact ⟨by rw [hg _ (by omega)]; exact y1, y2.cgi (fun i hi => hg _ (by omega))⟩
  · rw [hg _ (by omega)]; exact x5.1
  · exact x5.2.cgi (fun i hi => hg _ (by omega))
