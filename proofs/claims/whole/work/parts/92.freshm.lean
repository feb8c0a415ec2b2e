/-! ===== the reference's routes, put together ===== -/
theorem dist_0 {t : NT} {v u : Nat} (w : wfN t) (hv : v < nN t) (hu : u < nN t) (h : dist t v u = 0) : u = v := by
  by_cases q : u = v
  · exact q
  · obtain ⟨l, hl, hU, hF, hd'⟩ := (dist_bel w hv).2.2.2 u hu q (by omega)
    have := (w.2.2.2 l hl).2.2.2.1
    omega
theorem sumTo_zero : ∀ n, sumTo (fun _ => 0) n = 0 := by
  intro n
  induction n with
  | zero => rfl
  | succ n ih =>
    show sumTo (fun _ => 0) n + 0 = 0
    rw [ih]
theorem cnt_far {t : NT} {v u : Nat} (w : wfN t) (hv : v < nN t) (hu : u < nN t) (h : ¬ dist t v u < 1000000) : cnt t v u = 0 := by
  have e0 : dist t v v = 0 := (dist_bel w hv).1
  rw [cnt_rec w hv hu (fun z => h (by rw [z, e0]; decide))]
  rw [sumTo_congr (g := fun _ => 0) _ (fun l _ => if_neg (onB_no (fun z => h z.2.2.1)))]
  exact sumTo_zero _
noncomputable def muP (t : NT) (v e : Nat) : Nat := sumTo (fun u => if e < dist t v u then 1 else 0) (nN t) + (if e < 1000000 then 1 else 0)
theorem muP_le {t : NT} {v e : Nat} (w : wfN t) : muP t v e < 5000 := by
  have hn10 := w.2.1
  unfold muP
  have h1 := sumTo_mono (f := fun u => if e < dist t v u then 1 else 0) (g := fun _ => 1) (nN t) (fun i _ => by
    by_cases q : e < dist t v i
    · rw [if_pos q]; exact Nat.le_refl _
    · rw [if_neg q]; exact Nat.zero_le _)
  rw [sumTo_one] at h1
  split <;> omega
theorem muP_lt {t : NT} {v e d : Nat} (he : e < d) (he2 : e < 1000000) (hd : d = 1000000 ∨ ∃ u, u < nN t ∧ dist t v u = d) : muP t v d < muP t v e := by
  unfold muP
  have h1 := sumTo_mono (f := fun u => if d < dist t v u then 1 else 0) (g := fun u => if e < dist t v u then 1 else 0) (nN t) (fun i _ => by
    by_cases q : d < dist t v i
    · rw [if_pos q, if_pos (by omega)]; exact Nat.le_refl _
    · rw [if_neg q]; exact Nat.zero_le _)
  rcases hd with hd | ⟨u, hu, hd⟩
  · rw [if_neg (show ¬ d < 1000000 by omega), if_pos he2]; omega
  · have h2 := sumTo_strict (f := fun u => if d < dist t v u then 1 else 0) (g := fun u => if e < dist t v u then 1 else 0) (j := u) (nN t) (fun i _ => by
      by_cases q : d < dist t v i
      · rw [if_pos q, if_pos (by omega)]; exact Nat.le_refl _
      · rw [if_neg q]; exact Nat.zero_le _) hu (by rw [if_neg (by omega), if_pos (by omega)]; exact Nat.zero_lt_one)
    rw [if_pos he2]
    split <;> omega
theorem m_l97z {h : MH} {t : NT} {v : Nat} {k37 : Int32 → MH → Option MH} {Post : MH → Prop} (w : wfN t) (L : ML h) (N : MN (gI h 1) t) (hk : Ev (k37 (nI 1000000) h) Post) : Ev (f_X11_laysPaths_97 k37 0 (nI v) (nI 1000000) FU 0 h) Post := by
  unfold f_X11_laysPaths_97
  refine Ev_FU (fun m p h1 => m = 0 ∧ p = 0 ∧ h1 = h) 0 0 h (by omega) ⟨rfl, rfl, rfl⟩ ?_
  rintro m p h1 rec ⟨rfl, rfl, rfl⟩ ih
  unfold f_X11_laysPaths_97b f_X11_laysPaths_200
  rw [m_n L N w, Option.bind_some]
  dsimp only
  rw [if_neg (show ¬ nI 1000000 < 1000000 by decide)]
  split <;> exact hk
theorem m_l37 {h : MH} {t : NT} {v : Nat} (w : wfN t) (L : ML h) (N : MN (gI h 1) t) (Q : tabIs h t (dist t)) (hv : v < nN t) (hz : ∀ u, u < nN t → u ≠ v → gL h 5 (10 * u + v) = lN 0) (h1 : gL h 5 (10 * v + v) = lN 1) : Ev (f_X11_laysPaths_37 0 (nI v) FU 0 h) (fun h' => frm [5] h h' ∧ gI h' 5 = gI h 5 ∧ (∀ u, u < nN t → gL h' 5 (10 * u + v) = lN (cnt t v u)) ∧ ∀ u v', u < nN t → v' < nN t → v' ≠ v → gL h' 5 (10 * u + v') = gL h 5 (10 * u + v')) := by
  have e0 : dist t v v = 0 := (dist_bel w hv).1
  unfold f_X11_laysPaths_37
  refine Ev_FU (fun m p h1 => ∃ e, m = muP t v e ∧ p = nI e ∧ e ≤ 1000000 ∧ frm [5] h h1 ∧ gI h1 5 = gI h 5 ∧ cntOK h1 t v e ∧ (∀ u, u < nN t → e < dist t v u → gL h1 5 (10 * u + v) = lN 0) ∧ ∀ u v', u < nN t → v' < nN t → v' ≠ v → gL h1 5 (10 * u + v') = gL h 5 (10 * u + v')) (muP t v 0) 0 h (muP_le w) ⟨0, rfl, rfl, by decide, frm.rf, rfl, fun u hu hd => ?_, fun u hu hd => hz u hu (fun z => by rw [z, e0] at hd; omega), fun _ _ _ _ _ => rfl⟩ ?_
  · have := dist_0 w hv hu (by omega)
    subst this
    rw [h1, cnt_self]
  · rintro m p h1 rec ⟨e, rfl, rfl, he, f, f5, c1, c2, c3⟩ ih
    have L1 := L.fr f
    have N1 : MN (gI h1 1) t := by rw [f.1 1 (by simp)]; exact N
    have Q1 : tabIs h1 t (dist t) := by unfold tabIs; rw [f.1 4 (by simp)]; exact Q
    unfold f_X11_laysPaths_37b
    by_cases q : e < 1000000
    · rw [if_pos (show nI e < 1000000 from (nI_ltI (by omega) (by decide)).mpr q)]
      refine m_l49 w L1 N1 Q1 hv q (fun d d1 d2 d3 d4 => ?_)
      by_cases qd : d < 1000000
      · refine m_l97 w L1 N1 Q1 hv qd d1 d3 c1 (fun h' f' f5' k1 k2 => ?_)
        refine ih _ _ _ (muP_lt d1 q d4) ⟨d, rfl, rfl, d2, frm.tr f f', f5'.trans f5, k1, fun u hu hd => ?_, fun u v' hu hv' hne => ?_⟩
        · rw [k2.1 u hu hd]; exact c2 u hu (by omega)
        · rw [k2.2 u v' hu hv' hne]; exact c3 u v' hu hv' hne
      · have : d = 1000000 := by omega
        subst this
        refine m_l97z w L1 N1 ?_
        refine ih _ _ _ (muP_lt d1 q d4) ⟨1000000, rfl, rfl, d2, f, f5, fun u hu hd => ?_, fun u hu hd => ?_, c3⟩
        · by_cases q2 : dist t v u < 1000000
          · exact c1 u hu (d3 u hu q2)
          · rw [c2 u hu (by omega), cnt_far w hv hu q2]
        · have := (dist_bel w hv).2.1 u hu
          omega
    · rw [if_neg (show ¬ nI e < 1000000 from fun z => q ((nI_ltI (by omega) (by decide)).mp z))]
      exact Ev_some ⟨f, f5, fun u hu => c1 u hu (by have := (dist_bel w hv).2.1 u hu; omega), c3⟩
theorem m_laysPaths {h : MH} {t : NT} {v : Nat} (w : wfN t) (L : ML h) (N : MN (gI h 1) t) (Q : tabIs h t (dist t)) (hv : v < nN t) : Ev (f_X11_laysPaths 0 (nI v) h) (fun h' => frm [5] h h' ∧ gI h' 5 = gI h 5 ∧ (∀ u, u < nN t → gL h' 5 (10 * u + v) = lN (cnt t v u)) ∧ ∀ u v', u < nN t → v' < nN t → v' ≠ v → gL h' 5 (10 * u + v') = gL h 5 (10 * u + v')) := by
  have hn10 := w.2.1
  unfold f_X11_laysPaths f_X11_laysPaths_2
  refine Ev_FU (fun m p h1 => ∃ i, i + m = 10 ∧ p = nI i ∧ frm [5] h h1 ∧ gI h1 5 = gI h 5 ∧ (∀ u, u < i → gL h1 5 (10 * u + v) = lN (if u = v then 1 else 0)) ∧ ∀ u v', u < nN t → v' < nN t → v' ≠ v → gL h1 5 (10 * u + v') = gL h 5 (10 * u + v')) 10 0 h (by omega) ⟨0, by omega, rfl, frm.rf, rfl, fun u hu => absurd hu (Nat.not_lt_zero _), fun _ _ _ _ _ => rfl⟩ ?_
  rintro m p h1 rec ⟨i, hi, rfl, f, f5, c1, c2⟩ ih
  have L1 := L.fr f
  have N1 : MN (gI h1 1) t := by rw [f.1 1 (by simp)]; exact N
  have Q1 : tabIs h1 t (dist t) := by unfold tabIs; rw [f.1 4 (by simp)]; exact Q
  unfold f_X11_laysPaths_2b f_X11_laysPaths_28
  by_cases q : i < 10
  · have nx : ∀ z : Nat, (∀ u, u < i + 1 → gL (sL h1 5 (10 * i + v) (lN (if i = v then 1 else 0))) 5 (10 * u + v) = lN (if u = v then 1 else 0)) ∧ ∀ u v', u < nN t → v' < nN t → v' ≠ v → gL (sL h1 5 (10 * i + v) (lN (if i = v then 1 else 0))) 5 (10 * u + v') = gL h 5 (10 * u + v') := fun z => ⟨fun u hu => by
      by_cases q2 : u = i
      · rw [gL_sL, if_pos ⟨rfl, by rw [q2]⟩, q2]
      · rw [gL_sL, if_neg (fun z => q2 (by omega))]; exact c1 u (by omega), fun u v' hu hv' hne => by
      rw [gL_sL, if_neg (fun z => by omega)]; exact c2 u v' hu hv' hne⟩
    rw [if_pos (show nI i < 10 from (nI_ltI (by omega) (by decide)).mpr q), L1.r9, Option.bind_some, ix10', stL_ok (by rw [L1.n5]; omega) (by omega), stL_ok (by rw [L1.n5]; omega) (by omega), Option.bind_some, Option.bind_some, nI_1]
    by_cases c : i = v
    · rw [if_pos (by rw [c])]
      have nx1 := nx 0
      rw [if_pos c] at nx1
      exact ih (m - 1) _ _ (by omega) ⟨i + 1, by omega, rfl, f.sL (by simp), f5, nx1.1, nx1.2⟩
    · rw [if_neg (fun z => c (nI_inj (by omega) (by omega) z))]
      have nx1 := nx 0
      rw [if_neg c] at nx1
      exact ih (m - 1) _ _ (by omega) ⟨i + 1, by omega, rfl, f.sL (by simp), f5, nx1.1, nx1.2⟩
  · rw [if_neg (show ¬ nI i < 10 from fun z => q ((nI_ltI (by omega) (by decide)).mp z))]
    refine Ev_mono (m_l37 w L1 N1 Q1 hv (fun u hu hne => ?_) ?_) (fun h' z => ⟨frm.tr f z.1, z.2.1.trans f5, z.2.2.1, fun u v' hu hv' hne => (z.2.2.2 u v' hu hv' hne).trans (c2 u v' hu hv' hne)⟩)
    · rw [c1 u (by omega), if_neg hne]
    · rw [c1 v (by omega), if_pos rfl]
theorem m_l161 {h : MH} {t : NT} (w : wfN t) (L : ML h) (N : MN (gI h 1) t) (Q : tabIs h t (dist t)) : Ev (f_X11_laysFar_161 0 FU 0 h) (fun h' => frm [5] h h' ∧ gI h' 5 = gI h 5 ∧ ∀ u v, u < nN t → v < nN t → gL h' 5 (10 * u + v) = lN (cnt t v u)) := by
  have hn10 := w.2.1
  unfold f_X11_laysFar_161
  refine Ev_FU (fun m p h1 => ∃ i, i + m = nN t ∧ p = nI i ∧ frm [5] h h1 ∧ gI h1 5 = gI h 5 ∧ ∀ u v, u < nN t → v < i → gL h1 5 (10 * u + v) = lN (cnt t v u)) (nN t) 0 h (by omega) ⟨0, by omega, rfl, frm.rf, rfl, fun u v _ hu => absurd hu (Nat.not_lt_zero _)⟩ ?_
  rintro m p h1 rec ⟨i, hi, rfl, f, f5, c1⟩ ih
  have L1 := L.fr f
  have N1 : MN (gI h1 1) t := by rw [f.1 1 (by simp)]; exact N
  have Q1 : tabIs h1 t (dist t) := by unfold tabIs; rw [f.1 4 (by simp)]; exact Q
  unfold f_X11_laysFar_161b
  rw [m_n L1 N1 w, Option.bind_some]
  dsimp only
  by_cases q : i < nN t
  · rw [if_pos (nI_lt q (by omega)), nI_1]
    refine Ev_to (m_laysPaths w L1 N1 Q1 q) (fun h2 z => ?_)
    refine ih (m - 1) _ _ (by omega) ⟨i + 1, by omega, rfl, frm.tr f z.1, z.2.1.trans f5, fun u v hu hv => ?_⟩
    by_cases q2 : v = i
    · rw [q2]; exact z.2.2.1 u hu
    · rw [z.2.2.2 u v hu (by omega) q2]; exact c1 u v hu (by omega)
  · rw [if_neg (fun z => q ((nI_ltI (by omega) (by omega)).mp z))]
    exact Ev_some ⟨f, f5, fun u v hu hv => c1 u v hu (by omega)⟩
theorem freshM2 (h : MH) (a : AB) (w : wfA a) (M : MR h a) : ∃ h', f_X11_laysFar 0 h = some h' ∧ MR h' a ∧ gI h' 0 7 = 1 ∧ farIs h' (sN (aS a)) ∧ frm [0, 4, 5] h h' ∧ ∀ k, k ≠ 7 → gI h' 0 k = gI h 0 k := by
  obtain ⟨L, S, K, D, A, I, P, F, C⟩ := MR_iff.mp M
  have wN := w.1.1
  rcases C with C | C
  · refine ⟨h, ?_, M, C.1, C.2, frm.rf, fun _ _ => rfl⟩
    unfold f_X11_laysFar
    rw [C.1, if_neg (by decide)]
  · have key : Ev (f_X11_laysFar 0 h) (fun h' => frm [4, 5] (sI h 0 7 1) h' ∧ farIs h' (sN (aS a))) := by
      unfold f_X11_laysFar
      rw [C, if_pos rfl, lt_def]
      have L1 : ML (sI h 0 7 1) := L
      refine m_l15 wN L1 (fun h2 f2 T2 => ?_)
      have N2 : MN (gI h2 1) (sN (aS a)) := by rw [f2.1 1 (by simp), gI_sI_f (by decide)]; exact S.1
      refine m_l52 wN (L1.fr f2) N2 T2 (fun v hv => ⟨fun u hu => ?_, fun u hu hc => ?_⟩) (fun h3 f3 T3 => ?_)
      · show dist _ v u ≤ (if u = v then 0 else 1000000) ∧ (if u = v then 0 else 1000000) ≤ 1000000
        by_cases c : u = v
        · rw [if_pos c, c, (dist_bel wN hv).1]; exact ⟨Nat.le_refl _, by decide⟩
        · rw [if_neg c]; exact ⟨(dist_bel wN hv).2.1 u hu, Nat.le_refl _⟩
      · have c := cl_zero wN hv hu (by omega)
        show (if u = v then 0 else 1000000) = _
        rw [if_pos c, c, (dist_bel wN hv).1]
      · have f3' := frm.tr f2 f3
        have N3 : MN (gI h3 1) (sN (aS a)) := by rw [f3'.1 1 (by simp), gI_sI_f (by decide)]; exact S.1
        refine Ev_mono (m_l161 wN (L1.fr f3') N3 T3) (fun h4 z => ⟨frm.tr (f3'.up (by simp)) (z.1.up (by simp)), fun u v hu hv => ⟨?_, z.2.2 u v hu hv⟩⟩)
        rw [z.1.1 4 (by simp)]
        exact T3 u v hu hv
    obtain ⟨h', e, f, R⟩ := key
    have g0 : ∀ k, k ≠ 7 → gI h' 0 k = gI h 0 k := fun k hk => by rw [f.1 0 (by simp), gI_sI_nk hk]
    have gb : ∀ b, b ≠ 0 → b ∉ [4, 5] → gI h' b = gI h b := fun b h0 hb => by rw [f.1 b hb, gI_sI_f h0]
    have e7 : gI h' 0 7 = 1 := by rw [f.1 0 (by simp), gI_s]
    have L' : ML h' := ML.fr f (show ML (sI h 0 7 1) from L)
    exact ⟨h', e, MR_iff.mpr ⟨L', by rw [gb 1 (by decide) (by decide)]; exact S, K.fr (g0 6 (by decide)) (gb 3 (by decide) (by decide)), by rw [g0 4 (by decide)]; exact D, A.fr (g0 3 (by decide)) (gb 2 (by decide) (by decide)), I.fr (g0 44 (by decide)) (gb 22 (by decide) (by decide)), P.fr (g0 37 (by decide)) (gb 20 (by decide) (by decide)), F.fr (g0 38 (by decide)) (g0 39 (by decide)), Or.inl ⟨e7, R⟩⟩, e7, R, frm.tr (frm.sI (X := [0, 4, 5]) (by decide) frm.rf) (f.up (by decide)), g0⟩
theorem freshM : FreshM := fun h a w M => by
  obtain ⟨h', e1, e2, e3, e4, _⟩ := freshM2 h a w M
  exact ⟨h', e1, e2, e3, e4⟩
