def popA (a : AB) (s : ST) : AB := (s, a.2.1, a.2.2.1, (aA a).dropLast, a.2.2.2.2)
theorem ok_undo : J_undo RR := by
  rintro hx hm ⟨a, w, X, M⟩
  obtain ⟨L, S, K, D, ⟨A1, A2, σ, A3, A4, A5⟩, I, P, F, C⟩ := XR_iff.mp X
  obtain ⟨mL, mS, mK', mD, mA', mI', mP', mF', mC'⟩ := MR_iff.mp (M.told (v := 0))
  by_cases c : (aA a).length = 0
  · refine ⟨-1, hx, sI hm 0 0 0, ?_, ?_, a, w, X, M.told⟩
    · unfold f_X10_undo f_X0_restore
      rw [L.r3, Option.bind_some, L.r0, Option.bind_some, A1, c, if_neg (show ¬ 0 < nI 0 by decide), Option.bind_some, if_pos rfl]
    · unfold f_X11_undo
      rw [lt_def, mA'.1, c, if_pos (show nI 0 = 0 from rfl)]
  · obtain ⟨n, hn⟩ : ∃ n, (aA a).length = n + 1 := ⟨(aA a).length - 1, by omega⟩
    have hs : ∃ s, (aA a)[n]? = some s := ⟨(aA a)[n], List.getElem?_eq_getElem (by omega)⟩
    obtain ⟨s, hs⟩ := hs
    have ws : wfS s := w.2.2.2.1.2 s (List.mem_of_getElem? hs)
    have hd : (aA a).dropLast.length = n := by rw [List.length_dropLast]; omega
    have hg : ∀ i, i < n → (aA a).dropLast[i]? = (aA a)[i]? := fun i hi => by
      rw [List.getElem?_dropLast, if_pos (by omega)]
    have e1 : nI (n + 1) - 1 = nI n := by rw [← nI_1]; exact Int32.add_sub_cancel _ _
    have hw : wfA (popA a s) := ⟨ws, w.2.1, w.2.2.1, ⟨by show (aA a).dropLast.length ≤ 6; omega, fun s' hs' => w.2.2.2.1.2 s' (List.dropLast_subset _ hs')⟩, w.2.2.2.2⟩
    have hσ := (A3 n (by omega)).1
    -- the class
    have f0 : frm [22] hx (sI hx 22 1 (nI n)) := frm.sI (by simp) frm.rf
    have L0 : XL (sI hx 22 1 (nI n)) := L.fr f0 (by decide)
    obtain ⟨hx1, ex, fx, sx⟩ := x_stCopy (h := sI hx 22 1 (nI n)) (a := 1) (b := svAd (σ n)) (s := s) L0.st (L0.acts.2.2 _ hσ) (by unfold svAd; omega) ws ((A5 n (by omega) s hs).fr (fun k hk => gI_sI_f (by unfold svAd; omega)))
    have u : ∀ b, 20 ≤ b → b ≠ 22 → gI (sI hx1 0 12 1) b = gI hx b := fun b hb hb' => by
      rw [gI_sI_f (by omega), fx.1 b (fun q => by have := stAds_mem q; omega), gI_sI_f hb']
    have u0 : ∀ k, k ≠ 12 → gI (sI hx1 0 12 1) 0 k = gI hx 0 k := fun k hk => by
      rw [gI_sI_nk hk, fx.1 0 (fun q => by have := stAds_mem q; omega), gI_sI_f (by decide)]
    have u22 : gI (sI hx1 0 12 1) 22 1 = nI n := by rw [gI_sI_ne (by decide), fx.1 22 (fun q => by have := stAds_mem q; omega), gI_s]
    have L1 : XL hx1 := L0.fr fx (by decide)
    have X1 : XR (sI hx1 0 12 1) (popA a s) := by
      refine XR_iff.mpr ⟨L1.fr (frm.sI (X := [0]) (by simp) frm.rf) (by decide), sx.fr (fun k hk => gI_sI_f (by omega)), K.fr (u 20 (by omega) (by omega)) (u 21 (by omega) (by omega)), by rw [u0 2 (by decide)]; exact D, ⟨?_, ?_, σ, ?_, A4, ?_⟩, I.fr (u0 7 (by decide)) (u0 6 (by decide)) (fun b b1 b2 => u b (by omega) (by omega)), P.fr (by rw [u 159 (by omega) (by omega)]) (u 160 (by omega) (by omega)), F.fr (by rw [u 159 (by omega) (by omega)]) (by rw [u 159 (by omega) (by omega)]), Or.inr (gI_s _ _ _ _)⟩
      · show _ = nI (aA a).dropLast.length
        rw [hd]; exact u22
      · show (aA a).dropLast.length ≤ 6
        omega
      · intro i hi
        refine ⟨(A3 i hi).1, ?_⟩
        rw [gR_sI, fx.2.2.1, gR_sI]; exact (A3 i hi).2
      · intro i hi s' hs'
        have hi : i < (aA a).dropLast.length := hi
        have hs' : (aA a).dropLast[i]? = some s' := hs'
        rw [hd] at hi
        rw [hg i hi] at hs'
        exact (A5 i (by omega) s' hs').fr (fun k hk => u _ (by unfold svAd; omega) (by unfold svAd; omega))
    -- the reference
    have f2 : frm [0] (sI hm 0 0 0) (sI (sI hm 0 0 0) 0 3 (nI n)) := frm.sI (by simp) frm.rf
    have key : Ev (f_X11_undo_26 0 FU 0 (sI (sI hm 0 0 0) 0 3 (nI n))) (fun q => q.1 = nI n ∧ MR q.2 (popA a s)) := by
      unfold f_X11_undo_26
      refine Ev_FU (fun k p h1 => ∃ i, i + k = 512 ∧ p = nI i ∧ frm [1] (sI (sI hm 0 0 0) 0 3 (nI n)) h1 ∧ ∀ j, j < i → gI h1 1 j = gI hm 2 (512 * n + j)) 512 0 _ (by omega) ⟨0, by omega, rfl, frm.rf, fun j hj => by omega⟩ ?_
      rintro k p h1 rec ⟨i, hi, rfl, f, e2⟩ ih
      have mL1 : ML h1 := (mL.fr f2).fr f
      have e3 : gI h1 0 3 = nI n := by rw [f.1 0 (by simp), gI_s]
      unfold f_X11_undo_26b
      by_cases q : i < 512
      · have e4 : gI h1 0 3 * 512 + nI i = nI (512 * n + i) := by
          rw [e3]
          show nI n * nI 512 + nI i = _
          rw [pk_mul, nI_add, Nat.mul_comm]
        rw [if_pos (show nI i < 512 from (nI_ltI (by omega) (by decide)).mpr q), mL1.r1, Option.bind_some, mL1.r2, Option.bind_some, e4, ldI_ok (by rw [mL1.n2]; omega) (by omega), Option.bind_some, stI_ok (by rw [mL1.n1]; exact q) (by omega), Option.bind_some, nI_1]
        refine ih (k - 1) _ _ (by omega) ⟨i + 1, by omega, rfl, f.sI (by simp), fun j hj => ?_⟩
        rw [gI_sI]
        by_cases q' : j = i
        · rw [if_pos ⟨rfl, q'⟩, f.1 2 (by simp), gI_sI_ne (by decide), gI_sI_ne (by decide), q']
        · rw [if_neg (fun z => q' z.2)]; exact e2 j (by omega)
      · rw [if_neg (show ¬ nI i < 512 from fun z => q ((nI_ltI (by omega) (by decide)).mp z)), lt_def]
        have v : ∀ b, b ≠ 0 → b ≠ 1 → gI (sI h1 0 7 0) b = gI (sI hm 0 0 0) b := fun b b0 b1 => by
          rw [gI_sI_f b0, f.1 b (by simp; exact b1), gI_sI_f b0]
        have v0 : ∀ k, k ≠ 7 → k ≠ 3 → gI (sI h1 0 7 0) 0 k = gI (sI hm 0 0 0) 0 k := fun k h7 h3 => by
          rw [gI_sI_nk h7, f.1 0 (by simp), gI_sI_nk h3]
        refine Ev_some ⟨by show gI (sI h1 0 7 0) 0 3 = _; rw [gI_sI_nk (by decide)]; exact e3, MR_iff.mpr ⟨mL1.fr (frm.sI (X := [0]) (by simp) frm.rf), ?_, mK'.fr (v0 6 (by decide) (by decide)) (v 3 (by decide) (by decide)), ?_, ⟨?_, ?_⟩, mI'.fr (v0 44 (by decide) (by decide)) (v 22 (by decide) (by decide)), mP'.fr (v0 37 (by decide) (by decide)) (v 20 (by decide) (by decide)), mF'.fr (v0 38 (by decide) (by decide)) (v0 39 (by decide) (by decide)), Or.inr (gI_s _ _ _ _)⟩⟩
        · show MS (gI (sI h1 0 7 0) 1) s
          rw [gI_sI_f (by decide)]
          exact (mA'.2 n (by omega) s hs).cp ws (fun j hj => (e2 j (by omega)).trans (gI_sI_ne (by decide)).symm)
        · rw [v0 4 (by decide) (by decide)]; exact mD
        · show _ = nI (aA a).dropLast.length
          rw [hd, gI_sI_nk (by decide)]; exact e3
        · intro i' hi' s' hs'
          have hi' : i' < (aA a).dropLast.length := hi'
          have hs' : (aA a).dropLast[i']? = some s' := hs'
          rw [hd] at hi'
          rw [hg i' hi'] at hs'
          dsimp only
          rw [v 2 (by decide) (by decide)]
          exact mA'.2 i' (by omega) s' hs'
    obtain ⟨⟨r, hm1⟩, em, er, M1⟩ := key
    dsimp only at er M1
    subst er
    refine ⟨nI n, sI hx1 0 12 1, hm1, ?_, ?_, popA a s, hw, X1, M1⟩
    · unfold f_X10_undo f_X0_restore
      have e5 : gI (sI hx 22 1 (nI n)) 22 1 = nI n := gI_s _ _ _ _
      rw [L.r3, Option.bind_some, L.r0, Option.bind_some, A1, hn, e1, if_pos (show 0 < nI (n + 1) from (nI_ltI (a := 0) (by decide) (by omega)).mpr (by omega)), lt_def, L0.y22, Option.bind_some, e5, ldR_ok (h := sI hx 22 1 (nI n)) (by rw [L0.z23]; omega) (by omega) (A3 n (by omega)).2, Option.bind_some, ex, Option.bind_some, Option.bind_some, if_neg (show ¬ (1 : Int32) = 0 by decide), lt_def]
      dsimp only
      rw [gR_sI, L1.r3, Option.bind_some, u22]
    · unfold f_X11_undo
      rw [lt_def, mA'.1, hn, if_neg (show ¬ nI (n + 1) = 0 from fun z => by have := (nI_eq (b := 0) (by omega) (by decide)).mp z; omega), lt_def, e1]
      exact em
