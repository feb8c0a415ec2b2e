/-! ===== acts, with what they leave alone ===== -/
theorem x_beginAct2 {h : MH} {a : AB} (w : wfA a) (R : XR h a) : ∃ h', f_X10_beginAct 0 h = some h' ∧ XR h' (act a) ∧ gI h' 0 12 = 1 ∧ ∀ b, 159 ≤ b → gI h' b = gI h b := by
  obtain ⟨L, S, K, D, ⟨A1, A2, σ, A3, A4, A5⟩, I, P, F, C⟩ := XR_iff.mp R
  -- the end, from the heap (rotated) at which the copy begins
  have fin : ∀ (h0 : MH) (n : Nat) (A : List ST) (τ : Nat → Nat), rot h h0 → A.length = n → n < 6 → (∀ i, i < 6 → τ i < 6 ∧ gR h0 23 i = some (svAd (τ i))) → (∀ i j, i < 6 → j < 6 → τ i = τ j → i = j) → (∀ i, i < A.length → ∀ s, A[i]? = some s → XS h (svAd (τ i)) s) → ∃ h1, f_X0_save_56 22 1 (sI h0 22 1 (nI n)) = some h1 ∧ XR (sI h1 0 12 1) (a.1, a.2.1, a.2.2.1, A ++ [aS a], a.2.2.2.2) ∧ ∀ b, 159 ≤ b → gI h1 b = gI h b := by
    intro h0 n A τ r hA hn t1 t2 t3
    have L1 : XL (sI h0 22 1 (nI n)) := XL.fr (frm.sI (X := [22]) (by simp) frm.rf) (by decide) (L.rot r)
    have S1 : XS (sI h0 22 1 (nI n)) 1 (aS a) := S.fr (fun k hk => by rw [gI_sI_f (by omega), r.1])
    obtain ⟨h1, e, f, X, e1⟩ := x_save56 (m := τ n) L1 S1 w.1 (gI_s _ _ _ _) hn (t1 n hn).1 (t1 n hn).2
    have hf : ∀ b, b ≠ 22 → ¬ (svAd (τ n) ≤ b ∧ b ≤ svAd (τ n) + 18) → gI h1 b = gI h b := by
      intro b hb hb'
      rw [f.1 b (fun q => ?_), gI_sI_f hb, r.1]
      rcases List.mem_cons.mp q with q | q
      · exact hb q
      · have := stAds_mem q; omega
    have hs : ∀ i, i < 6 → svAd i + 18 ≤ 137 ∧ 24 ≤ svAd i := fun i hi => by unfold svAd; omega
    have ht := hs _ (t1 n hn).1
    have L2 : XL h1 := L1.fr f (fun q hq hq' => by
      have := t1 n hn
      rcases List.mem_cons.mp hq' with z | z
      · subst z; exact absurd hq (by decide)
      · have z' := stAds_mem z
        have := (t1 n hn).1
        unfold svAd at z'
        simp [rowsAds] at hq
        omega)
    have f0 : ∀ b, b ≠ 0 → b ≠ 22 → ¬ (svAd (τ n) ≤ b ∧ b ≤ svAd (τ n) + 18) → gI (sI h1 0 12 1) b = gI h b := fun b b0 b1 b2 => by rw [gI_sI_f b0, hf b b1 b2]
    have f1 : ∀ k, k ≠ 12 → gI (sI h1 0 12 1) 0 k = gI h 0 k := fun k hk => by rw [gI_sI_nk hk, hf 0 (by decide) (by omega)]
    refine ⟨h1, e, XR_iff.mpr ⟨XL.fr (frm.sI (X := [0]) (by simp) frm.rf) (by decide) L2, S.fr (fun k hk => ?_), K.fr ?_ ?_, ?_, ⟨?_, ?_, τ, ?_, t2, ?_⟩, I.fr ?_ ?_ (fun b b1 b2 => ?_), P.fr ?_ ?_, F.fr ?_ ?_, Or.inr (gI_s _ _ _ _)⟩, fun b hb => hf b (by omega) (by omega)⟩
    · exact f0 _ (by omega) (by omega) (by omega)
    · exact f0 _ (by omega) (by omega) (by omega)
    · exact f0 _ (by omega) (by omega) (by omega)
    · rw [f1 2 (by decide)]; exact D
    · show gI _ 22 1 = nI (A ++ [aS a]).length
      rw [gI_sI_ne (by decide), e1, List.length_append, hA]; rfl
    · show (A ++ [aS a]).length ≤ 6
      rw [List.length_append, hA]; exact hn
    · intro i hi
      refine ⟨(t1 i hi).1, ?_⟩
      rw [gR_sI, f.2.2.1, gR_sI]
      exact (t1 i hi).2
    · intro i hi s hs'
      have hi : i < (A ++ [aS a]).length := hi
      have hs' : (A ++ [aS a])[i]? = some s := hs'
      rw [List.length_append, hA] at hi
      have hi : i < n + 1 := hi
      by_cases q : i = n
      · subst q
        rw [← hA, List.getElem?_concat_length] at hs'
        have hs' := Option.some.inj hs'
        rw [← hs']
        exact X.fr (fun k hk => gI_sI_f (by omega))
      · rw [List.getElem?_append_left (by omega)] at hs'
        have hne : τ i ≠ τ n := fun z => q (t2 i n (by omega) hn z)
        have := hs _ (t1 i (by omega)).1
        refine (t3 i (by omega) s hs').fr (fun k hk => f0 _ (by omega) (by omega) (fun z => svAd_far hne hk (Or.inr z)))
    · exact f1 7 (by decide)
    · exact f1 6 (by decide)
    · exact f0 _ (by omega) (by omega) (by omega)
    · rw [f0 _ (by omega) (by omega) (by omega)]
    · exact f0 _ (by omega) (by omega) (by omega)
    · rw [f0 _ (by omega) (by omega) (by omega)]
    · rw [f0 _ (by omega) (by omega) (by omega)]
  suffices hsuf : ∃ h1, f_X0_save 22 1 h = some h1 ∧ XR (sI h1 0 12 1) (act a) ∧ ∀ b, 159 ≤ b → gI h1 b = gI h b by
    obtain ⟨h1, e, X, hz⟩ := hsuf
    refine ⟨sI h1 0 12 1, ?_, X, gI_s _ _ _ _, fun b hb => by rw [gI_sI_f (by omega)]; exact hz b hb⟩
    unfold f_X10_beginAct
    rw [L.r3, Option.bind_some, L.r0, Option.bind_some, e, Option.bind_some, lt_def]
  by_cases c : (aA a).length < 6
  · obtain ⟨h1, e, X, hz⟩ := fin h (aA a).length (aA a) σ rot.rf rfl c A3 A4 A5
    have hid : sI h 22 1 (nI (aA a).length) = h := sI_self A1
    rw [hid] at e
    refine ⟨h1, ?_, ?_, hz⟩
    · unfold f_X0_save
      rw [A1, if_pos (show nI (aA a).length < 6 from (nI_ltI (by omega) (by decide)).mpr c)]
      exact e
    · unfold act pushA
      rw [if_pos c]
      exact X
  · have h6 : (aA a).length = 6 := by omega
    have key : Ev (f_X0_save_18 22 1 (svAd (σ 0)) FU 1 h) (fun h1 => XR (sI h1 0 12 1) (act a) ∧ ∀ b, 159 ≤ b → gI h1 b = gI h b) := by
      unfold f_X0_save_18
      refine Ev_FU (fun k p h1 => ∃ i, i + k = 6 ∧ 1 ≤ i ∧ p = nI i ∧ rot h h1 ∧ ∀ j, j < 6 → gR h1 23 j = some (svAd (σ (if j + 1 < i then j + 1 else j)))) 5 1 h (by omega) ⟨1, by omega, by omega, rfl, rot.rf, fun j hj => ?_⟩ ?_
      · rw [if_neg (by omega)]; exact (A3 j hj).2
      · rintro k p h1 rec ⟨i, hi, i1, rfl, r, hR⟩ ih
        have y : gR h1 22 0 = some 23 := by rw [r.2.2.2.2 22 (by decide)]; exact L.y22
        have z : gN h1 23 = 6 := by rw [r.2.2.1]; exact L.z23
        unfold f_X0_save_18b
        by_cases q : i < 6
        · have e1 : nI i - 1 = nI (i - 1) := by
            have : nI (i - 1) + 1 = nI i := by rw [nI_1]; congr 1; omega
            rw [← this]; exact Int32.add_sub_cancel _ _
          have hb := hR i q
          rw [if_neg (by omega)] at hb
          rw [if_pos (show nI i < 6 from (nI_ltI (by omega) (by decide)).mpr q), y, Option.bind_some, Option.bind_some, ldR_ok (by omega) (by omega) hb, Option.bind_some, e1, stR_ok (by omega) (by omega), Option.bind_some, nI_1]
          refine ih (k - 1) _ _ (by omega) ⟨i + 1, by omega, by omega, rfl, r.sR, fun j hj => ?_⟩
          rw [gR_sR]
          by_cases q' : j = i - 1
          · rw [if_pos ⟨rfl, q'⟩, if_pos (by omega), show j + 1 = i by omega]
          · rw [if_neg (fun z => q' z.2), hR j hj]
            by_cases q'' : j + 1 < i
            · rw [if_pos q'', if_pos (by omega)]
            · rw [if_neg q'', if_neg (by omega)]
        · have hi6 : i = 6 := by omega
          subst hi6
          rw [if_neg (show ¬ nI 6 < 6 from fun q' => absurd q' (by decide)), y, Option.bind_some]
          have e5 : stR h1 23 5 (svAd (σ 0)) = some (sR h1 23 5 (some (svAd (σ 0)))) := stR_ok (i := 5) (by omega) (by decide)
          rw [e5, Option.bind_some, lt_def]
          have u1 : ∀ i, i < 6 → ((fun j => if j < 5 then σ (j + 1) else σ 0) : Nat → Nat) i < 6 ∧ gR (sR h1 23 5 (some (svAd (σ 0)))) 23 i = some (svAd (((fun j => if j < 5 then σ (j + 1) else σ 0) : Nat → Nat) i)) := by
            intro j hj
            dsimp only
            rw [gR_sR]
            by_cases q' : j = 5
            · subst q'
              exact ⟨(A3 0 (by omega)).1, rfl⟩
            · rw [if_pos (show j < 5 by omega), if_neg (show ¬ (23 = 23 ∧ j = 5) from fun z => q' z.2), hR j hj, if_pos (show j + 1 < 6 by omega)]
              refine ⟨(A3 (j + 1) (by omega)).1, ?_⟩
              rfl
          have u2 : ∀ i j, i < 6 → j < 6 → ((fun j => if j < 5 then σ (j + 1) else σ 0) : Nat → Nat) i = ((fun j => if j < 5 then σ (j + 1) else σ 0) : Nat → Nat) j → i = j := by
            intro j j' hj hj' e'
            dsimp only at e'
            by_cases q1 : j < 5
            · by_cases q2 : j' < 5
              · rw [if_pos q1, if_pos q2] at e'
                have := A4 _ _ (by omega) (by omega) e'; omega
              · rw [if_pos q1, if_neg q2] at e'
                have := A4 _ _ (by omega) (by omega) e'; omega
            · by_cases q2 : j' < 5
              · rw [if_neg q1, if_pos q2] at e'
                have := A4 _ _ (by omega) (by omega) e'; omega
              · omega
          have u3 : ∀ i, i < ((aA a).drop 1).length → ∀ s, ((aA a).drop 1)[i]? = some s → XS h (svAd (((fun j => if j < 5 then σ (j + 1) else σ 0) : Nat → Nat) i)) s := by
            intro j hj s hs
            rw [List.length_drop] at hj
            rw [List.getElem?_drop] at hs
            dsimp only
            rw [if_pos (by omega)]
            rw [Nat.add_comm] at hs
            exact A5 (j + 1) (by omega) s hs
          obtain ⟨h2, e, X, hz⟩ := fin (sR h1 23 5 (some (svAd (σ 0)))) 5 ((aA a).drop 1) (fun j => if j < 5 then σ (j + 1) else σ 0) r.sR (by rw [List.length_drop]; omega) (by omega) u1 u2 u3
          refine ⟨h2, e, ?_, hz⟩
          unfold act pushA
          rw [if_neg c]
          exact X
    obtain ⟨h1, e, X⟩ := key
    refine ⟨h1, ?_, X⟩
    unfold f_X0_save
    have e0 : ldR h 23 0 = some (svAd (σ 0)) := ldR_ok (i := 0) (by rw [L.z23]; omega) (by decide) (A3 0 (by omega)).2
    rw [A1, h6, if_neg (show ¬ nI 6 < 6 from fun q' => absurd q' (by decide)), L.y22, Option.bind_some, e0, Option.bind_some, e]
theorem m_keepsAct2 {h : MH} {a : AB} (w : wfA a) (R : MR h a) : ∃ h', f_X11_keepsAct 0 h = some h' ∧ MR h' (act a) ∧ gI h' 0 7 = 0 ∧ gI h' 21 = gI h 21 := by
  obtain ⟨L, S, K, D, A, I, P, F, C⟩ := MR_iff.mp R
  have fin : ∀ h0, ML h0 → ∀ A' : List ST, A'.length < 6 → (∀ s, s ∈ A' → wfS s) → mA h0 A' → (∀ k, k ≠ 3 → gI h0 0 k = gI h 0 k) → (∀ b, b ≠ 0 → b ≠ 2 → gI h0 b = gI h b) → ∃ h', f_X11_keepsAct_45 0 h0 = some h' ∧ MR h' (a.1, a.2.1, a.2.2.1, A' ++ [aS a], a.2.2.2.2) ∧ gI h' 0 7 = 0 ∧ gI h' 21 = gI h 21 := by
    intro h0 L0 A' hA' wA' X0 z0 zb
    obtain ⟨h', e, L', X, e7, y0, yb⟩ := m_copy (a := a) L0 w.1 (by rw [zb 1 (by decide) (by decide)]; exact S) hA' wA' X0
    have u0 : ∀ k, k ≠ 3 → k ≠ 7 → gI h' 0 k = gI h 0 k := fun k a b => (y0 k a b).trans (z0 k a)
    have ub : ∀ b, b ≠ 0 → b ≠ 2 → gI h' b = gI h b := fun b p q => (yb b p q).trans (zb b p q)
    refine ⟨h', e, MR_iff.mpr ⟨L', ?_, K.fr (u0 6 (by decide) (by decide)) (ub 3 (by decide) (by decide)), ?_, X, I.fr (u0 44 (by decide) (by decide)) (ub 22 (by decide) (by decide)), P.fr (u0 37 (by decide) (by decide)) (ub 20 (by decide) (by decide)), F.fr (u0 38 (by decide) (by decide)) (u0 39 (by decide) (by decide)), Or.inr e7⟩, e7, ub 21 (by decide) (by decide)⟩
    · rw [ub 1 (by decide) (by decide)]; exact S
    · rw [u0 4 (by decide) (by decide)]; exact D
  have hlen := w.2.2.2.1.1
  unfold f_X11_keepsAct
  rw [A.1]
  by_cases c : (aA a).length = 6
  · rw [c, if_pos (show nI 6 = 6 from rfl)]
    have key : Ev (f_X11_keepsAct_11 0 FU 0 h) (fun h' => MR h' (act a) ∧ gI h' 0 7 = 0 ∧ gI h' 21 = gI h 21) := by
      unfold f_X11_keepsAct_11
      refine Ev_FU (fun k p h1 => ∃ i, i + k = 2560 ∧ p = nI i ∧ frm [2] h h1 ∧ (∀ j, j < i → gI h1 2 j = gI h 2 (j + 512)) ∧ ∀ j, i ≤ j → gI h1 2 j = gI h 2 j) 2560 0 h (by omega) ⟨0, by omega, rfl, frm.rf, fun j hj => by omega, fun j hj => rfl⟩ ?_
      rintro k p h1 rec ⟨i, hi, rfl, f, e1, e2⟩ ih
      have L1 := L.fr f
      unfold f_X11_keepsAct_11b
      by_cases q : i < 2560
      · have e3 : nI i + 512 = nI (i + 512) := by
          show nI i + nI 512 = _
          rw [nI_add]
        rw [if_pos (show nI i < 2560 from (nI_ltI (by omega) (by decide)).mpr q), L1.r2, Option.bind_some, Option.bind_some, e3, ldI_ok (by rw [L1.n2]; omega) (by omega), Option.bind_some, stI_ok (by rw [L1.n2]; omega) (by omega), Option.bind_some, nI_1]
        refine ih (k - 1) _ _ (by omega) ⟨i + 1, by omega, rfl, f.sI (by simp), fun j hj => ?_, fun j hj => ?_⟩
        · rw [gI_sI]
          by_cases q' : j = i
          · rw [if_pos ⟨rfl, q'⟩, q', e2 _ (by omega)]
          · rw [if_neg (fun z => q' z.2)]; exact e1 j (by omega)
        · rw [gI_sI_nk (by omega)]; exact e2 j (by omega)
      · rw [if_neg (show ¬ nI i < 2560 from fun z => q ((nI_ltI (by omega) (by decide)).mp z)), lt_def]
        have f2 : frm [0, 2] h (sI h1 0 3 5) := frm.sI (by simp) (f.up (by simp))
        have hl5 : ((aA a).drop 1).length = 5 := by rw [List.length_drop]; omega
        obtain ⟨h', e, M, e7⟩ := fin (sI h1 0 3 5) (L.fr f2) ((aA a).drop 1) (by omega) (fun s hs => w.2.2.2.1.2 s (List.mem_of_mem_drop hs)) ⟨by rw [gI_s, hl5]; rfl, fun j hj s hs => by
          rw [List.length_drop] at hj
          rw [List.getElem?_drop, Nat.add_comm] at hs
          refine (A.2 (j + 1) (by omega) s hs).cp (w.2.2.2.1.2 s (List.mem_of_getElem? hs)) (fun m hm => ?_)
          show gI (sI h1 0 3 5) 2 (512 * j + m) = gI h 2 (512 * (j + 1) + m)
          rw [gI_sI_ne (by decide), e1 _ (by omega)]
          congr 1; omega⟩ (fun k hk => by rw [gI_sI_nk hk, f.1 0 (by simp)]) (fun b b0 b2 => by rw [gI_sI_f b0, f.1 b (by simp; exact b2)])
        refine ⟨h', e, ?_, e7⟩
        unfold act pushA
        rw [if_neg (by omega)]
        exact M
    obtain ⟨h', e, M⟩ := key
    exact ⟨h', e, M⟩
  · rw [if_neg (show ¬ nI (aA a).length = 6 from fun z => c ((nI_eq (by omega) (by decide)).mp z))]
    obtain ⟨h', e, M, e7⟩ := fin h L (aA a) (by omega) w.2.2.2.1.2 A (fun _ _ => rfl) (fun _ _ _ => rfl)
    refine ⟨h', e, ?_, e7⟩
    unfold act pushA
    rw [if_pos (by omega)]
    exact M
theorem x_reset2 {h : MH} {a n : Nat} (A : netAt h a) : ∃ h', f_X2_reset a (nI n) h = some h' ∧ frm [a, a + 4, a + 6] h h' ∧ XN h' a (tNew n) (fun _ => none) ∧ ∀ b, b < 6 → gI h' (a + 6) b = 0 := by
  obtain ⟨a3, a4, a5, a6, a7, n1, n2, n3, n4, ar⟩ := A
  have f0 : frm [a] h (sI (sI (sI h a 0 (nI n)) a 1 0) a 2 0) := frm.sI (by simp) (frm.sI (by simp) (frm.sI (by simp) frm.rf))
  obtain ⟨h1, e1, f1, j1⟩ := x_fill (h := sI (sI (sI h a 0 (nI n)) a 1 0) a 2 0) (a := a + 4) (n := 6) (x := -1) n4 (by decide)
  obtain ⟨h2, e2, f2, j2⟩ := x_fill (h := h1) (a := a + 6) (n := 6) (x := 0) (by rw [f1.2.2.2.1]; exact ar.2.2.1) (by decide)
  have f : frm [a, a + 4, a + 6] h h2 := frm.tr (f0.up (by simp)) (frm.tr (f1.up (by simp)) (f2.up (by simp)))
  refine ⟨h2, ?_, f, ⟨?_, ?_, ?_, fun l hl => absurd hl (Nat.not_lt_zero _), fun b hb => ⟨fun _ => ?_, fun q e => nono e⟩⟩, j2⟩
  · unfold f_X2_reset f_X6_emptyAll
    rw [lt_def, lt_def, lt_def]
    show ((gR h a 6).bind _) = _
    rw [a6, Option.bind_some, e1, Option.bind_some, f1.2.2.1]
    show ((gR h a 7).bind _) = _
    rw [a7, Option.bind_some]
    show (((gR h (a + 5) 1).bind _).bind _) = _
    rw [ar.1, Option.bind_some, e2, Option.bind_some, Option.bind_some]
  · rw [f2.1 a (by simp), f1.1 a (by simp), gI_sI_nk (by decide), gI_sI_nk (by decide), gI_s]; rfl
  · rw [f2.1 a (by simp), f1.1 a (by simp), gI_sI_nk (by decide), gI_s]; rfl
  · rw [f2.1 a (by simp), f1.1 a (by simp), gI_s]; rfl
  · rw [f2.1 (a + 4) (by simp)]; exact j1 b hb
