/-! ===== acts are kept ===== -/
def rot (h h' : MH) : Prop := gI h' = gI h ∧ gL h' = gL h ∧ gN h' = gN h ∧ gZ h' = gZ h ∧ ∀ b, b ≠ 23 → gR h' b = gR h b
theorem rot.rf {h : MH} : rot h h := ⟨rfl, rfl, rfl, rfl, fun _ _ => rfl⟩
theorem gR_sR (h : MH) (a k b j : Nat) (v : Option Nat) : gR (sR h a k v) b j = if b = a ∧ j = k then v else gR h b j := rfl
theorem rot.sR {h h' : MH} {k : Nat} {v : Option Nat} (r : rot h h') : rot h (sR h' 23 k v) := ⟨r.1, r.2.1, r.2.2.1, r.2.2.2.1, fun b hb => by funext j; rw [gR_sR, if_neg (fun q => hb q.1), r.2.2.2.2 b hb]⟩
theorem rowAt.rot {h h' : MH} {a w : Nat} (r : rot h h') (ha : a ≠ 23) (L : rowAt h a w) : rowAt h' a w := by
  unfold rowAt
  rw [r.2.2.1, r.2.2.2.2 a ha]
  exact L
theorem rtAt.rot {h h' : MH} {a n : Nat} (r : rot h h') (ha : a ≠ 23) (L : rtAt h a n) : rtAt h' a n := by
  unfold rtAt
  rw [r.2.2.1, r.2.2.2.2 a ha]
  exact L
theorem rowsAt.rot {h h' : MH} {a c w : Nat} (r : rot h h') (ha : a ≠ 23) (L : rowsAt h a c w) : rowsAt h' a c w := by
  unfold rowsAt
  rw [r.2.2.1, r.2.2.2.2 a ha, r.1]
  exact L
theorem netAt.rot {h h' : MH} {a : Nat} (r : rot h h') (ha : a ≠ 23) (hb : a + 5 ≠ 23) (L : netAt h a) : netAt h' a := by
  obtain ⟨a1, a2, a3, a4, a5, b1, b2, b3, b4, c⟩ := L
  refine ⟨?_, ?_, ?_, ?_, ?_, ?_, ?_, ?_, ?_, c.rot r hb⟩
  all_goals first | (rw [r.2.2.2.2 a ha]; assumption) | (rw [r.2.2.1]; assumption)
theorem stAt.rot {h h' : MH} {a : Nat} (r : rot h h') (ha : a + 18 < 23 ∨ 23 < a) (L : stAt h a) : stAt h' a := by
  obtain ⟨a1, a2, a3, a4, a5, a6, n, b1, b2, r1, r2, r3⟩ := L
  refine ⟨?_, ?_, ?_, ?_, ?_, ?_, n.rot r (by omega) (by omega), ?_, ?_, r1.rot r (by omega), r2.rot r (by omega), r3.rot r (by omega)⟩
  all_goals first | (rw [r.2.2.2.2 a (by omega)]; assumption) | (rw [r.2.2.1]; assumption)
theorem XL.rot {h h' : MH} (r : rot h h') (L : XL h) : XL h' := by
  obtain ⟨a0, s1, r20, ⟨c1, c2, c3⟩, s138, r157, ⟨t1, t2, t3, t4⟩, q1, q2, q3, w, p, q4, r197⟩ := L
  have R := r.2.2.2.2
  have N := r.2.2.1
  refine ⟨?_, s1.rot r (by decide), r20.rot r (by decide), ⟨by rw [R 22 (by decide)]; exact c1, by rw [N]; exact c2, fun i hi => (c3 i hi).rot r (by unfold svAd; omega)⟩, s138.rot r (by decide), r157.rot r (by decide), ⟨by rw [R 159 (by decide)]; exact t1, by rw [R 159 (by decide)]; exact t2, by rw [N]; exact t3, t4.rot r (by decide) (by decide)⟩, q1.rot r (by decide), q2.rot r (by decide), q3.rot r (by decide), ?_, ?_, q4.rot r (by decide), r197.rot r (by decide)⟩
  · rw [R 0 (by decide)]; exact a0
  · rw [R 178 (by decide), N]; exact w
  · obtain ⟨p1, p2, p3, p4, p5, p6, p7, p8, p9, p10, p11, p12⟩ := p
    rw [← R 183 (by decide)] at p1 p2 p3 p4 p5 p6
    rw [← N] at p10 p11 p12
    exact ⟨p1, p2, p3, p4, p5, p6, p7.rot r (by decide), p8.rot r (by decide), p9.rot r (by decide), p10, p11, p12⟩
def pushA (A : List ST) (s : ST) : List ST := if A.length < 6 then A ++ [s] else A.drop 1 ++ [s]
def act (a : AB) : AB := (a.1, a.2.1, a.2.2.1, pushA (aA a) (aS a), a.2.2.2.2)
theorem sI_self {h : MH} {a k : Nat} {v : Int32} (e : gI h a k = v) : sI h a k v = h := by
  show (up2 h.1 a k v, h.2) = h
  refine Prod.ext ?_ rfl
  funext b j
  show (if b = a ∧ j = k then v else gI h b j) = gI h b j
  by_cases q : b = a ∧ j = k
  · rw [if_pos q, ← e, q.1, q.2]
  · rw [if_neg q]
theorem x_save56 {h : MH} {s : ST} {n m : Nat} (L : XL h) (S : XS h 1 s) (w : wfS s) (e1 : gI h 22 1 = nI n) (hn : n < 6) (hm : m < 6) (er : gR h 23 n = some (svAd m)) : ∃ h', f_X0_save_56 22 1 h = some h' ∧ frm (22 :: stAds (svAd m)) h h' ∧ XS h' (svAd m) s ∧ gI h' 22 1 = nI (n + 1) := by
  obtain ⟨h1, e2, f, S'⟩ := x_stCopy (h := h) (a := svAd m) (b := 1) (L.acts.2.2 m hm) L.st (by unfold svAd; omega) w S
  have hk : gI h1 22 = gI h 22 := f.1 22 (fun q => by have := stAds_mem q; unfold svAd at this; omega)
  refine ⟨sI h1 22 1 (nI (n + 1)), ?_, frm.sI (by simp) (f.up (by simp_all)), S'.fr (fun k hk => gI_sI_f (by unfold svAd; omega)), gI_s _ _ _ _⟩
  unfold f_X0_save_56
  rw [L.y22, Option.bind_some, e1, ldR_ok (by rw [L.z23]; exact hn) (by omega) er, Option.bind_some, e2, Option.bind_some, lt_def, hk, e1, nI_1]
theorem svAd_far {i j k : Nat} (h : i ≠ j) (hk : k < 19) : ¬ (svAd i + k = 22 ∨ (svAd j ≤ svAd i + k ∧ svAd i + k ≤ svAd j + 18)) := by
  unfold svAd; omega
theorem x_beginAct {h : MH} {a : AB} (w : wfA a) (R : XR h a) : ∃ h', f_X10_beginAct 0 h = some h' ∧ XR h' (act a) ∧ gI h' 0 12 = 1 := by
  obtain ⟨L, S, K, D, ⟨A1, A2, σ, A3, A4, A5⟩, I, P, F, C⟩ := XR_iff.mp R
  -- the end, from the heap (rotated) at which the copy begins
  have fin : ∀ (h0 : MH) (n : Nat) (A : List ST) (τ : Nat → Nat), rot h h0 → A.length = n → n < 6 → (∀ i, i < 6 → τ i < 6 ∧ gR h0 23 i = some (svAd (τ i))) → (∀ i j, i < 6 → j < 6 → τ i = τ j → i = j) → (∀ i, i < A.length → ∀ s, A[i]? = some s → XS h (svAd (τ i)) s) → ∃ h1, f_X0_save_56 22 1 (sI h0 22 1 (nI n)) = some h1 ∧ XR (sI h1 0 12 1) (a.1, a.2.1, a.2.2.1, A ++ [aS a], a.2.2.2.2) := by
    intro h0 n A τ r hA hn t1 t2 t3
    have L1 : XL (sI h0 22 1 (nI n)) := XL.fr (frm.sI (X := [22]) (by simp) frm.rf) (by decide) (L.rot r)
    have S1 : XS (sI h0 22 1 (nI n)) 1 (aS a) := S.fr (fun k hk => by rw [gI_sI_f (by omega), r.1])
    obtain ⟨h1, e, f, X, e1⟩ := x_save56 (m := τ n) L1 S1 w.1 (gI_s _ _ _ _) hn (t1 n hn).1 (t1 n hn).2
    have hf : ∀ b, b ≠ 22 → ¬ (svAd (τ n) ≤ b ∧ b ≤ svAd (τ n) + 18) → gI h1 b = gI h b := by
      intro b hb hb'
      rw [f.1 b (fun q => ?_), gI_sI_f hb, r.1]
      rcases List.mem_cons.mp q with q | q
      · exact hb q
      · have := stAds_mem q; omega
    have hs : ∀ i, i < 6 → svAd i + 18 ≤ 137 ∧ 24 ≤ svAd i := fun i hi => by unfold svAd; omega
    have ht := hs _ (t1 n hn).1
    have L2 : XL h1 := L1.fr f (fun q hq hq' => by
      have := t1 n hn
      rcases List.mem_cons.mp hq' with z | z
      · subst z; exact absurd hq (by decide)
      · have z' := stAds_mem z
        have := (t1 n hn).1
        unfold svAd at z'
        simp [rowsAds] at hq
        omega)
    have f0 : ∀ b, b ≠ 0 → b ≠ 22 → ¬ (svAd (τ n) ≤ b ∧ b ≤ svAd (τ n) + 18) → gI (sI h1 0 12 1) b = gI h b := fun b b0 b1 b2 => by rw [gI_sI_f b0, hf b b1 b2]
    have f1 : ∀ k, k ≠ 12 → gI (sI h1 0 12 1) 0 k = gI h 0 k := fun k hk => by rw [gI_sI_nk hk, hf 0 (by decide) (by omega)]
    refine ⟨h1, e, XR_iff.mpr ⟨XL.fr (frm.sI (X := [0]) (by simp) frm.rf) (by decide) L2, S.fr (fun k hk => ?_), K.fr ?_ ?_, ?_, ⟨?_, ?_, τ, ?_, t2, ?_⟩, I.fr ?_ ?_ (fun b b1 b2 => ?_), P.fr ?_ ?_, F.fr ?_ ?_, Or.inr (gI_s _ _ _ _)⟩⟩
    · exact f0 _ (by omega) (by omega) (by omega)
    · exact f0 _ (by omega) (by omega) (by omega)
    · exact f0 _ (by omega) (by omega) (by omega)
    · rw [f1 2 (by decide)]; exact D
    · show gI _ 22 1 = nI (A ++ [aS a]).length
      rw [gI_sI_ne (by decide), e1, List.length_append, hA]; rfl
    · show (A ++ [aS a]).length ≤ 6
      rw [List.length_append, hA]; exact hn
    · intro i hi
      refine ⟨(t1 i hi).1, ?_⟩
      rw [gR_sI, f.2.2.1, gR_sI]
      exact (t1 i hi).2
    · intro i hi s hs'
      have hi : i < (A ++ [aS a]).length := hi
      have hs' : (A ++ [aS a])[i]? = some s := hs'
      rw [List.length_append, hA] at hi
      have hi : i < n + 1 := hi
      by_cases q : i = n
      · subst q
        rw [← hA, List.getElem?_concat_length] at hs'
        have hs' := Option.some.inj hs'
        rw [← hs']
        exact X.fr (fun k hk => gI_sI_f (by omega))
      · rw [List.getElem?_append_left (by omega)] at hs'
        have hne : τ i ≠ τ n := fun z => q (t2 i n (by omega) hn z)
        have := hs _ (t1 i (by omega)).1
        refine (t3 i (by omega) s hs').fr (fun k hk => f0 _ (by omega) (by omega) (fun z => svAd_far hne hk (Or.inr z)))
    · exact f1 7 (by decide)
    · exact f1 6 (by decide)
    · exact f0 _ (by omega) (by omega) (by omega)
    · rw [f0 _ (by omega) (by omega) (by omega)]
    · exact f0 _ (by omega) (by omega) (by omega)
    · rw [f0 _ (by omega) (by omega) (by omega)]
    · rw [f0 _ (by omega) (by omega) (by omega)]
  suffices hsuf : ∃ h1, f_X0_save 22 1 h = some h1 ∧ XR (sI h1 0 12 1) (act a) by
    obtain ⟨h1, e, X⟩ := hsuf
    refine ⟨sI h1 0 12 1, ?_, X, gI_s _ _ _ _⟩
    unfold f_X10_beginAct
    rw [L.r3, Option.bind_some, L.r0, Option.bind_some, e, Option.bind_some, lt_def]
  by_cases c : (aA a).length < 6
  · obtain ⟨h1, e, X⟩ := fin h (aA a).length (aA a) σ rot.rf rfl c A3 A4 A5
    have hid : sI h 22 1 (nI (aA a).length) = h := sI_self A1
    rw [hid] at e
    refine ⟨h1, ?_, ?_⟩
    · unfold f_X0_save
      rw [A1, if_pos (show nI (aA a).length < 6 from (nI_ltI (by omega) (by decide)).mpr c)]
      exact e
    · unfold act pushA
      rw [if_pos c]
      exact X
  · have h6 : (aA a).length = 6 := by omega
    have key : Ev (f_X0_save_18 22 1 (svAd (σ 0)) FU 1 h) (fun h1 => XR (sI h1 0 12 1) (act a)) := by
      unfold f_X0_save_18
      refine Ev_FU (fun k p h1 => ∃ i, i + k = 6 ∧ 1 ≤ i ∧ p = nI i ∧ rot h h1 ∧ ∀ j, j < 6 → gR h1 23 j = some (svAd (σ (if j + 1 < i then j + 1 else j)))) 5 1 h (by omega) ⟨1, by omega, by omega, rfl, rot.rf, fun j hj => ?_⟩ ?_
      · rw [if_neg (by omega)]; exact (A3 j hj).2
      · rintro k p h1 rec ⟨i, hi, i1, rfl, r, hR⟩ ih
        have y : gR h1 22 0 = some 23 := by rw [r.2.2.2.2 22 (by decide)]; exact L.y22
        have z : gN h1 23 = 6 := by rw [r.2.2.1]; exact L.z23
        unfold f_X0_save_18b
        by_cases q : i < 6
        · have e1 : nI i - 1 = nI (i - 1) := by
            have : nI (i - 1) + 1 = nI i := by rw [nI_1]; congr 1; omega
            rw [← this]; exact Int32.add_sub_cancel _ _
          have hb := hR i q
          rw [if_neg (by omega)] at hb
          rw [if_pos (show nI i < 6 from (nI_ltI (by omega) (by decide)).mpr q), y, Option.bind_some, Option.bind_some, ldR_ok (by omega) (by omega) hb, Option.bind_some, e1, stR_ok (by omega) (by omega), Option.bind_some, nI_1]
          refine ih (k - 1) _ _ (by omega) ⟨i + 1, by omega, by omega, rfl, r.sR, fun j hj => ?_⟩
          rw [gR_sR]
          by_cases q' : j = i - 1
          · rw [if_pos ⟨rfl, q'⟩, if_pos (by omega), show j + 1 = i by omega]
          · rw [if_neg (fun z => q' z.2), hR j hj]
            by_cases q'' : j + 1 < i
            · rw [if_pos q'', if_pos (by omega)]
            · rw [if_neg q'', if_neg (by omega)]
        · have hi6 : i = 6 := by omega
          subst hi6
          rw [if_neg (show ¬ nI 6 < 6 from fun q' => absurd q' (by decide)), y, Option.bind_some]
          have e5 : stR h1 23 5 (svAd (σ 0)) = some (sR h1 23 5 (some (svAd (σ 0)))) := stR_ok (i := 5) (by omega) (by decide)
          rw [e5, Option.bind_some, lt_def]
          have u1 : ∀ i, i < 6 → ((fun j => if j < 5 then σ (j + 1) else σ 0) : Nat → Nat) i < 6 ∧ gR (sR h1 23 5 (some (svAd (σ 0)))) 23 i = some (svAd (((fun j => if j < 5 then σ (j + 1) else σ 0) : Nat → Nat) i)) := by
            intro j hj
            dsimp only
            rw [gR_sR]
            by_cases q' : j = 5
            · subst q'
              exact ⟨(A3 0 (by omega)).1, rfl⟩
            · rw [if_pos (show j < 5 by omega), if_neg (show ¬ (23 = 23 ∧ j = 5) from fun z => q' z.2), hR j hj, if_pos (show j + 1 < 6 by omega)]
              refine ⟨(A3 (j + 1) (by omega)).1, ?_⟩
              rfl
          have u2 : ∀ i j, i < 6 → j < 6 → ((fun j => if j < 5 then σ (j + 1) else σ 0) : Nat → Nat) i = ((fun j => if j < 5 then σ (j + 1) else σ 0) : Nat → Nat) j → i = j := by
            intro j j' hj hj' e'
            dsimp only at e'
            by_cases q1 : j < 5
            · by_cases q2 : j' < 5
              · rw [if_pos q1, if_pos q2] at e'
                have := A4 _ _ (by omega) (by omega) e'; omega
              · rw [if_pos q1, if_neg q2] at e'
                have := A4 _ _ (by omega) (by omega) e'; omega
            · by_cases q2 : j' < 5
              · rw [if_neg q1, if_pos q2] at e'
                have := A4 _ _ (by omega) (by omega) e'; omega
              · omega
          have u3 : ∀ i, i < ((aA a).drop 1).length → ∀ s, ((aA a).drop 1)[i]? = some s → XS h (svAd (((fun j => if j < 5 then σ (j + 1) else σ 0) : Nat → Nat) i)) s := by
            intro j hj s hs
            rw [List.length_drop] at hj
            rw [List.getElem?_drop] at hs
            dsimp only
            rw [if_pos (by omega)]
            rw [Nat.add_comm] at hs
            exact A5 (j + 1) (by omega) s hs
          obtain ⟨h2, e, X⟩ := fin (sR h1 23 5 (some (svAd (σ 0)))) 5 ((aA a).drop 1) (fun j => if j < 5 then σ (j + 1) else σ 0) r.sR (by rw [List.length_drop]; omega) (by omega) u1 u2 u3
          refine ⟨h2, e, ?_⟩
          unfold act pushA
          rw [if_neg c]
          exact X
    obtain ⟨h1, e, X⟩ := key
    refine ⟨h1, ?_, X⟩
    unfold f_X0_save
    have e0 : ldR h 23 0 = some (svAd (σ 0)) := ldR_ok (i := 0) (by rw [L.z23]; omega) (by decide) (A3 0 (by omega)).2
    rw [A1, h6, if_neg (show ¬ nI 6 < 6 from fun q' => absurd q' (by decide)), L.y22, Option.bind_some, e0, Option.bind_some, e]
