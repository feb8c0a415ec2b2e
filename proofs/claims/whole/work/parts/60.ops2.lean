/-! ===== binding, on, pop, the rows of rows ===== -/
section XRows
variable {h : MH} {a c w : Nat}
theorem x_sizeOf (A : rowsAt h a c w) (hc : c < 2 ^ 31) {k : Nat} (hk : k < c) : f_X6_sizeOf a (nI k) h = some (gI h (a + 1) k, h) := by
  unfold f_X6_sizeOf
  rw [if_neg (nI_nn (by omega)), A.1, Option.bind_some, A.2.2.1, oN, if_pos (nI_lt hk hc), Option.bind_some, ldI_ok (by rw [A.2.2.1]; exact hk) (by omega), Option.bind_some]
theorem x_rget (A : rowsAt h a c w) (hc : c < 100) (hw : w < 100) {k : Nat} (hk : k < c) {ls : List Nat} (hl : ls.length ≤ w) (e1 : gI h (a + 1) k = nI ls.length) (e2 : lrep (gI h (a + 2)) (w * k) ls) {x : Int32} : f_X6_get a (nI k) x h = some (if 0 ≤ x.toInt ∧ x.toInt < ls.length then nI (ls.getD x.toInt.toNat 0) else -1, h) := by
  unfold f_X6_get
  by_cases q : 0 ≤ x.toInt ∧ x.toInt < ls.length
  · obtain ⟨i, hi, rfl⟩ := ofZ q.1 q.2
    have hki : k * w + w ≤ c * w := by
      have : (k + 1) * w ≤ c * w := Nat.mul_le_mul_right w hk
      rw [Nat.add_mul, Nat.one_mul] at this; exact this
    have hcw : c * w ≤ 100 * 100 := Nat.mul_le_mul (by omega) (by omega)
    rw [if_pos q, if_neg (nI_nn (by omega)), x_sizeOf A (by omega) hk, Option.bind_some, e1, if_pos (nI_lt hi (by omega))]
    dsimp only
    rw [A.2.1, Option.bind_some, A.2.2.2.2, pk_mul, nI_add, ldI_ok (by rw [A.2.2.2.1]; omega) (by omega), Option.bind_some, Nat.mul_comm k w, e2 i hi, nI_toInt (by omega)]
    rfl
  · rw [if_neg q]
    by_cases h1 : x < 0
    · rw [if_pos h1]
    · have := ge0 h1
      rw [if_neg h1, x_sizeOf A (by omega) hk, Option.bind_some, e1, if_neg]
      rw [zlt, nI_toInt (by omega)]; omega
end XRows
theorem z64a {n : Nat} (hn : n < 2 ^ 31) : (9 + (nI n).toInt64 : Int64).toInt = 9 + (n : Int) := by
  rw [Int64.toInt_add, z64, nI_toInt hn]
  have : (9 : Int64).toInt = 9 := rfl
  rw [this, Int.bmod_eq_of_le (by omega) (by omega)]
theorem x2_10 {x : Int32} (h : 10 ≤ x.toInt) : (x - 10).toInt = x.toInt - 10 := by
  have hb := Int32.toInt_lt x
  rw [Int32.toInt_sub]
  have : (10 : Int32).toInt = 10 := rfl
  rw [this, Int.bmod_eq_of_le (by omega) (by omega)]
theorem ok_binding : J_binding RR := by
  rintro x1 x2 hx hm ⟨a, w, X, M⟩
  obtain ⟨L, S, K, D, A, I, P, F, C⟩ := XR_iff.mp X
  obtain ⟨mL, mS, mK', mD, mA', mI', mP', mF', mC'⟩ := MR_iff.mp (M.told (v := 0))
  obtain ⟨xn0, xn1, xn2, xn3, xn4⟩ := S.1
  by_cases c : 0 ≤ x1.toInt ∧ x1.toInt < 6
  · obtain ⟨b, hb, rfl⟩ := ofZ (n := 6) c.1 c.2
    have e6 : ldI hx 6 (nI b) = some (gI hx 6 b) := ldI_ok (by rw [L.z6]; omega) (by omega)
    have m122 : ldI (sI hm 0 0 0) 1 (122 + nI b) = some (gI (sI hm 0 0 0) 1 (122 + b)) := by
      show ldI _ 1 (nI 122 + nI b) = _
      rw [nI_add]; exact m_now mL (by omega)
    have m128 : ldI (sI hm 0 0 0) 1 (128 + nI b) = some (gI (sI hm 0 0 0) 1 (128 + b)) := by
      show ldI _ 1 (nI 128 + nI b) = _
      rw [nI_add]; exact m_now mL (by omega)
    cases hB : sB (aS a) b with
    | none =>
      have x0 := (xn4 b hb).1 hB
      have m0 := (mS.2.1 b hb).1 hB
      refine ⟨-1, hx, sI hm 0 0 0, ?_, ?_, a, w, X, M.told⟩
      · unfold f_X10_binding
        rw [x_isBinding, Option.bind_some, if_neg (fun q => bI_0.mp q c), L.r0, Option.bind_some]
        dsimp only
        rw [L.s0, Option.bind_some, L.n6, Option.bind_some, e6, Option.bind_some, if_pos x0]
      · unfold f_X11_binding
        rw [lt_def, m_isBinding, Option.bind_some, if_neg (fun q => bI_0.mp q c)]
        dsimp only
        rw [mL.r1, Option.bind_some, m122, Option.bind_some, if_pos m0]
    | some q0 =>
      obtain ⟨v, ls⟩ := q0
      obtain ⟨xa, xb, xc⟩ := (xn4 b hb).2 _ hB
      obtain ⟨ma, mb, mc⟩ := (mS.2.1 b hb).2 _ hB
      obtain ⟨wv, w1, w6, wl⟩ := w.1.2.1 b hb _ hB
      have hn10 := w.1.1.2.1
      have x0 : ¬ gI hx 6 b = -1 := by rw [show gI hx 6 b = nI v from xa]; exact nI_m1 (by have : v < nN (sN (aS a)) := wv; omega)
      have m0 : ¬ gI (sI hm 0 0 0) 1 (122 + b) = 0 := by
        rw [show gI (sI hm 0 0 0) 1 (122 + b) = nI (v + 1) from ma]
        intro q
        have : v < nN (sN (aS a)) := wv
        exact absurd (nI_inj (a := v + 1) (b := 0) (by omega) (by decide) q) (by omega)
      have hls : ls.length ≤ 6 := w6
      by_cases c0 : x2 = 0
      · refine ⟨nI v, hx, sI hm 0 0 0, ?_, ?_, a, w, X, M.told⟩
        · unfold f_X10_binding
          rw [x_isBinding, Option.bind_some, if_neg (fun q => bI_0.mp q c), L.r0, Option.bind_some]
          dsimp only
          rw [L.s0, Option.bind_some, L.n6, Option.bind_some, e6, Option.bind_some, if_neg x0, if_pos c0, Option.bind_some, L.s0, Option.bind_some, L.n6, Option.bind_some, e6, Option.bind_some, show gI hx 6 b = nI v from xa]
        · unfold f_X11_binding
          rw [lt_def, m_isBinding, Option.bind_some, if_neg (fun q => bI_0.mp q c)]
          dsimp only
          rw [mL.r1, Option.bind_some, m122, Option.bind_some, if_neg m0, if_pos c0, Option.bind_some, m122, Option.bind_some, show gI (sI hm 0 0 0) 1 (122 + b) = nI (v + 1) from ma, nI_pred]
      · by_cases c1 : x2 = 1
        · refine ⟨nI ls.length, hx, sI hm 0 0 0, ?_, ?_, a, w, X, M.told⟩
          · unfold f_X10_binding
            rw [x_isBinding, Option.bind_some, if_neg (fun q => bI_0.mp q c), L.r0, Option.bind_some]
            dsimp only
            rw [L.s0, Option.bind_some, L.n6, Option.bind_some, e6, Option.bind_some, if_neg x0, if_neg c0, if_pos c1, Option.bind_some, L.s0, Option.bind_some, L.n7, Option.bind_some, x_sizeOf L.rows7 (by decide) hb, Option.bind_some]
            show some (gI hx (2 + 6) b, hx) = _
            rw [xb]
          · unfold f_X11_binding
            rw [lt_def, m_isBinding, Option.bind_some, if_neg (fun q => bI_0.mp q c)]
            dsimp only
            rw [mL.r1, Option.bind_some, m122, Option.bind_some, if_neg m0, if_neg c0, if_pos c1, Option.bind_some, m128, Option.bind_some, show gI (sI hm 0 0 0) 1 (128 + b) = nI ls.length from mb]
        · refine ⟨if 10 ≤ x2.toInt ∧ x2.toInt ≤ 9 + (ls.length : Int) then nI (ls.getD (x2.toInt - 10).toNat 0) else -1, hx, sI hm 0 0 0, ?_, ?_, a, w, X, M.told⟩
          · unfold f_X10_binding
            rw [x_isBinding, Option.bind_some, if_neg (fun q => bI_0.mp q c), L.r0, Option.bind_some]
            dsimp only
            rw [L.s0, Option.bind_some, L.n6, Option.bind_some, e6, Option.bind_some, if_neg x0, if_neg c0, if_neg c1]
            by_cases c2 : x2 < 10
            · rw [if_pos c2, if_neg]
              rw [zlt] at c2
              have : (10 : Int32).toInt = 10 := rfl
              omega
            · have h10 : 10 ≤ x2.toInt := by
                rw [zlt] at c2
                have : (10 : Int32).toInt = 10 := rfl
                omega
              rw [if_neg c2, Option.bind_some, L.s0, Option.bind_some, L.n7, Option.bind_some, x_rget L.rows7 (by decide) (by decide) hb hls xb xc, Option.bind_some, x2_10 h10]
              by_cases c3 : x2.toInt ≤ 9 + (ls.length : Int)
              · rw [if_pos ⟨by omega, by omega⟩, if_pos ⟨h10, c3⟩]
              · rw [if_neg (by omega), if_neg (by omega)]
          · unfold f_X11_binding
            rw [lt_def, m_isBinding, Option.bind_some, if_neg (fun q => bI_0.mp q c)]
            dsimp only
            rw [mL.r1, Option.bind_some, m122, Option.bind_some, if_neg m0, if_neg c0, if_neg c1, Option.bind_some, m128, Option.bind_some, show gI (sI hm 0 0 0) 1 (128 + b) = nI ls.length from mb, m_isIn, z64, z64a (by omega), Option.bind_some]
            have h10 : (10 : Int64).toInt = 10 := rfl
            rw [h10]
            by_cases c3 : 10 ≤ x2.toInt ∧ x2.toInt ≤ 9 + (ls.length : Int)
            · obtain ⟨i, hi, rfl⟩ := ofZ (x := x2) (n := 10 + ls.length) (by omega) (by omega)
              rw [if_neg (fun q => bI_0.mp q c3), if_pos c3]
              rw [nI_toInt (by omega)] at c3
              dsimp only
              rw [mL.r1, Option.bind_some]
              show (ldI _ 1 (((nI 134 + (nI 6 * nI b)) + nI i) - nI 10)).bind _ = _
              rw [pk_mul, nI_add, nI_add, pk_sub (by omega), m_now mL (by omega), Option.bind_some, nI_toInt (by omega)]
              have e := mc (i - 10) (by show i - 10 < ls.length; omega)
              have e1 : 134 + 6 * b + i - 10 = 134 + 6 * b + (i - 10) := by omega
              rw [e1, e]
              have e2 : ((i : Int) - 10).toNat = i - 10 := by omega
              rw [e2]
            · rw [if_pos (bI_0.mpr c3), if_neg c3]
  · refine ⟨-1, hx, sI hm 0 0 0, ?_, ?_, a, w, X, M.told⟩
    · unfold f_X10_binding
      rw [x_isBinding, Option.bind_some, if_pos (bI_0.mpr c)]
    · unfold f_X11_binding
      rw [lt_def, m_isBinding, Option.bind_some, if_pos (bI_0.mpr c)]
theorem wayOK.push {t : NT} {W : List Nat} {l : Nat} (h : wayOK t W) (h16 : W.length < 16) (hl : l < nM t) (hc : 0 < W.length → nT t (W.getD (W.length - 1) 0) = nF t l) : wayOK t (W ++ [l]) := by
  refine ⟨by rw [List.length_append]; show _ + 1 ≤ 16; omega, fun i hi => ?_, fun i hi => ?_⟩
  · rw [List.length_append] at hi
    rw [getD_app]
    by_cases h1 : i < W.length
    · rw [if_pos h1]; exact h.2.1 i h1
    · rw [if_neg h1, if_pos (by simp at hi; omega)]; exact hl
  · rw [List.length_append] at hi
    rw [getD_app, getD_app]
    by_cases h1 : i + 1 < W.length
    · rw [if_pos (by omega), if_pos h1]; exact h.2.2 i h1
    · have e : i + 1 = W.length := by simp at hi; omega
      rw [if_pos (by omega), if_neg h1, if_pos e]
      have := hc (by omega)
      rw [show W.length - 1 = i by omega] at this
      exact this
theorem x_wayEnd {h : MH} {s : ST} (L : XL h) (S : XS h 1 s) (w : wfS s) : f_X10_wayEnd 0 h = some (if (sW s).length = 0 then -1 else nI (nT (sN s) ((sW s).getD ((sW s).length - 1) 0)), h) := by
  have hw := w.2.2.2.2
  have hm := w.1.2.2.1
  have h16 := hw.1
  obtain ⟨xn0, xn1, xn2, xn3, xn4⟩ := S.1
  have eW : gI h 18 1 = nI (sW s).length := S.2.2.2.1
  unfold f_X10_wayEnd
  rw [L.r0, Option.bind_some, L.s0, Option.bind_some, Option.bind_some, L.s6, Option.bind_some, Option.bind_some, L.s6, Option.bind_some, eW]
  show (f_X5_get 18 (nI (sW s).length - nI 1) h).bind _ = _
  by_cases c : (sW s).length = 0
  · rw [if_pos c, x_get L.way S.2.2.2 h16 (by decide), Option.bind_some, if_neg (by rw [c]; decide)]
    show (f_X2_toOf 2 (-1) h).bind _ = _
    rw [x_toOf_m1, Option.bind_some]
  · have hl := hw.2.1 ((sW s).length - 1) (by omega)
    rw [if_neg c, pk_sub (by omega), x_getN L.way S.2.2.2 h16 (by decide) (by omega), Option.bind_some]
    show (f_X2_toOf 2 (nI ((sW s).getD ((sW s).length - 1) 0)) h).bind _ = _
    rw [x_toOf L.nt S.1 hm hl, Option.bind_some]
theorem ok_on : J_on RR := by
  rintro x1 hx hm ⟨a, w, X, M⟩
  obtain ⟨L, S, K, D, A, I, P, F, C⟩ := XR_iff.mp X
  obtain ⟨mL, mS, mK', mD, mA', mI', mP', mF', mC'⟩ := MR_iff.mp (M.told (v := 0))
  have hw := w.1.2.2.2.2
  have h16 := hw.1
  have wN := w.1.1
  have hm30 := wN.2.2.1
  obtain ⟨xn0, xn1, xn2, xn3, xn4⟩ := S.1
  have eW : gI hx 18 1 = nI (sW (aS a)).length := S.2.2.2.1
  have mW := mS.2.2.2.2.1
  by_cases c : 0 ≤ x1.toInt ∧ x1.toInt < nM (sN (aS a))
  · obtain ⟨l, hl, rfl⟩ := ofZ c.1 c.2
    have eh := x_hasLink (x := nI l) xn1 (by omega)
    have el := m_isLink mL mS.1 wN (x := nI l)
    have ef := x_isFull L.way S.2.2.2 h16 (by decide)
    by_cases cf : (sW (aS a)).length = 16
    · refine ⟨-1, hx, sI hm 0 0 0, ?_, ?_, a, w, X, M.told⟩
      · unfold f_X10_on
        rw [L.r0, Option.bind_some, L.s0, Option.bind_some, Option.bind_some, L.s6, Option.bind_some, eh, Option.bind_some, if_neg (fun q => bI_0.mp q c)]
        dsimp only
        rw [ef, Option.bind_some, if_neg (fun q => bI_0.mp q cf)]
      · unfold f_X11_on
        rw [lt_def, m_wayLong mL mW, Option.bind_some, el, Option.bind_some, if_neg (fun q => bI_0.mp q c), if_pos (by rw [cf]; rfl)]
    · have hlt : (sW (aS a)).length < 16 := by omega
      obtain ⟨h', e1, f1, r1⟩ := x_add L.way S.2.2.2 (y := l) hlt (by decide)
      have x55 : f_X10_on_55 (nI l) 18 hx = some (nI ((sW (aS a)).length + 1), h') := by
        unfold f_X10_on_55
        rw [show f_X5_add 18 (nI l) hx = some h' from e1, Option.bind_some, show gI h' 18 1 = _ from r1.1, List.length_append]
        rfl
      have m49 : f_X11_on_49 0 (nI l) (nI (sW (aS a)).length) (sI hm 0 0 0) = some (nI ((sW (aS a)).length + 1), sI (sI (sI hm 0 0 0) 1 (496 + (sW (aS a)).length) (nI l)) 1 495 (nI ((sW (aS a)).length + 1))) := by
        unfold f_X11_on_49
        rw [mL.r1, Option.bind_some]
        show (stI _ 1 (nI 496 + nI _) _).bind _ = _
        rw [nI_add, stI_ok (by rw [mL.n1]; omega) (by omega), Option.bind_some]
        show ((gR (sI hm 0 0 0) 0 1).bind _) = _
        rw [mL.r1, Option.bind_some]
        show (stI _ 1 (nI 495) _).bind _ = _
        rw [stI_ok (by show 495 < gN (sI hm 0 0 0) 1; rw [mL.n1]; decide) (by decide), Option.bind_some, nI_1]
      have fin : (0 < (sW (aS a)).length → nT (sN (aS a)) ((sW (aS a)).getD ((sW (aS a)).length - 1) 0) = nF (sN (aS a)) l) → RR h' (sI (sI (sI hm 0 0 0) 1 (496 + (sW (aS a)).length) (nI l)) 1 495 (nI ((sW (aS a)).length + 1))) := by
        intro hc
        refine ⟨setW a (sW (aS a) ++ [l]), w.way (hw.push hlt hl hc), X.way f1 r1, MR.way (h := sI hm 0 0 0) w mL (fun j hj => ?_) (fun j hj => ?_) ?_ ?_ (fun b hb => ?_) rfl M.told⟩
        · rw [gI_sI_ne (by decide), gI_sI_ne (by decide)]
        · rw [gI_sI_nk (by omega), gI_sI_nk (by omega)]
        · rw [gI_s, List.length_append]; rfl
        · refine lrep.push (g := gI (sI hm 0 0 0) 1) (fun i hi => ?_) ?_ mS.2.2.2.2.2
          · rw [gI_sI_nk (by omega), gI_sI_nk (by omega)]
          · rw [gI_sI_nk (by omega), gI_s]
        · rw [gI_sI_f (by omega), gI_sI_f (by omega)]
      by_cases c0 : (sW (aS a)).length = 0
      · refine ⟨nI ((sW (aS a)).length + 1), h', _, ?_, ?_, fin (fun q => by omega)⟩
        · unfold f_X10_on
          rw [L.r0, Option.bind_some, L.s0, Option.bind_some, Option.bind_some, L.s6, Option.bind_some, eh, Option.bind_some, if_neg (fun q => bI_0.mp q c)]
          dsimp only
          rw [ef, Option.bind_some, if_pos (bI_0.mpr cf), eW, if_neg (by rw [c0]; decide), x55]
        · unfold f_X11_on
          rw [lt_def, m_wayLong mL mW, Option.bind_some, el, Option.bind_some, if_neg (fun q => bI_0.mp q c)]
          dsimp only
          rw [if_neg (show ¬ nI (sW (aS a)).length = 16 from fun q => cf (nI_inj (b := 16) (by omega) (by decide) q)), if_neg (by rw [c0]; decide), m49]
      · have hpos : (0 : Int32) < nI (sW (aS a)).length := nI_lt (a := 0) (by omega) (by omega)
        have hll := hw.2.1 ((sW (aS a)).length - 1) (by omega)
        have ex : f_X10_on 0 (nI l) hx = if nI (nF (sN (aS a)) l) = nI (nT (sN (aS a)) ((sW (aS a)).getD ((sW (aS a)).length - 1) 0)) then f_X10_on_55 (nI l) 18 hx else some (-1, hx) := by
          unfold f_X10_on
          rw [L.r0, Option.bind_some, L.s0, Option.bind_some, Option.bind_some, L.s6, Option.bind_some, eh, Option.bind_some, if_neg (fun q => bI_0.mp q c)]
          dsimp only
          rw [ef, Option.bind_some, if_pos (bI_0.mpr cf), eW, if_pos hpos, L.n3, Option.bind_some, ldI_ok (by rw [L.z3]; omega) (by omega), Option.bind_some, x_wayEnd L S w.1, Option.bind_some, if_neg c0, show gI hx 3 l = _ from (xn3 l hl).1]
        have em : f_X11_on 0 (nI l) hm = if nI (nT (sN (aS a)) ((sW (aS a)).getD ((sW (aS a)).length - 1) 0)) = nI (nF (sN (aS a)) l) then f_X11_on_49 0 (nI l) (nI (sW (aS a)).length) (sI hm 0 0 0) else some (-1, sI hm 0 0 0) := by
          unfold f_X11_on
          rw [lt_def, m_wayLong mL mW, Option.bind_some, el, Option.bind_some, if_neg (fun q => bI_0.mp q c)]
          dsimp only
          rw [if_neg (show ¬ nI (sW (aS a)).length = 16 from fun q => cf (nI_inj (b := 16) (by omega) (by decide) q)), if_pos hpos]
          rw [show nI (sW (aS a)).length - 1 = nI ((sW (aS a)).length - 1) from pk_sub (b := 1) (by omega), m_wayLink mL (by omega), Option.bind_some, mS.2.2.2.2.2 _ (by omega)]
          dsimp only
          rw [m_to mL mS.1 wN hll, Option.bind_some]
          dsimp only
          rw [m_from mL mS.1 wN hl, Option.bind_some]
        by_cases ce : nT (sN (aS a)) ((sW (aS a)).getD ((sW (aS a)).length - 1) 0) = nF (sN (aS a)) l
        · refine ⟨nI ((sW (aS a)).length + 1), h', _, ?_, ?_, fin (fun _ => ce)⟩
          · rw [ex, ce, if_pos rfl, x55]
          · rw [em, ce, if_pos rfl, m49]
        · have n1 := (wN.2.2.2 l hl).1
          have n2 := (wN.2.2.2 _ hll).2.1
          have n3 := wN.2.1
          refine ⟨-1, hx, sI hm 0 0 0, ?_, ?_, a, w, X, M.told⟩
          · rw [ex, if_neg (fun q => ce (nI_inj (by omega) (by omega) q).symm)]
          · rw [em, if_neg (fun q => ce (nI_inj (by omega) (by omega) q))]
  · refine ⟨-1, hx, sI hm 0 0 0, ?_, ?_, a, w, X, M.told⟩
    · unfold f_X10_on
      rw [L.r0, Option.bind_some, L.s0, Option.bind_some, Option.bind_some, L.s6, Option.bind_some, x_hasLink xn1 (by omega), Option.bind_some, if_pos (bI_0.mpr c)]
    · unfold f_X11_on
      rw [lt_def, m_wayLong mL mW, Option.bind_some, m_isLink mL mS.1 wN, Option.bind_some, if_pos (bI_0.mpr c)]
