/-! ===== the reference counts forward; writable ===== -/
theorem bit_sar {x : Int32} {l : Nat} (hl : l ≤ 24) : ((x >>> (nI l &&& 31)) &&& 1) = 1 ↔ bit x l = true := by
  have e : (x >>> (nI l &&& 31)) &&& 1 = (ush x (nI l)) &&& 1 := by
    refine bit_ext (fun i hi => ?_)
    rw [bit_and, bit_and]
    by_cases q : i < 8
    · rw [bit_shr hl q]
    · have : bit (1 : Int32) i = false := by
        have h1 : ∀ i, i < 32 → ¬ i < 8 → bit (1 : Int32) i = false := by decide
        exact h1 i hi q
      rw [this, Bool.and_false, Bool.and_false]
  have hb := bit_ush (x := x) (l := l) (by omega)
  rw [e]
  have h01 : ∀ y : Int32, y &&& 1 = 0 ∨ y &&& 1 = 1 := fun y => by
    by_cases q : bit y 0 = true
    · right
      refine bit_ext (fun i hi => ?_)
      rw [bit_and]
      by_cases q2 : i = 0
      · rw [q2, q]; rfl
      · have h1 : ∀ i, i < 32 → ¬ i = 0 → bit (1 : Int32) i = false := by decide
        rw [h1 i hi q2, Bool.and_false]
    · left
      refine bit_ext (fun i hi => ?_)
      rw [bit_and, bit_0]
      by_cases q2 : i = 0
      · rw [q2]
        cases e : bit y 0 with
        | false => rfl
        | true => exact absurd e q
      · have h1 : ∀ i, i < 32 → ¬ i = 0 → bit (1 : Int32) i = false := by decide
        rw [h1 i hi q2, Bool.and_false]
  constructor
  · intro z
    cases e2 : bit x l with
    | true => rfl
    | false => rw [hb.mpr e2] at z; exact absurd z (by decide)
  · intro z
    rcases h01 (ush x (nI l)) with h | h
    · rw [hb.mp h] at z; cases z
    · exact h
theorem MR.s27 {h : MH} {a : AB} {k : Nat} {v : Int32} (hk : k = 27 ∨ k = 35) (M : MR h a) : MR (sI h 0 k v) a :=
  MR.cg (show ML (sI h 0 k v) from M.1) (fun j hj => gI_sI_nk (by rintro rfl; rcases hk with e | e <;> rw [e] at hj <;> revert hj <;> decide)) (gI_sI_f (by decide)) (gI_sI_f (by decide)) (gI_sI_f (by decide)) (gI_sI_f (by decide)) (gI_sI_f (by decide)) (gI_sI_f (by decide)) rfl M
theorem m_ways {a : AB} {s g d k : Nat} (w : wfA a) (hg : g < nN (sN (aS a))) (hd : d ≤ 12) (hk : k ≤ 6) (hsg : s ≠ g) : ∀ (n j : Nat) (P sn : List Nat) (u c : Nat) (x : Int32) (h : MH), j < n → P.length + j = k → sees x sn → MW h a P → gI h 0 35 = nI c → chF (sN (aS a)) s P u → u < nN (sN (aS a)) → Ev (f_X11_ways 0 n (nI u, nI g, nI j, nI d, x) h) (fun h' => MW h' a P ∧ gI h' 0 35 = nI (c + cw (nF (sN (aS a))) (nT (sN (aS a))) (nU (sN (aS a))) (nM (sN (aS a))) g (gdR (sN (aS a)) (sB (aS a)) (aD a) d) j sn P u)) := by
  have wN := w.1.1
  have hn10 := wN.2.1
  have hm30 := wN.2.2.1
  intro n
  induction n with
  | zero => intro j P sn u c x h hj; omega
  | succ n IH =>
    intro j P sn u c x h hj hPj hs M h35 hch hu
    show Ev (f_X11_waysb (f_X11_ways 0 n) 0 (nI u) (nI g) (nI j) (nI d) x h) _
    unfold f_X11_waysb
    by_cases q : u = g
    · subst q
      rw [if_pos rfl, cw_g]
      obtain ⟨h1, ys, e1, f1, M1, p1, R1⟩ := m_laysFewest w M (by omega) hch
      have hyl := plS_len p1
      have hP : 0 < P.length := by
        cases P with
        | nil => exact absurd hch hsg
        | cons l P => simp
      have R0 := R1.1 0 (by omega)
      rw [Nat.zero_add] at R0
      have L1 := M1.1.1
      have e13 : ldI h1 13 0 = some (fwm (ys.getD 0 none)) := by
        rw [← R0.1.fw]; exact ldI_ok (i := 0) (by rw [L1.n13]; decide) (by decide)
      have g35 : gI h1 0 35 = nI c := by rw [f1.2 35 (by decide) (by decide)]; exact h35
      rw [e1, Option.bind_some, L1.r28, Option.bind_some, e13, Option.bind_some, gdR_of p1 hd]
      cases ez : ys.getD 0 none with
      | none =>
        rw [if_pos (show fwm none = -1 from rfl), if_pos (show d < fwv none from by show d < 1000; omega)]
        exact Ev_some ⟨M1, g35⟩
      | some z =>
        have hz := (R0.2 z ez).1
        rw [ez] at e13
        rw [if_neg (show ¬ fwm (some z) = -1 from nI_m1 (by omega)), Option.bind_some, e13, Option.bind_some]
        show Ev (if nI d < nI z.1 then _ else _) _
        by_cases c5 : d < z.1
        · rw [if_pos (nI_lt c5 (by omega)), if_pos (show d < fwv (some z) from c5)]
          exact Ev_some ⟨M1, g35⟩
        · rw [if_neg (nI_nlt (by omega) (by omega)), if_neg (show ¬ d < fwv (some z) from c5), lt_def]
          refine Ev_some ⟨⟨M1.1.s27 (Or.inr rfl), by rw [gI_sI_nk (by decide)]; exact M1.2.1, by rw [gI_sI_f (by decide)]; exact M1.2.2⟩, ?_⟩
          rw [gI_s, g35, nI_1]
    · rw [if_neg (fun z => q (nI_inj (by omega) (by omega) z))]
      cases j with
      | zero =>
        rw [if_pos (show nI 0 = 0 from rfl)]
        refine Ev_some ⟨M, ?_⟩
        rw [h35]
        show nI c = nI (c + if u = g then _ else 0)
        rw [if_neg q]
        rfl
      | succ j =>
        rw [if_neg (show ¬ nI (j + 1) = 0 from fun z => absurd (nI_inj (b := 0) (by omega) (by decide) z) (by omega)), cw_s, if_neg q]
        unfold f_X11_ways_49
        refine Ev_FU (fun m p h1 => ∃ l, l + m = nM (sN (aS a)) ∧ p = nI l ∧ MW h1 a P ∧ gI h1 0 35 = nI (c + sumTo (fun l => if nF (sN (aS a)) l = u ∧ nU (sN (aS a)) l = true ∧ nT (sN (aS a)) l ∉ sn then cw (nF (sN (aS a))) (nT (sN (aS a))) (nU (sN (aS a))) (nM (sN (aS a))) g (gdR (sN (aS a)) (sB (aS a)) (aD a) d) j (nT (sN (aS a)) l :: sn) (P ++ [l]) (nT (sN (aS a)) l) else 0) l)) (nM (sN (aS a))) 0 h (by omega) ⟨0, by omega, rfl, M, h35⟩ ?_
        rintro m p h1 rec ⟨l, hl, rfl, M1, e35⟩ ih
        obtain ⟨L1, S1, -⟩ := MR_iff.mp M1.1
        unfold f_X11_ways_49b
        rw [m_links L1 S1.1, Option.bind_some]
        by_cases ql : l < nM (sN (aS a))
        · obtain ⟨w1, w2, w3, w4, w5⟩ := wN.2.2.2 l ql
          have step : ∀ (c' : Nat) h2, MW h2 a P → gI h2 0 35 = nI (c + sumTo (fun l => if nF (sN (aS a)) l = u ∧ nU (sN (aS a)) l = true ∧ nT (sN (aS a)) l ∉ sn then cw (nF (sN (aS a))) (nT (sN (aS a))) (nU (sN (aS a))) (nM (sN (aS a))) g (gdR (sN (aS a)) (sB (aS a)) (aD a) d) j (nT (sN (aS a)) l :: sn) (P ++ [l]) (nT (sN (aS a)) l) else 0) l + c') → c' = (if nF (sN (aS a)) l = u ∧ nU (sN (aS a)) l = true ∧ nT (sN (aS a)) l ∉ sn then cw (nF (sN (aS a))) (nT (sN (aS a))) (nU (sN (aS a))) (nM (sN (aS a))) g (gdR (sN (aS a)) (sB (aS a)) (aD a) d) j (nT (sN (aS a)) l :: sn) (P ++ [l]) (nT (sN (aS a)) l) else 0) → Ev (f_X11_ways_153 (f_X11_ways 0 n) rec 0 (nI u) (nI g) (nI (j + 1)) (nI d) x (nI l) h2) (fun h' => MW h' a P ∧ gI h' 0 35 = nI (c + sumTo (fun l => if nF (sN (aS a)) l = u ∧ nU (sN (aS a)) l = true ∧ nT (sN (aS a)) l ∉ sn then cw (nF (sN (aS a))) (nT (sN (aS a))) (nU (sN (aS a))) (nM (sN (aS a))) g (gdR (sN (aS a)) (sB (aS a)) (aD a) d) j (nT (sN (aS a)) l :: sn) (P ++ [l]) (nT (sN (aS a)) l) else 0) (nM (sN (aS a))))) := fun c' h2 M2 e2 hc => by
            unfold f_X11_ways_153
            rw [nI_1]
            refine ih (m - 1) _ _ (by omega) ⟨l + 1, by omega, rfl, M2, ?_⟩
            rw [e2, hc, Nat.add_assoc]
            rfl
          rw [if_pos (nI_lt ql (by omega)), m_from L1 S1.1 wN ql, Option.bind_some]
          dsimp only
          by_cases c1 : nF (sN (aS a)) l = u
          · rw [if_pos (by rw [c1]), m_isUp L1 S1.1 wN ql, Option.bind_some]
            by_cases c2 : nU (sN (aS a)) l = true
            · rw [if_neg (fun z => bI_0.mp z c2)]
              dsimp only
              rw [m_to L1 S1.1 wN ql, Option.bind_some]
              dsimp only
              have hb := bit_sar (x := x) (l := nT (sN (aS a)) l) (by omega)
              have hsb := hs (nT (sN (aS a)) l) (by omega)
              by_cases c3 : nT (sN (aS a)) l ∈ sn
              · rw [if_pos (hb.mpr (hsb.mpr c3))]
                exact step 0 h1 M1 e35 (by rw [if_neg (fun z => z.2.2 c3)])
              · rw [if_neg (fun z => c3 (hsb.mp (hb.mp z))), L1.r26, Option.bind_some, M1.2.1, stI_ok (by rw [L1.n12]; omega) (by omega), Option.bind_some, lt_def, gI_sI_ne (by decide), M1.2.1, nI_1]
                have M2 : MW (sI (sI h1 12 P.length (nI l)) 0 27 (nI (P.length + 1))) a (P ++ [l]) := by
                  refine ⟨(M1.1.s13 (by decide)).s27 (Or.inl rfl), by rw [gI_s, List.length_append]; rfl, ?_⟩
                  rw [gI_sI_f (by decide)]
                  refine lrep.up (g := gI h1 12) (x := nI l) (fun i => ?_) rfl M1.2.2
                  rw [gI_sI, Nat.zero_add]
                  by_cases q2 : i = P.length
                  · rw [if_pos ⟨rfl, q2⟩, if_pos q2]
                  · rw [if_neg (fun z => q2 z.2), if_neg q2]
                obtain ⟨L2, S2, -⟩ := MR_iff.mp M2.1
                rw [m_to L2 S2.1 wN ql, Option.bind_some]
                dsimp only
                rw [m_to L2 S2.1 wN ql, Option.bind_some]
                dsimp only
                rw [show nI (j + 1) - 1 = nI j by rw [pI_sub, pI_s]]
                refine Ev_to (IH j (P ++ [l]) (nT (sN (aS a)) l :: sn) (nT (sN (aS a)) l) (c + sumTo (fun l => if nF (sN (aS a)) l = u ∧ nU (sN (aS a)) l = true ∧ nT (sN (aS a)) l ∉ sn then cw (nF (sN (aS a))) (nT (sN (aS a))) (nU (sN (aS a))) (nM (sN (aS a))) g (gdR (sN (aS a)) (sB (aS a)) (aD a) d) j (nT (sN (aS a)) l :: sn) (P ++ [l]) (nT (sN (aS a)) l) else 0) l) _ _ (by omega) (by rw [List.length_append]; simp; omega) (hs.add (by omega)) M2 (by rw [gI_sI_nk (by decide), gI_sI_ne (by decide)]; exact e35) (chF_app hch ⟨ql, c1, rfl⟩) w2) (fun h3 z => ?_)
                obtain ⟨M3, e3⟩ := z
                have hlen : (P ++ [l]).length = P.length + 1 := by rw [List.length_append]; rfl
                rw [lt_def, M3.2.1, hlen, show nI (P.length + 1) - 1 = nI P.length by rw [pI_sub, pI_s]]
                refine step _ _ ⟨M3.1.s27 (Or.inl rfl), gI_s _ _ _ _, ?_⟩ (by rw [gI_sI_nk (by decide)]; exact e3) (by rw [if_pos ⟨c1, c2, c3⟩])
                rw [gI_sI_f (by decide)]
                intro i hi
                have := M3.2.2 i (by omega)
                rw [this, List.getD_eq_getElem?_getD, List.getD_eq_getElem?_getD, List.getElem?_append_left hi]
            · rw [if_pos (bI_0.mpr c2)]
              exact step 0 h1 M1 e35 (by rw [if_neg (fun z => c2 z.2.1)])
          · rw [if_neg (fun z => c1 (nI_inj (by omega) (by omega) z))]
            exact step 0 h1 M1 e35 (by rw [if_neg (fun z => c1 z.1)])
        · have : l = nM (sN (aS a)) := by omega
          subst this
          rw [if_neg (nI_nlt (Nat.le_refl _) (by omega))]
          exact Ev_some ⟨M1, e35⟩
theorem ok_writable : J_writable RR := by
  rintro x1 x2 x3 x4 hx hm ⟨a, w, X, M⟩
  obtain ⟨L, S, -⟩ := XR_iff.mp X
  have M0 := M.told (v := 0)
  obtain ⟨mL, mS, -⟩ := MR_iff.mp M0
  have wN := w.1.1
  have hn10 := wN.2.1
  have hm30 := wN.2.2.1
  have e1 : (1 : Int32).toInt = 1 := rfl
  have e6 : (6 : Int32).toInt = 6 := rfl
  have e12 : (12 : Int32).toInt = 12 := rfl
  have en : gI hx 2 0 = nI (nN (sN (aS a))) := S.1.1
  by_cases c1 : 0 ≤ x1.toInt ∧ x1.toInt < nN (sN (aS a))
  · by_cases c2 : 0 ≤ x2.toInt ∧ x2.toInt < nN (sN (aS a))
    · obtain ⟨s, hs, rfl⟩ := ofZ c1.1 c1.2
      obtain ⟨g, hg, rfl⟩ := ofZ c2.1 c2.2
      have ux : f_X10_writable 0 (nI s) (nI g) x3 x4 hx = (if nI s = nI g then some ((-1 : Int32), hx) else if x3 < 1 then some ((-1 : Int32), hx) else if 6 < x3 then some ((-1 : Int32), hx) else if x4 < 1 then some ((-1 : Int32), hx) else if 12 < x4 then some ((-1 : Int32), hx) else (f_X10_freshRoutes 0 hx).bind fun q_10 => (f_X9_countWays 178 2 q_10.1 (nI s) (nI g) x3 x4 (gI q_10.2 0 2) q_10.2).bind fun q_11 => some (q_11.1, q_11.2)) := by
        unfold f_X10_writable
        rw [L.r0, Option.bind_some, L.s0, Option.bind_some, x_hasNode en (by omega), Option.bind_some, if_neg (fun z => bI_0.mp z c1)]
        dsimp only
        rw [L.r0, Option.bind_some, L.s0, Option.bind_some, x_hasNode en (by omega), Option.bind_some, if_neg (fun z => bI_0.mp z c2)]
        dsimp only
        rw [L.r13, Option.bind_some, L.r0, Option.bind_some, L.s0, Option.bind_some]
      have um : f_X11_writable 0 (nI s) (nI g) x3 x4 hm = (if nI s = nI g then some ((-1 : Int32), sI hm 0 0 0) else if bI ((1 : Int) ≤ x3.toInt ∧ x3.toInt ≤ 6) = 0 then some ((-1 : Int32), sI hm 0 0 0) else if bI ((1 : Int) ≤ x4.toInt ∧ x4.toInt ≤ 12) = 0 then some ((-1 : Int32), sI hm 0 0 0) else (f_X11_ways 0 DW (nI s, nI g, x3, x4, ((1 : Int32) <<< (nI s &&& 31))) (sI (sI (sI hm 0 0 0) 0 27 0) 0 35 0)).bind fun q_8 => some ((gI q_8 0 35), q_8)) := by
        unfold f_X11_writable
        rw [lt_def, m_isNode mL mS.1 wN, Option.bind_some, if_neg (fun z => bI_0.mp z c1)]
        dsimp only
        rw [m_isNode mL mS.1 wN, Option.bind_some, if_neg (fun z => bI_0.mp z c2)]
        dsimp only
        rw [m_inL (l := 1) (k := 6) rfl rfl, Option.bind_some]
        dsimp only
        rw [m_inL (l := 1) (k := 12) rfl rfl, Option.bind_some, lt_def, lt_def]
        rfl
      rw [ux, um]
      have out : ∀ X0 M0' : Option (Int32 × MH), X0 = some (-1, hx) → M0' = some (-1, sI hm 0 0 0) → ∃ r hx' hm', X0 = some (r, hx') ∧ M0' = some (r, hm') ∧ RR hx' hm' := fun X0 M0' h1 h2 => ⟨-1, hx, sI hm 0 0 0, h1, h2, a, w, X, M0⟩
      by_cases c3 : s = g
      · exact out _ _ (if_pos (by rw [c3])) (if_pos (by rw [c3]))
      · have c3' : ¬ nI s = nI g := fun z => c3 (nI_inj (by omega) (by omega) z)
        rw [if_neg c3', if_neg c3']
        by_cases c4 : 1 ≤ x3.toInt ∧ x3.toInt ≤ 6
        · rw [if_neg (show ¬ x3 < 1 by rw [zlt, e1]; omega), if_neg (show ¬ 6 < x3 by rw [zlt, e6]; omega), if_neg (fun z => bI_0.mp z c4)]
          by_cases c5 : 1 ≤ x4.toInt ∧ x4.toInt ≤ 12
          · rw [if_neg (show ¬ x4 < 1 by rw [zlt, e1]; omega), if_neg (show ¬ 12 < x4 by rw [zlt, e12]; omega), if_neg (fun z => bI_0.mp z c5)]
            obtain ⟨k, hk, rfl⟩ := ofZ (n := 7) (x := x3) (by omega) (by omega)
            obtain ⟨d, hd, rfl⟩ := ofZ (n := 13) (x := x4) (by omega) (by omega)
            rw [nI_toInt (by omega)] at c4 c5
            -- the class
            obtain ⟨h1, ex1, X1, z1, R1, f1, g1⟩ := freshX2 hx a w X
            obtain ⟨L1, S1, -, D1, -⟩ := XR_iff.mp X1
            have keyX : Ev (f_X9_countWays 178 2 169 (nI s) (nI g) (nI k) (nI d) (gI h1 0 2) h1) (fun q => q.1 = nI (cw (nT (sN (aS a))) (nF (sN (aS a))) (nU (sN (aS a))) (nM (sN (aS a))) s (fun Q => gdR (sN (aS a)) (sB (aS a)) (aD a) d Q.reverse) k [g] [] g) ∧ XR q.2 a) := by
              unfold f_X9_countWays
              rw [D1, lt_def, show (6 : Int32) = nI 6 from rfl]
              have L2 : XL (sI h1 178 1 (nI 6)) := L1.fr (frm.sI (X := wrX) (by decide) frm.rf) (by decide)
              rw [L2.i3, Option.bind_some, gI_s, stI_ok (by rw [L2.w180]; decide) (by decide), Option.bind_some]
              simp only [lt_def]
              have f3 : frm wrX h1 (sI (sI (sI (sI (sI (sI h1 178 1 (nI 6)) 180 6 0) 178 2 (nI (aD a))) 178 6 (nI s)) 178 7 (nI (6 - k))) 178 8 (nI d)) := frm.sI (by decide) (frm.sI (by decide) (frm.sI (by decide) (frm.sI (by decide) (frm.sI (by decide) (frm.sI (by decide) frm.rf)))))
              have e178 : ∀ h2 : MH, (gI h2 178 1 = nI 6) → gI h2 178 1 - nI k = nI (6 - k) := fun h2 e => by
                rw [e]
                have : nI 6 = nI (6 - k) + nI k := by rw [nI_add]; congr 1; omega
                rw [this, Int32.sub_eq_add_neg, Int32.add_assoc, Int32.add_right_neg, Int32.add_zero]
              rw [e178 _ (by rw [gI_sI_nk (by decide), gI_sI_nk (by decide), gI_sI_ne (by decide), gI_s])]
              have g178 : ∀ j, j ≠ 8 → j ≠ 7 → j ≠ 6 → j ≠ 2 → gI (sI (sI (sI (sI (sI (sI h1 178 1 (nI 6)) 180 6 0) 178 2 (nI (aD a))) 178 6 (nI s)) 178 7 (nI (6 - k))) 178 8 (nI d)) 178 j = gI (sI h1 178 1 (nI 6)) 178 j := fun j a1 a2 a3 a4 => by
                rw [gI_sI_nk a1, gI_sI_nk a2, gI_sI_nk a3, gI_sI_nk a4, gI_sI_ne (by decide)]
              have X3 : XQ (sI (sI (sI (sI (sI (sI h1 178 1 (nI 6)) 180 6 0) 178 2 (nI (aD a))) 178 6 (nI s)) 178 7 (nI (6 - k))) 178 8 (nI d)) 169 (sN (aS a)) (sB (aS a)) (aD a) s g k d [] g := by
                refine ⟨WE.fr f3 (by decide) (by decide) (show WE h1 169 _ _ from ⟨L1, S1.1, L1.rt, R1⟩), ?_, ?_, ?_, ?_, gI_s _ _ _ _, fun i hi => (by simp at hi), rfl, [], rfl, fun j hj => (by simp at hj), ?_⟩
                · rw [g178 1 (by decide) (by decide) (by decide) (by decide), gI_s]
                · rw [gI_sI_nk (by decide), gI_sI_nk (by decide), gI_sI_nk (by decide), gI_s]
                · rw [gI_sI_nk (by decide), gI_sI_nk (by decide), gI_s]
                · rw [gI_sI_nk (by decide), gI_s]
                · show gI (sI (sI (sI (sI (sI (sI h1 178 1 (nI 6)) 180 6 0) 178 2 (nI (aD a))) 178 6 (nI s)) 178 7 (nI (6 - k))) 178 8 (nI d)) 180 6 = nI 0
                  rw [gI_sI_ne (by decide), gI_sI_ne (by decide), gI_sI_ne (by decide), gI_sI_ne (by decide), gI_s]
                  rfl
              rw [X3.2.1]
              refine Ev_to (x_countBack (t := sN (aS a)) (B := sB (aS a)) (D := aD a) (a := s) (b := g) (k := k) (d := d) wN w.1.2.1 (by decide) w.2.2.1.2 (by omega) (by omega) hs DW k [] [g] g _ _ (by unfold DW; omega) (by simp) (fun z => c3 z.symm) (sees.one (by omega)) X3 hg) (fun q z => ?_)
              exact Ev_some ⟨z.1, X1.fr (frm.tr f3 (z.2.1.up (by decide))) (by decide)⟩
            obtain ⟨⟨r1, hx'⟩, ex2, er, X'⟩ := keyX
            dsimp only at er X'
            -- the reference
            have MW0 : MW (sI (sI (sI hm 0 0 0) 0 27 0) 0 35 0) a [] := ⟨(M0.s27 (Or.inl rfl)).s27 (Or.inr rfl), by rw [gI_sI_nk (by decide), gI_s]; rfl, fun i hi => (by simp at hi)⟩
            obtain ⟨hm', em, M', er'⟩ := m_ways (s := s) (g := g) (d := d) (k := k) w hg (by omega) (by omega) c3 DW k [] [s] s 0 ((1 : Int32) <<< (nI s &&& 31)) (sI (sI (sI hm 0 0 0) 0 27 0) 0 35 0) (by unfold DW; omega) (by simp) (sees.one (by omega)) MW0 (gI_s _ _ _ _) rfl hs
            refine ⟨r1, hx', hm', ?_, ?_, a, w, X', M'.1⟩
            · rw [ex1, Option.bind_some]
              dsimp only
              rw [ex2, Option.bind_some]
            · rw [em, Option.bind_some, er', er, Nat.zero_add, cw_rev]
          · refine out _ _ ?_ (if_pos (bI_0.mpr c5))
            by_cases q : x4 < 1
            · rw [if_pos q]
            · rw [if_neg q, if_pos (by rw [zlt, e1] at q; rw [zlt, e12]; omega)]
        · refine out _ _ ?_ (if_pos (bI_0.mpr c4))
          by_cases q : x3 < 1
          · rw [if_pos q]
          · rw [if_neg q, if_pos (by rw [zlt, e1] at q; rw [zlt, e6]; omega)]
    · refine ⟨-1, hx, sI hm 0 0 0, ?_, ?_, a, w, X, M0⟩
      · unfold f_X10_writable
        rw [L.r0, Option.bind_some, L.s0, Option.bind_some, x_hasNode en (by omega), Option.bind_some, if_neg (fun z => bI_0.mp z c1)]
        dsimp only
        rw [L.r0, Option.bind_some, L.s0, Option.bind_some, x_hasNode en (by omega), Option.bind_some, if_pos (bI_0.mpr c2)]
      · unfold f_X11_writable
        rw [lt_def, m_isNode mL mS.1 wN, Option.bind_some, if_neg (fun z => bI_0.mp z c1)]
        dsimp only
        rw [m_isNode mL mS.1 wN, Option.bind_some, if_pos (bI_0.mpr c2)]
  · refine ⟨-1, hx, sI hm 0 0 0, ?_, ?_, a, w, X, M0⟩
    · unfold f_X10_writable
      rw [L.r0, Option.bind_some, L.s0, Option.bind_some, x_hasNode en (by omega), Option.bind_some, if_pos (bI_0.mpr c1)]
    · unfold f_X11_writable
      rw [lt_def, m_isNode mL mS.1 wN, Option.bind_some, if_pos (bI_0.mpr c1)]
