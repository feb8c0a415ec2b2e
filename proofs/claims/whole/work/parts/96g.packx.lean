/-! ===== the class's packet: its course ===== -/
def pI (j : Nat) : Int32 := if j = 0 then -1 else nI (j - 1)
theorem pI_s {j : Nat} : pI (j + 1) = nI j := by unfold pI; rw [if_neg (by omega)]; rfl
theorem pI_0 : pI 0 = -1 := rfl
theorem pI_sub {j : Nat} : nI j - 1 = pI j := by
  cases j with
  | zero => rfl
  | succ j =>
    rw [pI_s, ← nI_1]
    exact Int32.add_sub_cancel _ _
theorem pI_add {j : Nat} : nI j + (-1) = pI j := by
  rw [← pI_sub]
  exact (Int32.sub_eq_add_neg _ _).symm
def XKT (h : MH) (e : Bool) (T : List Nat) : Prop := ∃ T', rowIs h 186 T' ∧ T'.length ≤ 16 ∧ (e = true → gI h 183 8 = nI T.length ∧ T' = T.take 16)
def XK (h : MH) (t : NT) (s : PK) (H : List Nat) : Prop := (gI h 183 4 = nI H.length ∧ lrep (gI h 191) 0 H.reverse) ∧ gI h 183 7 = nI (pN s) ∧ gI h 183 9 = nI (pH s) ∧ gI h 183 10 = -1 ∧ gI h 183 11 = bI (pE s = true) ∧ XKT h (pE s) (pT s) ∧ frIs h 189 190 (pA s) (zz t)
def XKE (h : MH) (t : NT) (d : Option Nat) (s : PK) : Prop := gI h 183 10 = fpl d ∧ gI h 183 7 = nI (pN s) ∧ gI h 183 9 = nI (pH s) ∧ gI h 183 11 = bI (pE s = true) ∧ XKT h (pE s) (pT s) ∧ frIs h 189 190 (pA s) (zz t)
theorem x_addAny {h : MH} {a w : Nat} {ls : List Nat} (A : rowAt h a w) (r : rowIs h a ls) (hl : ls.length ≤ w) (hw : w < 2 ^ 31) {y : Nat} : ∃ h', f_X5_add a (nI y) h = some h' ∧ frm [a, a + 1] h h' ∧ rowIs h' a ((ls ++ [y]).take w) ∧ gL h' = gL h := by
  by_cases q : ls.length < w
  · refine ⟨sI (sI h (a + 1) ls.length (nI y)) a 1 (nI (ls.length + 1)), ?_, frm.sI (by simp) (frm.sI (by simp) frm.rf), ?_, rfl⟩
    · unfold f_X5_add
      rw [A.1, Option.bind_some, A.2, r.1, oN, if_pos (nI_lt q (by omega)), Option.bind_some, stI_ok (by rw [A.2]; exact q) (by omega), Option.bind_some, lt_def, gI_sI_ne (by omega), r.1, nI_1]
    · rw [List.take_of_length_le (by rw [List.length_append]; simp; omega)]
      refine ⟨by rw [gI_s, List.length_append]; rfl, ?_⟩
      refine lrep.push (g := gI h (a + 1)) (fun i hi => ?_) ?_ r.2
      · rw [gI_sI_ne (by omega), gI_sI_nk (by omega)]
      · rw [gI_sI_ne (by omega), Nat.zero_add, gI_s]
  · have e : ls.length = w := by omega
    refine ⟨h, ?_, frm.rf, ?_, rfl⟩
    · unfold f_X5_add
      rw [A.1, Option.bind_some, A.2, r.1, oN, if_neg (nI_nlt (by omega) (by omega))]
    · rw [List.take_append_of_le_length (by omega), List.take_of_length_le (by omega)]
      exact r
section XP
variable {h : MH} {t : NT} {B : Nat → Option (Nat × List Nat)} {s : PK} {H : List Nat}
theorem XK.loc (K : XK h t s H) : gI h 183 7 = nI (pN s) := K.2.1
theorem x_pass {l : Nat} (w : wfN t) (E : XE h t B) (K : XK h t s H) (hl : l < nM t) : Ev (f_X3_pass 183 2 (nI l) h) (fun h' => frm [183, 186, 187, 189, 190] h h' ∧ XK h' t (pkLink t l s) H) := by
  obtain ⟨L, X, R⟩ := E
  have hm30 := w.2.2.1
  obtain ⟨K1, K2, K3, K4, K5, ⟨T', r1, r2, r3⟩, K7⟩ := K
  unfold f_X3_pass
  obtain ⟨h1, e1, f1, g1, A1⟩ := x_frOne (i := l) L.sh188 K7 (by omega) zz_pos
  have L1 : XL h1 := L.fr f1 (by decide)
  have r1' : rowIs h1 186 T' := by unfold rowIs; rw [g1]; exact r1
  obtain ⟨h2, e2, f2, r2', gl2⟩ := x_addAny (y := l) (show rowAt h1 186 16 from ⟨L1.y186, L1.z187⟩) r1' r2 (by decide)
  have L2 : XL h2 := L1.fr f2 (by decide)
  have f12 : frm [186, 187, 189, 190] h h2 := frm.tr (f1.up (by decide)) (f2.up (by decide))
  have c183 : gI h2 183 = gI h 183 := f12.1 183 (by decide)
  rw [L.k2, Option.bind_some, e1, Option.bind_some, L1.k1, Option.bind_some, e2, Option.bind_some, lt_def, show gR (sI h2 183 8 (gI h2 183 8 + 1)) 2 4 = some 4 from L2.n4, Option.bind_some]
  rw [show ldI (sI h2 183 8 (gI h2 183 8 + 1)) 4 (nI l) = some (nI (nT t l)) from by
    rw [ldI_ok (by rw [gN_sI, L2.z4]; omega) (by omega), gI_sI_ne (by decide), f12.1 4 (by decide), (X.2.2.2.1 l hl).2.1], Option.bind_some, lt_def]
  have gk : ∀ k, k ≠ 7 → k ≠ 8 → gI (sI (sI h2 183 8 (gI h2 183 8 + 1)) 183 7 (nI (nT t l))) 183 k = gI h 183 k := fun k h7 h8 => by
    rw [gI_sI_nk h7, gI_sI_nk h8, c183]
  have gb : ∀ b, b ≠ 183 → gI (sI (sI h2 183 8 (gI h2 183 8 + 1)) 183 7 (nI (nT t l))) b = gI h2 b := fun b hb => by
    rw [gI_sI_f hb, gI_sI_f hb]
  refine Ev_some ⟨frm.sI (by decide) (frm.sI (by decide) (f12.up (by decide))), ⟨?_, ?_⟩, gI_s _ _ _ _, ?_, ?_, ?_, ⟨(T' ++ [l]).take 16, ?_, ?_, fun he => ?_⟩, ?_⟩
  · rw [gk 4 (by decide) (by decide)]; exact K1.1
  · rw [gb 191 (by decide), f12.1 191 (by decide)]; exact K1.2
  · rw [gk 9 (by decide) (by decide)]; exact K3
  · rw [gk 10 (by decide) (by decide)]; exact K4
  · rw [gk 11 (by decide) (by decide)]; exact K5
  · exact r2'.fr (gb 186 (by decide)) (gb 187 (by decide))
  · rw [List.length_take]; omega
  · obtain ⟨z1, z2⟩ := r3 he
    refine ⟨?_, ?_⟩
    · rw [gI_sI_nk (by decide), gI_s, c183, z1, nI_1]
      show _ = nI (pT s ++ [l]).length
      rw [List.length_append]; rfl
    · show _ = (pT s ++ [l]).take 16
      rw [z2]
      by_cases q : (pT s).length ≤ 16
      · rw [List.take_of_length_le q]
      · rw [List.take_append_of_le_length (by rw [List.length_take]; omega), List.take_take, List.take_append_of_le_length (by omega)]
        rfl
  · exact A1.cg (congrFun gl2 _) (congrFun gl2 _) (fun _ _ => rfl)
theorem x_walk {v : Nat} (w : wfN t) (E : XE h t B) (K : XK h t s H) (hv : v < nN t) (hu : pN s < nN t) (hc : cnt t v (pN s) = 1) : Ev (f_X3_walk 183 2 169 (nI v) h) (fun h' => frm [183, 186, 187, 189, 190] h h' ∧ XK h' t (v, pE s, pT s ++ sp t v (pN s), pH s, fun l => pA s l + flow t v (pN s) (zz t) l) H) := by
  have hn10 := w.2.1
  have hm30 := w.2.2.1
  have h9 := sp_len (v := v) w hu
  unfold f_X3_walk f_X3_walk_3
  refine Ev_FU (fun m p h1 => ∃ i u D A, i + m = 10 ∧ p = nI i ∧ frm [183, 186, 187, 189, 190] h h1 ∧ XK h1 t (u, pE s, pT s ++ D, pH s, A) H ∧ u < nN t ∧ cnt t v u = 1 ∧ sp t v (pN s) = D ++ sp t v u ∧ D.length = i ∧ ∀ l, A l + flow t v u (zz t) l = pA s l + flow t v (pN s) (zz t) l) 10 0 h (by omega) ⟨0, pN s, [], pA s, by omega, rfl, frm.rf, ?_, hu, hc, rfl, rfl, fun _ => rfl⟩ ?_
  · rw [List.append_nil]; exact K
  · rintro m p h1 rec ⟨i, u, D, A, hi, rfl, f, K1, hu1, hc1, hsp, hD, hA⟩ ih
    have E1 : XE h1 t B := E.fr f (by decide)
    have hlen := congrArg List.length hsp
    rw [List.length_append] at hlen
    unfold f_X3_walk_3b
    rw [if_pos (show nI i < 10 from (nI_ltI (b := 10) (by omega) (by decide)).mpr (by omega)), K1.loc]
    show Ev (if nI u = nI v then _ else _) _
    by_cases q : u = v
    · subst q
      rw [if_pos rfl]
      refine Ev_some ⟨f, ?_⟩
      rw [sp_v, List.append_nil] at hsp
      rw [hsp]
      obtain ⟨K1', K2', K3', K4', K5', K6', K7'⟩ := K1
      exact ⟨K1', K2', K3', K4', K5', K6', K7'.cg rfl rfl (fun l _ => by
        have := hA l
        rw [flow_v w hu1] at this
        show pA s l + _ = A l
        omega)⟩
    · obtain ⟨l, h1', h2, h3, h4, h5, h6⟩ := sole_on w hv hu1 q hc1
      have o := on_near w h1' h2
      rw [if_neg (fun z => q (nI_inj (by omega) (by omega) z))]
      rw [show f_X4_onSet 169 2 (nI (pN (u, pE s, pT s ++ D, pH s, A))) (nI v) h1 = some (setF (onB t v u) (nM t), h1) from x_onSet w E1.1.rt E1.2.2 E1.1.nt E1.2.1 hu1 hv, Option.bind_some]
      dsimp only
      rw [x_leastOf (by omega), Option.bind_some, h4]
      dsimp only
      rw [show fpl (some l) = nI l from rfl, if_neg (nI_m1 (by omega)), nI_1]
      refine Ev_to (x_pass w E1 K1 h1') (fun h2' z => ?_)
      have hsp2 := sp_cons w hu1 q h4
      refine ih (m - 1) _ _ (by omega) ⟨i + 1, nT t l, D ++ [l], fun j => if j = l then A l + zz t else A j, by omega, rfl, frm.tr f z.1, ?_, o.2.1, h6, ?_, ?_, fun j => ?_⟩
      · have := z.2
        rw [← List.append_assoc]
        exact this
      · rw [hsp, hsp2, List.append_assoc]; rfl
      · rw [List.length_append, hD]; rfl
      · rw [← hA j, flow_rec w hu1 (l := j), sumTo_only h1' (fun y hy hne => if_neg (fun z => hne (h3 y hy z))), if_pos h2, h5, Nat.div_one]
        dsimp only
        by_cases qj : j = l
        · rw [if_pos qj, if_pos qj.symm, qj]; omega
        · rw [if_neg qj, if_neg (fun z => qj z.symm)]; omega
theorem x_goesTo {x c : Nat} (w : wfN t) (E : XE h t B) (K : XK h t s H) (hx : x < 10) (hu : pN s < nN t) (hA : ∀ l, pA s l ≤ c * zz t) (hc84 : c ≤ 84) : Ev (f_X3_goesTo 183 2 169 (nI x) h) (fun q => frm [183, 186, 187, 189, 190, 192, 193] h q.2 ∧ ((q.1 = 1 ∧ (x < nN t ∧ dist t x (pN s) < 1000000) ∧ XK q.2 t (pkNode t x s) H) ∨ (q.1 = 0 ∧ ¬ (x < nN t ∧ dist t x (pN s) < 1000000) ∧ XK q.2 t s H))) := by
  have hn10 := w.2.1
  unfold f_X3_goesTo
  rw [x_hasNode E.2.1.1 (by omega), Option.bind_some, nI_toInt (by omega)]
  dsimp only
  by_cases c1 : x < nN t
  · have hb : dist t x (pN s) ≤ 1000000 := (dist_bel w c1).2.1 _ hu
    rw [if_neg (fun z => bI_0.mp z (by omega)), K.loc, x_dist w E hu c1, Option.bind_some]
    dsimp only
    by_cases c2 : dist t x (pN s) < 1000000
    · rw [if_pos (show nI (dist t x (pN s)) < 1000000 from (nI_ltI (by omega) (by decide)).mpr c2), K.loc, x_count w E hu c1, Option.bind_some]
      dsimp only
      by_cases c3 : cnt t x (pN s) = 1
      · rw [if_pos ((cnt_is1 w c1 hu).mpr c3)]
        refine Ev_to (x_walk w E K c1 hu c3) (fun h' z => Ev_some ⟨z.1.up (by decide), Or.inl ⟨rfl, ⟨c1, c2⟩, ?_⟩⟩)
        have e : pkNode t x s = (x, pE s, pT s ++ sp t x (pN s), pH s, fun l => pA s l + flow t x (pN s) (zz t) l) := by
          unfold pkNode; rw [c3]; simp
        rw [e]; exact z.2
      · rw [if_neg (fun z => c3 ((cnt_is1 w c1 hu).mp z)), lt_def]
        have hz := zz_le w
        have f0 : frm [183] h (sI h 183 11 0) := frm.sI (by decide) frm.rf
        obtain ⟨K1, K2, K3, K4, K5, ⟨T', r1, r2, r3⟩, K7⟩ := K
        have E0 : XE (sI h 183 11 0) t B := E.fr f0 (by decide)
        refine Ev_to (x_spread (h := sI h 183 11 0) w E0 c1 hu (by rw [gI_sI_nk (by decide)]; exact K2) c2 (K7.cg rfl rfl (fun _ _ => rfl)) (fun l _ => ?_)) (fun h' z => Ev_some ⟨frm.tr (f0.up (by decide)) (z.1.up (by decide)), Or.inl ⟨rfl, ⟨c1, c2⟩, ?_⟩⟩)
        · have h1 := hA l
          have h2 : c * zz t ≤ 84 * zz t := Nat.mul_le_mul_right _ hc84
          omega
        · obtain ⟨z1, z2, z3, z4⟩ := z
          have gb : ∀ b, b ∉ [183, 189, 190, 192, 193] → gI h' b = gI h b := fun b hb => by
            rw [z1.1 b hb, gI_sI_f (fun e => hb (by rw [e]; decide))]
          have e : pE (pkNode t x s) = false := by
            show (pE s && decide (cnt t x (pN s) = 1)) = false
            simp [c3]
          refine ⟨⟨?_, ?_⟩, z2, ?_, ?_, ?_, ⟨T', r1.fr (gb _ (by decide)) (gb _ (by decide)), r2, fun he => ?_⟩, z4⟩
          · rw [z3 4 (by decide), gI_sI_nk (by decide)]; exact K1.1
          · rw [gb 191 (by decide)]; exact K1.2
          · rw [z3 9 (by decide), gI_sI_nk (by decide)]; exact K3
          · rw [z3 10 (by decide), gI_sI_nk (by decide)]; exact K4
          · rw [z3 11 (by decide), gI_s, e]; rfl
          · rw [e] at he; cases he
    · rw [if_neg (show ¬ nI (dist t x (pN s)) < 1000000 from fun z => c2 ((nI_ltI (by omega) (by decide)).mp z))]
      exact Ev_some ⟨frm.rf, Or.inr ⟨rfl, fun z => c2 z.2, K⟩⟩
  · rw [if_pos (bI_0.mpr (by omega))]
    exact Ev_some ⟨frm.rf, Or.inr ⟨rfl, fun z => c1 z.1, K⟩⟩
theorem x_isUpN {l : Nat} (w : wfN t) (E : XE h t B) (hl : l < 30) : f_X2_isUp 2 (nI l) h = some (bI (l < nM t ∧ nU t l = true), h) := by
  have hm30 := w.2.2.1
  by_cases q : l < nM t
  · rw [x_isUp E.2.1.2.1 E.2.1.2.2.1 hm30 q]
    unfold bI
    by_cases q2 : nU t l = true
    · rw [if_pos q2, if_pos ⟨q, q2⟩]
    · rw [if_neg q2, if_neg (fun z => q2 z.2)]
  · unfold f_X2_isUp bI
    rw [if_neg (nI_nn (by omega)), E.2.1.2.1, if_neg (nI_nlt (by omega) (by omega)), if_neg (fun z => q z.1)]
theorem x_goesAlong {l : Nat} (w : wfN t) (E : XE h t B) (K : XK h t s H) (hl : l < 30) (hu : pN s < nN t) : Ev (f_X3_goesAlong 183 2 (nI l) h) (fun q => frm [183, 186, 187, 189, 190] h q.2 ∧ ((q.1 = 1 ∧ (l < nM t ∧ nU t l = true ∧ nF t l = pN s) ∧ XK q.2 t (pkLink t l s) H) ∨ (q.1 = 0 ∧ ¬ (l < nM t ∧ nU t l = true ∧ nF t l = pN s) ∧ XK q.2 t s H))) := by
  have hn10 := w.2.1
  unfold f_X3_goesAlong
  rw [x_isUpN w E hl, Option.bind_some]
  by_cases c : l < nM t ∧ nU t l = true
  · obtain ⟨w1, w2, w3, w4, w5⟩ := w.2.2.2 l c.1
    rw [if_neg (fun z => bI_0.mp z c)]
    dsimp only
    rw [E.1.n3, Option.bind_some, ldI_ok (by rw [E.1.z3]; omega) (by omega), Option.bind_some, (E.2.1.2.2.2.1 l c.1).1, K.loc]
    by_cases c2 : nF t l = pN s
    · rw [if_pos (by rw [c2])]
      exact Ev_to (x_pass w E K c.1) (fun h' z => Ev_some ⟨z.1, Or.inl ⟨rfl, ⟨c.1, c.2, c2⟩, z.2⟩⟩)
    · rw [if_neg (fun z => c2 (nI_inj (by omega) (by omega) z))]
      exact Ev_some ⟨frm.rf, Or.inr ⟨rfl, fun z => c2 z.2.2, K⟩⟩
  · rw [if_pos (bI_0.mpr c)]
    exact Ev_some ⟨frm.rf, Or.inr ⟨rfl, fun z => c ⟨z.1, z.2.1⟩, K⟩⟩
theorem lrep.up {g g' : Nat → Int32} {o : Nat} {ls : List Nat} {y : Nat} {x : Int32} (hg : ∀ i, g' i = if i = o + ls.length then x else g i) (hx : x = nI y) (h : lrep g o ls) : lrep g' o (ls ++ [y]) :=
  lrep.push (fun i hi => by rw [hg, if_neg (by omega)]) (by rw [hg, if_pos rfl]; exact hx) h
theorem rev_take {ls : List Nat} {k : Nat} (h : k < ls.length) : ls.reverse.take (k + 1) = ls.reverse.take k ++ [ls.getD (ls.length - 1 - k) 0] := by
  have hr : k < ls.reverse.length := by rw [List.length_reverse]; exact h
  rw [take_succ' hr]
  congr 2
  rw [List.getD_eq_getElem?_getD, List.getD_eq_getElem?_getD, List.getElem?_reverse h]
theorem x_unfolds {b : Nat} (w : wfN t) (wB : wfB t B) (E : XE h t B) (K : XK h t s H) (hb : b < 6) (hu : pN s < nN t) (hH : H.length ≤ 11) : Ev (f_X3_unfolds 183 2 (nI b) h) (fun q => frm [183, 191] h q.2 ∧ ((∃ y, q.1 = 1 ∧ B b = some y ∧ y.1 = pN s ∧ XK q.2 t s (y.2 ++ H)) ∨ (q.1 = 0 ∧ (∀ y, B b = some y → y.1 ≠ pN s) ∧ XK q.2 t s H))) := by
  obtain ⟨L, X, R⟩ := E
  have hn10 := w.2.1
  unfold f_X3_unfolds
  rw [if_neg (nI_nn (by omega)), if_pos (show nI b < 6 from (nI_ltI (b := 6) (by omega) (by decide)).mpr hb), L.n6, Option.bind_some, ldI_ok (by rw [L.z6]; omega) (by omega), Option.bind_some, K.loc]
  have XB := X.2.2.2.2 b hb
  cases eB : B b with
  | none =>
    rw [XB.1 eB, if_neg (fun z => nI_m1 (by omega) z.symm)]
    exact Ev_some ⟨frm.rf, Or.inr ⟨rfl, fun y hy => (by cases hy), K⟩⟩
  | some y =>
    obtain ⟨y1, y2, y3⟩ := XB.2 y eB
    obtain ⟨b1, b2, b3, b4⟩ := wB b hb y eB
    rw [show gI h 6 b = nI y.1 from y1]
    by_cases c : y.1 = pN s
    · rw [if_pos (by rw [c]), L.n7, Option.bind_some, L.p7, Option.bind_some, ldI_ok (by rw [L.z8]; omega) (by omega), Option.bind_some, show gI h 8 b = nI y.2.length from y2, lt_def, pI_sub]
      unfold f_X3_unfolds_37
      obtain ⟨⟨K1a, K1b⟩, K2, K3, K4, K5, ⟨T', r1, r2, r3⟩, K7⟩ := K
      refine Ev_FU (fun m p h1 => ∃ k, k + m = y.2.length ∧ p = pI m ∧ frm [183, 191] h h1 ∧ (∀ j, j ≠ 4 → gI h1 183 j = gI h 183 j) ∧ gL h1 = gL h ∧ gI h1 183 4 = nI (H.length + k) ∧ lrep (gI h1 191) 0 (H.reverse ++ y.2.reverse.take k)) y.2.length (pI y.2.length) h (by omega) ⟨0, by omega, rfl, frm.rf, fun _ _ => rfl, rfl, K1a, by rw [List.take_zero, List.append_nil]; exact K1b⟩ ?_
      rintro m p h1 rec ⟨k, hk, rfl, f, g0, gl, g4, gr⟩ ih
      have L1 : XL h1 := L.fr f (by decide)
      unfold f_X3_unfolds_37b
      cases m with
      | zero =>
        rw [if_pos (show pI 0 < 0 by decide)]
        have hk' : k = y.2.length := by omega
        subst hk'
        refine Ev_some ⟨f, Or.inl ⟨y, rfl, rfl, c, ⟨?_, ?_⟩, ?_, ?_, ?_, ?_, ⟨T', r1.fr (f.1 _ (by decide)) (f.1 _ (by decide)), r2, fun he => ?_⟩, K7.cg (congrFun gl _) (congrFun gl _) (fun _ _ => rfl)⟩⟩
        · rw [g4, List.length_append, Nat.add_comm]
        · rw [List.take_of_length_le (by rw [List.length_reverse]; exact Nat.le_refl _)] at gr
          rw [List.reverse_append]; exact gr
        · rw [g0 7 (by decide)]; exact K2
        · rw [g0 9 (by decide)]; exact K3
        · rw [g0 10 (by decide)]; exact K4
        · rw [g0 11 (by decide)]; exact K5
        · rw [g0 8 (by decide)]; exact r3 he
      | succ m =>
        rw [pI_s, if_neg (nI_nn (by omega)), L1.k3, Option.bind_some, L1.z191, oN, g4, if_pos (nI_lt (by omega) (by decide)), Option.bind_some, L1.n7, Option.bind_some]
        rw [x_rget L1.rows7 (by decide) (by decide) (k := b) hb b3 (by rw [f.1 8 (by decide)]; exact y2) (by rw [f.1 9 (by decide)]; exact y3), Option.bind_some]
        dsimp only
        rw [nI_toInt (by omega), if_pos (by omega), stI_ok (by rw [L1.z191]; omega) (by omega), Option.bind_some, lt_def, gI_sI_ne (by decide), g4, nI_1, pI_add]
        refine ih m _ _ (by omega) ⟨k + 1, by omega, rfl, frm.sI (by decide) (frm.sI (by decide) f), fun j hj => by rw [gI_sI_nk hj, gI_sI_ne (by decide)]; exact g0 j hj, gl, by rw [gI_s]; rfl, ?_⟩
        rw [rev_take (by omega), ← List.append_assoc]
        refine lrep.up (g := gI h1 191) (x := nI (y.2.getD (m : Int).toNat 0)) (fun i => ?_) ?_ gr
        · rw [gI_sI_ne (by decide), gI_sI]
          have e : (H.reverse ++ List.take k y.2.reverse).length = H.length + k := by
            rw [List.length_append, List.length_reverse, List.length_take, List.length_reverse]; omega
          rw [e, Nat.zero_add]
          by_cases qi : i = H.length + k
          · rw [if_pos ⟨rfl, qi⟩, if_pos qi]
          · rw [if_neg (fun z => qi z.2), if_neg qi]
        · rw [show y.2.length - 1 - k = m by omega]; rfl
    · rw [if_neg (fun z => c (nI_inj (by omega) (by omega) z))]
      exact Ev_some ⟨frm.rf, Or.inr ⟨rfl, fun y' hy' => by rw [← Option.some.inj hy']; exact c, K⟩⟩
end XP
