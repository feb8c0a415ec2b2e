/-! ===== the way round a link ===== -/
section RND
variable {h : MH} {t : NT} {B : Nat → Option (Nat × List Nat)} {b g : Nat}
noncomputable def obB (t : NT) (b g u l : Nat) : Bool := nU t l && (nF t l == u) && decide (dist (barN t b) g u < 1000000) && (nC t l + dist (barN t b) g (nT t l) == dist (barN t b) g u)
theorem obB_iff {u l : Nat} : obB t b g u l = true ↔ nU t l = true ∧ nF t l = u ∧ dist (barN t b) g u < 1000000 ∧ nC t l + dist (barN t b) g (nT t l) = dist (barN t b) g u := by
  simp [obB, and_assoc]
theorem obB_on {u l : Nat} : (obB t b g u l && !decide (l = b)) = onB (barN t b) g u l := by
  have h1 : onB (barN t b) g u l = true ↔ (obB t b g u l && !decide (l = b)) = true := by
    rw [onB_iff, Bool.and_eq_true, obB_iff]
    show (if l = b then false else nU t l) = true ∧ _ ↔ _
    by_cases q : l = b
    · simp [q]
    · simp only [if_neg q, q, decide_false, Bool.not_false, and_true]
      exact Iff.rfl
  cases e : onB (barN t b) g u l with
  | true => exact h1.mp e
  | false =>
    cases e2 : (obB t b g u l && !decide (l = b)) with
    | false => rfl
    | true => rw [h1.mpr e2] at e; cases e
theorem x_onSetB {r u : Nat} {K : Nat → Nat} (w : wfN t) (L : XL h) (X : XN h 2 t B) (R : rtAt h r 100) (T : tabX h r g (dist (barN t b) g) K (nN t)) (hg : g < nN t) (hu : u < nN t) : f_X4_onSet r 2 (nI u) (nI g) h = some (setF (obB t b g u) (nM t), h) := by
  have w' : wfN (barN t b) := w
  exact x_onSetG (d := dist (barN t b) g) w R (fun x hx => (T x hx).1) (fun x hx => (dist_bel w' hg).2.1 x hx) L.nt X (fun l _ => obB_iff) hu hg
theorem set_bar {u m : Nat} (hm : m ≤ 30) (hb : b < 30) : (setF (obB t b g u) m &&& (((1 : Int32) <<< (nI b &&& 31)) ^^^ (-1 : Int32))) = setF (onB (barN t b) g u) m := by
  refine bit_ext (fun i hi => ?_)
  rw [bit_and, bit_xor, bit_setF (by omega), bit_setF (by omega), bit_one (by omega), bit_m1 i hi, ← obB_on]
  by_cases q : i = b
  · subst q; simp
  · have : ¬ b = i := fun z => q z.symm
    simp [q, this]
theorem x_foundRound {a : AB} (w : wfA a) (X : XR h a) (hb : b < nM (sN (aS a))) (hg : g < nN (sN (aS a))) : ∃ h', f_X10_foundRound 0 (nI b) (nI g) h = some (bI (nF (sN (aS a)) b ≠ g ∧ dist (barN (sN (aS a)) b) g (nF (sN (aS a)) b) < 1000000), h') ∧ XR h' a ∧ frm [173, 174, 197, 198] h h' ∧ ((nF (sN (aS a)) b ≠ g ∧ dist (barN (sN (aS a)) b) g (nF (sN (aS a)) b) < 1000000) → rowIs h' 197 (sp (barN (sN (aS a)) b) g (nF (sN (aS a)) b))) := by
  have wN := w.1.1
  have wB : wfN (barN (sN (aS a)) b) := wN
  have hn10 := wN.2.1
  have hm30 := wN.2.2.1
  obtain ⟨L, S, -⟩ := XR_iff.mp X
  obtain ⟨w1, w2, w3, w4, w5⟩ := wN.2.2.2 b hb
  generalize ht : sN (aS a) = t at *
  have hS : XN h 2 t (sB (aS a)) := by rw [← ht]; exact S.1
  have key : Ev (f_X10_foundRound 0 (nI b) (nI g) h) (fun q => q.1 = bI (nF t b ≠ g ∧ dist (barN t b) g (nF t b) < 1000000) ∧ frm [173, 174, 197, 198] h q.2 ∧ ((nF t b ≠ g ∧ dist (barN t b) g (nF t b) < 1000000) → rowIs q.2 197 (sp (barN t b) g (nF t b)))) := by
    unfold f_X10_foundRound
    have f1 : frm [197] h (sI h 197 1 0) := frm.sI (by decide) frm.rf
    have L1 := L.fr f1 (by decide)
    have S1 : XN (sI h 197 1 0) 2 t (sB (aS a)) := hS.fr (fun k hk => f1.1 _ (by simp; omega))
    rw [L.r0, Option.bind_some, L.s0, Option.bind_some, x_fromOf L.nt hS hm30 hb, Option.bind_some]
    dsimp only
    rw [L.r16, Option.bind_some, lt_def, L1.r10, Option.bind_some]
    refine Ev_to (x_findToward (ob := some b) wB hg L1.wo L1.nt (S1.xb (some b)) (fun l => barO_U (o := some b) l) (fun b' hb' => by rw [← Option.some.inj hb']; omega) (by omega)) (fun h2 z => ?_)
    obtain ⟨f2, T2, o2⟩ := z
    have L2 := L1.fr f2 (by decide)
    have f12 : frm [173, 174, 197, 198] h h2 := frm.tr (f1.up (by decide)) (f2.up (by decide))
    have S2 : XN h2 2 t (sB (aS a)) := hS.fr (fun k hk => f12.1 _ (by simp; omega))
    by_cases c1 : nF t b = g
    · rw [if_pos (by rw [c1])]
      refine Ev_some ⟨?_, f12, fun z => absurd c1 z.1⟩
      unfold bI
      rw [if_neg (fun z => z.1 c1)]
    · have hd : dist (barN t b) g (nF t b) ≤ 1000000 := (dist_bel wB hg).2.1 _ w1
      have ed : f_X4_distance 172 (nI (nF t b)) (nI g) h2 = some (nI (dist (barN t b) g (nF t b)), h2) := by
        rw [x_distIn (by omega) (by omega), L2.d172, Option.bind_some, ix10, ldI_ok (by rw [L2.z173]; omega) (by omega), Option.bind_some, show gI h2 173 (10 * g + nF t b) = nI (dist (barN t b) g (nF t b)) from (T2 _ w1).1]
      rw [if_neg (fun z => c1 (nI_inj (by omega) (by omega) z)), L2.r10, Option.bind_some, ed, Option.bind_some]
      dsimp only
      by_cases c2 : dist (barN t b) g (nF t b) < 1000000
      · rw [if_pos (show nI (dist (barN t b) g (nF t b)) < 1000000 from (nI_ltI (by omega) (by decide)).mpr c2)]
        have hyes : bI (nF t b ≠ g ∧ dist (barN t b) g (nF t b) < 1000000) = 1 := by unfold bI; rw [if_pos ⟨c1, c2⟩]
        rw [hyes]
        have h9 := sp_len (v := g) wB w1
        have r0 : rowIs h2 197 [] := ⟨by rw [f2.1 197 (by decide), gI_s]; rfl, fun i hi => (by simp at hi)⟩
        unfold f_X10_foundRound_59
        refine Ev_FU (fun m p h3 => ∃ u D, D.length + m = 10 ∧ p = (nI u, nI D.length) ∧ frm [197, 198] h2 h3 ∧ u < nN t ∧ dist (barN t b) g u < 1000000 ∧ sp (barN t b) g (nF t b) = D ++ sp (barN t b) g u ∧ rowIs h3 197 D) 10 (nI (nF t b), 0) h2 (by omega) ⟨nF t b, [], by simp, rfl, frm.rf, w1, c2, rfl, r0⟩ ?_
        rintro m p h3 rec ⟨u, D, hD, rfl, f3, hu, hdu, hsp, r3⟩ ih
        have L3 := L2.fr f3 (by decide)
        have S3 : XN h3 2 t (sB (aS a)) := S2.fr (fun k hk => f3.1 _ (by simp; omega))
        have T3 : tabX h3 172 g (dist (barN t b) g) (cnt (barN t b) g) (nN t) := fun y hy => by
          rw [f3.1 173 (by decide), f3.2.1 174 (by decide)]; exact T2 y hy
        have hlen := congrArg List.length hsp
        rw [List.length_append] at hlen
        unfold f_X10_foundRound_59b f_X10_foundRound_125
        dsimp only
        rw [if_pos (show nI D.length < 10 from nI_lt (b := 10) (by omega) (by decide))]
        by_cases c3 : u = g
        · subst c3
          rw [if_pos rfl, if_pos rfl]
          rw [sp_v, List.append_nil] at hsp
          refine Ev_some ⟨rfl, frm.tr f12 (f3.up (by decide)), fun _ => ?_⟩
          rw [hsp]; exact r3
        · obtain ⟨l0, hl0, hU0, hF0, he0⟩ := (dist_bel wB hg).2.2.2 u hu c3 hdu
          have ho0 : onB (barN t b) g u l0 = true := onB_iff.mpr ⟨hU0, hF0, hdu, he0.symm⟩
          rw [if_neg (fun z => c3 (nI_inj (by omega) (by omega) z)), L3.r10, Option.bind_some, x_onSetB (K := cnt (barN t b) g) wN L3 S3 L3.wo T3 hg hu, Option.bind_some]
          dsimp only
          rw [set_bar (by omega) (by omega), x_leastOf (by omega), Option.bind_some]
          cases e : fstB (onB (barN t b) g u) (nM t) with
          | none => rw [fstB_none e l0 hl0] at ho0; cases ho0
          | some l =>
            obtain ⟨l1, l2, l3⟩ := fstB_some e
            have l1 : l < nM t := l1
            have o := on_near wB l1 l2
            have o2 : nT t l < nN t := (wN.2.2.2 l l1).2.1
            have hsp2 := sp_cons wB hu c3 e
            rw [hsp2, List.length_cons] at hlen
            dsimp only
            rw [show fpl (some l) = nI l from rfl, if_neg (nI_m1 (by omega)), L3.r16, Option.bind_some]
            obtain ⟨h4, e4, f4, r4⟩ := x_add (y := l) L3.rou r3 (by omega) (by decide)
            have L4 := L3.fr f4 (by decide)
            have S4 : XN h4 2 t (sB (aS a)) := S3.fr (fun k hk => f4.1 _ (by simp; omega))
            rw [e4, Option.bind_some, x_toOf L4.nt S4 hm30 l1, Option.bind_some, nI_1]
            dsimp only
            refine ih (m - 1) _ _ (by omega) ⟨nT t l, D ++ [l], by rw [List.length_append]; simp; omega, by rw [List.length_append]; rfl, frm.tr f3 (f4.up (by decide)), o2, by have := o.1; show dist (barN t b) g (nT (barN t b) l) < 1000000; omega, ?_, r4⟩
            rw [hsp, hsp2, List.append_assoc]
            rfl
      · rw [if_neg (show ¬ nI (dist (barN t b) g (nF t b)) < 1000000 from fun z => c2 ((nI_ltI (by omega) (by decide)).mp z))]
        refine Ev_some ⟨?_, f12, fun z => absurd z.2 c2⟩
        unfold bI
        rw [if_neg (fun z => c2 z.2)]
  obtain ⟨⟨v, h'⟩, e, z1, z2, z3⟩ := key
  dsimp only at z1 z2 z3
  subst z1
  exact ⟨h', e, X.fr z2 (by decide), z2, z3⟩
/-! the reference -/
theorem m_without {a : AB} (w : wfA a) (M : MR h a) (hb : b < nM (sN (aS a))) (hg : g < nN (sN (aS a))) : ∃ h', f_X11_laysWithout 0 (nI b) (nI g) h = some h' ∧ frm [19] h h' ∧ ∀ u, u < nN (sN (aS a)) → gI h' 19 u = nI (dist (barN (sN (aS a)) b) g u) := by
  have wN := w.1.1
  have wB : wfN (barN (sN (aS a)) b) := wN
  have hn10 := wN.2.1
  have hm30 := wN.2.2.1
  obtain ⟨L, S, -⟩ := MR_iff.mp M
  generalize ht : sN (aS a) = t at *
  have hN : MN (gI h 1) t := by rw [← ht]; exact S.1
  have key : Ev (f_X11_laysWithout 0 (nI b) (nI g) h) (fun h' => frm [19] h h' ∧ ∀ u, u < nN t → gI h' 19 u = nI (dist (barN t b) g u)) := by
    unfold f_X11_laysWithout f_X11_laysWithout_2
    refine Ev_FU (fun m p h1 => ∃ i, i + m = 10 ∧ p = nI i ∧ frm [19] h h1 ∧ ∀ u, u < i → gI h1 19 u = nI (if u = g then 0 else 1000000)) 10 0 h (by omega) ⟨0, by omega, rfl, frm.rf, fun u hu => absurd hu (Nat.not_lt_zero _)⟩ ?_
    rintro m p h1 rec ⟨i, hi, rfl, f1, T1⟩ ih
    have L1 := L.fr f1
    unfold f_X11_laysWithout_2b f_X11_laysWithout_24
    by_cases q : i < 10
    · have nx : ∀ u, u < i + 1 → gI (sI h1 19 i (nI (if i = g then 0 else 1000000))) 19 u = nI (if u = g then 0 else 1000000) := fun u hu => by
        by_cases q2 : u = i
        · rw [q2, gI_s]
        · rw [gI_sI_nk q2]; exact T1 u (by omega)
      rw [if_pos (show nI i < 10 from nI_lt (b := 10) q (by decide)), L1.r34, Option.bind_some, nI_1]
      by_cases c : i = g
      · rw [if_pos (by rw [c]), stI_ok (by rw [L1.n19]; exact q) (by omega), Option.bind_some]
        rw [if_pos c] at nx
        exact ih (m - 1) _ _ (by omega) ⟨i + 1, by omega, rfl, frm.sI (by decide) f1, nx⟩
      · rw [if_neg (fun z => c (nI_inj (by omega) (by omega) z)), stI_ok (by rw [L1.n19]; exact q) (by omega), Option.bind_some]
        rw [if_neg c] at nx
        exact ih (m - 1) _ _ (by omega) ⟨i + 1, by omega, rfl, frm.sI (by decide) f1, nx⟩
    · rw [if_neg (show ¬ nI i < 10 from nI_nlt (b := 10) (by omega) (by omega))]
      unfold f_X11_laysWithout_33
      clear ih
      refine Ev_FU (fun m p h2 => ∃ k T, k + m = nN t ∧ p = nI k ∧ frm [19] h h2 ∧ (∀ u, u < nN t → gI h2 19 u = nI (T u)) ∧ bfI (barN t b) g k T) (nN t) 0 h1 (by omega) ⟨0, fun u => if u = g then 0 else 1000000, by omega, rfl, f1, fun u hu => T1 u (by omega), bf_start wB hg⟩ ?_
      rintro m p h2 rec ⟨k, T, hk, rfl, f2, T2, B2⟩ ih
      have L2 := L.fr f2
      have N2 : MN (gI h2 1) t := by rw [f2.1 1 (by decide)]; exact hN
      unfold f_X11_laysWithout_33b
      rw [m_n L2 N2 wN, Option.bind_some]
      dsimp only
      by_cases q2 : k < nN t
      · rw [if_pos (nI_lt q2 (by omega))]
        unfold f_X11_laysWithout_44
        refine Ev_FU (fun m p h3 => ∃ j T, j + m = nM t ∧ p = nI j ∧ frm [19] h h3 ∧ (∀ u, u < nN t → gI h3 19 u = nI (T u)) ∧ bfR (barN t b) g k j T) (nM t) 0 h2 (by omega) ⟨0, T, by omega, rfl, f2, T2, bfR_0 B2⟩ ?_
        rintro m2 p h3 rec2 ⟨j, T3, hj, rfl, f3, T3', B3⟩ ih2
        have L3 := L.fr f3
        have N3 : MN (gI h3 1) t := by rw [f3.1 1 (by decide)]; exact hN
        unfold f_X11_laysWithout_44b f_X11_laysWithout_120
        rw [m_links L3 N3, Option.bind_some]
        dsimp only
        by_cases q3 : j < nM t
        · obtain ⟨w1, w2, w3, w4, w5⟩ := wN.2.2.2 j q3
          have hUj : nU (barN t b) j = (if j = b then false else nU t j) := rfl
          rw [if_pos (nI_lt q3 (by omega)), nI_1]
          by_cases c1 : j = b
          · rw [if_pos (by rw [c1])]
            exact ih2 (m2 - 1) _ _ (by omega) ⟨j + 1, T3, by omega, rfl, f3, T3', bfR_dn (by rw [hUj, if_pos c1]; decide) B3⟩
          · rw [if_neg (fun z => c1 (nI_inj (by omega) (by omega) z)), m_isUp L3 N3 wN q3, Option.bind_some]
            by_cases c2 : nU t j = true
            · have hup : nU (barN t b) j = true := by rw [hUj, if_neg c1]; exact c2
              have bF := (B3.1.1 _ w1).2
              have bT := (B3.1.1 _ w2).2
              rw [if_neg (fun z => bI_0.mp z c2)]
              dsimp only
              rw [m_costOf L3 N3 wN q3, Option.bind_some]
              dsimp only
              rw [L3.r34, Option.bind_some, m_to L3 N3 wN q3, Option.bind_some]
              dsimp only
              rw [ldI_ok (by rw [L3.n19]; omega) (by omega), Option.bind_some, T3' _ w2, lt_def, L3.r34, Option.bind_some, m_from L3 N3 wN q3, Option.bind_some]
              dsimp only
              rw [ldI_ok (by rw [L3.n19]; omega) (by omega), Option.bind_some, T3' _ w1, nI_add]
              have hS := bfR_up wB hg q3 hup B3
              by_cases c3 : nC t j + T3 (nT t j) < T3 (nF t j)
              · rw [if_pos ((nI_ltI (by omega) (by omega)).mpr c3), L3.r34, Option.bind_some, m_from L3 N3 wN q3, Option.bind_some]
                dsimp only
                rw [stI_ok (by rw [L3.n19]; omega) (by omega), Option.bind_some]
                refine ih2 (m2 - 1) _ _ (by omega) ⟨j + 1, _, by omega, rfl, frm.sI (by decide) f3, fun u hu => ?_, hS⟩
                show _ = nI (if u = nF t j ∧ nC t j + T3 (nT t j) < T3 u then nC t j + T3 (nT t j) else T3 u)
                by_cases q4 : u = nF t j
                · rw [if_pos ⟨q4, by rw [q4]; exact c3⟩, q4, gI_s]
                · rw [if_neg (fun z => q4 z.1), gI_sI_nk q4]; exact T3' u hu
              · rw [if_neg (fun z => c3 ((nI_ltI (by omega) (by omega)).mp z))]
                refine ih2 (m2 - 1) _ _ (by omega) ⟨j + 1, _, by omega, rfl, f3, fun u hu => ?_, hS⟩
                show _ = nI (if u = nF t j ∧ nC t j + T3 (nT t j) < T3 u then nC t j + T3 (nT t j) else T3 u)
                rw [if_neg (fun z => c3 (by have := z.2; rw [z.1] at this; exact this))]
                exact T3' u hu
            · rw [if_pos (bI_0.mpr c2)]
              exact ih2 (m2 - 1) _ _ (by omega) ⟨j + 1, T3, by omega, rfl, f3, T3', bfR_dn (by rw [hUj, if_neg c1]; exact c2) B3⟩
        · have : j = nM t := by omega
          subst this
          rw [if_neg (nI_nlt (Nat.le_refl _) (by omega)), nI_1]
          exact ih (m - 1) _ _ (by omega) ⟨k + 1, T3, by omega, rfl, f3, T3', bfR_end wB hg B3⟩
      · have : k = nN t := by omega
        subst this
        rw [if_neg (nI_nlt (Nat.le_refl _) (by omega))]
        refine Ev_some ⟨f2, fun u hu => ?_⟩
        rw [T2 u hu, bf_end B2 u hu]
  obtain ⟨h', e, z1, z2⟩ := key
  exact ⟨h', e, z1, z2⟩
end RND
