/-! ===== the reference's packet: its course ===== -/
def MKT (h : MH) (e : Bool) (T : List Nat) : Prop := e = true → gI h 0 20 = nI T.length ∧ lrep (gI h 7) 0 T
def MK (h : MH) (t : NT) (s : PK) (H : List Nat) (sh : Bool) (c : Nat) : Prop := (gI h 0 13 = nI H.length ∧ lrep (gI h 6) 0 H.reverse) ∧ gI h 0 14 = nI (pN s) ∧ gI h 0 15 = nI c ∧ gI h 0 16 = 0 ∧ gI h 0 17 = bI (pE s = true) ∧ gI h 0 18 = nI (pH s) ∧ MKT h (pE s) (pT s) ∧ gI h 0 21 = bI (sh = true) ∧ (sh = true → frIs h 8 9 (pA s) (zz t))
def MKE (h : MH) (t : NT) (d : Option Nat) (s : PK) (sh : Bool) : Prop := gI h 0 16 = bI (d ≠ none) ∧ (∀ c, d = some c → gI h 0 15 = nI c) ∧ gI h 0 14 = nI (pN s) ∧ gI h 0 17 = bI (pE s = true) ∧ gI h 0 18 = nI (pH s) ∧ MKT h (pE s) (pT s) ∧ (sh = true → frIs h 8 9 (pA s) (zz t))
section MPK
variable {h : MH} {t : NT} {B : Nat → Option (Nat × List Nat)} {s : PK} {H : List Nat} {sh : Bool} {c : Nat}
theorem m_goesAlong {l : Nat} (w : wfN t) (E : ME h t B) (K : MK h t s H sh c) (hl : l < nM t) (hT : (pT s).length < 700) : ∃ h', f_X11_goesAlong 0 (nI l) h = some h' ∧ frM h h' ∧ MK h' t (nT t l, pE s, pT s ++ [l], pH s, pA s) H sh c := by
  obtain ⟨K1, K2, K3, K4, K5, K6, K7, K8, K9⟩ := K
  unfold f_X11_goesAlong f_X11_goesAlong_27
  rw [K5]
  cases eE : pE s with
  | false =>
    rw [if_pos (bI_0.mpr (by decide)), m_to E.1 E.2.1 w hl, Option.bind_some, lt_def]
    refine ⟨_, rfl, frM.s0 (by decide) frM.rf, ⟨?_, ?_⟩, gI_s _ _ _ _, ?_, ?_, ?_, ?_, fun z => (by cases z), ?_, fun z => (K9 z).cg rfl rfl (fun _ _ => rfl)⟩
    · rw [gI_sI_nk (by decide)]; exact K1.1
    · rw [gI_sI_f (by decide)]; exact K1.2
    · rw [gI_sI_nk (by decide)]; exact K3
    · rw [gI_sI_nk (by decide)]; exact K4
    · rw [gI_sI_nk (by decide), K5, eE]; rfl
    · rw [gI_sI_nk (by decide)]; exact K6
    · rw [gI_sI_nk (by decide)]; exact K8
  | true =>
    obtain ⟨z1, z2⟩ := K7 eE
    rw [if_neg (fun z => bI_0.mp z rfl), E.1.r19, Option.bind_some, z1, stI_ok (by rw [E.1.n7]; exact hT) (by omega), Option.bind_some, lt_def, gI_sI_ne (by decide), z1, nI_1]
    have f1 : frm [0, 7] h (sI (sI h 7 (pT s).length (nI l)) 0 20 (nI ((pT s).length + 1))) := frm.sI (by decide) (frm.sI (by decide) frm.rf)
    have E1 : ME (sI (sI h 7 (pT s).length (nI l)) 0 20 (nI ((pT s).length + 1))) t B := E.fr f1 (by decide)
    rw [m_to E1.1 E1.2.1 w hl, Option.bind_some, lt_def]
    have g : ∀ k, k ≠ 14 → k ≠ 20 → gI (sI (sI (sI h 7 (pT s).length (nI l)) 0 20 (nI ((pT s).length + 1))) 0 14 (nI (nT t l))) 0 k = gI h 0 k := fun k h1 h2 => by
      rw [gI_sI_nk h1, gI_sI_nk h2, gI_sI_ne (by decide)]
    refine ⟨_, rfl, frM.s0 (by decide) (frM.s0 (by decide) (frM.sb (by decide) (by decide) frM.rf)), ⟨?_, ?_⟩, gI_s _ _ _ _, ?_, ?_, ?_, ?_, fun _ => ⟨?_, ?_⟩, ?_, fun z => (K9 z).cg rfl rfl (fun _ _ => rfl)⟩
    · rw [g 13 (by decide) (by decide)]; exact K1.1
    · rw [gI_sI_f (by decide), gI_sI_f (by decide), gI_sI_f (by decide)]; exact K1.2
    · rw [g 15 (by decide) (by decide)]; exact K3
    · rw [g 16 (by decide) (by decide)]; exact K4
    · rw [g 17 (by decide) (by decide), K5, eE]; rfl
    · rw [g 18 (by decide) (by decide)]; exact K6
    · rw [gI_sI_nk (by decide), gI_s]
      show _ = nI (pT s ++ [l]).length
      rw [List.length_append]; rfl
    · show lrep _ 0 (pT s ++ [l])
      refine lrep.up (g := gI h 7) (x := nI l) (fun i => ?_) rfl z2
      rw [gI_sI_ne (by decide), gI_sI_ne (by decide), gI_sI, Nat.zero_add]
      by_cases q : i = (pT s).length
      · rw [if_pos ⟨rfl, q⟩, if_pos q]
      · rw [if_neg (fun z => q z.2), if_neg q]
    · rw [g 21 (by decide) (by decide)]; exact K8
theorem m_l90 {v l : Nat} {k73 : Unit → MH → Option MH} {Post : MH → Prop} (w : wfN t) (E : ME h t B) (K : MK h t s H sh c) (hv : v < nN t) (hu : pN s < nN t) (hT : (pT s).length < 700) (hl : fstB (onB t v (pN s)) (nM t) = some l) (hk : ∀ h', frM h h' → MK h' t (nT t l, pE s, pT s ++ [l], pH s, pA s) H sh c → Ev (k73 () h') Post) : Ev (f_X11_goesTo_90 k73 0 (nI v) FU 0 h) Post := by
  obtain ⟨l1, l2, l3⟩ := fstB_some hl
  have hm30 := w.2.2.1
  unfold f_X11_goesTo_90
  refine Ev_FU (fun m p h1 => ∃ i, i + m = l ∧ p = nI i ∧ h1 = h) l 0 h (by omega) ⟨0, by omega, rfl, rfl⟩ ?_
  rintro m p h1 rec ⟨i, hi, rfl, rfl⟩ ih
  unfold f_X11_goesTo_90b
  rw [K.2.1, m_isOnE w E (by omega) hu hv, Option.bind_some]
  by_cases q : i = l
  · subst q
    rw [if_neg (fun z => bI_0.mp z l2)]
    dsimp only
    obtain ⟨h2, e, f, K'⟩ := m_goesAlong w E K l1 hT
    rw [e, Option.bind_some]
    exact hk h2 f K'
  · rw [if_pos (bI_0.mpr (by rw [l3 i (by omega)]; decide)), lt_def, nI_1]
    exact ih (m - 1) _ _ (by omega) ⟨i + 1, by omega, rfl, rfl⟩
theorem m_walk {v : Nat} (w : wfN t) (E : ME h t B) (K : MK h t s H sh c) (hv : v < nN t) (hu : pN s < nN t) (hT : (pT s).length ≤ 640) (hc : pE s = true → cnt t v (pN s) = 1) : Ev (f_X11_goesTo_73 0 (nI v) FU () h) (fun h' => frM h h' ∧ MK h' t (v, pE s, pT s ++ sp t v (pN s), pH s, pA s) H sh c) := by
  have hn10 := w.2.1
  have h9 := sp_len (v := v) w hu
  -- the end
  have fin : ∀ (h1 : MH) (s1 : PK), frM h h1 → MK h1 t s1 H sh c → pE s1 = pE s → (pE s = true → pT s1 = pT s ++ sp t v (pN s)) → pH s1 = pH s → pA s1 = pA s → Ev (f_X11_goesTo_118 0 (nI v) h1) (fun h' => frM h h' ∧ MK h' t (v, pE s, pT s ++ sp t v (pN s), pH s, pA s) H sh c) := fun h1 s1 f K' e1 e2 e3 e4 => by
    obtain ⟨K1, K2, K3, K4, K5, K6, K7, K8, K9⟩ := K'
    unfold f_X11_goesTo_118
    rw [lt_def]
    refine Ev_some ⟨frM.s0 (by decide) f, ⟨?_, ?_⟩, gI_s _ _ _ _, ?_, ?_, ?_, ?_, fun z => ?_, ?_, fun z => ?_⟩
    · rw [gI_sI_nk (by decide)]; exact K1.1
    · rw [gI_sI_f (by decide)]; exact K1.2
    · rw [gI_sI_nk (by decide)]; exact K3
    · rw [gI_sI_nk (by decide)]; exact K4
    · rw [gI_sI_nk (by decide), K5, e1]; rfl
    · rw [gI_sI_nk (by decide), K6, e3]; rfl
    · have hz : pE s = true := z
      have := K7 (by rw [e1]; exact hz)
      rw [e2 hz] at this
      rw [gI_sI_nk (by decide), gI_sI_f (by decide)]
      exact this
    · rw [gI_sI_nk (by decide)]; exact K8
    · have := K9 z
      rw [e4] at this
      exact this.cg rfl rfl (fun _ _ => rfl)
  unfold f_X11_goesTo_73
  refine Ev_FU (fun m p h1 => ∃ i u D, i + m = 10 ∧ frM h h1 ∧ MK h1 t (u, pE s, pT s ++ D, pH s, pA s) H sh c ∧ u < nN t ∧ (pE s = true → cnt t v u = 1 ∧ sp t v (pN s) = D ++ sp t v u ∧ D.length = i)) 10 () h (by omega) ⟨0, pN s, [], by omega, frM.rf, ?_, hu, fun z => ⟨hc z, rfl, rfl⟩⟩ ?_
  · rw [List.append_nil]; exact K
  · rintro m ⟨⟩ h1 rec ⟨i, u, D, hi, f, K1, hu1, hD⟩ ih
    have E1 : ME h1 t B := E.fr f.1 (fun _ z => z)
    unfold f_X11_goesTo_73b
    rw [K1.2.2.2.2.1]
    show Ev (if bI (pE s = true) = 0 then _ else _) _
    cases eE : pE s with
    | false =>
      rw [if_pos (bI_0.mpr (by decide))]
      have := fin h1 _ f K1 rfl (fun z => by rw [eE] at z; cases z) rfl rfl
      rw [eE] at this
      exact this
    | true =>
      obtain ⟨d1, d2, d3⟩ := hD eE
      rw [if_neg (fun z => bI_0.mp z rfl), K1.2.1]
      show Ev (if nI u = nI v then _ else _) _
      by_cases q : u = v
      · subst q
        rw [if_pos rfl]
        rw [sp_v, List.append_nil] at d2
        have := fin h1 _ f K1 rfl (fun _ => by rw [d2]; rfl) rfl rfl
        rw [eE] at this
        exact this
      · rw [if_neg (fun z => q (nI_inj (by omega) (by omega) z))]
        obtain ⟨l, l1, l2, l3, l4, l5, l6⟩ := sole_on w hv hu1 q d1
        have o := on_near w l1 l2
        have hsp2 := sp_cons w hu1 q l4
        have hlen := congrArg List.length d2
        rw [List.length_append, hsp2, List.length_cons] at hlen
        refine m_l90 w E1 K1 hv hu1 ?_ l4 (fun h2 f2 K2 => ?_)
        · show (pT s ++ D).length < 700
          rw [List.length_append]; omega
        · have := ih (m - 1) () h2 (by omega) ⟨i + 1, nT t l, D ++ [l], by omega, frM.tr f f2, ?_, o.2.1, fun _ => ⟨l6, ?_, ?_⟩⟩
          · rw [eE] at this
            exact this
          · rw [← List.append_assoc]; exact K2
          · rw [d2, hsp2, List.append_assoc]; rfl
          · rw [List.length_append, d3]; rfl
theorem MK.ex (K : MK h t s H sh c) (e : Bool) (he : e = true → pE s = true) : MK (sI h 0 17 (bI (e = true))) t (pN s, e, pT s, pH s, pA s) H sh c := by
  obtain ⟨K1, K2, K3, K4, K5, K6, K7, K8, K9⟩ := K
  refine ⟨⟨?_, ?_⟩, ?_, ?_, ?_, gI_s _ _ _ _, ?_, fun z => ?_, ?_, fun z => (K9 z).cg rfl rfl (fun _ _ => rfl)⟩
  · rw [gI_sI_nk (by decide)]; exact K1.1
  · rw [gI_sI_f (by decide)]; exact K1.2
  · rw [gI_sI_nk (by decide)]; exact K2
  · rw [gI_sI_nk (by decide)]; exact K3
  · rw [gI_sI_nk (by decide)]; exact K4
  · rw [gI_sI_nk (by decide)]; exact K6
  · rw [gI_sI_nk (by decide), gI_sI_f (by decide)]; exact K7 (he z)
  · rw [gI_sI_nk (by decide)]; exact K8
/-- a label that drops the packet -/
def MKD (h : MH) (t : NT) (s : PK) (sh : Bool) (c : Nat) : Prop := gI h 0 16 = 1 ∧ gI h 0 15 = nI c ∧ gI h 0 14 = nI (pN s) ∧ gI h 0 18 = nI (pH s) ∧ (sh = true → frIs h 8 9 (pA s) (zz t))
theorem MK.drop (K : MK h t s H sh c) : MKD (sI h 0 16 1) t s sh c := by
  obtain ⟨K1, K2, K3, K4, K5, K6, K7, K8, K9⟩ := K
  refine ⟨gI_s _ _ _ _, ?_, ?_, ?_, fun z => (K9 z).cg rfl rfl (fun _ _ => rfl)⟩
  · rw [gI_sI_nk (by decide)]; exact K3
  · rw [gI_sI_nk (by decide)]; exact K2
  · rw [gI_sI_nk (by decide)]; exact K6
theorem m_goesTo {x : Nat} (w : wfN t) (E : ME h t B) (K : MK h t s H sh c) (hx : x < 10) (hu : pN s < nN t) (hT : (pT s).length ≤ 640) (hA : ∀ l, pA s l ≤ c * zz t) (hc84 : c ≤ 84) : Ev (f_X11_goesTo 0 (nI x) h) (fun h' => frM h h' ∧ (((x < nN t ∧ dist t x (pN s) < 1000000) ∧ MK h' t (pkNode t x s) H sh c) ∨ (¬ (x < nN t ∧ dist t x (pN s) < 1000000) ∧ MKD h' t s sh c))) := by
  have hn10 := w.2.1
  unfold f_X11_goesTo
  rw [K.2.1]
  by_cases q0 : x = pN s
  · rw [if_pos (by rw [q0])]
    have e0 : dist t x x = 0 := (dist_bel w (by omega)).1
    refine Ev_some ⟨frM.rf, Or.inl ⟨⟨by omega, by rw [← q0, e0]; decide⟩, ?_⟩⟩
    obtain ⟨K1, K2, K3, K4, K5, K6, K7, K8, K9⟩ := K
    have e1 : pE (pkNode t x s) = pE s := by
      show (pE s && decide (cnt t x (pN s) = 1)) = pE s
      rw [← q0, cnt_self]; simp
    have e2 : pT (pkNode t x s) = pT s := by
      show pT s ++ sp t x (pN s) = pT s
      rw [← q0, sp_v, List.append_nil]
    refine ⟨K1, ?_, K3, K4, by rw [e1]; exact K5, K6, by rw [e1, e2]; exact K7, K8, fun z => (K9 z).cg rfl rfl (fun l _ => ?_)⟩
    · show _ = nI x
      rw [q0]; exact K2
    · show pA s l + flow t x (pN s) (zz t) l = _
      rw [← q0, flow_v w (by omega)]; rfl
  · rw [if_neg (fun z => q0 (nI_inj (by omega) (by omega) z)), m_isNode E.1 E.2.1 w, Option.bind_some, nI_toInt (by omega)]
    unfold f_X11_goesTo_31
    dsimp only
    by_cases c1 : x < nN t
    · have hb : dist t x (pN s) ≤ 1000000 := (dist_bel w c1).2.1 _ hu
      rw [if_neg (fun z => bI_0.mp z (by omega)), K.2.1, m_far2 w E.1 E.2.2.2 hu c1, Option.bind_some]
      dsimp only
      by_cases c2 : dist t x (pN s) < 1000000
      · rw [if_pos (show nI (dist t x (pN s)) < 1000000 from (nI_ltI (by omega) (by decide)).mpr c2), E.1.r9, Option.bind_some, K.2.1, ix10', ldL_ok (by rw [E.1.n5]; omega) (by omega), Option.bind_some, (E.2.2.2 (pN s) x hu c1).2]
        have hz := zz_le w
        -- what follows, once it is known whether it stays exact
        have rest : ∀ (h1 : MH) (e : Bool), frM h h1 → MK h1 t (pN s, e, pT s, pH s, pA s) H sh c → e = (pE s && decide (cnt t x (pN s) = 1)) → Ev (f_X11_goesTo_61 0 (nI x) h1) (fun h' => frM h h' ∧ (((x < nN t ∧ dist t x (pN s) < 1000000) ∧ MK h' t (pkNode t x s) H sh c) ∨ (¬ (x < nN t ∧ dist t x (pN s) < 1000000) ∧ MKD h' t s sh c))) := fun h1 e f K1 he => by
          have E1 : ME h1 t B := E.fr f.1 (fun _ z => z)
          have hce : e = true → cnt t x (pN s) = 1 := fun z => by
            rw [z] at he
            have := he.symm
            simp at this
            exact this.2
          unfold f_X11_goesTo_61
          rw [K1.2.2.2.2.2.2.2.1]
          cases esh : sh with
          | false =>
            rw [if_pos (bI_0.mpr (by decide))]
            rw [esh] at K1
            refine Ev_mono (m_walk (s := (pN s, e, pT s, pH s, pA s)) w E1 K1 c1 hu hT hce) (fun h2 z => ⟨frM.tr f z.1, Or.inl ⟨⟨c1, c2⟩, ?_⟩⟩)
            obtain ⟨J1, J2, J3, J4, J5, J6, J7, J8, J9⟩ := z.2
            subst he
            exact ⟨J1, J2, J3, J4, J5, J6, J7, J8, fun z => by cases z⟩
          | true =>
            rw [if_neg (fun z => bI_0.mp z rfl)]
            rw [esh] at K1
            obtain ⟨J1, J2, J3, J4, J5, J6, J7, J8, J9⟩ := K1
            refine Ev_to (m_parts w E1 c1 hu J2 c2 (J9 rfl) (fun l => ?_)) (fun h2 z => ?_)
            · have h3 := hA l
              have h4 : c * zz t ≤ 84 * zz t := Nat.mul_le_mul_right _ hc84
              show pA s l + zz t < 2 ^ 62
              omega
            · obtain ⟨z1, z2, z3⟩ := z
              have E2 : ME h2 t B := E1.fr z1 (fun _ z => z)
              have K2 : MK h2 t (pN s, e, pT s, pH s, fun l => pA s l + flow t x (pN s) (zz t) l) H true c := by
                refine ⟨?_, ?_, ?_, ?_, ?_, ?_, ?_, ?_, fun _ => z3⟩
                all_goals (try unfold MKT)
                all_goals rw [z2]
                · exact J1
                · exact J2
                · exact J3
                · exact J4
                · exact J5
                · exact J6
                · exact J7
                · exact J8
              refine Ev_mono (m_walk (s := (pN s, e, pT s, pH s, fun l => pA s l + flow t x (pN s) (zz t) l)) w E2 K2 c1 hu hT hce) (fun h3 z => ⟨frM.tr (frM.tr f (frM.of z1 (fun _ z => z) z2)) z.1, Or.inl ⟨⟨c1, c2⟩, ?_⟩⟩)
              have := z.2
              subst he
              exact this
        by_cases c3 : cnt t x (pN s) = 1
        · rw [if_pos ((cnt_is1 w c1 hu).mpr c3)]
          exact rest h (pE s) frM.rf K (by simp [c3])
        · rw [if_neg (fun z => c3 ((cnt_is1 w c1 hu).mp z)), lt_def]
          exact rest _ false (frM.s0 (by decide) frM.rf) (K.ex false (fun z => by cases z)) (by simp [c3])
      · rw [if_neg (show ¬ nI (dist t x (pN s)) < 1000000 from fun z => c2 ((nI_ltI (by omega) (by decide)).mp z)), lt_def]
        exact Ev_some ⟨frM.s0 (by decide) frM.rf, Or.inr ⟨fun z => c2 z.2, K.drop⟩⟩
    · rw [if_pos (bI_0.mpr (by omega)), lt_def]
      exact Ev_some ⟨frM.s0 (by decide) frM.rf, Or.inr ⟨fun z => c1 z.1, K.drop⟩⟩
theorem m_goesBy {l : Nat} (w : wfN t) (E : ME h t B) (K : MK h t s H sh c) (hl : l < 30) (hu : pN s < nN t) (hT : (pT s).length ≤ 640) (hA : ∀ l, pA s l ≤ c * zz t) (hc84 : c ≤ 84) : Ev (f_X11_goesBy 0 (nI l) h) (fun h' => frM h h' ∧ (((l < nM t ∧ nU t l = true ∧ nF t l = pN s) ∧ MK h' t (pkLink t l s) H sh c) ∨ (¬ (l < nM t ∧ nU t l = true ∧ nF t l = pN s) ∧ MKD h' t s sh c))) := by
  have hn10 := w.2.1
  have hz := zz_le w
  unfold f_X11_goesBy f_X11_goesBy_28 f_X11_goesBy_48
  rw [m_isLink E.1 E.2.1 w, Option.bind_some, nI_toInt (by omega)]
  by_cases c1 : l < nM t
  · obtain ⟨w1, w2, w3, w4, w5⟩ := w.2.2.2 l c1
    rw [if_neg (fun z => bI_0.mp z (by omega))]
    dsimp only
    rw [m_isUp E.1 E.2.1 w c1, Option.bind_some]
    by_cases c2 : nU t l = true
    · rw [if_neg (fun z => bI_0.mp z c2)]
      dsimp only
      rw [m_from E.1 E.2.1 w c1, Option.bind_some]
      dsimp only
      rw [K.2.1]
      by_cases c3 : nF t l = pN s
      · rw [if_pos (by rw [c3]), K.2.2.2.2.2.2.2.1]
        cases esh : sh with
        | false =>
          rw [if_pos (bI_0.mpr (by decide))]
          rw [esh] at K
          obtain ⟨h1, e1, f1, K1⟩ := m_goesAlong w E K c1 (by omega)
          rw [e1, Option.bind_some]
          obtain ⟨J1, J2, J3, J4, J5, J6, J7, J8, J9⟩ := K1
          exact Ev_some ⟨f1, Or.inl ⟨⟨c1, c2, c3⟩, ⟨J1, J2, J3, J4, J5, J6, J7, J8, fun z => by cases z⟩⟩⟩
        | true =>
          rw [if_neg (fun z => bI_0.mp z rfl)]
          rw [esh] at K
          obtain ⟨J1, J2, J3, J4, J5, J6, J7, J8, J9⟩ := K
          obtain ⟨h1, e1, f1, g1, A1⟩ := m_shares (l := l) (c := 1) (d := 1) (D := zz t) w E hl (J9 rfl) (by decide) (by
            have h3 := hA l
            have h4 : c * zz t ≤ 84 * zz t := Nat.mul_le_mul_right _ hc84
            omega) (by rw [Nat.one_mul, Nat.mul_one]) (Nat.one_dvd _)
          rw [show f_X11_shares 0 (nI l) 1 1 h = some h1 from e1, Option.bind_some]
          have E1 : ME h1 t B := E.fr f1 (by decide)
          have K1 : MK h1 t (pN s, pE s, pT s, pH s, fun j => if j = l then pA s l + zz t else pA s j) H true c := by
            refine ⟨?_, ?_, ?_, ?_, ?_, ?_, ?_, ?_, fun _ => A1⟩
            all_goals (try unfold MKT)
            all_goals rw [g1]
            · exact J1
            · exact J2
            · exact J3
            · exact J4
            · exact J5
            · exact J6
            · exact J7
            · exact J8
          obtain ⟨h2, e2, f2, K2⟩ := m_goesAlong w E1 K1 c1 (by show (pT s).length < 700; omega)
          rw [e2, Option.bind_some]
          exact Ev_some ⟨frM.tr (frM.of f1 (by decide) g1) f2, Or.inl ⟨⟨c1, c2, c3⟩, K2⟩⟩
      · rw [if_neg (fun z => c3 (nI_inj (by omega) (by omega) z)), lt_def]
        exact Ev_some ⟨frM.s0 (by decide) frM.rf, Or.inr ⟨fun z => c3 z.2.2, K.drop⟩⟩
    · rw [if_pos (bI_0.mpr c2), lt_def]
      exact Ev_some ⟨frM.s0 (by decide) frM.rf, Or.inr ⟨fun z => c2 z.2.1, K.drop⟩⟩
  · rw [if_pos (bI_0.mpr (by omega)), lt_def]
    exact Ev_some ⟨frM.s0 (by decide) frM.rf, Or.inr ⟨fun z => c1 z.1, K.drop⟩⟩
end MPK
