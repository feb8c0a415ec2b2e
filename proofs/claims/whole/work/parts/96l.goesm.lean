/-! ===== the reference's packet: begun, and to its end ===== -/
section MG2
variable {h : MH} {t : NT} {B : Nat → Option (Nat × List Nat)}
theorem m_holds {la o hi : Nat} {ks H : List Nat} (L : ML h) (h0 : la ≠ 0) (h6 : la ≠ 6) (hl : lrep (gI h la) o ks) (ho : o + ks.length ≤ gN h la) (hN : gN h la < 2 ^ 31) (hH : ks.length + H.length ≤ 24) (e13 : gI h 0 13 = nI H.length) (eH : lrep (gI h 6) 0 H.reverse) (e18 : gI h 0 18 = nI hi) (hhi : hi ≤ 24) : Ev (f_X11_holds 0 la (nI o) (nI ks.length) h) (fun h' => frm [0, 6] h h' ∧ (∀ k, k ≠ 13 → k ≠ 18 → gI h' 0 k = gI h 0 k) ∧ gL h' = gL h ∧ gI h' 0 13 = nI (ks ++ H).length ∧ lrep (gI h' 6) 0 (ks ++ H).reverse ∧ gI h' 0 18 = nI (max hi (ks ++ H).length)) := by
  unfold f_X11_holds f_X11_holds_5
  rw [lt_def, pI_sub]
  refine Ev_FU (fun m p h1 => ∃ k, k + m = ks.length ∧ p = pI m ∧ frm [0, 6] h h1 ∧ (∀ j, j ≠ 13 → gI h1 0 j = gI h 0 j) ∧ gL h1 = gL h ∧ gI h1 0 13 = nI (H.length + k) ∧ lrep (gI h1 6) 0 (H.reverse ++ ks.reverse.take k)) ks.length (pI ks.length) h (by omega) ⟨0, by omega, rfl, frm.rf, fun _ _ => rfl, rfl, e13, by rw [List.take_zero, List.append_nil]; exact eH⟩ ?_
  rintro m p h1 rec ⟨k, hk, rfl, f, g0, gl, g4, gr⟩ ih
  have L1 : ML h1 := L.fr f
  unfold f_X11_holds_5b
  cases m with
  | zero =>
    have hk' : k = ks.length := by omega
    subst hk'
    have elen : (ks ++ H).length = H.length + ks.length := by rw [List.length_append, Nat.add_comm]
    have gr' : lrep (gI h1 6) 0 (ks ++ H).reverse := by
      rw [List.take_of_length_le (by rw [List.length_reverse]; exact Nat.le_refl _)] at gr
      rw [List.reverse_append]; exact gr
    rw [if_pos (show pI 0 < 0 by decide), g0 18 (by decide), e18, g4]
    by_cases q : hi < H.length + ks.length
    · rw [if_pos (nI_lt q (by omega)), lt_def]
      refine Ev_some ⟨frm.sI (by decide) f, fun j h1 h2 => by rw [gI_sI_nk h2]; exact g0 j h1, gl, ?_, ?_, ?_⟩
      · rw [gI_sI_nk (by decide), g4, elen]
      · rw [gI_sI_f (by decide)]; exact gr'
      · rw [gI_s, elen, Nat.max_eq_right (by omega)]
    · rw [if_neg (nI_nlt (by omega) (by omega))]
      refine Ev_some ⟨f, fun j h1 h2 => g0 j h1, gl, by rw [g4, elen], gr', ?_⟩
      rw [g0 18 (by decide), e18, elen, Nat.max_eq_left (by omega)]
  | succ m =>
    rw [pI_s, if_neg (nI_nn (by omega)), L1.r12, Option.bind_some, nI_add, ldI_ok (by rw [f.2.2.2.1]; omega) (by omega), Option.bind_some, g4, stI_ok (by rw [L1.n6]; omega) (by omega), Option.bind_some, lt_def, gI_sI_ne (by decide), g4, nI_1, pI_add]
    refine ih m _ _ (by omega) ⟨k + 1, by omega, rfl, frm.sI (by decide) (frm.sI (by decide) f), fun j hj => by rw [gI_sI_nk hj, gI_sI_ne (by decide)]; exact g0 j hj, gl, by rw [gI_s]; rfl, ?_⟩
    rw [rev_take (by omega), ← List.append_assoc]
    refine lrep.up (g := gI h1 6) (x := gI h1 la (o + m)) (fun i => ?_) ?_ gr
    · rw [gI_sI_ne (by decide), gI_sI]
      have e : (H.reverse ++ List.take k ks.reverse).length = H.length + k := by
        rw [List.length_append, List.length_reverse, List.length_take, List.length_reverse]; omega
      rw [e, Nat.zero_add]
      by_cases qi : i = H.length + k
      · rw [if_pos ⟨rfl, qi⟩, if_pos qi]
      · rw [if_neg (fun z => qi z.2), if_neg qi]
    · rw [show ks.length - 1 - k = m by omega, f.1 la (by simp; exact ⟨h0, h6⟩)]
      exact hl m (by omega)
theorem m_opens {b c : Nat} {s : PK} {H : List Nat} {sh : Bool} (w : wfN t) (wB : wfB t B) (E : ME h t B) (K : MK h t s H sh c) (hb : b < 6) (hu : pN s < nN t) (hH : H.length ≤ 11) (hp : pH s ≤ 17) : Ev (f_X11_opens 0 (nI b) h) (fun h' => frM h h' ∧ ((∃ y, B b = some y ∧ y.1 = pN s ∧ MK h' t (pkBind (y.2 ++ H) s) (y.2 ++ H) sh c) ∨ ((∀ y, B b = some y → y.1 ≠ pN s) ∧ MKD h' t s sh c))) := by
  have hn10 := w.2.1
  obtain ⟨L, N, BM, R⟩ := E
  unfold f_X11_opens f_X11_opens_26
  rw [m_isBinding, Option.bind_some, nI_toInt (by omega), if_neg (fun z => bI_0.mp z (by omega))]
  dsimp only
  rw [L.r1, Option.bind_some, show (122 : Int32) + nI b = nI (122 + b) from nI_add 122 b, m_now L (by omega), Option.bind_some, K.2.1, nI_1]
  have XB := BM b hb
  cases eB : B b with
  | none =>
    rw [XB.1 eB, if_neg (fun z => by have := nI_inj (a := 0) (b := pN s + 1) (by omega) (by omega) z; omega), lt_def]
    exact Ev_some ⟨frM.s0 (by decide) frM.rf, Or.inr ⟨fun y hy => (by cases hy), K.drop⟩⟩
  | some y =>
    obtain ⟨y1, y2, y3⟩ := XB.2 y eB
    obtain ⟨b1, b2, b3, b4⟩ := wB b hb y eB
    rw [y1]
    by_cases c1 : y.1 = pN s
    · rw [if_pos (by rw [c1]), show (128 : Int32) + nI b = nI (128 + b) from nI_add 128 b, show (134 : Int32) + 6 * nI b = nI (134 + 6 * b) from by
        show nI 134 + nI 6 * nI b = _
        rw [pk_mul, nI_add], Option.bind_some, Option.bind_some, m_now L (by omega), Option.bind_some, y2]
      obtain ⟨K1, K2, K3, K4, K5, K6, K7, K8, K9⟩ := K
      refine Ev_to (m_holds (ks := y.2) (H := H) L (by decide) (by decide) y3 (by rw [L.n1]; omega) (by rw [L.n1]; decide) (by omega) K1.1 K1.2 K6 (by omega)) (fun h1 z => ?_)
      obtain ⟨z1, z2, z3, z4, z5, z6⟩ := z
      refine Ev_some ⟨⟨z1.up (by decide), fun k hk => z2 k (fun e => hk (by rw [e]; decide)) (fun e => hk (by rw [e]; decide))⟩, Or.inl ⟨y, rfl, c1, ⟨z4, z5⟩, ?_, ?_, ?_, ?_, z6, fun he => ?_, ?_, fun he => (K9 he).cg (congrFun z3 _) (congrFun z3 _) (fun _ _ => rfl)⟩⟩
      · rw [z2 14 (by decide) (by decide)]; exact K2
      · rw [z2 15 (by decide) (by decide)]; exact K3
      · rw [z2 16 (by decide) (by decide)]; exact K4
      · rw [z2 17 (by decide) (by decide)]; exact K5
      · rw [z2 20 (by decide) (by decide), z1.1 7 (by decide)]; exact K7 he
      · rw [z2 21 (by decide) (by decide)]; exact K8
    · rw [if_neg (fun z => c1 (by have := nI_inj (by omega) (by omega) z; omega)), lt_def]
      exact Ev_some ⟨frM.s0 (by decide) frM.rf, Or.inr ⟨fun y' hy' => by rw [← Option.some.inj hy']; exact c1, K.drop⟩⟩
theorem m_begins {u : Nat} {sh : Bool} (L : ML h) (e21 : gI h 0 21 = bI (sh = true)) : Ev (f_X11_begins 0 (nI u) h) (fun h' => frM h h' ∧ MK h' t (u, true, [], 0, fun _ => 0) [] sh 0) := by
  unfold f_X11_begins
  simp only [lt_def]
  generalize hh : sI (sI (sI (sI (sI (sI (sI h 0 13 0) 0 14 (nI u)) 0 15 0) 0 16 0) 0 17 1) 0 18 0) 0 20 0 = h7
  have f7 : frM h h7 := by
    rw [← hh]
    exact frM.s0 (by decide) (frM.s0 (by decide) (frM.s0 (by decide) (frM.s0 (by decide) (frM.s0 (by decide) (frM.s0 (by decide) (frM.s0 (by decide) frM.rf))))))
  have L7 : ML h7 := L.fr f7.1
  have k13 : gI h7 0 13 = 0 := by rw [← hh]; rfl
  have k14 : gI h7 0 14 = nI u := by rw [← hh]; rfl
  have k15 : gI h7 0 15 = 0 := by rw [← hh]; rfl
  have k16 : gI h7 0 16 = 0 := by rw [← hh]; rfl
  have k17 : gI h7 0 17 = 1 := by rw [← hh]; rfl
  have k18 : gI h7 0 18 = 0 := by rw [← hh]; rfl
  have k20 : gI h7 0 20 = 0 := by rw [← hh]; rfl
  have k21 : gI h7 0 21 = bI (sh = true) := by rw [← hh]; exact e21
  unfold f_X11_begins_37
  refine Ev_FU (fun m p h1 => ∃ i, i + m = 30 ∧ p = nI i ∧ frm [8, 9] h7 h1 ∧ gI h1 = gI h7 ∧ ∀ l, l < i → gL h1 8 l = 0 ∧ gL h1 9 l = 1) 30 0 h7 (by omega) ⟨0, by omega, rfl, frm.rf, rfl, fun l hl => absurd hl (Nat.not_lt_zero _)⟩ ?_
  rintro m p h1 rec ⟨i, hi, rfl, f, gi, hz⟩ ih
  have L1 : ML h1 := L7.fr f
  unfold f_X11_begins_37b
  by_cases q : i < 30
  · rw [if_pos (show nI i < 30 from (nI_ltI (b := 30) (by omega) (by decide)).mpr q), L1.r22, Option.bind_some, stL_ok (by rw [L1.n8]; exact q) (by omega), Option.bind_some, show gR (sL h1 8 i 0) 0 23 = some 9 from L1.r23, Option.bind_some, stL_ok (by rw [gN_sL, L1.n9]; exact q) (by omega), Option.bind_some, nI_1]
    refine ih (m - 1) _ _ (by omega) ⟨i + 1, by omega, rfl, frm.sL (by decide) (frm.sL (by decide) f), gi, fun l hl => ?_⟩
    by_cases q2 : l = i
    · rw [q2, gL_s, gL_sL_ne (by decide), gL_s]; exact ⟨rfl, rfl⟩
    · refine ⟨?_, ?_⟩
      · rw [gL_sL_ne (by decide), gL_sL, if_neg (fun z => q2 z.2)]; exact (hz l (by omega)).1
      · rw [gL_sL, if_neg (fun z => q2 z.2), gL_sL_ne (by decide)]; exact (hz l (by omega)).2
  · rw [if_neg (show ¬ nI i < 30 from fun z => q ((nI_ltI (b := 30) (by omega) (by decide)).mp z))]
    refine Ev_some ⟨frM.tr f7 (frM.of f (by decide) gi), ⟨?_, fun i hi => by simp at hi⟩, ?_, ?_, ?_, ?_, ?_, fun _ => ⟨?_, fun i hi => by simp [pT] at hi⟩, ?_, fun _ l hl => ?_⟩
    · rw [gi, k13]; rfl
    · rw [gi, k14]; rfl
    · rw [gi, k15]; rfl
    · rw [gi, k16]
    · rw [gi, k17]; rfl
    · rw [gi, k18]; rfl
    · rw [gi, k20]; rfl
    · rw [gi, k21]
    · show _ = lN (fa 0 (zz t)) ∧ _ = lN (fb 0 (zz t))
      rw [(fa_0 zz_pos).1, (fa_0 zz_pos).2]
      exact hz l (by omega)
theorem m_goesAll4 {ks : List Nat} {u : Nat} {sh : Bool} (w : wfN t) (wB : wfB t B) (E : ME h t B) (hu : u < nN t) (hk : stkOK ks) (K0 : MK h t (u, true, [], ks.length, fun _ => 0) ks sh 0) : Ev (f_X11_goesAll_4 0 FU () h) (fun h' => frM h h' ∧ MKE h' t (pkt t B u ks).1 (pkt t B u ks).2 sh) := by
  unfold f_X11_goesAll_4
  refine Ev_FU (fun m p h1 => frM h h1 ∧ ((∃ c H s, c + m = 86 ∧ MK h1 t s H sh c ∧ pkOK t c H s ∧ pkRun t B (85 - c) c H s = pkt t B u ks) ∨ (∃ c s, MKD h1 t s sh c ∧ pkt t B u ks = (some c, pkDrop s)))) 86 () h (by omega) ⟨frM.rf, Or.inl ⟨0, ks, _, by omega, K0, pkOK_0 hu hk, rfl⟩⟩ ?_
  rintro m ⟨⟩ h1 rec ⟨f, hI⟩ ih
  have E1 : ME h1 t B := E.fr f.1 (fun _ z => z)
  rcases hI with ⟨c, H, s, hc, K, O, e⟩ | ⟨c, s, D, e⟩
  · unfold f_X11_goesAll_4b f_X11_goesAll_99
    have hlen := okH_len O.1
    obtain ⟨⟨K1a, K1b⟩, K2, K3, K4, K5, K6, K7, K8, K9⟩ := K
    rw [K1a]
    cases H with
    | nil =>
      rw [if_neg (show ¬ (0 : Int32) < nI ([] : List Nat).length by decide), K4, if_pos rfl]
      rw [pkRun_nil] at e
      rw [← e]
      refine Ev_some ⟨f, ?_, fun c hc => (by cases hc), K2, K5, K6, K7, K9⟩
      rw [K4]; rfl
    | cons x H =>
      rw [List.length_cons] at hlen K1a ⊢
      obtain ⟨O1, O2, O3, O4, O5, O6, O7, O8⟩ := O
      have hx := okH_lab O1
      obtain ⟨t1, t2⟩ := okH_tl O1
      have hw7 : wtL 7 (x :: H) = (if x < 200 then 1 else 7) + wtL 7 H := rfl
      have hw6 : wtL 6 (x :: H) = (if x < 200 then 1 else 6) + wtL 6 H := rfl
      have hc84 : c < 84 := by
        rw [hw7] at O2
        split at O2 <;> omega
      rw [if_pos (show (0 : Int32) < nI (H.length + 1) from nI_lt (a := 0) (by omega) (by omega)), K4, if_pos rfl, lt_def, pI_sub, pI_s]
      have f1 : frm [0] h1 (sI h1 0 13 (nI H.length)) := frm.sI (by decide) frm.rf
      have fM1 : frM h (sI h1 0 13 (nI H.length)) := frM.s0 (by decide) f
      have E2 : ME (sI h1 0 13 (nI H.length)) t B := E1.fr f1 (by decide)
      rw [List.reverse_cons] at K1b
      have Kx : gI h1 6 H.length = nI x := by
        have := K1b H.length (by rw [List.length_append, List.length_reverse]; simp)
        rw [Nat.zero_add, getD_app, List.length_reverse, if_neg (by omega), if_pos rfl] at this
        exact this
      have K' : MK (sI h1 0 13 (nI H.length)) t s H sh c := by
        refine ⟨⟨gI_s _ _ _ _, fun i hi => ?_⟩, ?_, ?_, ?_, ?_, ?_, fun he => ?_, ?_, fun z => (K9 z).cg rfl rfl (fun _ _ => rfl)⟩
        · rw [gI_sI_ne (by decide)]
          have := K1b i (by rw [List.length_append]; omega)
          rw [this, getD_app, if_pos hi]
        · rw [gI_sI_nk (by decide)]; exact K2
        · rw [gI_sI_nk (by decide)]; exact K3
        · rw [gI_sI_nk (by decide)]; exact K4
        · rw [gI_sI_nk (by decide)]; exact K5
        · rw [gI_sI_nk (by decide)]; exact K6
        · rw [gI_sI_nk (by decide), gI_sI_f (by decide)]; exact K7 he
        · rw [gI_sI_nk (by decide)]; exact K8
      rw [E2.1.r12, Option.bind_some, gI_s, ldI_ok (by rw [E2.1.n6]; omega) (by omega), Option.bind_some, gI_sI_ne (by decide), Kx]
      have drop : ∀ h2, frM h h2 → MKD h2 t s sh c → pkStep t B x H s = none → Ev (f_X11_goesAll_79 rec 0 h2) (fun h' => frM h h' ∧ MKE h' t (pkt t B u ks).1 (pkt t B u ks).2 sh) := fun h2 f2 D2 e2 => by
        unfold f_X11_goesAll_79 f_X11_goesAll_96
        rw [D2.1, if_neg (by decide)]
        refine ih 0 () h2 (by omega) ⟨f2, Or.inr ⟨c, s, D2, ?_⟩⟩
        rw [← e, show 85 - c = (84 - c) + 1 by omega, pkRun_none e2]
      have go : ∀ h2 H' s2, frM h h2 → MK h2 t s2 H' sh c → pkStep t B x H s = some (H', s2) → Ev (f_X11_goesAll_79 rec 0 h2) (fun h' => frM h h' ∧ MKE h' t (pkt t B u ks).1 (pkt t B u ks).2 sh) := fun h2 H' s2 f2 J e2 => by
        have O' := pkOK_step w wB ⟨O1, O2, O3, O4, O5, O6, O7, O8⟩ e2
        obtain ⟨J1, J2, J3, J4, J5, J6, J7, J8, J9⟩ := J
        unfold f_X11_goesAll_79 f_X11_goesAll_96
        rw [J4, if_pos rfl, lt_def, J3, nI_1]
        refine ih (m - 1) () _ (by omega) ⟨frM.s0 (by decide) f2, Or.inl ⟨c + 1, H', s2, by omega, ⟨⟨?_, ?_⟩, ?_, gI_s _ _ _ _, ?_, ?_, ?_, fun he => ?_, ?_, fun z => (J9 z).cg rfl rfl (fun _ _ => rfl)⟩, O', ?_⟩⟩
        · rw [gI_sI_nk (by decide)]; exact J1.1
        · rw [gI_sI_f (by decide)]; exact J1.2
        · rw [gI_sI_nk (by decide)]; exact J2
        · rw [gI_sI_nk (by decide)]; exact J4
        · rw [gI_sI_nk (by decide)]; exact J5
        · rw [gI_sI_nk (by decide)]; exact J6
        · rw [gI_sI_nk (by decide), gI_sI_f (by decide)]; exact J7 he
        · rw [gI_sI_nk (by decide)]; exact J8
        · rw [← e, show 85 - c = (85 - (c + 1)) + 1 by omega, pkRun_some e2]
      have hxl : x < 10 ∨ (100 ≤ x ∧ x < 130) ∨ (200 ≤ x ∧ x < 206) := hx
      rw [List.length_cons] at O6
      by_cases c2 : x < 200
      · rw [if_pos c2] at hw6
        have hT : (pT s).length ≤ 640 := by omega
        rw [if_pos (show nI x < 200 from (nI_ltI (b := 200) (by omega) (by decide)).mpr c2)]
        by_cases c1 : x < 100
        · rw [if_pos (show nI x < 100 from (nI_ltI (b := 100) (by omega) (by decide)).mpr c1)]
          refine Ev_to (m_goesTo w E2 K' (by omega) O4 hT O5 (by omega)) (fun h2 hz => ?_)
          obtain ⟨fz, hz⟩ := hz
          rcases hz with ⟨h3, h4⟩ | ⟨h3, h4⟩
          · refine go h2 H (pkNode t x s) (frM.tr fM1 fz) h4 ?_
            unfold pkStep; rw [if_pos c1, if_pos h3]
          · refine drop h2 (frM.tr fM1 fz) h4 ?_
            unfold pkStep; rw [if_pos c1, if_neg h3]
        · rw [if_neg (show ¬ nI x < 100 from fun z => c1 ((nI_ltI (b := 100) (by omega) (by decide)).mp z))]
          rw [show nI x - 100 = nI (x - 100) from by
            have e : nI x = nI (x - 100) + 100 := by
              show _ = nI (x - 100) + nI 100
              rw [nI_add, Nat.sub_add_cancel (by omega)]
            rw [e]; exact Int32.add_sub_cancel _ _]
          refine Ev_to (m_goesBy w E2 K' (by omega) O4 hT O5 (by omega)) (fun h2 hz => ?_)
          obtain ⟨fz, hz⟩ := hz
          rcases hz with ⟨h3, h4⟩ | ⟨h3, h4⟩
          · refine go h2 H (pkLink t (x - 100) s) (frM.tr fM1 fz) h4 ?_
            unfold pkStep; rw [if_neg c1, if_pos c2, if_pos h3]
          · refine drop h2 (frM.tr fM1 fz) h4 ?_
            unfold pkStep; rw [if_neg c1, if_pos c2, if_neg h3]
      · rw [if_neg (show ¬ nI x < 200 from fun z => c2 ((nI_ltI (b := 200) (by omega) (by decide)).mp z))]
        rw [show nI x - 200 = nI (x - 200) from by
          have e : nI x = nI (x - 200) + 200 := by
            show _ = nI (x - 200) + nI 200
            rw [nI_add, Nat.sub_add_cancel (by omega)]
          rw [e]; exact Int32.add_sub_cancel _ _]
        refine Ev_to (m_opens w wB E2 K' (by omega) O4 (t2 c2).2 O7) (fun h2 hz => ?_)
        obtain ⟨fz, hz⟩ := hz
        rcases hz with ⟨y, h3, h5, h4⟩ | ⟨h3, h4⟩
        · refine go h2 (y.2 ++ H) (pkBind (y.2 ++ H) s) (frM.tr fM1 fz) h4 ?_
          unfold pkStep
          rw [if_neg (by omega), if_neg c2, h3]
          show (if y.1 = pN s then _ else _) = _
          rw [if_pos h5]
        · refine drop h2 (frM.tr fM1 fz) h4 ?_
          unfold pkStep
          rw [if_neg (by omega), if_neg c2]
          cases eB : B (x - 200) with
          | none => rfl
          | some y =>
            show (if y.1 = pN s then _ else _) = _
            rw [if_neg (h3 y eB)]
  · obtain ⟨D1, D2, D3, D4, D5⟩ := D
    have fin : Ev (f_X11_goesAll_99 0 h1) (fun h' => frM h h' ∧ MKE h' t (pkt t B u ks).1 (pkt t B u ks).2 sh) := by
      unfold f_X11_goesAll_99
      rw [D1, if_neg (by decide), lt_def, e]
      refine Ev_some ⟨frM.s0 (by decide) f, ?_, fun c' hc' => ?_, ?_, gI_s _ _ _ _, ?_, fun z => (by cases z), fun z => (D5 z).cg rfl rfl (fun _ _ => rfl)⟩
      · rw [gI_sI_nk (by decide), D1]; rfl
      · rw [gI_sI_nk (by decide), D2, Option.some.inj hc']
      · rw [gI_sI_nk (by decide)]; exact D3
      · rw [gI_sI_nk (by decide)]; exact D4
    unfold f_X11_goesAll_4b
    rw [D1, if_neg (show ¬ (1 : Int32) = 0 by decide)]
    split <;> exact fin
end MG2
theorem MR.frM {h h' : MH} {a : AB} (f : frM h h') (M : MR h a) : MR h' a :=
  MR.cg (ML.fr f.1 M.1) (fun k hk => f.2 k (by revert hk; revert k; decide)) (f.1.1 _ (by decide)) (f.1.1 _ (by decide)) (f.1.1 _ (by decide)) (f.1.1 _ (by decide)) (f.1.1 _ (by decide)) (f.1.1 _ (by decide)) (f.1.2.1 _ (by decide)) M
def frN (h h' : MH) : Prop := frm [0, 4, 5, 6, 7, 8, 9, 10, 11] h h' ∧ ∀ k, k ∉ mFld → k ≠ 7 → gI h' 0 k = gI h 0 k
theorem frN.rf {h : MH} : frN h h := ⟨frm.rf, fun _ _ _ => rfl⟩
theorem frN.tr {h h1 h2 : MH} (a : frN h h1) (b : frN h1 h2) : frN h h2 := ⟨frm.tr a.1 b.1, fun k hk h7 => (b.2 k hk h7).trans (a.2 k hk h7)⟩
theorem frM.frN {h h' : MH} (f : frM h h') : frN h h' := ⟨f.1.up (by decide), fun k hk _ => f.2 k hk⟩
theorem m_goes {h : MH} {a : AB} {u la o : Nat} {ks : List Nat} {sh : Bool} {xs : Int32} (w : wfA a) (M : MR h a) (hu : u < nN (sN (aS a))) (hk : stkOK ks) (hla : la = 1 ∨ la = 3 ∨ la = 16) (hl : lrep (gI h la) o ks) (ho : o + ks.length ≤ gN h la) (hN : gN h la < 2 ^ 31) (hxs : xs = bI (sh = true)) : Ev (f_X11_goes 0 (nI u) la (nI o) (nI ks.length) xs h) (fun h' => MR h' a ∧ frN h h' ∧ MKE h' (sN (aS a)) (pkt (sN (aS a)) (sB (aS a)) u ks).1 (pkt (sN (aS a)) (sB (aS a)) u ks).2 sh) := by
  have wN := w.1.1
  subst hxs
  unfold f_X11_goes
  rw [if_pos (by cases sh; exact Or.inl rfl; exact Or.inr rfl), lt_def]
  have f0 : frM h (sI h 0 21 (bI (sh = true))) := frM.s0 (by decide) frM.rf
  refine Ev_to (m_begins (t := sN (aS a)) (u := u) (sh := sh) (ML.fr f0.1 M.1) (gI_s _ _ _ _)) (fun h1 z => ?_)
  obtain ⟨f1, K1⟩ := z
  have f01 := frM.tr f0 f1
  have M1 := M.frM f01
  have hla0 : la ≠ 0 := by omega
  have hla6 : la ≠ 6 := by omega
  obtain ⟨J1, J2, J3, J4, J5, J6, J7, J8, J9⟩ := K1
  refine Ev_to (m_holds (ks := ks) (H := []) (hi := 0) M1.1 hla0 hla6 (by rw [f01.1.1 la (by rcases hla with e | e | e <;> rw [e] <;> decide)]; exact hl) (by rw [f01.1.2.2.2.1]; exact ho) (by rw [f01.1.2.2.2.1]; exact hN) (by have := hk.1; simp; omega) J1.1 J1.2 J6 (by decide)) (fun h2 z => ?_)
  obtain ⟨z1, z2, z3, z4, z5, z6⟩ := z
  rw [List.append_nil] at z4 z5 z6
  have f02 : frM h h2 := frM.tr f01 ⟨z1.up (by decide), fun k hk => z2 k (fun e => hk (by rw [e]; decide)) (fun e => hk (by rw [e]; decide))⟩
  have M2 := M.frM f02
  obtain ⟨h3, e3, M3, l3, R3, g3, k3⟩ := freshM2 h2 a w M2
  unfold f_X11_goesAll
  rw [e3, Option.bind_some]
  obtain ⟨mL, mS, -⟩ := MR_iff.mp M3
  have E3 : ME h3 (sN (aS a)) (sB (aS a)) := ⟨mL, mS.1, mS.2.1, R3⟩
  have K3 : MK h3 (sN (aS a)) (u, true, [], ks.length, fun _ => 0) ks sh 0 := by
    refine ⟨⟨?_, ?_⟩, ?_, ?_, ?_, ?_, ?_, fun he => ?_, ?_, fun z => (J9 z).cg ?_ ?_ (fun _ _ => rfl)⟩
    · rw [k3 13 (by decide)]; exact z4
    · rw [g3.1 6 (by decide)]; exact z5
    · rw [k3 14 (by decide), z2 14 (by decide) (by decide)]; exact J2
    · rw [k3 15 (by decide), z2 15 (by decide) (by decide)]; exact J3
    · rw [k3 16 (by decide), z2 16 (by decide) (by decide)]; exact J4
    · rw [k3 17 (by decide), z2 17 (by decide) (by decide)]; exact J5
    · rw [k3 18 (by decide), z6, Nat.max_eq_right (Nat.zero_le _)]; rfl
    · rw [k3 20 (by decide), z2 20 (by decide) (by decide), g3.1 7 (by decide), z1.1 7 (by decide)]; exact J7 he
    · rw [k3 21 (by decide), z2 21 (by decide) (by decide)]; exact J8
    · rw [g3.2.1 8 (by decide), z3]
    · rw [g3.2.1 9 (by decide), z3]
  refine Ev_bind (Ev_mono (m_goesAll4 wN w.1.2.1 E3 hu hk K3) (fun h4 z => Ev_some ⟨M3.frM z.1, frN.tr (frN.tr f02.frN ⟨g3.up (by decide), fun k _ h7 => k3 k h7⟩) z.1.frN, z.2⟩))
