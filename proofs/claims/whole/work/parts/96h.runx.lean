/-! ===== the class's packet: begun, and to its end ===== -/
section XR2
variable {h : MH} {t : NT} {B : Nat → Option (Nat × List Nat)}
theorem x_clear {r : Nat} (R : rtAt h r 30) : ∃ h', f_X1_clear r h = some h' ∧ frm [r + 1, r + 2] h h' ∧ frIs h' (r + 1) (r + 2) (fun _ => 0) (zz t) := by
  obtain ⟨h1, e1, f1, g1⟩ := x_fillL (x := 0) R.2.2.1 (by decide)
  have R1 := R.fr f1
  obtain ⟨h2, e2, f2, g2⟩ := x_fillL (x := 1) R1.2.2.2 (by decide)
  refine ⟨h2, ?_, frm.tr (f1.up (by simp)) (f2.up (by simp)), fun l hl => ?_⟩
  · unfold f_X1_clear
    rw [R.1, Option.bind_some, e1, Option.bind_some, R1.2.1, Option.bind_some, e2, Option.bind_some]
  · rw [(fa_0 zz_pos).1, (fa_0 zz_pos).2, g2 l hl, f2.2.1 (r + 1) (by simp), g1 l hl]
    exact ⟨rfl, rfl⟩
theorem x_begin {u : Nat} {ks : List Nat} (E : XE h t B) (r : rowIs h 184 ks) (hk : ks.length ≤ 12) : Ev (f_X3_begin 183 (nI u) h) (fun h' => frm pkX h h' ∧ XK h' t (u, true, [], ks.length, fun _ => 0) ks) := by
  obtain ⟨L, X, R⟩ := E
  unfold f_X3_begin
  rw [lt_def, lt_def]
  rw [show gR (sI (sI h 183 7 (nI u)) 183 8 0) 183 0 = some 184 from L.k0, Option.bind_some, lt_def]
  rw [show gI (sI (sI h 183 7 (nI u)) 183 8 0) 184 1 = nI ks.length from r.1, lt_def, lt_def]
  have f0 : frm [183] h (sI (sI (sI (sI (sI h 183 7 (nI u)) 183 8 0) 183 9 (nI ks.length)) 183 10 (-1)) 183 11 1) := frm.sI (by decide) (frm.sI (by decide) (frm.sI (by decide) (frm.sI (by decide) (frm.sI (by decide) frm.rf))))
  have L0 := L.fr f0 (by decide)
  rw [L0.k1, Option.bind_some, lt_def]
  generalize hh : sI (sI (sI (sI (sI (sI h 183 7 (nI u)) 183 8 0) 183 9 (nI ks.length)) 183 10 (-1)) 183 11 1) 186 1 0 = h8
  have f8 : frm [183, 186] h h8 := by rw [← hh]; exact frm.sI (by decide) (f0.up (by decide))
  have L8 := L.fr f8 (by decide)
  rw [L8.k2, Option.bind_some]
  obtain ⟨h9, e9, f9, a9⟩ := x_clear (t := t) L8.sh188
  rw [e9, Option.bind_some, lt_def]
  have f89 : frm [183, 186, 189, 190] h h9 := frm.tr (f8.up (by decide)) (f9.up (by decide))
  have fA : frm [183, 186, 189, 190] h (sI h9 183 4 0) := frm.sI (by decide) f89
  have LA := L.fr fA (by decide)
  rw [LA.k0, Option.bind_some, lt_def, show gI (sI h9 183 4 0) 184 1 = nI ks.length from by rw [fA.1 184 (by decide)]; exact r.1, pI_sub]
  have g9 : gI h9 183 = gI h8 183 := f9.1 183 (by decide)
  have k7 : gI h8 183 7 = nI u := by rw [← hh]; rfl
  have k8 : gI h8 183 8 = 0 := by rw [← hh]; rfl
  have k9 : gI h8 183 9 = nI ks.length := by rw [← hh]; rfl
  have k10 : gI h8 183 10 = -1 := by rw [← hh]; rfl
  have k11 : gI h8 183 11 = 1 := by rw [← hh]; rfl
  have k186 : gI h8 186 1 = 0 := by rw [← hh]; rfl
  unfold f_X3_begin_61
  refine Ev_FU (fun m p h1 => ∃ k, k + m = ks.length ∧ p = pI m ∧ frm [183, 191] (sI h9 183 4 0) h1 ∧ (∀ j, j ≠ 4 → gI h1 183 j = gI h8 183 j) ∧ gL h1 = gL h9 ∧ gI h1 183 4 = nI k ∧ lrep (gI h1 191) 0 (ks.reverse.take k)) ks.length (pI ks.length) (sI h9 183 4 0) (by omega) ⟨0, by omega, rfl, frm.rf, fun j hj => by rw [gI_sI_nk hj, g9], rfl, gI_s _ _ _ _, fun i hi => by simp at hi⟩ ?_
  rintro m p h1 rec ⟨k, hk', rfl, f, g0, gl, g4, gr⟩ ih
  have fh : frm [183, 186, 189, 190, 191] h h1 := frm.tr (fA.up (by decide)) (f.up (by decide))
  have L1 : XL h1 := L.fr fh (by decide)
  unfold f_X3_begin_61b
  cases m with
  | zero =>
    rw [if_pos (show pI 0 < 0 by decide)]
    have hk' : k = ks.length := by omega
    subst hk'
    refine Ev_some ⟨fh.up (by decide), ⟨g4, ?_⟩, ?_, ?_, ?_, ?_, ⟨[], ⟨?_, fun i hi => by simp at hi⟩, by simp, fun _ => ⟨?_, rfl⟩⟩, a9.cg (congrFun gl _) (congrFun gl _) (fun _ _ => rfl)⟩
    · rw [List.take_of_length_le (by rw [List.length_reverse]; exact Nat.le_refl _)] at gr
      exact gr
    · rw [g0 7 (by decide)]; exact k7
    · rw [g0 9 (by decide)]; exact k9
    · rw [g0 10 (by decide)]; exact k10
    · rw [g0 11 (by decide)]; exact k11
    · rw [f.1 186 (by decide), gI_sI_ne (by decide), f9.1 186 (by decide), k186]; rfl
    · rw [g0 8 (by decide), k8]; rfl
  | succ m =>
    rw [pI_s, if_neg (nI_nn (by omega)), L1.k3, Option.bind_some, L1.k0, Option.bind_some, L1.y184, Option.bind_some, ldI_ok (by rw [L1.z185]; omega) (by omega), Option.bind_some, g4, stI_ok (by rw [L1.z191]; omega) (by omega), Option.bind_some, lt_def, gI_sI_ne (by decide), g4, nI_1, pI_add]
    refine ih m _ _ (by omega) ⟨k + 1, by omega, rfl, frm.sI (by decide) (frm.sI (by decide) f), fun j hj => by rw [gI_sI_nk hj, gI_sI_ne (by decide)]; exact g0 j hj, gl, by rw [gI_s], ?_⟩
    rw [rev_take (by omega)]
    refine lrep.up (g := gI h1 191) (x := gI h1 185 m) (fun i => ?_) ?_ gr
    · rw [gI_sI_ne (by decide), gI_sI, List.length_take, List.length_reverse, Nat.zero_add, Nat.min_eq_left (by omega)]
      by_cases qi : i = k
      · rw [if_pos ⟨rfl, qi⟩, if_pos qi]
      · rw [if_neg (fun z => qi z.2), if_neg qi]
    · rw [show ks.length - 1 - k = m by omega, fh.1 185 (by decide)]
      have := r.2 m (by omega)
      rw [Nat.zero_add] at this
      exact this
theorem fpl_m1 {d : Option Nat} (hd : ∀ b, d = some b → b < 2 ^ 31) : fpl d = -1 ↔ d = none := by
  cases d with
  | none => exact ⟨fun _ => rfl, fun _ => rfl⟩
  | some b => exact ⟨fun z => absurd z (nI_m1 (hd b rfl)), fun z => by cases z⟩
theorem x_run {u : Nat} {ks : List Nat} (w : wfN t) (wB : wfB t B) (E : XE h t B) (r : rowIs h 184 ks) (hk : stkOK ks) (hu : u < nN t) : Ev (f_X3_run 183 2 169 (nI u) h) (fun h' => frm pkX h h' ∧ XKE h' t (pkt t B u ks).1 (pkt t B u ks).2) := by
  unfold f_X3_run
  refine Ev_to (x_begin (u := u) E r hk.1) (fun h0 z0 => ?_)
  unfold f_X3_run_8
  refine Ev_FU (fun m p h1 => ∃ c H s, c + m = 84 ∧ p = nI c ∧ frm pkX h h1 ∧ XK h1 t s H ∧ pkOK t c H s ∧ pkRun t B (85 - c) c H s = pkt t B u ks) 84 0 h0 (by omega) ⟨0, ks, _, by omega, rfl, z0.1, z0.2, pkOK_0 hu hk, rfl⟩ ?_
  rintro m p h1 rec ⟨c, H, s, hc, rfl, f, K, O, e⟩ ih
  have E1 : XE h1 t B := E.fr f (by decide)
  have fin : H = [] → Ev (some h1) (fun h' => frm pkX h h' ∧ XKE h' t (pkt t B u ks).1 (pkt t B u ks).2) := fun z => by
    subst z
    rw [pkRun_nil] at e
    rw [← e]
    obtain ⟨K1, K2, K3, K4, K5, K6, K7⟩ := K
    exact Ev_some ⟨f, K4, K2, K3, K5, K6, K7⟩
  unfold f_X3_run_8b
  by_cases q : c < 84
  · rw [if_pos (show nI c < 84 from (nI_ltI (b := 84) (by omega) (by decide)).mpr q), K.1.1]
    have hlen := okH_len O.1
    cases H with
    | nil =>
      rw [if_neg (show ¬ (0 : Int32) < nI ([] : List Nat).length by decide)]
      exact fin rfl
    | cons x H =>
      rw [List.length_cons] at hlen ⊢
      obtain ⟨O1, O2, O3, O4, O5, O6, O7, O8⟩ := O
      have hx := okH_lab O1
      obtain ⟨t1, t2⟩ := okH_tl O1
      rw [if_pos (show (0 : Int32) < nI (H.length + 1) from nI_lt (a := 0) (by omega) (by omega)), lt_def, pI_sub, pI_s]
      have f1 : frm [183] h1 (sI h1 183 4 (nI H.length)) := frm.sI (by decide) frm.rf
      have E2 : XE (sI h1 183 4 (nI H.length)) t B := E1.fr f1 (by decide)
      obtain ⟨⟨K1a, K1b⟩, K2, K3, K4, K5, ⟨T', r1, r2, r3⟩, K7⟩ := K
      rw [List.reverse_cons] at K1b
      have Kx : gI h1 191 H.length = nI x := by
        have := K1b H.length (by rw [List.length_append, List.length_reverse]; simp)
        rw [Nat.zero_add, getD_app, List.length_reverse, if_neg (by omega), if_pos rfl] at this
        exact this
      have K' : XK (sI h1 183 4 (nI H.length)) t s H := by
        refine ⟨⟨gI_s _ _ _ _, fun i hi => ?_⟩, ?_, ?_, ?_, ?_, ⟨T', r1.fr (gI_sI_f (by decide)) (gI_sI_f (by decide)), r2, fun he => ?_⟩, K7.cg rfl rfl (fun _ _ => rfl)⟩
        · rw [gI_sI_ne (by decide)]
          have := K1b i (by rw [List.length_append]; omega)
          rw [this, getD_app, if_pos hi]
        · rw [gI_sI_nk (by decide)]; exact K2
        · rw [gI_sI_nk (by decide)]; exact K3
        · rw [gI_sI_nk (by decide)]; exact K4
        · rw [gI_sI_nk (by decide)]; exact K5
        · rw [gI_sI_nk (by decide)]; exact r3 he
      rw [E2.1.k3, Option.bind_some, gI_s, ldI_ok (by rw [E2.1.z191]; omega) (by omega), Option.bind_some, gI_sI_ne (by decide), Kx]
      -- what follows a step: dropped, or the most labels and on
      have drop : ∀ h2, frm pkX h h2 → XK h2 t s H → pkStep t B x H s = none → Ev (f_X3_run_93 rec 183 2 169 (nI c) 0 h2) (fun h' => frm pkX h h' ∧ XKE h' t (pkt t B u ks).1 (pkt t B u ks).2) := fun h2 f2 K2' e2 => by
        have e3 : pkt t B u ks = (some c, pkDrop s) := by
          rw [← e, show 85 - c = (84 - c) + 1 by omega, pkRun_none e2]
        rw [e3]
        obtain ⟨J1, J2, J3, J4, J5, ⟨T2, q1, q2, q3⟩, J7⟩ := K2'
        unfold f_X3_run_93
        rw [if_pos rfl, lt_def, lt_def]
        refine Ev_some ⟨frm.sI (by decide) (frm.sI (by decide) f2), ?_, ?_, ?_, ?_, ⟨T2, q1.fr ?_ ?_, q2, fun he => by cases he⟩, J7.cg rfl rfl (fun _ _ => rfl)⟩
        · rw [gI_sI_nk (by decide), gI_s]; rfl
        · rw [gI_sI_nk (by decide), gI_sI_nk (by decide)]; exact J2
        · rw [gI_sI_nk (by decide), gI_sI_nk (by decide)]; exact J3
        · rw [gI_s]; rfl
        · rw [gI_sI_f (by decide), gI_sI_f (by decide)]
        · rw [gI_sI_f (by decide), gI_sI_f (by decide)]
      have go : ∀ h2 s1 H', frm pkX h h2 → XK h2 t s1 H' → ∀ s2, pkStep t B x H s = some (H', s2) → (pN s2 = pN s1 ∧ pE s2 = pE s1 ∧ pT s2 = pT s1 ∧ pA s2 = pA s1) → pH s2 = max (pH s1) H'.length → pH s1 ≤ 17 → Ev (f_X3_run_93 rec 183 2 169 (nI c) 1 h2) (fun h' => frm pkX h h' ∧ XKE h' t (pkt t B u ks).1 (pkt t B u ks).2) := fun h2 s1 H' f2 K2' s2 e2 es ep hp17 => by
        have O' := pkOK_step w wB ⟨O1, O2, O3, O4, O5, O6, O7, O8⟩ e2
        have hl' : H'.length ≤ 17 := okH_len O'.1
        obtain ⟨J1, J2, J3, J4, J5, ⟨T2, q1, q2, q3⟩, J7⟩ := K2'
        unfold f_X3_run_93
        rw [if_neg (show ¬ (1 : Int32) = 0 by decide), lt_def, J3, J1.1, lt_def, nI_1]
        have em : ((if nI (pH s1) < nI H'.length then nI H'.length else nI (pH s1)) : Int32) = nI (pH s2) := by
          rw [ep]
          by_cases qq : pH s1 < H'.length
          · rw [if_pos (nI_lt qq (by omega)), Nat.max_eq_right (by omega)]
          · rw [if_neg (nI_nlt (by omega) (by omega)), Nat.max_eq_left (by omega)]
        rw [em]
        refine ih (m - 1) _ _ (by omega) ⟨c + 1, H', s2, by omega, rfl, frm.sI (by decide) f2, ?_, O', ?_⟩
        · obtain ⟨a1, a2, a3, a4⟩ := es
          refine ⟨⟨?_, ?_⟩, ?_, gI_s _ _ _ _, ?_, ?_, ?_, ?_⟩
          · rw [gI_sI_nk (by decide)]; exact J1.1
          · rw [gI_sI_f (by decide)]; exact J1.2
          · rw [gI_sI_nk (by decide), a1]; exact J2
          · rw [gI_sI_nk (by decide)]; exact J4
          · rw [gI_sI_nk (by decide), a2]; exact J5
          · rw [a2, a3]
            exact ⟨T2, q1.fr (gI_sI_f (by decide)) (gI_sI_f (by decide)), q2, fun he => by rw [gI_sI_nk (by decide)]; exact q3 he⟩
          · rw [a4]; exact J7.cg rfl rfl (fun _ _ => rfl)
        · rw [← e, show 85 - c = (85 - (c + 1)) + 1 by omega, pkRun_some e2]
      have hxl : x < 10 ∨ (100 ≤ x ∧ x < 130) ∨ (200 ≤ x ∧ x < 206) := hx
      have f1' : frm pkX h (sI h1 183 4 (nI H.length)) := frm.sI (by decide) f
      rw [List.length_cons] at O6
      by_cases c2 : x < 200
      · rw [if_pos (show nI x < 200 from (nI_ltI (b := 200) (by omega) (by decide)).mpr c2)]
        by_cases c1 : x < 100
        · rw [if_pos (show nI x < 100 from (nI_ltI (b := 100) (by omega) (by decide)).mpr c1)]
          refine Ev_to (x_goesTo (c := c) w E2 K' (by omega) O4 O5 (by omega)) (fun z hz => ?_)
          obtain ⟨z1, z2⟩ := z
          obtain ⟨fz, hz⟩ := hz
          dsimp only at fz hz ⊢
          rcases hz with ⟨rfl, h3, h4⟩ | ⟨rfl, h3, h4⟩
          · refine go z2 (pkNode t x s) H (frm.tr f1' (fz.up (by decide))) h4 (pkNode t x s) ?_ ⟨rfl, rfl, rfl, rfl⟩ ?_ O7
            · unfold pkStep; rw [if_pos c1, if_pos h3]
            · show pH s = max (pH s) H.length
              omega
          · refine drop z2 (frm.tr f1' (fz.up (by decide))) h4 ?_
            unfold pkStep; rw [if_pos c1, if_neg h3]
        · rw [if_neg (show ¬ nI x < 100 from fun z => c1 ((nI_ltI (b := 100) (by omega) (by decide)).mp z))]
          rw [show nI x - 100 = nI (x - 100) from by
            have e : nI x = nI (x - 100) + 100 := by
              show _ = nI (x - 100) + nI 100
              rw [nI_add, Nat.sub_add_cancel (by omega)]
            rw [e]; exact Int32.add_sub_cancel _ _]
          refine Ev_to (x_goesAlong w E2 K' (by omega) O4) (fun z hz => ?_)
          obtain ⟨z1, z2⟩ := z
          obtain ⟨fz, hz⟩ := hz
          dsimp only at fz hz ⊢
          rcases hz with ⟨rfl, h3, h4⟩ | ⟨rfl, h3, h4⟩
          · refine go z2 (pkLink t (x - 100) s) H (frm.tr f1' (fz.up (by decide))) h4 (pkLink t (x - 100) s) ?_ ⟨rfl, rfl, rfl, rfl⟩ ?_ O7
            · unfold pkStep; rw [if_neg c1, if_pos c2, if_pos h3]
            · show pH s = max (pH s) H.length
              omega
          · refine drop z2 (frm.tr f1' (fz.up (by decide))) h4 ?_
            unfold pkStep; rw [if_neg c1, if_pos c2, if_neg h3]
      · rw [if_neg (show ¬ nI x < 200 from fun z => c2 ((nI_ltI (b := 200) (by omega) (by decide)).mp z))]
        rw [show nI x - 200 = nI (x - 200) from by
          have e : nI x = nI (x - 200) + 200 := by
            show _ = nI (x - 200) + nI 200
            rw [nI_add, Nat.sub_add_cancel (by omega)]
          rw [e]; exact Int32.add_sub_cancel _ _]
        refine Ev_to (x_unfolds w wB E2 K' (by omega) O4 (t2 c2).2) (fun z hz => ?_)
        obtain ⟨z1, z2⟩ := z
        obtain ⟨fz, hz⟩ := hz
        dsimp only at fz hz ⊢
        rcases hz with ⟨y, rfl, h3, h5, h4⟩ | ⟨rfl, h3, h4⟩
        · refine go z2 s (y.2 ++ H) (frm.tr f1' (fz.up (by decide))) h4 (pkBind (y.2 ++ H) s) ?_ ⟨rfl, rfl, rfl, rfl⟩ rfl O7
          unfold pkStep
          rw [if_neg (by omega), if_neg c2, h3]
          show (if y.1 = pN s then _ else _) = _
          rw [if_pos h5]
        · refine drop z2 (frm.tr f1' (fz.up (by decide))) h4 ?_
          unfold pkStep
          rw [if_neg (by omega), if_neg c2]
          cases eB : B (x - 200) with
          | none => rfl
          | some y =>
            show (if y.1 = pN s then _ else _) = _
            rw [if_neg (h3 y eB)]
  · rw [if_neg (show ¬ nI c < 84 from fun z => q ((nI_ltI (b := 84) (by omega) (by decide)).mp z))]
    refine fin ?_
    cases H with
    | nil => rfl
    | cons x H =>
      have := O.2.1
      have e1 : wtL 7 (x :: H) = (if x < 200 then 1 else 7) + wtL 7 H := rfl
      rw [e1] at this
      split at this <;> omega
end XR2
