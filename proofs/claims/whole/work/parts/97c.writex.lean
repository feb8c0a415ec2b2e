/-! ===== the class's writer: one place ===== -/
def WE (h : MH) (r : Nat) (t : NT) (B : Nat → Option (Nat × List Nat)) : Prop := XL h ∧ XN h 2 t B ∧ rtAt h r 100 ∧ rtIs h r t
theorem WE.fr {h h' : MH} {X : List Nat} {r : Nat} {t : NT} {B : Nat → Option (Nat × List Nat)} (f : frm X h h') (hX : ∀ q, q ∈ X → 178 ≤ q) (hr : r + 2 < 178) (E : WE h r t B) : WE h' r t B := by
  have hn : ∀ b, b < 178 → b ∉ X := fun b hb q => by have := hX b q; omega
  refine ⟨E.1.fr f (fun q hq => hn q ?_), E.2.1.fr (fun k hk => f.1 _ (hn _ (by omega))), E.2.2.1.fr f, E.2.2.2.fr (f.1 _ (hn _ (by omega))) (f.2.1 _ (hn _ (by omega)))⟩
  have : ∀ q ∈ rowsAds, q < 178 := by decide
  exact this q hq
section WX
variable {h : MH} {r : Nat} {t : NT} {B : Nat → Option (Nat × List Nat)}
theorem w_isUp {l : Nat} (w : wfN t) (E : WE h r t B) (hl : l < nM t) : f_X2_isUp 2 (nI l) h = some (bI (nU t l = true), h) := x_isUp E.2.1.2.1 E.2.1.2.2.1 w.2.2.1 hl
theorem w_dist {u v : Nat} (w : wfN t) (E : WE h r t B) (hu : u < nN t) (hv : v < nN t) : f_X4_distance r (nI u) (nI v) h = some (nI (dist t v u), h) := by
  have hn10 := w.2.1
  rw [x_distIn (by omega) (by omega), E.2.2.1.1, Option.bind_some, ix10, ldI_ok (by rw [E.2.2.1.2.2.1]; omega) (by omega), Option.bind_some, (E.2.2.2 u v hu hv).1]
theorem w_count {u v : Nat} (w : wfN t) (E : WE h r t B) (hu : u < nN t) (hv : v < nN t) : f_X4_countOf r (nI u) (nI v) h = some (lN (cnt t v u), h) := by
  have hn10 := w.2.1
  rw [x_countIn (by omega) (by omega), E.2.2.1.2.1, Option.bind_some, ix10, ldL_ok (by rw [E.2.2.1.2.2.2]; omega) (by omega), Option.bind_some, (E.2.2.2 u v hu hv).2]
theorem w_from {l : Nat} (w : wfN t) (E : WE h r t B) (hl : l < nM t) : ldI h 3 (nI l) = some (nI (nF t l)) := by
  have := w.2.2.1
  rw [ldI_ok (by rw [E.1.z3]; omega) (by omega), (E.2.1.2.2.2.1 l hl).1]
theorem w_to {l : Nat} (w : wfN t) (E : WE h r t B) (hl : l < nM t) : ldI h 4 (nI l) = some (nI (nT t l)) := by
  have := w.2.2.1
  rw [ldI_ok (by rw [E.1.z4]; omega) (by omega), (E.2.1.2.2.2.1 l hl).2.1]
theorem w_cost {l : Nat} (w : wfN t) (E : WE h r t B) (hl : l < nM t) : ldI h 5 (nI l) = some (nI (nC t l)) := by
  have := w.2.2.1
  rw [ldI_ok (by rw [E.1.z5]; omega) (by omega), (E.2.1.2.2.2.1 l hl).2.2]
theorem w_fromOf {l : Nat} (w : wfN t) (E : WE h r t B) (hl : l < nM t) : f_X2_fromOf 2 (nI l) h = some (nI (nF t l), h) := x_fromOf E.1.nt E.2.1 w.2.2.1 hl
theorem w_toOf {l : Nat} (w : wfN t) (E : WE h r t B) (hl : l < nM t) : f_X2_toOf 2 (nI l) h = some (nI (nT t l), h) := x_toOf E.1.nt E.2.1 w.2.2.1 hl
theorem w_priceOf {l : Nat} (w : wfN t) (E : WE h r t B) (hl : l < nM t) : f_X2_priceOf 2 (nI l) h = some (nI (nC t l), h) := x_priceOf E.1.nt E.2.1 w.2.2.1 hl
theorem w_link {i k : Nat} {LS : List Nat} (E : WE h r t B) (hL : lrep (gI h 179) i LS) (hk : k < LS.length) (h16 : i + LS.length ≤ 16) : ldI h 179 (nI (i + k)) = some (nI (LS.getD k 0)) := by
  rw [ldI_ok (by rw [show gN h 179 = 16 from E.1.2.2.2.2.2.2.2.2.2.2.1.2.2.2.2.1]; omega) (by omega), hL k hk]
theorem cst_le {t : NT} (w : wfN t) : ∀ {ls : List Nat}, (∀ l, l ∈ ls → l < nM t) → cst t ls ≤ 99 * ls.length := by
  intro ls
  induction ls with
  | nil => intro _; exact Nat.le_refl _
  | cons l ls ih =>
    intro h
    have h1 := ih (fun j hj => h j (List.mem_cons_of_mem _ hj))
    have h2 := (w.2.2.2 l (h l List.mem_cons_self)).2.2.2.2
    show nC t l + cst t ls ≤ 99 * (ls.length + 1)
    omega
theorem chF_in {t : NT} {u e : Nat} {ls : List Nat} (h : chF t u ls e) : ∀ l, l ∈ ls → l < nM t := fun l hl => by
  obtain ⟨i, hi, e⟩ := mem_getD hl
  rw [← e]; exact chF_mem h i hi
theorem drop_cons {ls : List Nat} {k : Nat} (h : k < ls.length) : ls.drop k = ls.getD k 0 :: ls.drop (k + 1) := by
  rw [List.drop_eq_getElem_cons h, List.getD_eq_getElem?_getD, List.getElem?_eq_getElem h]
  rfl
theorem subI {a b : Nat} : nI (a + b) - nI a = nI b := by
  rw [Nat.add_comm, ← nI_add]
  exact Int32.add_sub_cancel _ _
theorem nr_cons {t : NT} {u s l : Nat} {ls : List Nat} : nr t u s (l :: ls) = if nU t l = true ∧ dist t (nT t l) u = s + nC t l ∧ cnt t (nT t l) u = 1 then 1 + nr t u (s + nC t l) ls else 0 := rfl
theorem x_nodeReach {i u e : Nat} {LS : List Nat} (w : wfN t) (E : WE h r t B) (hL : lrep (gI h 179) i LS) (h16 : i + LS.length ≤ 16) (eE : gI h 178 1 = nI (i + LS.length)) (hch : chF t u LS e) (hu : u < nN t) (h0 : 0 < LS.length) : f_X9_nodeReach 178 2 r (nI i) h = some (nI (nr t u 0 LS), h) := by
  have hn10 := w.2.1
  have hm30 := w.2.2.1
  have key : Ev (f_X9_nodeReach 178 2 r (nI i) h) (fun q => q = (nI (nr t u 0 LS), h)) := by
    unfold f_X9_nodeReach
    have hl0 := chF_mem hch 0 h0
    have hF0 : nF t (LS.getD 0 0) = u := by
      cases LS with
      | nil => simp at h0
      | cons l ls => exact hch.2.1
    have := w_link E hL h0 h16
    rw [Nat.add_zero] at this
    rw [E.1.i0, Option.bind_some, this, Option.bind_some, w_fromOf w E hl0, Option.bind_some, hF0]
    dsimp only
    unfold f_X9_nodeReach_18
    refine Ev_FU (fun m p h1 => ∃ k, k + m = LS.length ∧ h1 = h ∧ p = (nI (cst t (LS.take k)), nI (i + k)) ∧ nr t u 0 LS = k + nr t u (cst t (LS.take k)) (LS.drop k)) LS.length (0, nI i) h (by omega) ⟨0, by omega, rfl, rfl, by rw [List.take_zero, List.drop_zero]; show _ = 0 + nr t u 0 LS; omega⟩ ?_
    rintro m p h1 rec ⟨k, hk, rfl, rfl, hnr⟩ ih
    unfold f_X9_nodeReach_18b f_X9_nodeReach_90
    dsimp only
    rw [eE]
    by_cases q : k < LS.length
    · have hlk := chF_mem hch k q
      obtain ⟨w1, w2, w3, w4, w5⟩ := w.2.2.2 _ hlk
      have hb := cst_le w (ls := LS.take k) (fun l hl => chF_in hch l (List.mem_of_mem_take hl))
      have hb2 : (LS.take k).length ≤ 16 := by rw [List.length_take]; omega
      have hd : dist t (nT t (LS.getD k 0)) u ≤ 1000000 := (dist_bel w w2).2.1 u hu
      have htk : cst t (LS.take (k + 1)) = cst t (LS.take k) + nC t (LS.getD k 0) := by
        rw [take_succ' q, cst_app]; rfl
      rw [if_pos (nI_lt (by omega) (by omega)), E.1.i0, Option.bind_some, w_link E hL q h16, Option.bind_some, w_toOf w E hlk, Option.bind_some]
      dsimp only
      rw [w_priceOf w E hlk, Option.bind_some]
      dsimp only
      rw [lt_def, nI_add, w_isUp w E hlk, Option.bind_some]
      rw [drop_cons q] at hnr
      rw [nr_cons] at hnr
      by_cases c1 : nU t (LS.getD k 0) = true
      · rw [if_neg (fun z => bI_0.mp z c1)]
        dsimp only
        rw [w_dist w E hu w2, Option.bind_some]
        dsimp only
        by_cases c2 : dist t (nT t (LS.getD k 0)) u = cst t (LS.take k) + nC t (LS.getD k 0)
        · rw [if_pos (by rw [c2]), w_count w E hu w2, Option.bind_some]
          dsimp only
          by_cases c3 : cnt t (nT t (LS.getD k 0)) u = 1
          · rw [if_pos ((cnt_is1 w w2 hu).mpr c3), nI_1]
            rw [if_pos ⟨c1, c2, c3⟩] at hnr
            refine ih (m - 1) _ _ (by omega) ⟨k + 1, by omega, rfl, by rw [htk]; rfl, ?_⟩
            rw [htk, hnr]; omega
          · rw [if_neg (fun z => c3 ((cnt_is1 w w2 hu).mp z))]
            rw [if_neg (fun z => c3 z.2.2)] at hnr
            rw [hnr, Nat.add_zero, subI]
            exact Ev_some rfl
        · rw [if_neg (fun z => c2 (nI_inj (by omega) (by omega) z))]
          rw [if_neg (fun z => c2 z.2.1)] at hnr
          rw [hnr, Nat.add_zero, subI]
          exact Ev_some rfl
      · rw [if_pos (bI_0.mpr c1)]
        rw [if_neg (fun z => c1 z.1)] at hnr
        dsimp only
        rw [hnr, Nat.add_zero, subI]
        exact Ev_some rfl
    · have hk' : k = LS.length := by omega
      subst hk'
      rw [if_neg (nI_nlt (Nat.le_refl _) (by omega)), hnr, List.drop_length, subI]
      exact Ev_some rfl
  obtain ⟨q, e, rfl⟩ := key
  exact e
/-! one label of a binding -/
theorem getLast_to {t : NT} {e : Nat} : ∀ {ls : List Nat} {u : Nat}, chF t u ls e → 0 < ls.length → nT t (ls.getD (ls.length - 1) 0) = e := by
  intro ls
  induction ls with
  | nil => intro u _ h; simp at h
  | cons l ls ih =>
    intro u h h0
    cases ls with
    | nil => exact h.2.2
    | cons j ks =>
      have := ih h.2.2 (by simp)
      exact this
theorem pre_len {t : NT} {x u c : Nat} {D : List Nat} (w : wfN t) (hx : x < nN t) (hu : u < nN t) (hux : u ≠ x) (hd : dist t x u < 1000000) (hp : sp t x u <+: D) (hno : ∀ p, p < c → nT t (D.getD p 0) ≠ x) : c + 1 ≤ (sp t x u).length ∧ sp t x u = D.take (sp t x u).length := by
  have e := take_is hp
  have hch := sp_ch w hx hu hd
  have h0 : 0 < (sp t x u).length := by
    cases hs : sp t x u with
    | nil => rw [hs] at hch; exact absurd hch hux
    | cons l ls => simp
  refine ⟨?_, e⟩
  have hl := getLast_to hch h0
  by_cases q : c + 1 ≤ (sp t x u).length
  · exact q
  · exfalso
    refine hno ((sp t x u).length - 1) (by omega) ?_
    have z := getD_take (l := D) (n := (sp t x u).length) (i := (sp t x u).length - 1) (by omega)
    rw [← e] at z
    rw [← z]
    exact hl
theorem x_follow131 {i k u x e : Nat} {LS : List Nat} (w : wfN t) (E : WE h r t B) (hL : lrep (gI h 179) i LS) (h16 : i + LS.length ≤ 16) (eE : gI h 178 1 = nI (i + LS.length)) (hx : x < nN t) (hu : u < nN t) (hux : u ≠ x) (hc : cnt t x u = 1) (hk : k ≤ LS.length) (hch : chF t u (LS.drop k) e) : f_X9_follow_131 178 2 r (nI x) (nI u) FU (0, nI (i + k)) h = some (if sp t x u <+: LS.drop k then nI (i + k + (sp t x u).length) else -1, h) := by
  have hn10 := w.2.1
  have hm30 := w.2.2.1
  have hd := cnt1_near w hx hu hc
  obtain ⟨s1, s2⟩ := sp_cst w hx hu hd
  have hdl : (LS.drop k).length = LS.length - k := by rw [List.length_drop]
  have key : Ev (f_X9_follow_131 178 2 r (nI x) (nI u) FU (0, nI (i + k)) h) (fun q => (sp t x u <+: LS.drop k → q = (nI (i + k + (sp t x u).length), h)) ∧ (¬ sp t x u <+: LS.drop k → q = (-1, h))) := by
    unfold f_X9_follow_131
    refine Ev_FU (fun m p h1 => ∃ c, k + c + m = LS.length ∧ h1 = h ∧ p = (nI (cst t ((LS.drop k).take c)), nI (i + k + c)) ∧ allUp t ((LS.drop k).take c) ∧ ∀ p, p < c → nT t ((LS.drop k).getD p 0) ≠ x) (LS.length - k) (0, nI (i + k)) h (by omega) ⟨0, by omega, rfl, rfl, fun l hl => by simp at hl, fun p hp => absurd hp (Nat.not_lt_zero _)⟩ ?_
    rintro m p h1 rec ⟨c, hcm, rfl, rfl, hup, hno⟩ ih
    unfold f_X9_follow_131b
    dsimp only
    rw [eE]
    by_cases q : c < (LS.drop k).length
    · have hlc := chF_mem hch c q
      have hg : (LS.drop k).getD c 0 = LS.getD (k + c) 0 := getD_drop
      obtain ⟨w1, w2, w3, w4, w5⟩ := w.2.2.2 _ hlc
      have hb := cst_le w (ls := (LS.drop k).take c) (fun l hl => chF_in hch l (List.mem_of_mem_take hl))
      have hb2 : ((LS.drop k).take c).length ≤ 16 := by rw [List.length_take]; omega
      have htk : cst t ((LS.drop k).take (c + 1)) = cst t ((LS.drop k).take c) + nC t ((LS.drop k).getD c 0) := by
        rw [take_succ' q, cst_app]; rfl
      have hli : ldI h1 179 (nI (i + k + c)) = some (nI ((LS.drop k).getD c 0)) := by
        have z := w_link E hL (k := k + c) (by omega) h16
        rw [← hg, ← Nat.add_assoc] at z
        exact z
      rw [if_pos (nI_lt (by omega) (by omega)), E.1.i0, Option.bind_some, hli, Option.bind_some, w_isUp w E hlc, Option.bind_some]
      by_cases c1 : nU t ((LS.drop k).getD c 0) = true
      · rw [if_neg (fun z => bI_0.mp z c1)]
        dsimp only
        rw [E.1.i0, Option.bind_some, hli, Option.bind_some, w_priceOf w E hlc, Option.bind_some]
        dsimp only
        rw [lt_def, nI_add, ← htk, E.1.i0, Option.bind_some, hli, Option.bind_some, w_toOf w E hlc, Option.bind_some]
        dsimp only
        have hct : chF t u ((LS.drop k).take (c + 1)) (nT t ((LS.drop k).getD c 0)) := chF_take (c := c + 1) hch (by omega) (by omega)
        have hup1 : allUp t ((LS.drop k).take (c + 1)) := by
          rw [take_succ' q]
          intro l hl
          rcases List.mem_append.mp hl with z | z
          · exact hup l z
          · rw [List.mem_singleton.mp z]; exact c1
        by_cases c2 : nT t ((LS.drop k).getD c 0) = x
        · rw [if_pos (by rw [c2]), w_dist w E hu hx, Option.bind_some]
          dsimp only
          rw [c2] at hct
          have hle := ch_le w hx hct hup1
          by_cases c3 : cst t ((LS.drop k).take (c + 1)) = dist t x u
          · rw [if_pos (by rw [c3]), nI_1]
            have hs := sole_sp w hx hu hct hup1 c3.symm hc
            have hsl : (sp t x u).length = c + 1 := by rw [hs, List.length_take]; omega
            refine Ev_some ⟨fun _ => ?_, fun z => absurd (by rw [hs]; exact List.take_prefix _ _) z⟩
            rw [hsl, ← Nat.add_assoc]
          · rw [if_neg (fun z => c3 (nI_inj (by omega) (by omega) z))]
            refine Ev_some ⟨fun z => ?_, fun _ => rfl⟩
            exfalso
            obtain ⟨p1, p2⟩ := pre_len w hx hu hux hd z hno
            have e2 : sp t x u = (LS.drop k).take (c + 1) ++ ((LS.drop k).take (sp t x u).length).drop (c + 1) := by
              have e4 : (LS.drop k).take (c + 1) = ((LS.drop k).take (sp t x u).length).take (c + 1) := by rw [List.take_take, Nat.min_eq_left p1]
              rw [e4, List.take_append_drop]
              exact p2
            have e3 := cst_app (t := t) (ls := (LS.drop k).take (c + 1)) (ks := ((LS.drop k).take (sp t x u).length).drop (c + 1))
            rw [← e2, s2] at e3
            omega
        · rw [if_neg (fun z => c2 (nI_inj (by omega) (by omega) z)), nI_1]
          refine ih (m - 1) _ _ (by omega) ⟨c + 1, by omega, rfl, rfl, hup1, fun p hp => ?_⟩
          by_cases q3 : p = c
          · rw [q3]; exact c2
          · exact hno p (by omega)
      · rw [if_pos (bI_0.mpr c1)]
        refine Ev_some ⟨fun z => ?_, fun _ => rfl⟩
        exfalso
        obtain ⟨p1, p2⟩ := pre_len w hx hu hux hd z hno
        have z2 := getD_take (l := LS.drop k) (n := (sp t x u).length) (i := c) (by omega)
        rw [← p2] at z2
        have hcl : c < (sp t x u).length := by omega
        have z3 := s1 _ (List.getElem_mem hcl)
        rw [← getD_get hcl, z2] at z3
        exact c1 z3
    · rw [if_neg (fun z => q (by have := (nI_ltI (by omega) (by omega)).mp z; omega))]
      refine Ev_some ⟨fun z => ?_, fun _ => rfl⟩
      exfalso
      obtain ⟨p1, p2⟩ := pre_len w hx hu hux hd z hno
      have := z.length_le
      omega
  obtain ⟨q, e, h1, h2⟩ := key
  rw [e]
  by_cases c : sp t x u <+: LS.drop k
  · rw [if_pos c, h1 c]
  · rw [if_neg c, h2 c]
theorem x_follow {i k u u0 x e : Nat} {LS : List Nat} (w : wfN t) (E : WE h r t B) (hL : lrep (gI h 179) i LS) (h16 : i + LS.length ≤ 16) (h0 : 0 < LS.length) (eE : gI h 178 1 = nI (i + LS.length)) (hx : plLab x) (hu : u < nN t) (hk : k ≤ LS.length) (hch0 : chF t u0 LS e) (hch : chF t u (LS.drop k) e) (hpre : chF t u0 (LS.take k) u) : f_X9_follow 178 2 r (nI x) (nI (i + k)) h = some (if x < 100 then (if x < nN t ∧ cnt t x u = 1 ∧ sp t x u <+: LS.drop k then nI (i + k + (sp t x u).length) else -1) else (if [x - 100] <+: LS.drop k ∧ nU t (x - 100) = true then nI (i + k + 1) else -1), h) := by
  have hn10 := w.2.1
  have hm30 := w.2.2.1
  have hx' : x < 10 ∨ (100 ≤ x ∧ x < 130) := hx
  unfold f_X9_follow
  by_cases c1 : x < 100
  · rw [if_pos (show nI x < 100 from (nI_ltI (b := 100) (by omega) (by decide)).mpr c1), if_pos c1, x_hasNode E.2.1.1 (by omega), Option.bind_some, nI_toInt (by omega)]
    by_cases c2 : x < nN t
    · rw [if_neg (fun z => bI_0.mp z (by omega))]
      dsimp only
      have rest : f_X9_follow_99 178 2 r (nI x) (nI (i + k)) (nI u) h = some ((if x < nN t ∧ cnt t x u = 1 ∧ sp t x u <+: LS.drop k then nI (i + k + (sp t x u).length) else -1), h) := by
        unfold f_X9_follow_99
        by_cases c3 : u = x
        · rw [if_pos (by rw [c3]), if_pos ⟨c2, by rw [c3, cnt_self], by rw [c3, sp_v]; exact List.nil_prefix⟩, c3, sp_v]
          rfl
        · rw [if_neg (fun z => c3 (nI_inj (by omega) (by omega) z)), w_count w E hu c2, Option.bind_some]
          dsimp only
          by_cases c4 : cnt t x u = 1
          · rw [if_pos ((cnt_is1 w c2 hu).mpr c4), x_follow131 w E hL h16 eE c2 hu c3 c4 hk hch]
            by_cases c5 : sp t x u <+: LS.drop k
            · rw [if_pos c5, if_pos ⟨c2, c4, c5⟩]
            · rw [if_neg c5, if_neg (fun z => c5 z.2.2)]
          · rw [if_neg (fun z => c4 ((cnt_is1 w c2 hu).mp z)), if_neg (fun z => c4 z.2.1)]
      rw [eE]
      by_cases c3 : k < LS.length
      · have hlk := chF_mem hch0 k c3
        rw [drop_cons c3] at hch
        rw [if_pos (nI_lt (by omega) (by omega)), E.1.i0, Option.bind_some, w_link E hL c3 h16, Option.bind_some, w_fromOf w E hlk, Option.bind_some, hch.2.1]
        exact rest
      · have hk' : k = LS.length := by omega
        have hll := chF_mem hch0 (LS.length - 1) (by omega)
        have hend := getLast_to hch0 h0
        rw [hk', List.drop_length] at hch
        have hue : u = e := hch
        rw [if_neg (nI_nlt (by omega) (by omega)), E.1.i0, Option.bind_some, pI_sub, show pI (i + LS.length) = nI (i + (LS.length - 1)) from by
          rw [show i + LS.length = (i + (LS.length - 1)) + 1 by omega, pI_s], w_link E hL (by omega) h16, Option.bind_some, w_toOf w E hll, Option.bind_some, hend, ← hue]
        exact rest
    · rw [if_pos (bI_0.mpr (by omega)), if_neg (fun z => c2 z.1)]
  · rw [if_neg (show ¬ nI x < 100 from fun z => c1 ((nI_ltI (b := 100) (by omega) (by decide)).mp z)), if_neg c1, lt_def, eE]
    rw [show nI x - 100 = nI (x - 100) from by
      have e : nI x = nI (x - 100) + 100 := by
        show _ = nI (x - 100) + nI 100
        rw [nI_add, Nat.sub_add_cancel (by omega)]
      rw [e]; exact Int32.add_sub_cancel _ _]
    by_cases c3 : k < LS.length
    · have hlk := chF_mem hch0 k c3
      rw [if_pos (nI_lt (by omega) (by omega)), E.1.i0, Option.bind_some, w_link E hL c3 h16, Option.bind_some, drop_cons c3]
      by_cases c4 : LS.getD k 0 = x - 100
      · rw [if_pos (by rw [c4])]
        rw [c4] at hlk ⊢
        rw [w_isUp w E hlk, Option.bind_some]
        by_cases c5 : nU t (x - 100) = true
        · rw [if_neg (fun z => bI_0.mp z c5), if_pos ⟨by rw [List.cons_prefix_cons]; exact ⟨rfl, List.nil_prefix⟩, c5⟩, nI_1]
        · rw [if_pos (bI_0.mpr c5), if_neg (fun z => c5 z.2)]
      · rw [if_neg (fun z => c4 (nI_inj (by omega) (by omega) z)), if_neg (fun z => c4 (List.cons_prefix_cons.mp z.1).1.symm)]
    · rw [if_neg (nI_nlt (by omega) (by omega)), List.drop_of_length_le (by omega), if_neg (fun z => by have := z.1.length_le; simp at this)]
theorem x_bindingReach {i b u e : Nat} {LS : List Nat} {y : Nat × List Nat} (w : wfN t) (wB : wfB t B) (E : WE h r t B) (hL : lrep (gI h 179) i LS) (h16 : i + LS.length ≤ 16) (h0 : 0 < LS.length) (eE : gI h 178 1 = nI (i + LS.length)) (hch : chF t u LS e) (hu : u < nN t) (hb : b < 6) (eB : B b = some y) : f_X9_bindingReach 178 2 r (nI b) (nI i) h = some (nI (cvd (pkt t B u y.2) LS), h) := by
  have hn10 := w.2.1
  obtain ⟨b1, b2, b3, b4⟩ := wB b hb y eB
  obtain ⟨y1, y2, y3⟩ := (E.2.1.2.2.2.2 b hb).2 y eB
  have key : Ev (f_X9_bindingReach 178 2 r (nI b) (nI i) h) (fun q => q = (nI (cvd (pkt t B u y.2) LS), h)) := by
    unfold f_X9_bindingReach f_X9_bindingReach_7
    refine Ev_FU (fun m p h1 => ∃ j k s, j + m = y.2.length ∧ h1 = h ∧ p = (nI (i + k), nI j) ∧ k ≤ LS.length ∧ pE s = true ∧ pT s = LS.take k ∧ pN s < nN t ∧ chF t (pN s) (LS.drop k) e ∧ chF t u (LS.take k) (pN s) ∧ pkRun t B (85 - j) j (y.2.drop j) s = pkt t B u y.2) y.2.length (nI i, 0) h (by omega) ⟨0, 0, (u, true, [], y.2.length, fun _ => 0), by omega, rfl, rfl, Nat.zero_le _, rfl, rfl, hu, hch, rfl, rfl⟩ ?_
    rintro m p h1 rec ⟨j, k, s, hj, rfl, rfl, hk, sE, sT, sN, c1, c2, hrun⟩ ih
    unfold f_X9_bindingReach_7b
    dsimp only
    rw [E.1.n7, Option.bind_some, E.1.p7, Option.bind_some, ldI_ok (by rw [E.1.z8]; omega) (by omega), Option.bind_some, show gI h1 8 b = nI y.2.length from y2]
    by_cases q : j < y.2.length
    · have hlab := b4 j q
      have hx' : y.2.getD j 0 < 10 ∨ (100 ≤ y.2.getD j 0 ∧ y.2.getD j 0 < 130) := hlab
      rw [if_pos (nI_lt q (by omega)), Option.bind_some, x_rget E.1.rows7 (by decide) (by decide) hb b3 y2 y3, Option.bind_some]
      dsimp only
      rw [nI_toInt (by omega), if_pos (by omega), show ((j : Int)).toNat = j from rfl, x_follow w E hL h16 h0 eE hlab sN hk hch c1 c2, Option.bind_some]
      dsimp only
      rw [drop_cons q, show 85 - j = (84 - j) + 1 by omega] at hrun
      generalize hx : y.2.getD j 0 = x at *
      -- the end where it leaves the row
      have off : ∀ s', pkStep t B x (y.2.drop (j + 1)) s = some (y.2.drop (j + 1), s') → ¬ (pE s' = true ∧ pT s' <+: LS) → cvd (pkt t B u y.2) LS = 0 := fun s' e1 e2 => by
        rw [← hrun, pkRun_some e1]
        exact cvd_off e2
      have offN : pkStep t B x (y.2.drop (j + 1)) s = none → cvd (pkt t B u y.2) LS = 0 := fun e1 => by
        rw [← hrun, pkRun_none e1]
        unfold cvd
        rw [if_neg (fun z => by cases z.1)]
      have pre : ∀ T, LS.take k ++ T <+: LS ↔ T <+: LS.drop k := fun T => by
        have : LS = LS.take k ++ LS.drop k := (List.take_append_drop k LS).symm
        constructor
        · intro z
          rw [this] at z
          rw [List.take_append_drop] at z
          have z2 : LS.take k ++ T <+: LS.take k ++ LS.drop k := by rw [List.take_append_drop]; exact z
          exact (List.prefix_append_right_inj _).mp z2
        · intro z
          have z2 := (List.prefix_append_right_inj (LS.take k)).mpr z
          rw [List.take_append_drop] at z2
          exact z2
      by_cases k1 : x < 100
      · rw [if_pos k1]
        by_cases k2 : x < nN t ∧ cnt t x (pN s) = 1 ∧ sp t x (pN s) <+: LS.drop k
        · have hd := cnt1_near w k2.1 sN k2.2.1
          have hstep : pkStep t B x (y.2.drop (j + 1)) s = some (y.2.drop (j + 1), pkNode t x s) := by
            unfold pkStep; rw [if_pos k1, if_pos ⟨k2.1, hd⟩]
          rw [if_pos k2, if_neg (nI_m1 (by have := k2.2.2.length_le; rw [List.length_drop] at this; omega)), nI_1, Nat.add_assoc]
          have hle : k + (sp t x (pN s)).length ≤ LS.length := by
            have := k2.2.2.length_le
            rw [List.length_drop] at this
            omega
          have hT : pT (pkNode t x s) = LS.take (k + (sp t x (pN s)).length) := by
            show pT s ++ sp t x (pN s) = _
            rw [sT, List.take_add, ← take_is k2.2.2]
          have hspc := sp_ch w k2.1 sN hd
          obtain ⟨rr, hrr⟩ := k2.2.2
          refine ih (m - 1) _ _ (by omega) ⟨j + 1, k + (sp t x (pN s)).length, pkNode t x s, by omega, rfl, rfl, hle, ?_, hT, k2.1, ?_, ?_, ?_⟩
          · show (pE s && decide (cnt t x (pN s) = 1)) = true
            rw [sE, k2.2.1]; rfl
          · have hd2 : LS.drop (k + (sp t x (pN s)).length) = rr := by
              rw [← List.drop_drop, ← hrr, List.drop_left]
            rw [hd2]
            rw [← hrr] at c1
            obtain ⟨mm, m1, m2⟩ := chF_split c1
            rw [chF_fun m1 hspc] at m2
            exact m2
          · rw [← hT]
            show chF t u (pT s ++ sp t x (pN s)) x
            rw [sT]
            exact chF_app c2 hspc
          · rw [← hrun, pkRun_some hstep]
            rw [show 85 - (j + 1) = 84 - j by omega]
        · rw [if_neg k2, if_pos rfl]
          have : cvd (pkt t B u y.2) LS = 0 := by
            by_cases k3 : x < nN t ∧ dist t x (pN s) < 1000000
            · refine off (pkNode t x s) (by unfold pkStep; rw [if_pos k1, if_pos k3]) (fun z => k2 ⟨k3.1, ?_, ?_⟩)
              · have z1 : (pE s && decide (cnt t x (pN s) = 1)) = true := z.1
                rw [sE] at z1
                simpa using z1
              · have z2 : pT s ++ sp t x (pN s) <+: LS := z.2
                rw [sT] at z2
                exact (pre _).mp z2
            · exact offN (by unfold pkStep; rw [if_pos k1, if_neg k3])
          rw [this]
          exact Ev_some rfl
      · rw [if_neg k1]
        by_cases k2 : [x - 100] <+: LS.drop k ∧ nU t (x - 100) = true
        · obtain ⟨rr, hrr⟩ := k2.1
          have hrr : (x - 100) :: rr = LS.drop k := hrr
          have hlen := congrArg List.length hrr
          rw [List.length_cons, List.length_drop] at hlen
          have c1' := c1
          rw [← hrr] at c1'
          have hstep : pkStep t B x (y.2.drop (j + 1)) s = some (y.2.drop (j + 1), pkLink t (x - 100) s) := by
            unfold pkStep; rw [if_neg k1, if_pos (by omega), if_pos ⟨c1'.1, k2.2, c1'.2.1⟩]
          have hT : pT (pkLink t (x - 100) s) = LS.take (k + 1) := by
            show pT s ++ [x - 100] = _
            rw [sT, List.take_add, ← hrr]
            rfl
          rw [if_pos k2, if_neg (nI_m1 (by omega)), nI_1]
          refine ih (m - 1) _ _ (by omega) ⟨j + 1, k + 1, pkLink t (x - 100) s, by omega, rfl, rfl, by omega, sE, hT, (w.2.2.2 _ c1'.1).2.1, ?_, ?_, ?_⟩
          · have hd2 : LS.drop (k + 1) = rr := by
              rw [← List.drop_drop, ← hrr]; rfl
            rw [hd2]
            exact c1'.2.2
          · rw [← hT]
            show chF t u (pT s ++ [x - 100]) (nT t (x - 100))
            rw [sT]
            exact chF_app c2 ⟨c1'.1, c1'.2.1, rfl⟩
          · rw [← hrun, pkRun_some hstep]
            rw [show 85 - (j + 1) = 84 - j by omega]
        · rw [if_neg k2, if_pos rfl]
          have : cvd (pkt t B u y.2) LS = 0 := by
            by_cases k3 : x - 100 < nM t ∧ nU t (x - 100) = true ∧ nF t (x - 100) = pN s
            · refine off (pkLink t (x - 100) s) (by unfold pkStep; rw [if_neg k1, if_pos (by omega), if_pos k3]) (fun z => k2 ⟨?_, k3.2.1⟩)
              have z2 : pT s ++ [x - 100] <+: LS := z.2
              rw [sT] at z2
              exact (pre _).mp z2
            · exact offN (by unfold pkStep; rw [if_neg k1, if_pos (by omega), if_neg k3])
          rw [this]
          exact Ev_some rfl
    · have hj' : j = y.2.length := by omega
      subst hj'
      rw [if_neg (nI_nlt (Nat.le_refl _) (by omega)), subI]
      rw [List.drop_length, pkRun_nil] at hrun
      rw [← hrun]
      unfold cvd
      dsimp only
      rw [if_pos ⟨sE, by rw [sT]; exact List.isPrefixOf_iff_prefix.mpr (List.take_prefix _ _)⟩, sT, List.length_take, Nat.min_eq_left hk]
      exact Ev_some rfl
  obtain ⟨q, e, rfl⟩ := key
  exact e
end WX
