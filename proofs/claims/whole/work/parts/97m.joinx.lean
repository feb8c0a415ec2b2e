/-! ===== the class joins routes ===== -/
def jnX : List Nat := [176, 177]
theorem x_join {h : MH} {t : NT} {B : Nat → Option (Nat × List Nat)} {b : Nat} (w : wfN t) (L : XL h) (X : XN h 2 t B) (hb : b < nM t) (hUb : nU t b = true) (R : rtIs h 172 (barN t b)) : Ev (f_X4_join 175 172 2 (nI b) h) (fun h' => frm jnX h h' ∧ rtIs h' 175 t) := by
  have hn10 := w.2.1
  have hm30 := w.2.2.1
  have wB : wfN (barN t b) := w
  obtain ⟨w1, w2, w3, w4, w5⟩ := w.2.2.2 b hb
  unfold f_X4_join
  rw [L.n3, Option.bind_some, ldI_ok (by rw [L.z3]; omega) (by omega), Option.bind_some, show gI h 3 b = nI (nF t b) from (X.2.2.2.1 b hb).1, L.n4, Option.bind_some, ldI_ok (by rw [L.z4]; omega) (by omega), Option.bind_some, show gI h 4 b = nI (nT t b) from (X.2.2.2.1 b hb).2.1]
  unfold f_X4_join_19
  refine Ev_FU (fun m p h1 => ∃ v0, v0 + m = nN t ∧ p = nI v0 ∧ frm jnX h h1 ∧ ∀ u v, u < nN t → v < v0 → gI h1 176 (10 * v + u) = nI (dist t v u) ∧ gL h1 177 (10 * v + u) = lN (cnt t v u)) (nN t) 0 h (by omega) ⟨0, by omega, rfl, frm.rf, fun u v _ hv => absurd hv (Nat.not_lt_zero _)⟩ ?_
  rintro m p h1 rec ⟨v0, hv0, rfl, f1, T1⟩ ih
  unfold f_X4_join_19b
  have X1 : XN h1 2 t B := X.fr (fun k hk => f1.1 _ (by unfold jnX; simp; omega))
  rw [X1.1]
  by_cases q : v0 < nN t
  · rw [if_pos (nI_lt q (by omega))]
    unfold f_X4_join_31
    refine Ev_FU (fun m p h2 => ∃ u0, u0 + m = nN t ∧ p = nI u0 ∧ frm jnX h h2 ∧ (∀ u v, u < nN t → v < v0 → gI h2 176 (10 * v + u) = nI (dist t v u) ∧ gL h2 177 (10 * v + u) = lN (cnt t v u)) ∧ ∀ u, u < u0 → gI h2 176 (10 * v0 + u) = nI (dist t v0 u) ∧ gL h2 177 (10 * v0 + u) = lN (cnt t v0 u)) (nN t) 0 h1 (by omega) ⟨0, by omega, rfl, f1, T1, fun u hu => absurd hu (Nat.not_lt_zero _)⟩ ?_
    rintro m2 p h2 rec2 ⟨u0, hu0, rfl, f2, T2, U2⟩ ih2
    have L2 := L.fr f2 (by decide)
    have X2 : XN h2 2 t B := X.fr (fun k hk => f2.1 _ (by unfold jnX; simp; omega))
    have R2 : rtIs h2 172 (barN t b) := R.fr (f2.1 _ (by decide)) (f2.2.1 _ (by decide))
    have eD : ∀ u v, u < nN t → v < nN t → f_X4_distance 172 (nI u) (nI v) h2 = some (nI (dist (barN t b) v u), h2) := fun u v hu hv => by
      rw [x_distIn (by omega) (by omega), L2.d172, Option.bind_some, ix10, ldI_ok (by rw [L2.z173]; omega) (by omega), Option.bind_some, show gI h2 173 (10 * v + u) = nI (dist (barN t b) v u) from (R2 u v hu hv).1]
    have eC : ∀ u v, u < nN t → v < nN t → f_X4_countOf 172 (nI u) (nI v) h2 = some (lN (cnt (barN t b) v u), h2) := fun u v hu hv => by
      rw [x_countIn (by omega) (by omega), L2.c172, Option.bind_some, ix10, ldL_ok (by rw [L2.z174]; omega) (by omega), Option.bind_some, show gL h2 174 (10 * v + u) = lN (cnt (barN t b) v u) from (R2 u v hu hv).2]
    unfold f_X4_join_31b f_X4_join_108
    rw [X2.1]
    by_cases q2 : u0 < nN t
    · have g1 : dist (barN t b) v0 u0 ≤ 1000000 := (dist_bel wB q).2.1 _ q2
      have g2 : dist (barN t b) (nF t b) u0 ≤ 1000000 := (dist_bel wB w1).2.1 _ q2
      have g3 : dist (barN t b) v0 (nT t b) ≤ 1000000 := (dist_bel wB q).2.1 _ w2
      have hj := j_dist (u := u0) w hb hUb q q2
      have hk := j_cnt (u := u0) w hb hUb q q2
      rw [if_pos (nI_lt q2 (by omega)), lt_def, ix10, L2.d172, Option.bind_some, ldI_ok (by rw [L2.z173]; omega) (by omega), Option.bind_some, show gI h2 173 (10 * v0 + u0) = nI (dist (barN t b) v0 u0) from (R2 u0 v0 q2 q).1, L2.c172, Option.bind_some, ldL_ok (by rw [L2.z174]; omega) (by omega), Option.bind_some, show gL h2 174 (10 * v0 + u0) = lN (cnt (barN t b) v0 u0) from (R2 u0 v0 q2 q).2, eD _ _ q2 w1, Option.bind_some]
      dsimp only
      rw [L2.n5, Option.bind_some, ldI_ok (by rw [L2.z5]; omega) (by omega), Option.bind_some, show gI h2 5 b = nI (nC t b) from (X2.2.2.2.1 b hb).2.2, eD _ _ w2 q, Option.bind_some, lt_def]
      dsimp only
      rw [nI_add, nI_add]
      have eo : dist (barN t b) (nF t b) u0 + nC t b + dist (barN t b) v0 (nT t b) = ovr t b v0 u0 := rfl
      rw [eo]
      have hob : ovr t b v0 u0 ≤ 2000099 := by unfold ovr; omega
      -- the place is laid
      have fin : ∀ (x : Nat) (y : Nat), x = dist t v0 u0 → y = cnt t v0 u0 → Ev (f_X4_join_137 rec rec2 175 172 2 (nI b) (nI (nF t b)) (nI (nT t b)) (nI v0) (nI u0) (nI (10 * v0 + u0)) (nI x) (lN y) h2) (fun h' => frm jnX h h' ∧ rtIs h' 175 t) := fun x y hx hy => by
        unfold f_X4_join_137
        rw [L2.d175, Option.bind_some, stI_ok (by rw [L2.z176]; omega) (by omega), Option.bind_some, show gR (sI h2 176 (10 * v0 + u0) (nI x)) 175 1 = some 177 from L2.c175, Option.bind_some, stL_ok (by rw [gN_sI, L2.z177]; omega) (by omega), Option.bind_some, nI_1]
        refine ih2 (m2 - 1) _ _ (by omega) ⟨u0 + 1, by omega, rfl, frm.sL (by decide) (frm.sI (by decide) f2), fun u v hu hv => ?_, fun u hu => ?_⟩
        · show gI (sI h2 _ _ _) _ _ = _ ∧ gL (sL (sI h2 _ _ _) _ _ _) _ _ = _
          rw [gI_sI_nk (by omega), gL_sL, if_neg (fun z => by omega), gL_sI]
          exact T2 u v hu hv
        · show gI (sI h2 _ _ _) _ _ = _ ∧ gL (sL (sI h2 _ _ _) _ _ _) _ _ = _
          by_cases q3 : u = u0
          · rw [q3, gI_s, gL_s, hx, hy]; exact ⟨rfl, rfl⟩
          · rw [gI_sI_nk (by omega), gL_sL, if_neg (fun z => q3 (by omega)), gL_sI]
            exact U2 u (by omega)
      by_cases c1 : ovr t b v0 u0 < dist (barN t b) v0 u0
      · have hjd : jD t b v0 u0 = ovr t b v0 u0 := by unfold jD; rw [if_pos c1]
        rw [if_pos ((nI_ltI (by omega) (by omega)).mpr c1), if_pos rfl, eC _ _ q2 w1, Option.bind_some]
        dsimp only
        rw [eC _ _ w2 q, Option.bind_some, lt_def]
        dsimp only
        rw [lN_mul, show (0 : Int64) + lN (cnt (barN t b) (nF t b) u0 * cnt (barN t b) v0 (nT t b)) = lN (0 + cnt (barN t b) (nF t b) u0 * cnt (barN t b) v0 (nT t b)) from lN_add 0 _]
        refine fin _ _ (by rw [hj, hjd]) ?_
        rw [hk]
        unfold jK
        rw [hjd, if_neg (by omega), if_pos rfl]
      · have hjd : jD t b v0 u0 = dist (barN t b) v0 u0 := by unfold jD; rw [if_neg c1]
        rw [if_neg (fun z => c1 ((nI_ltI (by omega) (by omega)).mp z))]
        by_cases c2 : ovr t b v0 u0 = dist (barN t b) v0 u0
        · rw [if_pos (by rw [c2]), eC _ _ q2 w1, Option.bind_some]
          dsimp only
          rw [eC _ _ w2 q, Option.bind_some, lt_def]
          dsimp only
          rw [lN_mul, lN_add]
          refine fin _ _ (by rw [hj, hjd]) ?_
          rw [hk]
          unfold jK
          rw [hjd, if_pos rfl, if_pos c2]
        · rw [if_neg (fun z => c2 (nI_inj (by omega) (by omega) z))]
          refine fin _ _ (by rw [hj, hjd]) ?_
          rw [hk]
          unfold jK
          rw [hjd, if_pos rfl, if_neg c2]
          rfl
    · have : u0 = nN t := by omega
      subst this
      rw [if_neg (nI_nlt (Nat.le_refl _) (by omega)), nI_1]
      refine ih (m - 1) _ _ (by omega) ⟨v0 + 1, by omega, rfl, f2, fun u v hu hv => ?_⟩
      by_cases q3 : v = v0
      · rw [q3]; exact U2 u hu
      · exact T2 u v hu (by omega)
  · rw [if_neg (fun z => q ((nI_ltI (by omega) (by omega)).mp z))]
    exact Ev_some ⟨f1, fun u v hu hv => T1 u v hu (by omega)⟩
