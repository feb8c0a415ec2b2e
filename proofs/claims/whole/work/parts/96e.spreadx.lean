/-! ===== the class's packet: parting ===== -/
def pkX : List Nat := [183, 186, 187, 189, 190, 191, 192, 193]
def XE (h : MH) (t : NT) (B : Nat → Option (Nat × List Nat)) : Prop := XL h ∧ XN h 2 t B ∧ rtIs h 169 t
theorem XE.fr {h h' : MH} {X : List Nat} {t : NT} {B : Nat → Option (Nat × List Nat)} (f : frm X h h') (hX : ∀ q, q ∈ X → 183 ≤ q) (E : XE h t B) : XE h' t B := by
  have hn : ∀ b, b < 183 → b ∉ X := fun b hb q => by have := hX b q; omega
  refine ⟨E.1.fr f (fun q hq => hn q ?_), E.2.1.fr (fun k hk => f.1 _ (hn _ (by omega))), E.2.2.fr (f.1 _ (hn _ (by decide))) (f.2.1 _ (hn _ (by decide)))⟩
  have : ∀ q ∈ rowsAds, q < 183 := by decide
  exact this q hq
theorem flow_out' {t : NT} {v l : Nat} (w : wfN t) (hl : nM t ≤ l) : ∀ (k u x : Nat), cl t v u < k → u < nN t → flow t v u x l = 0 := by
  intro k
  induction k with
  | zero => intro u x h; omega
  | succ k ih =>
    intro u x hk hu
    rw [flow_rec w hu]
    refine (sumTo_congr (g := fun _ => 0) _ (fun j hj => ?_)).trans (sumTo_zero _)
    by_cases ho : onB t v u j = true
    · have o := on_near w hj ho
      have h1 := cl_lt (t := t) (v := v) (u := u) o.2.1 o.1
      rw [if_pos ho, ih _ _ (by omega) o.2.1, if_neg (by omega)]
    · rw [if_neg ho]
theorem flow_out {t : NT} {v l u x : Nat} (w : wfN t) (hl : nM t ≤ l) (hu : u < nN t) : flow t v u x l = 0 := flow_out' w hl _ u x (Nat.lt_succ_self _) hu
theorem max1 {d : Nat} (hd : d ≤ 30) : ((if 1 < nI d then nI d else 1) : Int32) = nI (max 1 d) := by
  by_cases q : 1 < d
  · rw [if_pos (show (1 : Int32) < nI d from nI_lt (a := 1) q (by omega)), Nat.max_eq_right (by omega)]
  · rw [if_neg (show ¬ (1 : Int32) < nI d from nI_nlt (a := 1) (by omega) (by omega)), Nat.max_eq_left (by omega)]
    rfl
theorem deg30 {t : NT} {v u : Nat} (w : wfN t) : deg t v u ≤ 30 := by
  have h1 := sumTo_mono (f := fun l => if onB t v u l = true then 1 else 0) (g := fun _ => 1) (nM t) (fun i _ => by split <;> omega)
  rw [sumTo_one] at h1
  have := w.2.2.1
  unfold deg
  omega
theorem x_degOf {t : NT} {v u : Nat} (w : wfN t) (h : MH) : f_J6_bitCount_0f7a4 (setF (onB t v u) (nM t)) h = some (nI (deg t v u), h) := by
  have := w.2.2.1
  rw [x_bitCount, bcF_set (by omega)]
  rfl
section XS
variable {h : MH} {t : NT} {B : Nat → Option (Nat × List Nat)} {v Y : Nat} {F0 p f : Nat → Nat} {C : Nat → Bool}
theorem x_handOn {u : Nat} (w : wfN t) (E : XE h t B) (hu : u < nN t) (hp : ∀ u, u < nN t → gL h 192 u = lN (p u)) (hf : ∀ l, l < nM t → gL h 193 l = lN (f l)) (hpu : p u < 2 ^ 63) (hd : 1 ≤ deg t v u) (S : spP t v Y F0 C p f u (p u / deg t v u) 0) : Ev (f_X3_handOn 183 2 (nI u) (setF (onB t v u) (nM t)) h) (fun h' => ∃ p' f', frm [192, 193] h h' ∧ gI h' = gI h ∧ (∀ u, u < nN t → gL h' 192 u = lN (p' u)) ∧ (∀ l, l < nM t → gL h' 193 l = lN (f' l)) ∧ spI t v Y F0 C p' f') := by
  obtain ⟨L, X, R⟩ := E
  have hn10 := w.2.1
  have hm30 := w.2.2.1
  have hd30 := deg30 (v := v) (u := u) w
  unfold f_X3_handOn
  rw [L.k5, Option.bind_some, ldL_ok (by rw [L.z192]; omega) (by omega), Option.bind_some, hp u hu, x_degOf w, Option.bind_some, lt_def, max1 hd30, Nat.max_eq_right hd, nI_l (by omega), if_neg (lN_0 hd (by omega)), lt_def, pk_lDiv hpu hd (by omega)]
  unfold f_X3_handOn_21
  refine Ev_FU (fun m q h1 => ∃ i p' f', i + m = nM t ∧ q = nI i ∧ frm [192, 193] h h1 ∧ gI h1 = gI h ∧ (∀ u, u < nN t → gL h1 192 u = lN (p' u)) ∧ (∀ l, l < nM t → gL h1 193 l = lN (f' l)) ∧ spP t v Y F0 C p' f' u (p u / deg t v u) i) (nM t) 0 h (by omega) ⟨0, p, f, by omega, rfl, frm.rf, rfl, hp, hf, S⟩ ?_
  rintro m q h1 rec ⟨i, p', f', hi, rfl, fr, gi, hp', hf', S'⟩ ih
  have L1 : XL h1 := L.fr fr (by decide)
  have A1 := L1.nt
  unfold f_X3_handOn_21b f_X3_handOn_68
  rw [gi, X.2.1]
  by_cases q : i < nM t
  · obtain ⟨w1, w2, w3, w4, w5⟩ := w.2.2.2 i q
    rw [if_pos (nI_lt q (by omega)), nI_1]
    by_cases c : onB t v u i = true
    · rw [if_neg (fun z => by rw [bit_ush (by omega), bit_setF (by omega)] at z; simp [q, c] at z), L1.k6, Option.bind_some, ldL_ok (by rw [L1.z193]; omega) (by omega), Option.bind_some, hf' i q, lN_add, stL_ok (by rw [L1.z193]; omega) (by omega), Option.bind_some]
      rw [show gR (sL h1 193 i (lN (f' i + p u / deg t v u))) 183 5 = some 192 from L1.k5, Option.bind_some, show gR (sL h1 193 i (lN (f' i + p u / deg t v u))) 2 4 = some 4 from L1.n4, Option.bind_some]
      rw [show ldI (sL h1 193 i (lN (f' i + p u / deg t v u))) 4 (nI i) = some (nI (nT t i)) from by
        rw [ldI_ok (by rw [gN_sL, L1.z4]; omega) (by omega), gI_sL, gi, (X.2.2.2.1 i q).2.1], Option.bind_some]
      rw [show ldL (sL h1 193 i (lN (f' i + p u / deg t v u))) 192 (nI (nT t i)) = some (lN (p' (nT t i))) from by
        rw [ldL_ok (by rw [gN_sL, L1.z192]; omega) (by omega), gL_sL_ne (by decide), hp' _ w2], Option.bind_some, lN_add, stL_ok (by rw [gN_sL, L1.z192]; omega) (by omega), Option.bind_some]
      refine ih (m - 1) _ _ (by omega) ⟨i + 1, _, _, by omega, rfl, frm.sL (by decide) (frm.sL (by decide) fr), gi, fun y hy => ?_, fun l hl => ?_, sp_step w q c S'⟩
      · show gL (sL _ _ _ _) _ _ = lN (if y = nT t i then _ else _)
        by_cases q2 : y = nT t i
        · rw [if_pos q2, q2, gL_s]
        · rw [if_neg q2, gL_sL, if_neg (fun z => q2 z.2), gL_sL_ne (by decide)]; exact hp' y hy
      · show gL (sL _ _ _ _) _ _ = lN (if l = i then _ else _)
        rw [gL_sL_ne (by decide)]
        by_cases q2 : l = i
        · rw [if_pos q2, q2, gL_s]
        · rw [if_neg q2, gL_sL, if_neg (fun z => q2 z.2)]; exact hf' l hl
    · rw [if_pos (by rw [bit_ush (by omega), bit_setF (by omega)]; simp [c])]
      exact ih (m - 1) _ _ (by omega) ⟨i + 1, p', f', by omega, rfl, fr, gi, hp', hf', sp_skip c S'⟩
  · have : i = nM t := by omega
    subst this
    rw [if_neg (nI_nlt (Nat.le_refl _) (by omega))]
    exact Ev_some ⟨p', f', fr, gi, hp', hf', sp_close S'⟩
theorem x_dist {u : Nat} (w : wfN t) (E : XE h t B) (hu : u < nN t) (hv : v < nN t) : f_X4_distance 169 (nI u) (nI v) h = some (nI (dist t v u), h) := by
  have hn10 := w.2.1
  rw [x_distIn (by omega) (by omega), E.1.d169, Option.bind_some, ix10, ldI_ok (by rw [E.1.z170]; omega) (by omega), Option.bind_some]
  rw [show gI h 170 (10 * v + u) = nI (dist t v u) from (E.2.2 u v hu hv).1]
theorem x_count {u : Nat} (w : wfN t) (E : XE h t B) (hu : u < nN t) (hv : v < nN t) : f_X4_countOf 169 (nI u) (nI v) h = some (lN (cnt t v u), h) := by
  have hn10 := w.2.1
  rw [x_countIn (by omega) (by omega), E.1.c169, Option.bind_some, ix10, ldL_ok (by rw [E.1.z171]; omega) (by omega), Option.bind_some]
  rw [show gL h 171 (10 * v + u) = lN (cnt t v u) from (E.2.2 u v hu hv).2]
theorem x_farthest {X : Int32} (w : wfN t) (E : XE h t B) (hv : v < nN t) (hp : ∀ u, u < nN t → gL h 192 u = lN (p u)) (hb : ∀ u, u < nN t → C u = false → p u < 2 ^ 63) (hX : ∀ u, u < 10 → bit X u = (decide (u < nN t) && (!C u && !decide (u = v)))) : Ev (f_X3_farthest 183 169 (nI v) X h) (fun q => q.2 = h ∧ ((q.1 = -1 ∧ ∀ u, u < nN t → C u = false → u ≠ v → p u = 0) ∨ ∃ x, q.1 = nI x ∧ x < nN t ∧ C x = false ∧ x ≠ v ∧ p x ≠ 0 ∧ ∀ u, u < nN t → C u = false → p u ≠ 0 → dist t v u ≤ dist t v x)) := by
  have L := E.1
  have hn10 := w.2.1
  have e0 : dist t v v = 0 := (dist_bel w hv).1
  unfold f_X3_farthest f_X3_farthest_9
  refine Ev_FU (fun m q h1 => ∃ i b d, i + m = 10 ∧ h1 = h ∧ q = (b, nI d, nI i) ∧ d ≤ 1000000 ∧ (∀ u, u < i → u < nN t → C u = false → u ≠ v → p u ≠ 0 → dist t v u ≤ d) ∧ ((b = -1 ∧ d = 0) ∨ ∃ x, b = nI x ∧ d = dist t v x ∧ x < nN t ∧ C x = false ∧ x ≠ v ∧ p x ≠ 0)) 10 (-1, 0, 0) h (by omega) ⟨0, -1, 0, by omega, rfl, rfl, Nat.zero_le _, fun u hu => absurd hu (Nat.not_lt_zero _), Or.inl ⟨rfl, rfl⟩⟩ ?_
  rintro m q h1 rec ⟨i, b, d, hi, rfl, rfl, hd, hl, hbb⟩ ih
  unfold f_X3_farthest_9b f_X3_farthest_65
  dsimp only
  by_cases q : i < 10
  · rw [if_pos (show nI i < 10 from (nI_ltI (by omega) (by decide)).mpr q), nI_1]
    by_cases c : i < nN t ∧ C i = false ∧ i ≠ v
    · have hd2 : dist t v i ≤ 1000000 := (dist_bel w hv).2.1 i c.1
      rw [if_neg (fun z => by rw [bit_ush (by omega), hX i q, c.2.1] at z; simp [c.1, c.2.2] at z), L.k5, Option.bind_some, ldL_ok (by rw [L.z192]; omega) (by omega), Option.bind_some, hp i c.1]
      by_cases c1 : p i = 0
      · rw [if_pos (by rw [c1]; rfl)]
        refine ih (m - 1) _ _ (by omega) ⟨i + 1, b, d, by omega, rfl, rfl, hd, fun u hu hun hC huv hpu => ?_, hbb⟩
        by_cases q2 : u = i
        · rw [q2] at hpu; exact absurd c1 hpu
        · exact hl u (by omega) hun hC huv hpu
      · rw [if_neg (lN_0 (by omega) (hb i c.1 c.2.1)), x_dist w E c.1 hv, Option.bind_some]
        dsimp only
        by_cases c2 : d < dist t v i
        · rw [if_pos ((nI_ltI (by omega) (by omega)).mpr c2), x_dist w E c.1 hv, Option.bind_some]
          refine ih (m - 1) _ _ (by omega) ⟨i + 1, nI i, dist t v i, by omega, rfl, rfl, hd2, fun u hu hun hC huv hpu => ?_, Or.inr ⟨i, rfl, rfl, c.1, c.2.1, c.2.2, c1⟩⟩
          by_cases q2 : u = i
          · rw [q2]; exact Nat.le_refl _
          · have := hl u (by omega) hun hC huv hpu; omega
        · rw [if_neg (fun z => c2 ((nI_ltI (by omega) (by omega)).mp z))]
          refine ih (m - 1) _ _ (by omega) ⟨i + 1, b, d, by omega, rfl, rfl, hd, fun u hu hun hC huv hpu => ?_, hbb⟩
          by_cases q2 : u = i
          · rw [q2]; omega
          · exact hl u (by omega) hun hC huv hpu
    · rw [if_pos (by
        rw [bit_ush (by omega), hX i q]
        by_cases c1 : i < nN t
        · cases e : C i with
          | true => simp
          | false =>
            by_cases c2 : i = v
            · simp [c2]
            · exact absurd ⟨c1, e, c2⟩ c
        · simp [c1])]
      refine ih (m - 1) _ _ (by omega) ⟨i + 1, b, d, by omega, rfl, rfl, hd, fun u hu hun hC huv hpu => ?_, hbb⟩
      by_cases q2 : u = i
      · rw [q2] at hun hC huv; exact absurd ⟨hun, hC, huv⟩ c
      · exact hl u (by omega) hun hC huv hpu
  · rw [if_neg (show ¬ nI i < 10 from fun z => q ((nI_ltI (by omega) (by decide)).mp z))]
    refine Ev_some ⟨rfl, ?_⟩
    rcases hbb with ⟨b1, b2⟩ | ⟨x, b1, b2, b3, b4, b5, b6⟩
    · refine Or.inl ⟨b1, fun u hu hC huv => ?_⟩
      by_cases z : p u = 0
      · exact z
      · have := hl u (by omega) hu hC huv z
        exact absurd (dist_0 w hv hu (by omega)) huv
    · refine Or.inr ⟨x, b1, b3, b4, b5, b6, fun u hu hC hpu => ?_⟩
      by_cases z : u = v
      · rw [z, e0]; exact Nat.zero_le _
      · rw [← b2]; exact hl u (by omega) hu hC z hpu
theorem x_spread151 {a d : Nat} {A : Nat → Nat} (w : wfN t) (E : XE h t B) (hv : v < nN t) (ha : a < nN t) (hf : ∀ l, l < nM t → gL h 193 l = lN (flow t v a (pcs t v) l)) (hA : frIs h 189 190 A (zz t)) (hAb : ∀ l, l < 30 → A l + zz t < 2 ^ 62) (hd : d = pcs t v) : Ev (f_X3_spread_151 183 2 (nI v) (lN d) FU 0 h) (fun h' => frm [183, 189, 190] h h' ∧ gI h' 183 7 = nI v ∧ (∀ k, k ≠ 7 → gI h' 183 k = gI h 183 k) ∧ frIs h' 189 190 (fun l => A l + flow t v a (zz t) l) (zz t)) := by
  obtain ⟨L, X, R⟩ := E
  have hm30 := w.2.2.1
  have hz := zz_le w
  subst hd
  unfold f_X3_spread_151
  refine Ev_FU (fun m q h1 => ∃ i, i + m = nM t ∧ q = nI i ∧ frm [189, 190] h h1 ∧ gI h1 = gI h ∧ frIs h1 189 190 (fun l => if l < i then A l + flow t v a (zz t) l else A l) (zz t)) (nM t) 0 h (by omega) ⟨0, by omega, rfl, frm.rf, rfl, hA.cg rfl rfl (fun l _ => if_neg (by omega))⟩ ?_
  rintro m q h1 rec ⟨i, hi, rfl, fr, gi, hA1⟩ ih
  have L1 : XL h1 := L.fr fr (by decide)
  unfold f_X3_spread_151b
  rw [gi, X.2.1]
  by_cases q : i < nM t
  · rw [if_pos (nI_lt q (by omega)), L1.k2, Option.bind_some, L1.k6, Option.bind_some, ldL_ok (by rw [L1.z193]; omega) (by omega), Option.bind_some, fr.2.1 193 (by decide), hf i q, nI_1]
    obtain ⟨k, hk⟩ := pcs_dvd (t := t) (v := v)
    have e1 : flow t v a (zz t) i = k * flow t v a (pcs t v) i := by
      rw [hk, Nat.mul_comm, flow_mul w ha rDv_pcs]
    have hle := flow_le (t := t) (v := v) (l := i) (x := zz t) w ha
    have hAi := hAb i (by omega)
    refine Ev_to (x_frAdd (r := 188) (C := flow t v a (zz t) i) L1.sh188 hA1 (by omega) pcs_pos zz_pos (by omega) ?_ ?_ pcs_dvd) (fun h2 z => ?_)
    · rw [if_neg (by omega)]; omega
    · rw [e1, Nat.mul_comm (flow t v a (pcs t v) i), hk]
      simp only [Nat.mul_assoc, Nat.mul_left_comm, Nat.mul_comm]
    · refine ih (m - 1) _ _ (by omega) ⟨i + 1, by omega, rfl, frm.tr fr z.1, z.2.1.trans gi, z.2.2.cg rfl rfl (fun l _ => ?_)⟩
      by_cases q2 : l = i
      · subst q2
        rw [if_pos (by omega), if_pos rfl, if_neg (by omega)]
      · rw [if_neg q2]
        by_cases q3 : l < i
        · rw [if_pos q3, if_pos (by omega)]
        · rw [if_neg q3, if_neg (by omega)]
  · have : i = nM t := by omega
    subst this
    rw [if_neg (nI_nlt (Nat.le_refl _) (by omega)), lt_def]
    refine Ev_some ⟨frm.sI (by decide) (fr.up (by decide)), gI_s _ _ _ _, fun k hk => by rw [gI_sI_nk hk, gi], hA1.cg rfl rfl (fun l _ => ?_)⟩
    by_cases q3 : l < nM t
    · rw [if_pos q3]
    · rw [if_neg q3, flow_out w (by omega) ha]; rfl
theorem x_spread88 {a : Nat} {A : Nat → Nat} {X0 : Int32} (w : wfN t) (E : XE h t B) (hv : v < nN t) (ha : a < nN t) (had : dist t v a < 1000000) (hp : ∀ u, u < nN t → gL h 192 u = lN (if u = a then pcs t v else 0)) (hf : ∀ l, l < nM t → gL h 193 l = lN 0) (hX : ∀ u, u < 10 → bit X0 u = (decide (u < nN t) && !decide (u = v))) (hA : frIs h 189 190 A (zz t)) (hAb : ∀ l, l < 30 → A l + zz t < 2 ^ 62) : Ev (f_X3_spread_88 183 2 169 (nI v) (lN (pcs t v)) FU (X0, 0) h) (fun h' => frm [183, 189, 190, 192, 193] h h' ∧ gI h' 183 7 = nI v ∧ (∀ k, k ≠ 7 → gI h' 183 k = gI h 183 k) ∧ frIs h' 189 190 (fun l => A l + flow t v a (zz t) l) (zz t)) := by
  have hn10 := w.2.1
  have hpc := pcs_le (v := v) w
  have hbel := dist_bel w hv
  unfold f_X3_spread_88
  refine Ev_FU (fun m q h1 => ∃ i C p f X, i + m = nN t ∧ q = (X, nI i) ∧ frm [192, 193] h h1 ∧ gI h1 = gI h ∧ (∀ u, u < nN t → gL h1 192 u = lN (p u)) ∧ (∀ l, l < nM t → gL h1 193 l = lN (f l)) ∧ spI t v (pcs t v) (flow t v a (pcs t v)) C p f ∧ nmQ C (nN t) = i ∧ (∀ u, u < nN t → C u = false → p u ≠ 0 → dist t v u < 1000000) ∧ ∀ u, u < 10 → bit X u = (decide (u < nN t) && (!C u && !decide (u = v)))) (nN t) (X0, 0) h (by omega) ⟨0, fun _ => false, fun u => if u = a then pcs t v else 0, fun _ => 0, X0, by omega, rfl, frm.rf, rfl, hp, hf, sp_init w ha rDv_pcs rfl rfl (fun c _ hc => by cases hc), ?_, fun u hu _ hpu => ?_, fun u hu => by rw [hX u hu]; simp⟩ ?_
  · unfold nmQ
    exact (sumTo_congr (g := fun _ => 0) _ (fun l _ => if_neg (fun z => by cases z))).trans (sumTo_zero _)
  · have hpu : (if u = a then pcs t v else 0) ≠ 0 := hpu
    by_cases q : u = a
    · rw [q]; exact had
    · rw [if_neg q] at hpu; exact absurd rfl hpu
  · rintro m q h1 rec ⟨i, C, p, f, X', hi, rfl, fr, gi, hp1, hf1, S1, n1, hr1, hX1⟩ ih
    have E1 : XE h1 t B := E.fr fr (by decide)
    have fin : (∀ u, u < nN t → C u = false → u ≠ v → p u = 0) → Ev (f_X3_spread_151 183 2 (nI v) (lN (pcs t v)) FU 0 h1) (fun h' => frm [183, 189, 190, 192, 193] h h' ∧ gI h' 183 7 = nI v ∧ (∀ k, k ≠ 7 → gI h' 183 k = gI h 183 k) ∧ frIs h' 189 190 (fun l => A l + flow t v a (zz t) l) (zz t)) := fun hz => by
      have hF := sp_done w hv S1 hz
      refine Ev_mono (x_spread151 w E1 hv ha (fun l hl => by rw [hf1 l hl, hF l hl]) (hA.cg (fr.2.1 _ (by decide)) (fr.2.1 _ (by decide)) (fun _ _ => rfl)) hAb rfl) (fun h' z => ⟨frm.tr (fr.up (by decide)) (z.1.up (by decide)), z.2.1, fun k hk => by rw [z.2.2.1 k hk, gi], z.2.2.2⟩)
    unfold f_X3_spread_88b f_X3_spread_148
    dsimp only
    rw [E1.2.1.1]
    by_cases q : i < nN t
    · rw [if_pos (nI_lt q (by omega)), nI_1]
      refine Ev_to (x_farthest w E1 hv hp1 (fun u hu hC => by have := sp_le S1 hu hC; omega) hX1) (fun z hz => ?_)
      obtain ⟨z1, z2⟩ := z
      obtain ⟨rfl, hz⟩ := hz
      dsimp only at hz ⊢
      rcases hz with ⟨rfl, hz⟩ | ⟨x, rfl, hx, hCx, hxv, hpx, hmx⟩
      · rw [if_pos rfl]
        exact fin hz
      · have hdx := hr1 x hx hCx hpx
        obtain ⟨l0, hl0, hU0, hF0, he0⟩ := hbel.2.2.2 x hx hxv hdx
        have hdeg : 1 ≤ deg t v x := deg_pos hl0 (onB_iff.mpr ⟨hU0, hF0, hdx, he0.symm⟩)
        rw [if_neg (nI_m1 (by omega)), lt_def, x_onSet w E1.1.rt E1.2.2 E1.1.nt E1.2.1 hx hv, Option.bind_some]
        dsimp only
        refine Ev_to (x_handOn w E1 hx hp1 hf1 (by have := sp_le S1 hx hCx; omega) hdeg (sp_open w S1 hx hCx hxv hpx hmx)) (fun h2 hz => ?_)
        obtain ⟨p', f', fr', gi', hp', hf', S'⟩ := hz
        refine ih (m - 1) _ _ (by omega) ⟨i + 1, _, p', f', _, by omega, rfl, frm.tr fr fr', gi'.trans gi, hp', hf', S', ?_, fun u hu hC hpu => ?_, fun u hu => ?_⟩
        · rw [nmQ_up hx hCx, n1]
        · have := S'.2.2.1 x u hx hu (by simp) hC hpu
          omega
        · rw [bit_and, bit_xor, hX1 u hu, bit_one (by omega), bit_m1 u (by omega)]
          by_cases q2 : u = x
          · subst q2; simp
          · have : ¬ x = u := fun z => q2 z.symm
            simp [q2, this]
    · exfalso
      have h1 := nmQ_all (Q := C) (nN t) (by omega) v hv
      rw [S1.2.2.2.2] at h1
      cases h1
theorem zf_openv : ∀ n, n ≤ 10 → ∀ v, v < n → ∀ u, u < 10 → bit ((((1 : Int32) <<< (nI n &&& 31)) - 1) &&& (((1 : Int32) <<< (nI v &&& 31)) ^^^ (-1 : Int32))) u = (decide (u < n) && !decide (u = v)) := by decide +kernel
theorem x_spread {a : Nat} {A : Nat → Nat} (w : wfN t) (E : XE h t B) (hv : v < nN t) (ha : a < nN t) (hn : gI h 183 7 = nI a) (had : dist t v a < 1000000) (hA : frIs h 189 190 A (zz t)) (hAb : ∀ l, l < 30 → A l + zz t < 2 ^ 62) : Ev (f_X3_spread 183 2 169 (nI v) h) (fun h' => frm [183, 189, 190, 192, 193] h h' ∧ gI h' 183 7 = nI v ∧ (∀ k, k ≠ 7 → gI h' 183 k = gI h 183 k) ∧ frIs h' 189 190 (fun l => A l + flow t v a (zz t) l) (zz t)) := by
  have hn10 := w.2.1
  have hm30 := w.2.2.1
  unfold f_X3_spread
  obtain ⟨h1, e1, f1, g1⟩ := x_fillL (x := 0) E.1.z192 (by decide)
  have E1 : XE h1 t B := E.fr f1 (by decide)
  obtain ⟨h2, e2, f2, g2⟩ := x_fillL (x := 0) E1.1.z193 (by decide)
  have E2 : XE h2 t B := E1.fr f2 (by decide)
  rw [E.1.k5, Option.bind_some, e1, Option.bind_some, E1.1.k6, Option.bind_some, e2, Option.bind_some]
  have f12 : frm [192, 193] h h2 := frm.tr (f1.up (by decide)) (f2.up (by decide))
  unfold f_X3_spread_22
  refine Ev_FU (fun m q h3 => ∃ i, i + m = nN t ∧ q = (lN (prodTo (dg1 t v) i), nI i) ∧ h3 = h2) (nN t) (1, 0) h2 (by omega) ⟨0, by omega, rfl, rfl⟩ ?_
  rintro m q h3 rec ⟨i, hi, rfl, rfl⟩ ih
  unfold f_X3_spread_22b
  dsimp only
  rw [E2.2.1.1]
  by_cases q : i < nN t
  · rw [if_pos (nI_lt q (by omega)), x_onSet w E2.1.rt E2.2.2 E2.1.nt E2.2.1 q hv, Option.bind_some]
    dsimp only
    rw [x_degOf w, Option.bind_some, lt_def, max1 (deg30 w), lt_def, nI_1, nI_l (by have := deg30 (v := v) (u := i) w; omega), lN_mul]
    exact ih (m - 1) _ _ (by omega) ⟨i + 1, by omega, rfl, rfl⟩
  · have : i = nN t := by omega
    subst this
    rw [if_neg (nI_nlt (Nat.le_refl _) (by omega)), E2.1.k5, Option.bind_some, f12.1 183 (by decide), hn, stL_ok (by rw [E2.1.z192]; omega) (by omega), Option.bind_some, lt_def]
    have fs : frm [192, 193] h (sL h3 192 a (lN (prodTo (dg1 t v) (nN t)))) := frm.sL (by decide) f12
    have Es : XE (sL h3 192 a (lN (prodTo (dg1 t v) (nN t)))) t B := E.fr fs (by decide)
    rw [Es.2.1.1]
    refine Ev_mono (x_spread88 w Es hv ha had (fun u hu => ?_) (fun l hl => ?_) (fun u hu => zf_openv (nN t) hn10 v hv u hu) (hA.cg (fs.2.1 _ (by decide)) (fs.2.1 _ (by decide)) (fun _ _ => rfl)) hAb) (fun h' z => ⟨frm.tr (fs.up (by decide)) z.1, z.2.1, fun k hk => by rw [z.2.2.1 k hk, fs.1 183 (by decide)], z.2.2.2⟩)
    · by_cases q2 : u = a
      · rw [if_pos q2, q2, gL_s]; rfl
      · rw [if_neg q2, gL_sL, if_neg (fun z => q2 z.2), f2.2.1 192 (by decide), g1 u (by omega)]; rfl
    · rw [gL_sL_ne (by decide), g2 l (by omega)]; rfl
end XS
