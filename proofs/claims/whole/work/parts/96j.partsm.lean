/-! ===== the reference's packet: parting, from the farthest on ===== -/
section MQ
variable {h : MH} {t : NT} {B : Nat → Option (Nat × List Nat)} {v : Nat} {F0 p f A : Nat → Nat} {C : Nat → Bool} {Post : MH → Prop} {k43 : Int32 → MH → Option MH}
theorem spI_cg {Y : Nat} {C' : Nat → Bool} (hv : v < nN t) (hC : ∀ u, u < nN t → C' u = C u) (h : spI t v Y F0 C p f) : spI t v Y F0 C' p f := by
  refine ⟨fun l hl => ?_, fun u hu hq => h.2.1 u hu (by rw [← hC u hu]; exact hq), fun c u hc hu h1 h2 h3 => h.2.2.1 c u hc hu (by rw [← hC c hc]; exact h1) (by rw [← hC u hu]; exact h2) h3, ?_, by rw [hC v hv]; exact h.2.2.2.2⟩
  · rw [← h.1 l hl]
    congr 1
    exact sumTo_congr _ (fun u hu => by rw [hC u hu])
  · have := h.2.2.2.1
    rw [sumTo_congr (g := fun u => if C u = true then 0 else p u) _ (fun u hu => by rw [hC u hu])]
    exact this
theorem sp_zero {Y n : Nat} (w : wfN t) (h : spI t v Y F0 C p f) (hn : n < nN t) (hC : C n = false) (hv : n ≠ v) (hp : p n = 0) (hm : ∀ u, u < nN t → C u = false → p u ≠ 0 → dist t v u ≤ dist t v n) : spI t v Y F0 (fun u => C u || decide (u = n)) p f := by
  refine ⟨fun l hl => ?_, fun u hu hQ => ?_, fun c u hc hu hQ hQu hpu => ?_, ?_, ?_⟩
  · dsimp only
    rw [← h.1 l hl, sumTo_out hn hC, hp, flow_zero w hn, Nat.zero_add]
  · have hQ' : C u = false ∧ u ≠ n := by simpa using hQ
    exact h.2.1 u hu hQ'.1
  · have hQ1 : C c = true ∨ c = n := by simpa using hQ
    have hQ2 : C u = false ∧ u ≠ n := by simpa using hQu
    rcases hQ1 with h1 | h1
    · exact h.2.2.1 c u hc hu h1 hQ2.1 hpu
    · rw [h1]; exact hm u hu hQ2.1 hpu
  · dsimp only
    have h4 := h.2.2.2.1
    rw [sumTo_out hn hC] at h4
    omega
  · have := h.2.2.2.2
    simp [this, Ne.symm hv]
noncomputable def cB (t : NT) (v bd u : Nat) : Bool := decide (1 ≤ dist t v u ∧ bd ≤ dist t v u)
noncomputable def cL (t : NT) (v bd nx i u : Nat) : Bool := cB t v bd u || (decide (dist t v u = nx) && decide (u < i))
theorem fa_pos {P Z : Nat} (hZ : 0 < Z) (hP : P ≠ 0) : 0 < fa P Z := by
  rcases Nat.eq_zero_or_pos (fa P Z) with z | z
  · have h1 := fr_eq (A := P) (Z := Z)
    rw [z, Nat.zero_mul] at h1
    have h2 := Nat.mul_pos (show 0 < P by omega) (fb_pos (A := P) hZ)
    omega
  · exact z
theorem m_l100 {bd nx : Nat} (w : wfN t) (E : ME h t B) (hv : v < nN t) (h0 : 0 < nx) (h1 : nx < bd) (h2 : bd ≤ 1000000) (hmx : ∀ u, u < nN t → dist t v u < bd → dist t v u ≤ nx) (hp : ptIs h p (zz t) (nN t)) (hs : frIs h 8 9 (fun l => A l + f l) (zz t)) (hF : ∀ l, F0 l ≤ zz t) (hA : ∀ l, A l + zz t < 2 ^ 62) (S : spI t v (zz t) F0 (cB t v bd) p f) (hf : ∀ l, nM t ≤ l → f l = 0) (hk : ∀ h' p' f', frm mCel h h' → gI h' = gI h → ptIs h' p' (zz t) (nN t) → frIs h' 8 9 (fun l => A l + f' l) (zz t) → spI t v (zz t) F0 (cB t v nx) p' f' → (∀ l, nM t ≤ l → f' l = 0) → Ev (k43 (nI nx) h') Post) : Ev (f_X11_parts_100 k43 0 (nI v) (nI nx) FU 0 h) Post := by
  have hn10 := w.2.1
  have hz := zz_le w
  have e0 : dist t v v = 0 := (dist_bel w hv).1
  unfold f_X11_parts_100
  refine Ev_FU (fun m q h1 => ∃ i p' f', i + m = nN t ∧ q = nI i ∧ frm mCel h h1 ∧ gI h1 = gI h ∧ ptIs h1 p' (zz t) (nN t) ∧ frIs h1 8 9 (fun l => A l + f' l) (zz t) ∧ spI t v (zz t) F0 (cL t v bd nx i) p' f' ∧ ∀ l, nM t ≤ l → f' l = 0) (nN t) 0 h (by omega) ⟨0, p, f, by omega, rfl, frm.rf, rfl, hp, hs, spI_cg hv (fun u _ => by unfold cL; simp) S, hf⟩ ?_
  rintro m q h3 rec ⟨i, p', f', hi, rfl, fr, gi, hp', hs', S', hO⟩ ih
  have E1 : ME h3 t B := E.fr fr (fun _ z => z)
  unfold f_X11_parts_100b f_X11_parts_143 f_X11_parts_149
  rw [m_n E1.1 E1.2.1 w, Option.bind_some]
  dsimp only
  by_cases q : i < nN t
  · have b1 : dist t v i ≤ 1000000 := (dist_bel w hv).2.1 _ q
    rw [if_pos (nI_lt q (by omega)), if_pos (show (0 : Int32) < nI nx from nI_lt (a := 0) h0 (by omega)), m_far2 w E1.1 E1.2.2.2 q hv, Option.bind_some, nI_1]
    dsimp only
    by_cases c : dist t v i = nx
    · have hC : cL t v bd nx i i = false := by unfold cL cB; simp; omega
      have hCn : (fun u => cL t v bd nx i u || decide (u = i)) = cL t v bd nx (i + 1) := by
        funext u
        unfold cL
        by_cases q2 : u = i
        · subst q2; simp [c]
        · have : decide (u < i + 1) = decide (u < i) := by
            by_cases q3 : u < i
            · simp [q3]; omega
            · simp [q3]; omega
          rw [this]; simp [q2]
      have hiv : i ≠ v := fun z => by rw [z, e0] at c; omega
      have hmi : ∀ u, u < nN t → cL t v bd nx i u = false → p' u ≠ 0 → dist t v u ≤ dist t v i := fun u hu hcu _ => by
        rw [c]
        unfold cL cB at hcu
        have hcu : ¬ (1 ≤ dist t v u ∧ bd ≤ dist t v u) := fun z => by simp [z] at hcu
        by_cases q3 : dist t v u < bd
        · exact hmx u hu q3
        · omega
      rw [if_pos (by rw [c]), E1.1.r24, Option.bind_some, ldL_ok (by rw [E1.1.n10]; omega) (by omega), Option.bind_some, (hp' i q).1]
      have hfa := fa_le (A := p' i) (Z := zz t)
      have hpi := sp_le S' q hC
      by_cases c2 : p' i = 0
      · rw [c2, (fa_0 zz_pos).1, if_neg (show ¬ (0 : Int64) < lN 0 by decide)]
        have S2 := sp_zero w S' q hC hiv c2 hmi
        rw [hCn] at S2
        exact ih (m - 1) _ _ (by omega) ⟨i + 1, p', f', by omega, rfl, fr, gi, hp', hs', S2, hO⟩
      · have hfp := fa_pos (P := p' i) (Z := zz t) zz_pos c2
        rw [if_pos (show (0 : Int64) < lN (fa (p' i) (zz t)) from (pk_lLT (a := 0) (by decide) (by omega)).mpr hfp)]
        obtain ⟨l0, hl0, hU0, hF0, he0⟩ := (dist_bel w hv).2.2.2 i q hiv (by omega)
        have ho0 : onB t v i l0 = true := onB_iff.mpr ⟨hU0, hF0, by omega, he0.symm⟩
        have S2 := sp_open w S' q hC hiv c2 hmi
        rw [hCn] at S2
        refine Ev_to (m_partsFrom w E1 q hv hp' hs' hF hA ?_ (deg_pos hl0 ho0) (rDv_to w q hl0 ho0 (S'.2.1 i q hC)).1 hpi S2) (fun h4 z => ?_)
        · rw [← hCn]; simp
        · obtain ⟨p2, f2, z1, z2, z3, z4, z5, z6⟩ := z
          exact ih (m - 1) _ _ (by omega) ⟨i + 1, p2, f2, by omega, rfl, frm.tr fr z1, z2.trans gi, z3, z4, z5, fun l hl => (z6 l hl).trans (hO l hl)⟩
    · rw [if_neg (fun z => c (nI_inj (by omega) (by omega) z))]
      refine ih (m - 1) _ _ (by omega) ⟨i + 1, p', f', by omega, rfl, fr, gi, hp', hs', spI_cg hv (fun u hu => ?_) S', hO⟩
      unfold cL
      by_cases q2 : u = i
      · subst q2; simp [c]
      · have : decide (u < i + 1) = decide (u < i) := by
          by_cases q3 : u < i
          · simp [q3]; omega
          · simp [q3]; omega
        rw [this]
  · have : i = nN t := by omega
    subst this
    rw [if_neg (nI_nlt (Nat.le_refl _) (by omega))]
    refine hk h3 p' f' fr gi hp' hs' (spI_cg hv (fun u hu => ?_) S') hO
    unfold cL cB
    by_cases q3 : dist t v u < bd
    · have := hmx u hu q3
      by_cases q4 : dist t v u = nx
      · simp [q4, hu]; omega
      · have a1 : decide (1 ≤ dist t v u ∧ nx ≤ dist t v u) = false := by simp; omega
        have a2 : decide (1 ≤ dist t v u ∧ bd ≤ dist t v u) = false := by simp; omega
        rw [a1, a2]; simp [q4]
    · have a1 : decide (1 ≤ dist t v u ∧ nx ≤ dist t v u) = true := by simp; omega
      have a2 : decide (1 ≤ dist t v u ∧ bd ≤ dist t v u) = true := by simp; omega
      rw [a1, a2]; rfl
theorem m_l100z (w : wfN t) (E : ME h t B) (hk : Ev (k43 (nI 0) h) Post) : Ev (f_X11_parts_100 k43 0 (nI v) (nI 0) FU 0 h) Post := by
  unfold f_X11_parts_100
  refine Ev_FU (fun m p h1 => m = 0 ∧ p = 0 ∧ h1 = h) 0 0 h (by omega) ⟨rfl, rfl, rfl⟩ ?_
  rintro m p h1 rec ⟨rfl, rfl, rfl⟩ ih
  unfold f_X11_parts_100b f_X11_parts_149
  rw [m_n E.1 E.2.1 w, Option.bind_some]
  dsimp only
  rw [if_neg (show ¬ (0 : Int32) < nI 0 by decide)]
  split <;> exact hk
theorem m_l52p {bd : Nat} (w : wfN t) (E : ME h t B) (hv : v < nN t) (hbd : 0 < bd) (hb2 : bd ≤ 1000000) (hk : ∀ nx, nx < bd → (∀ u, u < nN t → dist t v u < bd → dist t v u ≤ nx) → (nx = 0 ∨ ∃ u, u < nN t ∧ dist t v u = nx) → Ev (f_X11_parts_100 k43 0 (nI v) (nI nx) FU 0 h) Post) : Ev (f_X11_parts_52 k43 0 (nI v) (nI bd) FU (0, 0) h) Post := by
  have hn10 := w.2.1
  unfold f_X11_parts_52
  refine Ev_FU (fun m p h1 => ∃ i nx, i + m = nN t ∧ p = (nI nx, nI i) ∧ h1 = h ∧ nx < bd ∧ (∀ u, u < i → dist t v u < bd → dist t v u ≤ nx) ∧ (nx = 0 ∨ ∃ u, u < nN t ∧ dist t v u = nx)) (nN t) (0, 0) h (by omega) ⟨0, 0, by omega, rfl, rfl, hbd, fun u hu => absurd hu (Nat.not_lt_zero _), Or.inl rfl⟩ ?_
  rintro m p h1 rec ⟨i, nx, hi, rfl, rfl, d1, d3, d4⟩ ih
  unfold f_X11_parts_52b f_X11_parts_91
  dsimp only
  rw [m_n E.1 E.2.1 w, Option.bind_some]
  dsimp only
  by_cases q : i < nN t
  · have b1 : dist t v i ≤ 1000000 := (dist_bel w hv).2.1 _ q
    have g := m_far2 w E.1 E.2.2.2 q hv
    rw [if_pos (nI_lt q (by omega)), g, Option.bind_some, nI_1]
    dsimp only
    by_cases c : dist t v i < bd
    · rw [if_pos ((nI_ltI (by omega) (by omega)).mpr c), g, Option.bind_some]
      dsimp only
      by_cases c2 : nx < dist t v i
      · rw [if_pos ((nI_ltI (by omega) (by omega)).mpr c2), g, Option.bind_some]
        refine ih (m - 1) _ _ (by omega) ⟨i + 1, dist t v i, by omega, rfl, rfl, c, fun u hu hu' => ?_, Or.inr ⟨i, q, rfl⟩⟩
        by_cases q2 : u = i
        · rw [q2]; exact Nat.le_refl _
        · have := d3 u (by omega) hu'; omega
      · rw [if_neg (fun z => c2 ((nI_ltI (by omega) (by omega)).mp z))]
        refine ih (m - 1) _ _ (by omega) ⟨i + 1, nx, by omega, rfl, rfl, d1, fun u hu hu' => ?_, d4⟩
        by_cases q2 : u = i
        · rw [q2]; omega
        · exact d3 u (by omega) hu'
    · rw [if_neg (fun z => c ((nI_ltI (by omega) (by omega)).mp z))]
      refine ih (m - 1) _ _ (by omega) ⟨i + 1, nx, by omega, rfl, rfl, d1, fun u hu hu' => ?_, d4⟩
      by_cases q2 : u = i
      · rw [q2] at hu'; exact absurd hu' c
      · exact d3 u (by omega) hu'
  · rw [if_neg (fun z => q ((nI_ltI (by omega) (by omega)).mp z))]
    exact hk nx d1 (fun u hu => d3 u (by omega)) d4
noncomputable def muD (t : NT) (v bd : Nat) : Nat := sumTo (fun u => if dist t v u < bd then 1 else 0) (nN t) + (if 0 < bd then 1 else 0)
theorem muD_le {bd : Nat} (w : wfN t) : muD t v bd < 5000 := by
  have hn10 := w.2.1
  unfold muD
  have h1 := sumTo_mono (f := fun u => if dist t v u < bd then 1 else 0) (g := fun _ => 1) (nN t) (fun i _ => by split <;> omega)
  rw [sumTo_one] at h1
  split <;> omega
theorem muD_lt {bd nx : Nat} (h1 : nx < bd) (hd : nx = 0 ∨ ∃ u, u < nN t ∧ dist t v u = nx) : muD t v nx < muD t v bd := by
  unfold muD
  have h2 := sumTo_mono (f := fun u => if dist t v u < nx then 1 else 0) (g := fun u => if dist t v u < bd then 1 else 0) (nN t) (fun i _ => by
    by_cases q : dist t v i < nx
    · rw [if_pos q, if_pos (by omega)]; exact Nat.le_refl _
    · rw [if_neg q]; exact Nat.zero_le _)
  rcases hd with hd | ⟨u, hu, hd⟩
  · rw [if_neg (show ¬ 0 < nx by omega), if_pos (show 0 < bd by omega)]; omega
  · have h3 := sumTo_strict (f := fun u => if dist t v u < nx then 1 else 0) (g := fun u => if dist t v u < bd then 1 else 0) (j := u) (nN t) (fun i _ => by
      by_cases q : dist t v i < nx
      · rw [if_pos q, if_pos (by omega)]; exact Nat.le_refl _
      · rw [if_neg q]; exact Nat.zero_le _) hu (by rw [if_neg (by omega), if_pos (by omega)]; exact Nat.zero_lt_one)
    rw [if_pos (show 0 < bd by omega)]
    split <;> omega
theorem m_l43 (w : wfN t) (E : ME h t B) (hv : v < nN t) (hp : ptIs h p (zz t) (nN t)) (hs : frIs h 8 9 (fun l => A l + f l) (zz t)) (hF : ∀ l, F0 l ≤ zz t) (hA : ∀ l, A l + zz t < 2 ^ 62) (S : spI t v (zz t) F0 (cB t v 1000000) p f) (hf : ∀ l, nM t ≤ l → f l = 0) (hF2 : ∀ l, nM t ≤ l → F0 l = 0) : Ev (f_X11_parts_43 0 (nI v) FU 1000000 h) (fun h' => frm mCel h h' ∧ gI h' = gI h ∧ frIs h' 8 9 (fun l => A l + F0 l) (zz t)) := by
  unfold f_X11_parts_43
  refine Ev_FU (fun m q h1 => ∃ bd p' f', m = muD t v bd ∧ q = nI bd ∧ bd ≤ 1000000 ∧ frm mCel h h1 ∧ gI h1 = gI h ∧ ptIs h1 p' (zz t) (nN t) ∧ frIs h1 8 9 (fun l => A l + f' l) (zz t) ∧ spI t v (zz t) F0 (cB t v bd) p' f' ∧ ∀ l, nM t ≤ l → f' l = 0) (muD t v 1000000) 1000000 h (muD_le w) ⟨1000000, p, f, rfl, rfl, Nat.le_refl _, frm.rf, rfl, hp, hs, S, hf⟩ ?_
  rintro m q h1 rec ⟨bd, p', f', rfl, rfl, hb, fr, gi, hp', hs', S', hO⟩ ih
  have E1 : ME h1 t B := E.fr fr (fun _ z => z)
  unfold f_X11_parts_43b
  by_cases q : 0 < bd
  · rw [if_pos (show (0 : Int32) < nI bd from nI_lt (a := 0) q (by omega))]
    refine m_l52p w E1 hv q hb (fun nx n1 n2 n3 => ?_)
    by_cases q2 : 0 < nx
    · refine m_l100 w E1 hv q2 n1 hb n2 hp' hs' hF hA S' hO (fun h2 p2 f2 z1 z2 z3 z4 z5 z6 => ?_)
      exact ih _ _ _ (muD_lt n1 n3) ⟨nx, p2, f2, rfl, rfl, by omega, frm.tr fr z1, z2.trans gi, z3, z4, z5, z6⟩
    · have : nx = 0 := by omega
      subst this
      refine m_l100z w E1 ?_
      refine ih _ _ _ (muD_lt n1 n3) ⟨0, p', f', rfl, rfl, by omega, fr, gi, hp', hs', spI_cg hv (fun u hu => ?_) S', hO⟩
      unfold cB
      by_cases q3 : dist t v u < bd
      · have := n2 u hu q3
        have a1 : decide (1 ≤ dist t v u ∧ 0 ≤ dist t v u) = false := by simp; omega
        have a2 : decide (1 ≤ dist t v u ∧ bd ≤ dist t v u) = false := by simp; omega
        rw [a1, a2]
      · have a1 : decide (1 ≤ dist t v u ∧ 0 ≤ dist t v u) = true := by simp; omega
        have a2 : decide (1 ≤ dist t v u ∧ bd ≤ dist t v u) = true := by simp; omega
        rw [a1, a2]
  · have : bd = 0 := by omega
    subst this
    rw [if_neg (show ¬ (0 : Int32) < nI 0 by decide)]
    have hfin := sp_done w hv S' (fun u hu hC huv => by
      exfalso
      unfold cB at hC
      have : ¬ (1 ≤ dist t v u ∧ 0 ≤ dist t v u) := fun z => by simp [z] at hC
      exact huv (dist_0 w hv hu (by omega)))
    refine Ev_some ⟨fr, gi, hs'.cg rfl rfl (fun l _ => ?_)⟩
    by_cases q3 : l < nM t
    · rw [hfin l q3]
    · rw [hO l (by omega), hF2 l (by omega)]
theorem fa_self {Z : Nat} (hZ : 0 < Z) : fa Z Z = 1 ∧ fb Z Z = 1 := by
  unfold fa fb
  rw [Nat.gcd_self, Nat.div_self hZ]
  exact ⟨rfl, rfl⟩
theorem m_parts {a : Nat} (w : wfN t) (E : ME h t B) (hv : v < nN t) (ha : a < nN t) (hn : gI h 0 14 = nI a) (had : dist t v a < 1000000) (hs : frIs h 8 9 A (zz t)) (hA : ∀ l, A l + zz t < 2 ^ 62) : Ev (f_X11_parts 0 (nI v) h) (fun h' => frm mCel h h' ∧ gI h' = gI h ∧ frIs h' 8 9 (fun l => A l + flow t v a (zz t) l) (zz t)) := by
  have hn10 := w.2.1
  have e0 : dist t v v = 0 := (dist_bel w hv).1
  unfold f_X11_parts f_X11_parts_2
  refine Ev_FU (fun m q h1 => ∃ i, i + m = 10 ∧ q = nI i ∧ frm [10, 11] h h1 ∧ gI h1 = gI h ∧ ptIs h1 (fun u => if u = a then zz t else 0) (zz t) i) 10 0 h (by omega) ⟨0, by omega, rfl, frm.rf, rfl, fun u hu => absurd hu (Nat.not_lt_zero _)⟩ ?_
  rintro m q h1 rec ⟨i, hi, rfl, fr, gi, hp'⟩ ih
  have E1 : ME h1 t B := E.fr fr (by decide)
  unfold f_X11_parts_2b f_X11_parts_26
  by_cases q : i < 10
  · have nx : ptIs (sL (sL h1 10 i (lN (if i = a then 1 else 0))) 11 i 1) (fun u => if u = a then zz t else 0) (zz t) (i + 1) := fun u hu => by
      show _ = lN (fa (if u = a then zz t else 0) (zz t)) ∧ _ = lN (fb (if u = a then zz t else 0) (zz t))
      by_cases q2 : u = i
      · rw [q2, gL_s, gL_sL_ne (by decide), gL_s]
        by_cases q3 : i = a
        · rw [if_pos q3, if_pos q3, (fa_self zz_pos).1, (fa_self zz_pos).2]; exact ⟨rfl, rfl⟩
        · rw [if_neg q3, if_neg q3, (fa_0 zz_pos).1, (fa_0 zz_pos).2]; exact ⟨rfl, rfl⟩
      · refine ⟨?_, ?_⟩
        · rw [gL_sL_ne (by decide), gL_sL, if_neg (fun z => q2 z.2)]; exact (hp' u (by omega)).1
        · rw [gL_sL, if_neg (fun z => q2 z.2), gL_sL_ne (by decide)]; exact (hp' u (by omega)).2
    rw [if_pos (show nI i < 10 from (nI_ltI (b := 10) (by omega) (by decide)).mpr q), E1.1.r24, Option.bind_some, gi, hn, nI_1]
    by_cases c : i = a
    · rw [if_pos (by rw [c]), stL_ok (by rw [E1.1.n10]; exact q) (by omega), Option.bind_some, show gR (sL h1 10 i 1) 0 25 = some 11 from E1.1.r25, Option.bind_some, stL_ok (by rw [gN_sL, E1.1.n11]; exact q) (by omega), Option.bind_some]
      rw [if_pos c] at nx
      exact ih (m - 1) _ _ (by omega) ⟨i + 1, by omega, rfl, frm.sL (by decide) (frm.sL (by decide) fr), gi, nx⟩
    · rw [if_neg (fun z => c (nI_inj (by omega) (by omega) z)), stL_ok (by rw [E1.1.n10]; exact q) (by omega), Option.bind_some, show gR (sL h1 10 i 0) 0 25 = some 11 from E1.1.r25, Option.bind_some, stL_ok (by rw [gN_sL, E1.1.n11]; exact q) (by omega), Option.bind_some]
      rw [if_neg c] at nx
      exact ih (m - 1) _ _ (by omega) ⟨i + 1, by omega, rfl, frm.sL (by decide) (frm.sL (by decide) fr), gi, nx⟩
  · rw [if_neg (show ¬ nI i < 10 from fun z => q ((nI_ltI (b := 10) (by omega) (by decide)).mp z))]
    refine Ev_mono (m_l43 (F0 := flow t v a (zz t)) (p := fun u => if u = a then zz t else 0) (f := fun _ => 0) (A := A) w E1 hv (fun u hu => hp' u (by omega)) (hs.cg (fr.2.1 _ (by decide)) (fr.2.1 _ (by decide)) (fun _ _ => rfl)) (fun l => flow_le w ha) hA (sp_init w ha rDv_zz ?_ ?_ (fun c hc hcc => ?_)) (fun _ _ => rfl) (fun l hl => flow_out w hl ha)) (fun h' z => ⟨frm.tr (fr.up (by decide)) z.1, z.2.1.trans gi, z.2.2⟩)
    · unfold cB; simp; omega
    · unfold cB; simp; omega
    · unfold cB at hcc
      have := of_decide_eq_true hcc
      omega
end MQ
