/-! ===== the reference's packet: parting ===== -/
def mFld : List Nat := [13, 14, 15, 16, 17, 18, 20, 21]
def mCel : List Nat := [0, 6, 7, 8, 9, 10, 11]
def frM (h h' : MH) : Prop := frm mCel h h' ∧ ∀ k, k ∉ mFld → gI h' 0 k = gI h 0 k
theorem frM.rf {h : MH} : frM h h := ⟨frm.rf, fun _ _ => rfl⟩
theorem frM.tr {h h1 h2 : MH} (a : frM h h1) (b : frM h1 h2) : frM h h2 := ⟨frm.tr a.1 b.1, fun k hk => (b.2 k hk).trans (a.2 k hk)⟩
theorem frM.s0 {h h' : MH} {k : Nat} {v : Int32} (hk : k ∈ mFld) (a : frM h h') : frM h (sI h' 0 k v) := ⟨frm.sI (by decide) a.1, fun j hj => by rw [gI_sI_nk (fun e => hj (by rw [e]; exact hk))]; exact a.2 j hj⟩
theorem frM.sb {h h' : MH} {b k : Nat} {v : Int32} (hb : b ∈ mCel) (h0 : b ≠ 0) (a : frM h h') : frM h (sI h' b k v) := ⟨frm.sI hb a.1, fun j hj => by rw [gI_sI_ne (fun e => h0 e.symm)]; exact a.2 j hj⟩
theorem frM.sL {h h' : MH} {b k : Nat} {v : Int64} (hb : b ∈ mCel) (a : frM h h') : frM h (sL h' b k v) := ⟨frm.sL hb a.1, a.2⟩
theorem frM.of {h h' : MH} {X : List Nat} (f : frm X h h') (hX : ∀ q, q ∈ X → q ∈ mCel) (g : gI h' = gI h) : frM h h' := ⟨f.up hX, fun k _ => by rw [g]⟩
def bndM (g : Nat → Int32) (B : Nat → Option (Nat × List Nat)) : Prop := ∀ b, b < 6 → (B b = none → g (122 + b) = 0) ∧ ∀ q, B b = some q → g (122 + b) = nI (q.1 + 1) ∧ g (128 + b) = nI q.2.length ∧ lrep g (134 + 6 * b) q.2
def ME (h : MH) (t : NT) (B : Nat → Option (Nat × List Nat)) : Prop := ML h ∧ MN (gI h 1) t ∧ bndM (gI h 1) B ∧ farIs h t
theorem ME.fr {h h' : MH} {t : NT} {B : Nat → Option (Nat × List Nat)} {X : List Nat} (f : frm X h h') (hX : ∀ q, q ∈ X → q ∈ mCel) (E : ME h t B) : ME h' t B := by
  have f := f.up hX
  have e1 : gI h' 1 = gI h 1 := f.1 1 (by decide)
  have e4 : gI h' 4 = gI h 4 := f.1 4 (by decide)
  have e5 : gL h' 5 = gL h 5 := f.2.1 5 (by decide)
  refine ⟨E.1.fr f, by rw [e1]; exact E.2.1, by rw [e1]; exact E.2.2.1, ?_⟩
  unfold farIs
  rw [e4, e5]; exact E.2.2.2
section MP
variable {h : MH} {t : NT} {B : Nat → Option (Nat × List Nat)} {v Y : Nat} {F0 p f : Nat → Nat} {C : Nat → Bool}
theorem m_shares {l c d D : Nat} {A : Nat → Nat} (w : wfN t) (E : ME h t B) (hl : l < 30) (hA : frIs h 8 9 A (zz t)) (hd : 0 < d) (hAC : A l + D < 2 ^ 62) (e2 : c * zz t = D * d) (dd : d ∣ zz t) : ∃ h', f_X11_shares 0 (nI l) (lN c) (lN d) h = some h' ∧ frm [0, 8, 9] h h' ∧ gI h' = gI h ∧ frIs h' 8 9 (fun j => if j = l then A l + D else A j) (zz t) := by
  obtain ⟨L, N, -, R⟩ := E
  have hz := zz_le w
  obtain ⟨a1, a2⟩ := hA l hl
  refine ⟨sL (sL (sL (sL h 0 10 (lN (fa (A l + D) (zz t)))) 0 11 (lN (fb (A l + D) (zz t)))) 8 l (lN (fa (A l + D) (zz t)))) 9 l (lN (fb (A l + D) (zz t))), ?_, frm.sL (by decide) (frm.sL (by decide) (frm.sL (by decide) (frm.sL (by decide) frm.rf))), rfl, fun j hj => ?_⟩
  · unfold f_X11_shares
    rw [L.r22, Option.bind_some, ldL_ok (by rw [L.n8]; exact hl) (by omega), Option.bind_some, a1, L.r23, Option.bind_some, ldL_ok (by rw [L.n9]; exact hl) (by omega), Option.bind_some, a2, m_adds h (fb_pos zz_pos) hd zz_pos (by omega) hAC fr_eq e2 fb_dvd dd, Option.bind_some]
    rw [show gR (sL (sL h 0 10 (lN (fa (A l + D) (zz t)))) 0 11 (lN (fb (A l + D) (zz t)))) 0 22 = some 8 from L.r22, Option.bind_some, stL_ok (by show l < gN h 8; rw [L.n8]; exact hl) (by omega), Option.bind_some]
    rw [show gR (sL (sL (sL h 0 10 (lN (fa (A l + D) (zz t)))) 0 11 (lN (fb (A l + D) (zz t)))) 8 l (gL (sL (sL h 0 10 (lN (fa (A l + D) (zz t)))) 0 11 (lN (fb (A l + D) (zz t)))) 0 10)) 0 23 = some 9 from L.r23, Option.bind_some, stL_ok (by show l < gN h 9; rw [L.n9]; exact hl) (by omega), Option.bind_some]
    rfl
  · show _ = lN (fa (if j = l then A l + D else A j) (zz t)) ∧ _ = lN (fb (if j = l then A l + D else A j) (zz t))
    by_cases q : j = l
    · rw [if_pos q, q, gL_s, gL_sL_ne (by decide), gL_s]; exact ⟨rfl, rfl⟩
    · rw [if_neg q]
      refine ⟨?_, ?_⟩
      · rw [gL_sL_ne (by decide), gL_sL, if_neg (fun z => q z.2), gL_sL_ne (by decide), gL_sL_ne (by decide)]
        exact (hA j hj).1
      · rw [gL_sL, if_neg (fun z => q z.2), gL_sL_ne (by decide), gL_sL_ne (by decide), gL_sL_ne (by decide)]
        exact (hA j hj).2
def ptIs (h : MH) (p : Nat → Nat) (Z n : Nat) : Prop := ∀ u, u < n → gL h 10 u = lN (fa (p u) Z) ∧ gL h 11 u = lN (fb (p u) Z)
theorem m_isOnE {l u : Nat} (w : wfN t) (E : ME h t B) (hl : l < nM t) (hu : u < nN t) (hv : v < nN t) : f_X11_isOn 0 (nI l) (nI u) (nI v) h = some (bI (onB t v u l = true), h) := m_isOn w E.1 E.2.1 E.2.2.2 hl hu hv
/-- a part handed on: its terms -/
theorem fr_part {P x k Z : Nat} (hk : 0 < k) (hZ : 0 < Z) (hP : P = x * k) : fa P Z / Nat.gcd (fa P Z) k * Z = x * (fb P Z * (k / Nat.gcd (fa P Z) k)) ∧ fb P Z * (k / Nat.gcd (fa P Z) k) ∣ Z ∧ 0 < fb P Z * (k / Nat.gcd (fa P Z) k) := by
  have hg : 0 < Nat.gcd (fa P Z) k := Nat.gcd_pos_of_pos_right _ hk
  have e : fa P Z / Nat.gcd (fa P Z) k * Z = x * (fb P Z * (k / Nat.gcd (fa P Z) k)) := by
    obtain ⟨c, hc⟩ := Nat.gcd_dvd_left (fa P Z) k
    obtain ⟨k', hk'⟩ := Nat.gcd_dvd_right (fa P Z) k
    have ec : fa P Z / Nat.gcd (fa P Z) k = c := by
      have := congrArg (· / Nat.gcd (fa P Z) k) hc
      rw [Nat.mul_div_cancel_left _ hg] at this
      exact this
    have ek : k / Nat.gcd (fa P Z) k = k' := by
      have := congrArg (· / Nat.gcd (fa P Z) k) hk'
      rw [Nat.mul_div_cancel_left _ hg] at this
      exact this
    rw [ec, ek]
    refine Nat.eq_of_mul_eq_mul_left hg ?_
    calc Nat.gcd (fa P Z) k * (c * Z) = (Nat.gcd (fa P Z) k * c) * Z := by rw [Nat.mul_assoc]
      _ = fa P Z * Z := by rw [← hc]
      _ = P * fb P Z := fr_eq
      _ = x * k * fb P Z := by rw [hP]
      _ = x * (Nat.gcd (fa P Z) k * k') * fb P Z := by rw [← hk']
      _ = Nat.gcd (fa P Z) k * (x * (fb P Z * k')) := by simp only [Nat.mul_assoc, Nat.mul_left_comm, Nat.mul_comm]
  have c1 : Nat.Coprime (fa P Z / Nat.gcd (fa P Z) k) (k / Nat.gcd (fa P Z) k) := Nat.coprime_div_gcd_div_gcd hg
  have c0 : Nat.Coprime (fa P Z) (fb P Z) := Nat.coprime_div_gcd_div_gcd (Nat.gcd_pos_of_pos_right _ hZ)
  have c2 : Nat.Coprime (fa P Z / Nat.gcd (fa P Z) k) (fb P Z) := Nat.Coprime.coprime_dvd_left (Nat.div_dvd_of_dvd (Nat.gcd_dvd_left _ _)) c0
  have c3 : Nat.Coprime (fa P Z / Nat.gcd (fa P Z) k) (fb P Z * (k / Nat.gcd (fa P Z) k)) := Nat.Coprime.mul_right c2 c1
  refine ⟨e, ?_, Nat.mul_pos (fb_pos hZ) (Nat.div_pos (Nat.gcd_le_right _ hk) hg)⟩
  refine Nat.Coprime.dvd_of_dvd_mul_left c3.symm ?_
  rw [e]
  exact Nat.dvd_mul_left _ _
theorem spP_f {n x i l : Nat} (h : spP t v Y F0 C p f n x i) (hl : l < nM t) : f l ≤ F0 l := by
  have := h.1 l hl
  omega
theorem m_partsFrom75 {u c d x : Nat} {A : Nat → Nat} (w : wfN t) (E : ME h t B) (hu : u < nN t) (hv : v < nN t) (hp : ptIs h p (zz t) (nN t)) (hs : frIs h 8 9 (fun l => A l + f l) (zz t)) (hF : ∀ l, F0 l ≤ zz t) (hA : ∀ l, A l + zz t < 2 ^ 62) (hC : C u = true) (hd : 0 < d) (e2 : c * zz t = x * d) (dd : d ∣ zz t) (S : spP t v (zz t) F0 C p f u x 0) : Ev (f_X11_partsFrom_75 0 (nI u) (nI v) (lN c) (lN d) FU 0 h) (fun h' => ∃ p' f', frm mCel h h' ∧ gI h' = gI h ∧ ptIs h' p' (zz t) (nN t) ∧ frIs h' 8 9 (fun l => A l + f' l) (zz t) ∧ spI t v (zz t) F0 C p' f' ∧ ∀ l, nM t ≤ l → f' l = f l) := by
  have hm30 := w.2.2.1
  have hn10 := w.2.1
  have hz := zz_le w
  unfold f_X11_partsFrom_75
  refine Ev_FU (fun m q h1 => ∃ i p' f', i + m = nM t ∧ q = nI i ∧ frm mCel h h1 ∧ gI h1 = gI h ∧ ptIs h1 p' (zz t) (nN t) ∧ frIs h1 8 9 (fun l => A l + f' l) (zz t) ∧ spP t v (zz t) F0 C p' f' u x i ∧ ∀ l, nM t ≤ l → f' l = f l) (nM t) 0 h (by omega) ⟨0, p, f, by omega, rfl, frm.rf, rfl, hp, hs, S, fun _ _ => rfl⟩ ?_
  rintro m q h1 rec ⟨i, p', f', hi, rfl, fr, gi, hp', hs', S', hO⟩ ih
  have E1 : ME h1 t B := E.fr fr (fun _ z => z)
  unfold f_X11_partsFrom_75b f_X11_partsFrom_168
  rw [m_links E1.1 E1.2.1, Option.bind_some]
  dsimp only
  by_cases q : i < nM t
  · obtain ⟨w1, w2, w3, w4, w5⟩ := w.2.2.2 i q
    rw [if_pos (nI_lt q (by omega)), m_isOnE w E1 q hu hv, Option.bind_some, nI_1]
    by_cases co : onB t v u i = true
    · rw [if_neg (fun z => bI_0.mp z co)]
      dsimp only
      have S2 := sp_step w q co S'
      have b1 := spP_f S2 q
      rw [if_pos rfl] at b1
      have hFi := hF i
      have hAi := hA i
      obtain ⟨h2, s1, s2, s3, s4⟩ := m_shares (l := i) (c := c) (d := d) (D := x) (A := fun l => A l + f' l) w E1 (by omega) hs' hd (by omega) e2 dd
      have E2 : ME h2 t B := E1.fr s2 (by decide)
      have hCi : C (nT t i) = false := by
        have o := on_near w q co
        cases e : C (nT t i) with
        | false => rfl
        | true => have := S'.2.2.2.2.2.1 _ o.2.1 e; omega
      have b2 := spP_le S2 w2 hCi
      rw [if_pos rfl] at b2
      have p2 : ptIs h2 p' (zz t) (nN t) := fun y hy => by
        rw [s2.2.1 10 (by decide), s2.2.1 11 (by decide)]; exact hp' y hy
      obtain ⟨a1, a2⟩ := p2 _ w2
      rw [s1, Option.bind_some, E2.1.r24, Option.bind_some, m_to E2.1 E2.2.1 w q, Option.bind_some]
      dsimp only
      rw [ldL_ok (by rw [E2.1.n10]; omega) (by omega), Option.bind_some, a1, E2.1.r25, Option.bind_some, m_to E2.1 E2.2.1 w q, Option.bind_some]
      dsimp only
      rw [ldL_ok (by rw [E2.1.n11]; omega) (by omega), Option.bind_some, a2, m_adds h2 (fb_pos zz_pos) hd zz_pos (by omega) (by omega) fr_eq e2 fb_dvd dd, Option.bind_some]
      generalize hh : sL (sL h2 0 10 (lN (fa (p' (nT t i) + x) (zz t)))) 0 11 (lN (fb (p' (nT t i) + x) (zz t))) = h3
      have f3 : frm [0] h2 h3 := by rw [← hh]; exact frm.sL (by decide) (frm.sL (by decide) frm.rf)
      have g3 : gI h3 = gI h2 := by rw [← hh]; rfl
      have v10 : gL h3 0 10 = lN (fa (p' (nT t i) + x) (zz t)) := by rw [← hh]; rfl
      have v11 : gL h3 0 11 = lN (fb (p' (nT t i) + x) (zz t)) := by rw [← hh]; rfl
      have E3 : ME h3 t B := E2.fr f3 (by decide)
      rw [E3.1.r24, Option.bind_some, m_to E3.1 E3.2.1 w q, Option.bind_some]
      dsimp only
      rw [stL_ok (by rw [E3.1.n10]; omega) (by omega), Option.bind_some, v10]
      have f4 : frm [10] h3 (sL h3 10 (nT t i) (lN (fa (p' (nT t i) + x) (zz t)))) := frm.sL (by decide) frm.rf
      have E4 : ME (sL h3 10 (nT t i) (lN (fa (p' (nT t i) + x) (zz t)))) t B := E3.fr f4 (by decide)
      rw [E4.1.r25, Option.bind_some, m_to E4.1 E4.2.1 w q, Option.bind_some]
      dsimp only
      rw [stL_ok (by rw [E4.1.n11]; omega) (by omega), Option.bind_some, gL_sL_ne (by decide), v11]
      refine ih (m - 1) _ _ (by omega) ⟨i + 1, _, _, by omega, rfl, frm.sL (by decide) (frm.sL (by decide) (frm.tr (frm.tr fr (s2.up (by decide))) (f3.up (by decide)))), ?_, fun y hy => ?_, ?_, S2, fun l hl => (if_neg (by omega)).trans (hO l hl)⟩
      · show gI h3 = _
        rw [g3, s3, gi]
      · show _ = lN (fa (if y = nT t i then _ else _) _) ∧ _ = lN (fb (if y = nT t i then _ else _) _)
        by_cases q2 : y = nT t i
        · rw [if_pos q2, q2, gL_s, gL_sL_ne (by decide), gL_s]; exact ⟨rfl, rfl⟩
        · rw [if_neg q2, gL_sL_ne (by decide), gL_sL, if_neg (fun z => q2 z.2), gL_sL, if_neg (fun z => q2 z.2), gL_sL_ne (by decide), f3.2.1 10 (by decide), f3.2.1 11 (by decide)]
          exact p2 y hy
      · refine s4.cg ?_ ?_ (fun l _ => ?_)
        · rw [gL_sL_f (by decide), gL_sL_f (by decide), f3.2.1 8 (by decide)]
        · rw [gL_sL_f (by decide), gL_sL_f (by decide), f3.2.1 9 (by decide)]
        · by_cases q2 : l = i
          · rw [if_pos q2, if_pos q2, q2]; omega
          · rw [if_neg q2, if_neg q2]
    · rw [if_pos (bI_0.mpr co)]
      exact ih (m - 1) _ _ (by omega) ⟨i + 1, p', f', by omega, rfl, fr, gi, hp', hs', sp_skip co S', hO⟩
  · have : i = nM t := by omega
    subst this
    rw [if_neg (nI_nlt (Nat.le_refl _) (by omega))]
    exact Ev_some ⟨p', f', fr, gi, hp', hs', sp_close S', hO⟩
theorem m_partsFrom {u : Nat} {A : Nat → Nat} (w : wfN t) (E : ME h t B) (hu : u < nN t) (hv : v < nN t) (hp : ptIs h p (zz t) (nN t)) (hs : frIs h 8 9 (fun l => A l + f l) (zz t)) (hF : ∀ l, F0 l ≤ zz t) (hA : ∀ l, A l + zz t < 2 ^ 62) (hC : C u = true) (hd : 1 ≤ deg t v u) (hdd : deg t v u ∣ p u) (hpu : p u ≤ zz t) (S : spP t v (zz t) F0 C p f u (p u / deg t v u) 0) : Ev (f_X11_partsFrom 0 (nI u) (nI v) h) (fun h' => ∃ p' f', frm mCel h h' ∧ gI h' = gI h ∧ ptIs h' p' (zz t) (nN t) ∧ frIs h' 8 9 (fun l => A l + f' l) (zz t) ∧ spI t v (zz t) F0 C p' f' ∧ ∀ l, nM t ≤ l → f' l = f l) := by
  have hm30 := w.2.2.1
  have hn10 := w.2.1
  have hz := zz_le w
  have hd30 := deg30 (v := v) (u := u) w
  unfold f_X11_partsFrom f_X11_partsFrom_5
  refine Ev_FU (fun m q h1 => ∃ i, i + m = nM t ∧ q = (lN (sumTo (fun l => if onB t v u l = true then 1 else 0) i), nI i) ∧ h1 = h) (nM t) (0, 0) h (by omega) ⟨0, by omega, rfl, rfl⟩ ?_
  rintro m q h1 rec ⟨i, hi, rfl, rfl⟩ ih
  unfold f_X11_partsFrom_5b f_X11_partsFrom_29
  dsimp only
  rw [m_links E.1 E.2.1, Option.bind_some]
  dsimp only
  by_cases q : i < nM t
  · rw [if_pos (nI_lt q (by omega)), m_isOnE w E q hu hv, Option.bind_some, nI_1]
    by_cases co : onB t v u i = true
    · rw [if_neg (fun z => bI_0.mp z co), lt_def, lN_1]
      refine ih (m - 1) _ _ (by omega) ⟨i + 1, by omega, ?_, rfl⟩
      show _ = (lN (sumTo _ i + if onB t v u i = true then 1 else 0), _)
      rw [if_pos co]
    · rw [if_pos (bI_0.mpr co)]
      refine ih (m - 1) _ _ (by omega) ⟨i + 1, by omega, ?_, rfl⟩
      show _ = (lN (sumTo _ i + if onB t v u i = true then 1 else 0), _)
      rw [if_neg co]; rfl
  · have : i = nM t := by omega
    subst this
    obtain ⟨a1, a2⟩ := hp u hu
    have hfa := fa_le (A := p u) (Z := zz t)
    have hfb := fb_le (A := p u) (Z := zz t)
    have hg : 0 < Nat.gcd (fa (p u) (zz t)) (deg t v u) := Nat.gcd_pos_of_pos_right _ hd
    have hgd : Nat.gcd (fa (p u) (zz t)) (deg t v u) ≤ deg t v u := Nat.gcd_le_right _ hd
    have e0 : p u = p u / deg t v u * deg t v u := (Nat.div_mul_cancel hdd).symm
    obtain ⟨k1, k2, k3⟩ := fr_part (P := p u) (x := p u / deg t v u) (k := deg t v u) (Z := zz t) hd zz_pos e0
    rw [if_neg (nI_nlt (Nat.le_refl _) (by omega)), E.1.r24, Option.bind_some, ldL_ok (by rw [E.1.n10]; omega) (by omega), Option.bind_some, a1]
    rw [show sumTo (fun l => if onB t v u l = true then 1 else 0) (nM t) = deg t v u from rfl, m_common h1 (by omega) (by omega), Option.bind_some]
    dsimp only
    rw [E.1.r24, Option.bind_some, ldL_ok (by rw [E.1.n10]; omega) (by omega), Option.bind_some, a1, if_neg (lN_0 hg (by omega)), lt_def, E.1.r25, Option.bind_some, ldL_ok (by rw [E.1.n11]; omega) (by omega), Option.bind_some, a2, if_neg (lN_0 hg (by omega)), lt_def, pk_lDiv (by omega) hg (by omega), pk_lDiv (by omega) hg (by omega), lN_mul]
    exact m_partsFrom75 w E hu hv hp hs hF hA hC k3 k1 k2 S
end MP
