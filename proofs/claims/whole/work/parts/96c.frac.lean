/-! ===== fractions in lowest terms ===== -/
/-- so many steps at most -/
def euS (s x y : Nat) : Prop := (y ≤ x ∧ x * y < 2 ^ s) ∨ (x < y ∧ 1 ≤ s ∧ x * y < 2 ^ (s - 1))
theorem euS_step {s x y : Nat} (hy : 0 < y) (h : euS s x y) : 1 ≤ s ∧ euS (s - 1) y (x % y) := by
  rcases h with ⟨h1, h2⟩ | ⟨h1, h2, h3⟩
  · have hs : 1 ≤ s := by
      rcases Nat.eq_zero_or_pos s with h0 | h0
      · subst h0
        have := Nat.mul_pos (show 0 < x by omega) hy
        omega
      · exact h0
    refine ⟨hs, Or.inl ⟨Nat.le_of_lt (Nat.mod_lt _ hy), ?_⟩⟩
    have h3 : 2 * (x % y) ≤ x := by
      have h4 := Nat.mod_add_div x y
      have h5 := Nat.mod_lt x hy
      have h6 : y * 1 ≤ y * (x / y) := Nat.mul_le_mul_left _ (Nat.div_pos h1 hy)
      omega
    have h4 : y * (2 * (x % y)) ≤ y * x := Nat.mul_le_mul_left _ h3
    have h5 : y * (2 * (x % y)) = 2 * (y * (x % y)) := Nat.mul_left_comm _ _ _
    have h6 : (2 : Nat) ^ s = 2 * 2 ^ (s - 1) := by
      rw [← Nat.pow_succ']; congr 1; omega
    rw [Nat.mul_comm x y] at h2
    omega
  · refine ⟨h2, Or.inl ⟨Nat.le_of_lt (Nat.mod_lt _ hy), ?_⟩⟩
    rw [Nat.mod_eq_of_lt h1, Nat.mul_comm]
    exact h3
theorem euS_of {s x y : Nat} (h : x * y < 2 ^ s) : euS (s + 1) x y := by
  by_cases q : y ≤ x
  · refine Or.inl ⟨q, Nat.lt_of_lt_of_le h (Nat.pow_le_pow_right (by decide) (by omega))⟩
  · exact Or.inr ⟨by omega, by omega, h⟩
theorem gcd_step {x y : Nat} : Nat.gcd y (x % y) = Nat.gcd x y := by
  rw [Nat.gcd_comm x y, Nat.gcd_rec y x, Nat.gcd_comm]
theorem x_divisor {a b : Nat} (h : MH) (ha : a < 2 ^ 63) (hb : b < 2 ^ 63) (h0 : 0 < Nat.gcd a b) : f_X1_divisor (lN a) (lN b) h = some (lN (Nat.gcd a b), h) := by
  have key : Ev (f_X1_divisor (lN a) (lN b) h) (fun q => q = (lN (Nat.gcd a b), h)) := by
    unfold f_X1_divisor f_X1_divisor_9
    refine Ev_FU (fun m p h1 => ∃ i x y, i + m = 127 ∧ h1 = h ∧ p = (lN x, lN y, nI i) ∧ x < 2 ^ 63 ∧ y < 2 ^ 63 ∧ Nat.gcd x y = Nat.gcd a b ∧ euS m x y) 127 (lN a, lN b, 0) h (by omega) ⟨0, a, b, by omega, rfl, rfl, ha, hb, rfl, euS_of ?_⟩ ?_
    · have := Nat.mul_lt_mul_of_lt_of_lt ha hb
      rw [← Nat.pow_add] at this
      exact this
    · rintro m p h1 rec ⟨i, x, y, hi, rfl, rfl, hx, hy, hg, hE⟩ ih
      unfold f_X1_divisor_9b f_X1_divisor_45
      dsimp only
      rw [if_pos (show nI i < 200 from (nI_ltI (b := 200) (by omega) (by decide)).mpr (by omega))]
      by_cases q : y = 0
      · subst q
        rw [Nat.gcd_zero_right] at hg
        rw [if_pos (show lN 0 = 0 from rfl), if_neg (show ¬ lN x < 1 from fun z => by have := (pk_lLT (b := 1) hx (by decide)).mp z; omega), hg]
        exact Ev_some rfl
      · have hy0 : ¬ lN y = 0 := fun z => q ((pk_lEQ (b := 0) hy (by decide)).mp z)
        rw [if_neg hy0, if_neg hy0, lt_def, pk_lRem hx (by omega) hy, nI_1]
        obtain ⟨s1, s2⟩ := euS_step (by omega) hE
        exact ih (m - 1) _ _ (by omega) ⟨i + 1, y, x % y, by omega, rfl, rfl, hy, Nat.lt_of_lt_of_le (Nat.mod_lt _ (by omega)) (Nat.le_of_lt hy), gcd_step.trans hg, s2⟩
  obtain ⟨q, e, rfl⟩ := key
  exact e
theorem m_common' : ∀ (n s x y : Nat) (h : MH), s < n → x < 2 ^ 63 → y < 2 ^ 63 → euS s x y → f_X11_common 0 n (lN x, lN y) h = some (lN (Nat.gcd x y), h) := by
  intro n
  induction n with
  | zero => intro s x y h hs; omega
  | succ n ih =>
    intro s x y h hs hx hy hE
    show f_X11_commonb (f_X11_common 0 n) 0 (lN x) (lN y) h = _
    unfold f_X11_commonb
    by_cases q : y = 0
    · subst q
      rw [if_pos (show lN 0 = 0 from rfl), Nat.gcd_zero_right]
    · have hy0 : ¬ lN y = 0 := fun z => q ((pk_lEQ (b := 0) hy (by decide)).mp z)
      obtain ⟨s1, s2⟩ := euS_step (by omega) hE
      rw [if_neg hy0, if_neg hy0, pk_lRem hx (by omega) hy, ih (s - 1) y (x % y) h (by omega) hy (Nat.lt_of_lt_of_le (Nat.mod_lt _ (by omega)) (Nat.le_of_lt hy)) s2, Option.bind_some, gcd_step]
theorem m_common {x y : Nat} (h : MH) (hx : x < 2 ^ 62) (hy : y < 2 ^ 45) : f_X11_common 0 DG (lN x, lN y) h = some (lN (Nat.gcd x y), h) := by
  refine m_common' DG 108 x y h (by decide) (Nat.lt_of_lt_of_le hx (by decide)) (Nat.lt_of_lt_of_le hy (by decide)) (euS_of (s := 107) ?_)
  have := Nat.mul_lt_mul_of_lt_of_lt hx hy
  rw [← Nat.pow_add] at this
  exact this
def fa (A Z : Nat) : Nat := A / Nat.gcd A Z
def fb (A Z : Nat) : Nat := Z / Nat.gcd A Z
theorem fr_eq {A Z : Nat} : fa A Z * Z = A * fb A Z := by
  unfold fa fb
  rw [← Nat.mul_div_assoc A (Nat.gcd_dvd_right A Z), Nat.div_mul_right_comm (Nat.gcd_dvd_left A Z)]
theorem fb_dvd {A Z : Nat} : fb A Z ∣ Z := Nat.div_dvd_of_dvd (Nat.gcd_dvd_right A Z)
theorem fb_pos {A Z : Nat} (hZ : 0 < Z) : 0 < fb A Z := Nat.div_pos (Nat.gcd_le_right _ hZ) (Nat.gcd_pos_of_pos_right _ hZ)
theorem fa_le {A Z : Nat} : fa A Z ≤ A := Nat.div_le_self _ _
theorem fb_le {A Z : Nat} : fb A Z ≤ Z := Nat.div_le_self _ _
theorem fa_0 {Z : Nat} (hZ : 0 < Z) : fa 0 Z = 0 ∧ fb 0 Z = 1 := by
  unfold fa fb
  rw [Nat.gcd_zero_left, Nat.zero_div, Nat.div_self hZ]
  exact ⟨rfl, rfl⟩
theorem fr_one {A Z : Nat} (hZ : 0 < Z) : fa (A + Z) Z = fa A Z + fb A Z ∧ fb (A + Z) Z = fb A Z := by
  unfold fa fb
  rw [Nat.gcd_add_self_left, add_div_dvd (Nat.gcd_pos_of_pos_right _ hZ) (Nat.gcd_dvd_left A Z)]
  exact ⟨rfl, rfl⟩
theorem fr_add {a b c d A C Z : Nat} (hb : 0 < b) (hd : 0 < d) (hZ : 0 < Z) (e1 : a * Z = A * b) (e2 : c * Z = C * d) (db : b ∣ Z) (dd : d ∣ Z) : ∃ X Y, a * (d / Nat.gcd b d) + c * (b / Nat.gcd b d) = X ∧ b / Nat.gcd b d * d = Y ∧ 0 < Nat.gcd b d ∧ 0 < Nat.gcd X Y ∧ X ≤ A + C ∧ Y ≤ Z ∧ X / Nat.gcd X Y = fa (A + C) Z ∧ Y / Nat.gcd X Y = fb (A + C) Z := by
  have hg : 0 < Nat.gcd b d := Nat.gcd_pos_of_pos_left _ hb
  obtain ⟨b', hb'⟩ := Nat.gcd_dvd_left b d
  obtain ⟨d', hd'⟩ := Nat.gcd_dvd_right b d
  obtain ⟨k, hk⟩ := Nat.lcm_dvd db dd
  refine ⟨_, _, rfl, rfl, hg, ?_⟩
  have eb : b / Nat.gcd b d = b' := by
    have := congrArg (· / Nat.gcd b d) hb'
    rw [Nat.mul_div_cancel_left _ hg] at this
    exact this
  have ed : d / Nat.gcd b d = d' := by
    have := congrArg (· / Nat.gcd b d) hd'
    rw [Nat.mul_div_cancel_left _ hg] at this
    exact this
  rw [eb, ed]
  have el : Nat.lcm b d = b' * d := by
    unfold Nat.lcm
    rw [← Nat.div_mul_right_comm (Nat.gcd_dvd_left b d), eb]
  rw [el] at hk
  have hb0 : 0 < b' := by
    rcases Nat.eq_zero_or_pos b' with z | z
    · rw [z, Nat.mul_zero] at hb'; omega
    · exact z
  have hd0 : 0 < d' := by
    rcases Nat.eq_zero_or_pos d' with z | z
    · rw [z, Nat.mul_zero] at hd'; omega
    · exact z
  have hk0 : 0 < k := by
    rcases Nat.eq_zero_or_pos k with z | z
    · rw [z, Nat.mul_zero] at hk; omega
    · exact z
  have hA : a * d' * k = A := by
    refine Nat.eq_of_mul_eq_mul_right hb ?_
    rw [← e1, hk]
    have : d = Nat.gcd b d * d' := hd'
    calc a * d' * k * b = a * d' * k * (Nat.gcd b d * b') := by rw [← hb']
      _ = a * (b' * (Nat.gcd b d * d') * k) := by simp only [Nat.mul_assoc, Nat.mul_left_comm, Nat.mul_comm]
      _ = a * (b' * d * k) := by rw [← hd']
  have hC : c * b' * k = C := by
    refine Nat.eq_of_mul_eq_mul_right hd ?_
    rw [← e2, hk]
    simp only [Nat.mul_assoc, Nat.mul_left_comm, Nat.mul_comm]
  have hX : (a * d' + c * b') * k = A + C := by rw [Nat.add_mul, hA, hC]
  have hY : b' * d * k = Z := hk.symm
  have hgX : Nat.gcd (A + C) Z = Nat.gcd (a * d' + c * b') (b' * d) * k := by
    rw [← hX, ← hY, Nat.gcd_mul_right]
  refine ⟨Nat.gcd_pos_of_pos_right _ (Nat.mul_pos hb0 hd), ?_, ?_, ?_, ?_⟩
  · rw [← hX]; exact Nat.le_mul_of_pos_right _ hk0
  · rw [← hY]; exact Nat.le_mul_of_pos_right _ hk0
  · unfold fa
    rw [hgX, ← hX, Nat.mul_div_mul_right _ _ hk0]
  · unfold fb
    rw [hgX, ← hY, Nat.mul_div_mul_right _ _ hk0]
theorem lN_0 {n : Nat} (h : 0 < n) (h2 : n < 2 ^ 63) : ¬ lN n = 0 := fun z => by
  have := (pk_lEQ (b := 0) h2 (by decide)).mp z
  omega
theorem m_adds {a b c d A C Z : Nat} (h : MH) (hb : 0 < b) (hd : 0 < d) (hZ : 0 < Z) (hZ2 : Z < 2 ^ 45) (hAC : A + C < 2 ^ 62) (e1 : a * Z = A * b) (e2 : c * Z = C * d) (db : b ∣ Z) (dd : d ∣ Z) : f_X11_adds 0 (lN a) (lN b) (lN c) (lN d) h = some (sL (sL h 0 10 (lN (fa (A + C) Z))) 0 11 (lN (fb (A + C) Z))) := by
  obtain ⟨X, Y, eX, eY, hg, hgX, hX, hY, f1, f2⟩ := fr_add hb hd hZ e1 e2 db dd
  have hbZ := Nat.le_of_dvd hZ db
  have hdZ := Nat.le_of_dvd hZ dd
  have hgb : Nat.gcd b d ≤ b := Nat.gcd_le_left _ hb
  have hgY : Nat.gcd X Y ≤ Z := by
    rcases Nat.eq_zero_or_pos Y with z | z
    · exfalso
      have h1 : 0 < b / Nat.gcd b d := Nat.div_pos hgb hg
      have := Nat.mul_pos h1 hd
      omega
    · exact Nat.le_trans (Nat.gcd_le_right _ z) hY
  unfold f_X11_adds
  rw [m_common h (by omega) (by omega), Option.bind_some]
  dsimp only
  rw [if_neg (lN_0 hg (by omega)), if_neg (lN_0 hg (by omega)), lt_def, if_neg (lN_0 hg (by omega)), lt_def, pk_lDiv (by omega) hg (by omega), pk_lDiv (by omega) hg (by omega), lN_mul, lN_mul, lN_add, lN_mul, eX, eY, m_common h (by omega) (by omega), Option.bind_some]
  dsimp only
  rw [if_neg (lN_0 hgX (by omega)), lt_def, if_neg (lN_0 hgX (by omega)), lt_def, pk_lDiv (by omega) hgX (by omega), pk_lDiv (by omega) hgX (by omega), f1, f2]
/-- thirty fractions: their upper and lower terms -/
def frIs (h : MH) (a b : Nat) (A : Nat → Nat) (Z : Nat) : Prop := ∀ l, l < 30 → gL h a l = lN (fa (A l) Z) ∧ gL h b l = lN (fb (A l) Z)
theorem frIs.cg {h h' : MH} {a b Z : Nat} {A A' : Nat → Nat} (ha : gL h' a = gL h a) (hb : gL h' b = gL h b) (hA : ∀ l, l < 30 → A' l = A l) (f : frIs h a b A Z) : frIs h' a b A' Z := fun l hl => by
  rw [ha, hb, hA l hl]; exact f l hl
theorem x_frAdd {h : MH} {r i c d C Z : Nat} {A : Nat → Nat} (R : rtAt h r 30) (f : frIs h (r + 1) (r + 2) A Z) (hi : i < 30) (hd : 0 < d) (hZ : 0 < Z) (hZ2 : Z < 2 ^ 45) (hAC : A i + C < 2 ^ 62) (e2 : c * Z = C * d) (dd : d ∣ Z) : Ev (f_X1_add r (nI i) (lN c) (lN d) h) (fun h' => frm [r + 1, r + 2] h h' ∧ gI h' = gI h ∧ frIs h' (r + 1) (r + 2) (fun l => if l = i then A i + C else A l) Z) := by
  have hdZ := Nat.le_of_dvd hZ dd
  unfold f_X1_add
  rw [if_neg (nI_nn (by omega)), R.1, Option.bind_some, R.2.2.1, oN, if_pos (show nI i < nI 30 from nI_lt hi (by decide))]
  have hcC : c ≤ C := by
    apply Classical.byContradiction
    intro q
    have h1 : C * d ≤ C * Z := Nat.mul_le_mul_left _ hdZ
    have h2 : C * Z < c * Z := Nat.mul_lt_mul_of_pos_right (by omega) hZ
    omega
  by_cases q : c = 0
  · subst q
    have hC : C = 0 := by
      rw [Nat.zero_mul] at e2
      rcases Nat.mul_eq_zero.mp e2.symm with z | z
      · exact z
      · omega
    rw [if_neg (show ¬ (0 : Int64) < lN 0 by decide)]
    refine Ev_some ⟨frm.rf, rfl, f.cg rfl rfl (fun l _ => ?_)⟩
    show (if l = i then A i + C else A l) = A l
    split
    · rename_i z; rw [z, hC]; rfl
    · rfl
  · rw [if_pos (show (0 : Int64) < lN c from (pk_lLT (a := 0) (by decide) (by omega)).mpr (by omega)), if_pos (show (0 : Int64) < lN d from (pk_lLT (a := 0) (by decide) (by omega)).mpr hd)]
    obtain ⟨fi1, fi2⟩ := f i hi
    have hb := fb_pos (A := A i) hZ
    have hbZ := fb_le (A := A i) (Z := Z)
    have haA := fa_le (A := A i) (Z := Z)
    obtain ⟨X, Y, eX, eY, hg, hgX, hX, hY, f1, f2⟩ := fr_add hb hd hZ fr_eq e2 fb_dvd dd
    have hgb : Nat.gcd (fb (A i) Z) d ≤ fb (A i) Z := Nat.gcd_le_left _ hb
    have hgY : Nat.gcd X Y ≤ Z := by
      rcases Nat.eq_zero_or_pos Y with z | z
      · exfalso
        have h1 : 0 < fb (A i) Z / Nat.gcd (fb (A i) Z) d := Nat.div_pos hgb hg
        have := Nat.mul_pos h1 hd
        omega
      · exact Nat.le_trans (Nat.gcd_le_right _ z) hY
    rw [R.2.1, Option.bind_some, ldL_ok (by rw [R.2.2.2]; exact hi) (by omega), Option.bind_some, fi2, x_divisor h (by omega) (by omega) hg, Option.bind_some]
    dsimp only
    rw [R.1, Option.bind_some, ldL_ok (by rw [R.2.2.1]; exact hi) (by omega), Option.bind_some, fi1, if_neg (lN_0 hg (by omega)), R.2.1, Option.bind_some, ldL_ok (by rw [R.2.2.2]; exact hi) (by omega), Option.bind_some, if_neg (lN_0 hg (by omega)), lt_def, Option.bind_some, ldL_ok (by rw [R.2.2.2]; exact hi) (by omega), Option.bind_some, fi2, if_neg (lN_0 hg (by omega)), lt_def, pk_lDiv (by omega) hg (by omega), pk_lDiv (by omega) hg (by omega), lN_mul, lN_mul, lN_add, lN_mul, eX, eY, x_divisor h (by omega) (by omega) hgX, Option.bind_some]
    dsimp only
    rw [R.1, Option.bind_some, if_neg (lN_0 hgX (by omega)), pk_lDiv (by omega) hgX (by omega), pk_lDiv (by omega) hgX (by omega), f1, f2, stL_ok (by rw [R.2.2.1]; exact hi) (by omega), Option.bind_some, show gR (sL h (r + 1) i (lN (fa (A i + C) Z))) r 1 = some (r + 2) from R.2.1, Option.bind_some, if_neg (lN_0 hgX (by omega)), stL_ok (by rw [gN_sL, R.2.2.2]; exact hi) (by omega), Option.bind_some]
    refine Ev_some ⟨frm.sL (by simp) (frm.sL (by simp) frm.rf), rfl, fun l hl => ?_⟩
    show _ = lN (fa (if l = i then A i + C else A l) Z) ∧ _ = lN (fb (if l = i then A i + C else A l) Z)
    by_cases ql : l = i
    · rw [if_pos ql, ql, gL_s, gL_sL_ne (by omega), gL_s]; exact ⟨rfl, rfl⟩
    · rw [if_neg ql, gL_sL_ne (by omega), gL_sL, if_neg (fun z => ql z.2), gL_sL, if_neg (fun z => ql z.2), gL_sL_ne (by omega)]
      exact f l hl
theorem x_frOne {h : MH} {r i Z : Nat} {A : Nat → Nat} (R : rtAt h r 30) (f : frIs h (r + 1) (r + 2) A Z) (hi : i < 30) (hZ : 0 < Z) : ∃ h', f_X1_addOne r (nI i) h = some h' ∧ frm [r + 1, r + 2] h h' ∧ gI h' = gI h ∧ frIs h' (r + 1) (r + 2) (fun l => if l = i then A i + Z else A l) Z := by
  obtain ⟨fi1, fi2⟩ := f i hi
  refine ⟨sL h (r + 1) i (lN (fa (A i + Z) Z)), ?_, frm.sL (by simp) frm.rf, rfl, fun l hl => ?_⟩
  · unfold f_X1_addOne
    rw [if_neg (nI_nn (by omega)), R.1, Option.bind_some, R.2.2.1, oN, if_pos (show nI i < nI 30 from nI_lt hi (by decide)), Option.bind_some, ldL_ok (by rw [R.2.2.1]; exact hi) (by omega), Option.bind_some, R.2.1, Option.bind_some, ldL_ok (by rw [R.2.2.2]; exact hi) (by omega), Option.bind_some, fi1, fi2, lN_add, ← (fr_one hZ).1, stL_ok (by rw [R.2.2.1]; exact hi) (by omega), Option.bind_some]
  · show _ = lN (fa (if l = i then A i + Z else A l) Z) ∧ _ = lN (fb (if l = i then A i + Z else A l) Z)
    by_cases ql : l = i
    · rw [if_pos ql, ql, gL_s, gL_sL_ne (by omega), fi2, (fr_one hZ).2]; exact ⟨rfl, rfl⟩
    · rw [if_neg ql, gL_sL, if_neg (fun z => ql z.2), gL_sL_ne (by omega)]
      exact f l hl
