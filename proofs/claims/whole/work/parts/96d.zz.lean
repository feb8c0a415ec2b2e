/-! ===== one lower term for all; how large it gets ===== -/
def lcmTo : Nat → Nat
  | 0 => 1
  | k + 1 => Nat.lcm (lcmTo k) (k + 1)
theorem lcmTo_pos : ∀ k, 0 < lcmTo k := by
  intro k
  induction k with
  | zero => exact Nat.zero_lt_one
  | succ k ih => exact Nat.lcm_pos ih (by omega)
theorem lcmTo_dvd {d : Nat} (hd : 1 ≤ d) : ∀ k, d ≤ k → d ∣ lcmTo k := by
  intro k
  induction k with
  | zero => intro h; omega
  | succ k ih =>
    intro h
    by_cases q : d = k + 1
    · rw [q]; exact Nat.dvd_lcm_right _ _
    · exact Nat.dvd_trans (ih (by omega)) (Nat.dvd_lcm_left _ _)
theorem zf_lcm : ∀ k, k ≤ 30 → lcmTo k * 5 ^ k ≤ 14 ^ k := by decide +kernel
def outd (t : NT) (u : Nat) : Nat := sumTo (fun l => if nF t l = u then 1 else 0) (nM t)
def zz (t : NT) : Nat := prodTo (fun u => lcmTo (outd t u)) (nN t)
theorem deg_out {t : NT} {v u : Nat} : deg t v u ≤ outd t u := by
  refine sumTo_le _ (fun l _ => ?_)
  by_cases q : onB t v u l = true
  · rw [if_pos q, if_pos (onB_iff.mp q).2.1]; exact Nat.le_refl _
  · rw [if_neg q]; exact Nat.zero_le _
theorem pcs_dvd {t : NT} {v : Nat} : pcs t v ∣ zz t := by
  refine prodTo_dvd _ (fun u _ => ?_)
  unfold dg1
  by_cases q : 1 ≤ deg t v u
  · rw [Nat.max_eq_right q]; exact lcmTo_dvd q _ deg_out
  · rw [Nat.max_eq_left (by omega)]; exact Nat.one_dvd _
theorem zz_pos {t : NT} : 0 < zz t := prodTo_pos _ (fun _ _ => lcmTo_pos _)
theorem outd_sum {F : Nat → Nat} {n : Nat} : ∀ m, (∀ l, l < m → F l < n) → sumTo (fun u => sumTo (fun l => if F l = u then 1 else 0) m) n = m := by
  intro m
  induction m with
  | zero => intro _; exact sumTo_zero n
  | succ m ih =>
    intro h
    show sumTo (fun u => sumTo (fun l => if F l = u then 1 else 0) m + (if F m = u then 1 else 0)) n = m + 1
    rw [sumTo_add, ih (fun l hl => h l (by omega)), sumTo_only (i := F m) (h m (by omega)) (fun u _ hne => if_neg (fun z => hne z.symm)), if_pos rfl]
theorem prodTo_bd {d : Nat → Nat} : ∀ n, (∀ u, u < n → d u ≤ 30) → prodTo (fun u => lcmTo (d u)) n * 5 ^ sumTo d n ≤ 14 ^ sumTo d n := by
  intro n
  induction n with
  | zero => intro _; exact Nat.le_refl _
  | succ n ih =>
    intro h
    show prodTo (fun u => lcmTo (d u)) n * lcmTo (d n) * 5 ^ (sumTo d n + d n) ≤ 14 ^ (sumTo d n + d n)
    rw [Nat.pow_add, Nat.pow_add]
    have h1 := ih (fun u hu => h u (by omega))
    have h2 := zf_lcm (d n) (h n (by omega))
    have h3 := Nat.mul_le_mul h1 h2
    calc prodTo (fun u => lcmTo (d u)) n * lcmTo (d n) * (5 ^ sumTo d n * 5 ^ d n) = prodTo (fun u => lcmTo (d u)) n * 5 ^ sumTo d n * (lcmTo (d n) * 5 ^ d n) := by simp only [Nat.mul_assoc, Nat.mul_left_comm, Nat.mul_comm]
      _ ≤ _ := h3
theorem zz_le {t : NT} (w : wfN t) : zz t ≤ 25986090120790 := by
  have hs : sumTo (outd t) (nN t) = nM t := outd_sum (F := nF t) (nM t) (fun l hl => (w.2.2.2 l hl).1)
  have hm := w.2.2.1
  have h1 := prodTo_bd (d := outd t) (nN t) (fun u hu => by
    have := sumTo_at (f := outd t) (i := u) (nN t) hu
    omega)
  rw [hs] at h1
  have h2 : zz t * 5 ^ nM t ≤ 14 ^ nM t := h1
  have h3 : (5 : Nat) ^ (30 - nM t) ≤ 14 ^ (30 - nM t) := Nat.pow_le_pow_left (by decide) _
  have h4 := Nat.mul_le_mul h2 h3
  rw [Nat.mul_assoc, ← Nat.pow_add, ← Nat.pow_add, show nM t + (30 - nM t) = 30 by omega] at h4
  have h5 : zz t ≤ 14 ^ 30 / 5 ^ 30 := (Nat.le_div_iff_mul_le (by decide)).mpr h4
  exact Nat.le_trans h5 (by decide)
theorem rDv_pos {t : NT} {v u : Nat} : 0 < rDv t v u := by
  refine prodTo_pos _ (fun w _ => ?_)
  unfold dg1
  split <;> omega
theorem cnt_le' {t : NT} {v : Nat} (w : wfN t) (hv : v < nN t) : ∀ (k u : Nat), cl t v u < k → u < nN t → cnt t v u ≤ rDv t v u := by
  intro k
  induction k with
  | zero => intro u h; omega
  | succ k ih =>
    intro u hk hu
    by_cases q : u = v
    · rw [q, cnt_self]; exact rDv_pos
    · rw [cnt_rec w hv hu q]
      refine Nat.le_trans (sumTo_le (g := fun j => rDv t v u / deg t v u * (if onB t v u j = true then 1 else 0)) _ (fun j hj => ?_)) ?_
      · by_cases ho : onB t v u j = true
        · have o := on_near w hj ho
          have h1 := cl_lt (t := t) (v := v) (u := u) o.2.1 o.1
          rw [if_pos ho, if_pos ho, Nat.mul_one]
          have h2 := Nat.le_of_dvd rDv_pos (rDv_step w hu hj ho)
          rw [Nat.mul_comm] at h2
          exact Nat.le_trans (ih _ (by omega) o.2.1) ((Nat.le_div_iff_mul_le (deg_pos hj ho)).mpr h2)
        · rw [if_neg ho]; exact Nat.zero_le _
      · rw [sumTo_mul]
        exact Nat.div_mul_le_self _ _
theorem pcs_pos {t : NT} {v : Nat} : 0 < pcs t v := by
  refine prodTo_pos _ (fun w _ => ?_)
  unfold dg1
  omega
theorem pcs_le {t : NT} {v : Nat} (w : wfN t) : pcs t v ≤ 25986090120790 := Nat.le_trans (Nat.le_of_dvd zz_pos pcs_dvd) (zz_le w)
theorem cnt_le {t : NT} {v u : Nat} (w : wfN t) (hv : v < nN t) (hu : u < nN t) : cnt t v u ≤ 25986090120790 :=
  Nat.le_trans (cnt_le' w hv _ u (Nat.lt_succ_self _) hu) (Nat.le_trans (Nat.le_of_dvd pcs_pos rDv_pcs) (pcs_le w))
theorem cnt_is1 {t : NT} {v u : Nat} (w : wfN t) (hv : v < nN t) (hu : u < nN t) : lN (cnt t v u) = 1 ↔ cnt t v u = 1 := by
  have := cnt_le w hv hu
  exact pk_lEQ (b := 1) (by omega) (by decide)
theorem rDv_zz {t : NT} {v u : Nat} : rDv t v u ∣ zz t := Nat.dvd_trans rDv_pcs pcs_dvd
