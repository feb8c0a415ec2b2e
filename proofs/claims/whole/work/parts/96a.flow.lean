/-! ===== how an amount parts on its way to a node ===== -/
def prodTo (f : Nat → Nat) : Nat → Nat
  | 0 => 1
  | k + 1 => prodTo f k * f k
theorem prodTo_pos {f : Nat → Nat} : ∀ n, (∀ i, i < n → 0 < f i) → 0 < prodTo f n := by
  intro n
  induction n with
  | zero => intro _; exact Nat.zero_lt_one
  | succ n ih =>
    intro h
    exact Nat.mul_pos (ih (fun i hi => h i (by omega))) (h n (by omega))
theorem prodTo_dvd {f g : Nat → Nat} : ∀ n, (∀ i, i < n → f i ∣ g i) → prodTo f n ∣ prodTo g n := by
  intro n
  induction n with
  | zero => intro _; exact Nat.dvd_refl _
  | succ n ih =>
    intro h
    exact Nat.mul_dvd_mul (ih (fun i hi => h i (by omega))) (h n (by omega))
theorem prodTo_dvd1 {f g : Nat → Nat} {u : Nat} : ∀ n, u < n → (∀ i, i < n → i ≠ u → f i ∣ g i) → f u = 1 → prodTo f n * g u ∣ prodTo g n := by
  intro n
  induction n with
  | zero => intro h; omega
  | succ n ih =>
    intro hu h h1
    show prodTo f n * f n * g u ∣ prodTo g n * g n
    by_cases q : u = n
    · subst q
      rw [h1, Nat.mul_one]
      exact Nat.mul_dvd_mul (prodTo_dvd u (fun i hi => h i (by omega) (by omega))) (Nat.dvd_refl _)
    · rw [Nat.mul_right_comm]
      exact Nat.mul_dvd_mul (ih (by omega) (fun i hi hne => h i (by omega) hne) h1) (h n (by omega) (fun z => q z.symm))
noncomputable def deg (t : NT) (v u : Nat) : Nat := sumTo (fun l => if onB t v u l = true then 1 else 0) (nM t)
noncomputable def dg1 (t : NT) (v u : Nat) : Nat := max 1 (deg t v u)
noncomputable def rDv (t : NT) (v u : Nat) : Nat := prodTo (fun w => if dist t v w ≤ dist t v u then dg1 t v w else 1) (nN t)
noncomputable def pcs (t : NT) (v : Nat) : Nat := prodTo (dg1 t v) (nN t)
theorem rDv_pcs {t : NT} {v u : Nat} : rDv t v u ∣ pcs t v := by
  refine prodTo_dvd _ (fun i _ => ?_)
  split
  · exact Nat.dvd_refl _
  · exact Nat.one_dvd _
theorem sumTo_at {f : Nat → Nat} {i : Nat} : ∀ n, i < n → f i ≤ sumTo f n := by
  intro n
  induction n with
  | zero => intro h; omega
  | succ n ih =>
    intro h
    show f i ≤ sumTo f n + f n
    by_cases q : i = n
    · rw [q]; omega
    · have := ih (by omega); omega
theorem sumTo_two {f : Nat → Nat} {i j : Nat} (hij : i ≠ j) : ∀ n, i < n → j < n → f i + f j ≤ sumTo f n := by
  intro n
  induction n with
  | zero => intro h; omega
  | succ n ih =>
    intro h1 h2
    show f i + f j ≤ sumTo f n + f n
    by_cases q : i = n
    · have := sumTo_at (f := f) (i := j) n (by omega)
      rw [q]; omega
    · by_cases q2 : j = n
      · have := sumTo_at (f := f) (i := i) n (by omega)
        rw [q2]; omega
      · have := ih (by omega) (by omega); omega
theorem deg_pos {t : NT} {v u l : Nat} (hl : l < nM t) (h : onB t v u l = true) : 1 ≤ deg t v u := by
  have := sumTo_at (f := fun l => if onB t v u l = true then 1 else 0) (i := l) (nM t) hl
  rw [if_pos h] at this
  exact this
theorem on_near {t : NT} {v u l : Nat} (w : wfN t) (hl : l < nM t) (h : onB t v u l = true) : dist t v (nT t l) < dist t v u ∧ nT t l < nN t ∧ nF t l = u ∧ dist t v u < 1000000 ∧ nU t l = true := by
  have o := onB_iff.mp h
  have := (w.2.2.2 l hl).2.2.2.1
  exact ⟨by have := o.2.2.2; omega, (w.2.2.2 l hl).2.1, o.2.1, o.2.2.1, o.1⟩
theorem rDv_step {t : NT} {v u l : Nat} (w : wfN t) (hu : u < nN t) (hl : l < nM t) (h : onB t v u l = true) : deg t v u * rDv t v (nT t l) ∣ rDv t v u := by
  have o := on_near w hl h
  have h1 := deg_pos hl h
  have := prodTo_dvd1 (f := fun w => if dist t v w ≤ dist t v (nT t l) then dg1 t v w else 1) (g := fun w => if dist t v w ≤ dist t v u then dg1 t v w else 1) (u := u) (nN t) hu (fun i _ _ => by
    by_cases q : dist t v i ≤ dist t v (nT t l)
    · rw [if_pos q, if_pos (by omega)]; exact Nat.dvd_refl _
    · rw [if_neg q]; exact Nat.one_dvd _) (if_neg (by omega))
  rw [if_pos (Nat.le_refl _)] at this
  have e : dg1 t v u = deg t v u := by unfold dg1; omega
  rw [e, Nat.mul_comm] at this
  exact this
noncomputable def flw (t : NT) (v : Nat) : Nat → Nat → Nat → Nat → Nat
  | 0, _, _, _ => 0
  | k + 1, u, x, l => sumTo (fun j => if onB t v u j = true then (if j = l then x / deg t v u else 0) + flw t v k (nT t j) (x / deg t v u) l else 0) (nM t)
theorem flw_st {t : NT} {v l : Nat} (w : wfN t) : ∀ (k k' u x : Nat), u < nN t → cl t v u < k → cl t v u < k' → flw t v k u x l = flw t v k' u x l := by
  intro k
  induction k with
  | zero => intro k' u x _ h; omega
  | succ k ih =>
    intro k' u x hu h1 h2
    cases k' with
    | zero => omega
    | succ k' =>
      unfold flw
      refine sumTo_congr _ (fun j hj => ?_)
      by_cases ho : onB t v u j = true
      · have o := on_near w hj ho
        have := cl_lt (t := t) (v := v) (u := u) o.2.1 o.1
        rw [if_pos ho, if_pos ho, ih k' _ _ o.2.1 (by omega) (by omega)]
      · rw [if_neg ho, if_neg ho]
noncomputable def flow (t : NT) (v u x l : Nat) : Nat := flw t v 10 u x l
theorem cl9 {t : NT} {v u : Nat} (w : wfN t) (hu : u < nN t) : cl t v u < 10 := by
  have := cl_bound (t := t) (v := v) hu
  have := w.2.1
  omega
theorem flow_rec {t : NT} {v u x l : Nat} (w : wfN t) (hu : u < nN t) : flow t v u x l = sumTo (fun j => if onB t v u j = true then (if j = l then x / deg t v u else 0) + flow t v (nT t j) (x / deg t v u) l else 0) (nM t) := by
  show flw t v (9 + 1) u x l = _
  unfold flw
  refine sumTo_congr _ (fun j hj => ?_)
  by_cases ho : onB t v u j = true
  · have o := on_near w hj ho
    have h1 := cl_lt (t := t) (v := v) (u := u) o.2.1 o.1
    have h2 := cl9 (v := v) w hu
    rw [if_pos ho, if_pos ho, flw_st w 9 10 _ _ o.2.1 (by omega) (by omega)]
    rfl
  · rw [if_neg ho, if_neg ho]
theorem sumTo_add {f g : Nat → Nat} : ∀ n, sumTo (fun i => f i + g i) n = sumTo f n + sumTo g n := by
  intro n
  induction n with
  | zero => rfl
  | succ n ih =>
    show sumTo (fun i => f i + g i) n + (f n + g n) = sumTo f n + f n + (sumTo g n + g n)
    rw [ih]; omega
theorem sumTo_mul {f : Nat → Nat} {c : Nat} : ∀ n, sumTo (fun i => c * f i) n = c * sumTo f n := by
  intro n
  induction n with
  | zero => rfl
  | succ n ih =>
    show sumTo (fun i => c * f i) n + c * f n = c * (sumTo f n + f n)
    rw [ih, Nat.mul_add]
theorem rDv_to {t : NT} {v u j x : Nat} (w : wfN t) (hu : u < nN t) (hj : j < nM t) (ho : onB t v u j = true) (hx : rDv t v u ∣ x) : deg t v u ∣ x ∧ rDv t v (nT t j) ∣ x / deg t v u := by
  have h1 := Nat.dvd_trans (rDv_step w hu hj ho) hx
  exact ⟨Nat.dvd_trans (Nat.dvd_mul_right _ _) h1, Nat.dvd_div_of_mul_dvd h1⟩
theorem add_div_dvd {a b c : Nat} (hc : 0 < c) (h : c ∣ a) : (a + b) / c = a / c + b / c := by
  obtain ⟨k, rfl⟩ := h
  rw [Nat.mul_add_div hc, Nat.mul_div_cancel_left _ hc]
theorem flow_add' {t : NT} {v l : Nat} (w : wfN t) : ∀ (k u x y : Nat), cl t v u < k → u < nN t → rDv t v u ∣ x → rDv t v u ∣ y → flow t v u (x + y) l = flow t v u x l + flow t v u y l := by
  intro k
  induction k with
  | zero => intro u x y h; omega
  | succ k ih =>
    intro u x y hk hu hx hy
    rw [flow_rec w hu, flow_rec w hu (x := x), flow_rec w hu (x := y), ← sumTo_add]
    refine sumTo_congr _ (fun j hj => ?_)
    by_cases ho : onB t v u j = true
    · have o := on_near w hj ho
      have h1 := cl_lt (t := t) (v := v) (u := u) o.2.1 o.1
      obtain ⟨a1, a2⟩ := rDv_to w hu hj ho hx
      obtain ⟨b1, b2⟩ := rDv_to w hu hj ho hy
      rw [if_pos ho, if_pos ho, if_pos ho, add_div_dvd (deg_pos hj ho) a1, ih _ _ _ (by omega) o.2.1 a2 b2]
      split <;> omega
    · rw [if_neg ho, if_neg ho, if_neg ho]
theorem flow_add {t : NT} {v l u x y : Nat} (w : wfN t) (hu : u < nN t) (hx : rDv t v u ∣ x) (hy : rDv t v u ∣ y) : flow t v u (x + y) l = flow t v u x l + flow t v u y l := flow_add' w _ u x y (Nat.lt_succ_self _) hu hx hy
theorem flow_mul' {t : NT} {v l c : Nat} (w : wfN t) : ∀ (k u x : Nat), cl t v u < k → u < nN t → rDv t v u ∣ x → flow t v u (c * x) l = c * flow t v u x l := by
  intro k
  induction k with
  | zero => intro u x h; omega
  | succ k ih =>
    intro u x hk hu hx
    rw [flow_rec w hu, flow_rec w hu (x := x), ← sumTo_mul]
    refine sumTo_congr _ (fun j hj => ?_)
    by_cases ho : onB t v u j = true
    · have o := on_near w hj ho
      have h1 := cl_lt (t := t) (v := v) (u := u) o.2.1 o.1
      obtain ⟨a1, a2⟩ := rDv_to w hu hj ho hx
      rw [if_pos ho, if_pos ho, Nat.mul_div_assoc c a1, ih _ _ (by omega) o.2.1 a2, Nat.mul_add]
      split
      · rfl
      · rw [Nat.mul_zero]
    · rw [if_neg ho, if_neg ho, Nat.mul_zero]
theorem flow_mul {t : NT} {v l c u x : Nat} (w : wfN t) (hu : u < nN t) (hx : rDv t v u ∣ x) : flow t v u (c * x) l = c * flow t v u x l := flow_mul' w _ u x (Nat.lt_succ_self _) hu hx
theorem flow_zero {t : NT} {v l u : Nat} (w : wfN t) (hu : u < nN t) : flow t v u 0 l = 0 := by
  have := flow_mul (t := t) (v := v) (l := l) (c := 0) (u := u) (x := 0) w hu (Nat.dvd_zero _)
  simpa using this
theorem flow_far' {t : NT} {v l : Nat} (w : wfN t) : ∀ (k u x : Nat), cl t v u < k → u < nN t → dist t v u < dist t v (nF t l) → flow t v u x l = 0 := by
  intro k
  induction k with
  | zero => intro u x h; omega
  | succ k ih =>
    intro u x hk hu hd
    rw [flow_rec w hu]
    refine (sumTo_congr (g := fun _ => 0) _ (fun j hj => ?_)).trans (sumTo_zero _)
    by_cases ho : onB t v u j = true
    · have o := on_near w hj ho
      have h1 := cl_lt (t := t) (v := v) (u := u) o.2.1 o.1
      rw [if_pos ho, ih _ _ (by omega) o.2.1 (by omega), if_neg (fun z => by rw [z] at o; rw [o.2.2.1] at hd; omega)]
    · rw [if_neg ho]
theorem flow_far {t : NT} {v l u x : Nat} (w : wfN t) (hu : u < nN t) (hd : dist t v u < dist t v (nF t l)) : flow t v u x l = 0 := flow_far' w _ u x (Nat.lt_succ_self _) hu hd
theorem flow_le' {t : NT} {v l : Nat} (w : wfN t) : ∀ (k u x : Nat), cl t v u < k → u < nN t → flow t v u x l ≤ x := by
  intro k
  induction k with
  | zero => intro u x h; omega
  | succ k ih =>
    intro u x hk hu
    rw [flow_rec w hu]
    refine Nat.le_trans (sumTo_le (g := fun j => x / deg t v u * (if onB t v u j = true then 1 else 0)) _ (fun j hj => ?_)) ?_
    · by_cases ho : onB t v u j = true
      · have o := on_near w hj ho
        have h1 := cl_lt (t := t) (v := v) (u := u) o.2.1 o.1
        rw [if_pos ho, if_pos ho, Nat.mul_one]
        by_cases q : j = l
        · rw [if_pos q, flow_far w o.2.1 (by rw [← q, o.2.2.1]; exact o.1)]; exact Nat.le_refl _
        · rw [if_neg q, Nat.zero_add]; exact ih _ _ (by omega) o.2.1
      · rw [if_neg ho]; exact Nat.zero_le _
    · rw [sumTo_mul]
      exact Nat.div_mul_le_self _ _
theorem flow_le {t : NT} {v l u x : Nat} (w : wfN t) (hu : u < nN t) : flow t v u x l ≤ x := flow_le' w _ u x (Nat.lt_succ_self _) hu
theorem no_on {t : NT} {v l : Nat} (w : wfN t) (hv : v < nN t) (hl : l < nM t) : ¬ onB t v v l = true := fun ho => by
  have o := on_near w hl ho
  have := (dist_bel w hv).1
  omega
theorem flow_v {t : NT} {v l x : Nat} (w : wfN t) (hv : v < nN t) : flow t v v x l = 0 := by
  rw [flow_rec w hv]
  exact (sumTo_congr (g := fun _ => 0) _ (fun j hj => if_neg (no_on w hv hj))).trans (sumTo_zero _)
/-! the sole way -/
theorem cnt_pos' {t : NT} {v : Nat} (w : wfN t) (hv : v < nN t) : ∀ (k u : Nat), cl t v u < k → u < nN t → dist t v u < 1000000 → 1 ≤ cnt t v u := by
  intro k
  induction k with
  | zero => intro u h; omega
  | succ k ih =>
    intro u hk hu hd
    by_cases q : u = v
    · rw [q, cnt_self]; exact Nat.le_refl _
    · obtain ⟨l, hl, hU, hF, he⟩ := (dist_bel w hv).2.2.2 u hu q hd
      have ho : onB t v u l = true := onB_iff.mpr ⟨hU, hF, hd, he.symm⟩
      have o := on_near w hl ho
      have h1 := cl_lt (t := t) (v := v) (u := u) o.2.1 o.1
      rw [cnt_rec w hv hu q]
      have h2 := sumTo_at (f := fun l => if onB t v u l then cnt t v (nT t l) else 0) (i := l) (nM t) hl
      rw [if_pos ho] at h2
      have := ih _ (by omega) o.2.1 (by omega)
      omega
theorem cnt_pos {t : NT} {v u : Nat} (w : wfN t) (hv : v < nN t) (hu : u < nN t) (hd : dist t v u < 1000000) : 1 ≤ cnt t v u := cnt_pos' w hv _ u (Nat.lt_succ_self _) hu hd
theorem sumTo_only {f : Nat → Nat} {i n : Nat} (hi : i < n) (h : ∀ l, l < n → l ≠ i → f l = 0) : sumTo f n = f i := by
  have := sumTo_upd (f := fun _ => 0) (g := f) (i := i) n hi h
  rw [sumTo_zero] at this
  omega
/-- a sole way begins with just one link -/
theorem sole_on {t : NT} {v u : Nat} (w : wfN t) (hv : v < nN t) (hu : u < nN t) (huv : u ≠ v) (hc : cnt t v u = 1) : ∃ l, l < nM t ∧ onB t v u l = true ∧ (∀ j, j < nM t → onB t v u j = true → j = l) ∧ fstB (onB t v u) (nM t) = some l ∧ deg t v u = 1 ∧ cnt t v (nT t l) = 1 := by
  have hr := cnt_rec w hv hu huv
  rw [hc] at hr
  cases e : fstB (onB t v u) (nM t) with
  | none =>
    rw [(sumTo_congr (g := fun _ => 0) _ (fun j hj => by rw [if_neg (by rw [fstB_none e j hj]; decide)])).trans (sumTo_zero _)] at hr
    omega
  | some l =>
    obtain ⟨h1, h2, h3⟩ := fstB_some e
    have o := on_near w h1 h2
    have c1 := cnt_pos w hv o.2.1 (by omega)
    have hu : ∀ j, j < nM t → onB t v u j = true → j = l := fun j hj hoj => by
      by_cases q : j = l
      · exact q
      · have o2 := on_near w hj hoj
        have c2 := cnt_pos w hv o2.2.1 (by omega)
        have := sumTo_two (f := fun l => if onB t v u l then cnt t v (nT t l) else 0) q (nM t) hj h1
        rw [if_pos hoj, if_pos h2] at this
        omega
    refine ⟨l, h1, h2, hu, rfl, ?_, ?_⟩
    · unfold deg
      rw [sumTo_only h1 (fun j hj hne => if_neg (fun z => hne (hu j hj z))), if_pos h2]
    · rw [sumTo_only h1 (fun j hj hne => if_neg (fun z => hne (hu j hj z))), if_pos h2] at hr
      exact hr.symm
noncomputable def spw (t : NT) (v : Nat) : Nat → Nat → List Nat
  | 0, _ => []
  | k + 1, u => if u = v then [] else match fstB (onB t v u) (nM t) with
    | none => []
    | some l => l :: spw t v k (nT t l)
theorem spw_st {t : NT} {v : Nat} (w : wfN t) : ∀ (k k' u : Nat), u < nN t → cl t v u < k → cl t v u < k' → spw t v k u = spw t v k' u := by
  intro k
  induction k with
  | zero => intro k' u _ h; omega
  | succ k ih =>
    intro k' u hu h1 h2
    cases k' with
    | zero => omega
    | succ k' =>
      unfold spw
      by_cases q : u = v
      · rw [if_pos q, if_pos q]
      · rw [if_neg q, if_neg q]
        cases e : fstB (onB t v u) (nM t) with
        | none => rfl
        | some l =>
          obtain ⟨h3, h4, _⟩ := fstB_some e
          have o := on_near w h3 h4
          have := cl_lt (t := t) (v := v) (u := u) o.2.1 o.1
          show l :: spw t v k (nT t l) = l :: spw t v k' (nT t l)
          rw [ih k' _ o.2.1 (by omega) (by omega)]
noncomputable def sp (t : NT) (v u : Nat) : List Nat := spw t v 10 u
theorem sp_v {t : NT} {v : Nat} : sp t v v = [] := by
  show spw t v (9 + 1) v = []
  unfold spw
  rw [if_pos rfl]
theorem sp_cons {t : NT} {v u l : Nat} (w : wfN t) (hu : u < nN t) (huv : u ≠ v) (e : fstB (onB t v u) (nM t) = some l) : sp t v u = l :: sp t v (nT t l) := by
  obtain ⟨h3, h4, _⟩ := fstB_some e
  have o := on_near w h3 h4
  have h1 := cl_lt (t := t) (v := v) (u := u) o.2.1 o.1
  have h2 := cl9 (v := v) w hu
  show spw t v (9 + 1) u = _
  unfold spw
  rw [if_neg huv, e]
  show l :: spw t v 9 (nT t l) = _
  rw [spw_st w 9 10 _ o.2.1 (by omega) (by omega)]
  rfl
theorem sp_nil {t : NT} {v u : Nat} (e : fstB (onB t v u) (nM t) = none) : sp t v u = [] := by
  show spw t v (9 + 1) u = _
  unfold spw
  by_cases q : u = v
  · rw [if_pos q]
  · rw [if_neg q, e]
theorem sp_len' {t : NT} {v : Nat} (w : wfN t) : ∀ (k u : Nat), cl t v u < k → u < nN t → (sp t v u).length ≤ cl t v u := by
  intro k
  induction k with
  | zero => intro u h; omega
  | succ k ih =>
    intro u hk hu
    by_cases q : u = v
    · rw [q, sp_v]; exact Nat.zero_le _
    · cases e : fstB (onB t v u) (nM t) with
      | none => rw [sp_nil e]; exact Nat.zero_le _
      | some l =>
        obtain ⟨h3, h4, _⟩ := fstB_some e
        have o := on_near w h3 h4
        have h1 := cl_lt (t := t) (v := v) (u := u) o.2.1 o.1
        rw [sp_cons w hu q e]
        have := ih _ (by omega) o.2.1
        show (sp t v (nT t l)).length + 1 ≤ _
        omega
theorem sp_len {t : NT} {v u : Nat} (w : wfN t) (hu : u < nN t) : (sp t v u).length ≤ 9 := by
  have h1 := sp_len' (v := v) w _ u (Nat.lt_succ_self _) hu
  have h2 := cl9 (v := v) w hu
  omega
/-- links of the way begin no farther than its own beginning -/
theorem sp_mem' {t : NT} {v : Nat} (w : wfN t) : ∀ (k u : Nat), cl t v u < k → u < nN t → ∀ l, l ∈ sp t v u → dist t v (nF t l) ≤ dist t v u ∧ l < nM t := by
  intro k
  induction k with
  | zero => intro u h; omega
  | succ k ih =>
    intro u hk hu l hl
    by_cases q : u = v
    · rw [q, sp_v] at hl; cases hl
    · cases e : fstB (onB t v u) (nM t) with
      | none => rw [sp_nil e] at hl; cases hl
      | some j =>
        obtain ⟨h3, h4, _⟩ := fstB_some e
        have o := on_near w h3 h4
        have h1 := cl_lt (t := t) (v := v) (u := u) o.2.1 o.1
        rw [sp_cons w hu q e] at hl
        rcases List.mem_cons.mp hl with hl | hl
        · rw [hl, o.2.2.1]; exact ⟨Nat.le_refl _, h3⟩
        · have := ih _ (by omega) o.2.1 l hl
          exact ⟨by omega, this.2⟩
theorem sp_mem {t : NT} {v u l : Nat} (w : wfN t) (hu : u < nN t) (hl : l ∈ sp t v u) : dist t v (nF t l) ≤ dist t v u ∧ l < nM t := sp_mem' w _ u (Nat.lt_succ_self _) hu l hl
theorem flow_sole' {t : NT} {v l : Nat} (w : wfN t) (hv : v < nN t) : ∀ (k u x : Nat), cl t v u < k → u < nN t → cnt t v u = 1 → flow t v u x l = if l ∈ sp t v u then x else 0 := by
  intro k
  induction k with
  | zero => intro u x h; omega
  | succ k ih =>
    intro u x hk hu hc
    by_cases q : u = v
    · rw [q, flow_v w hv, sp_v, if_neg (by simp)]
    · obtain ⟨j, h1, h2, h3, h4, h5, h6⟩ := sole_on w hv hu q hc
      have o := on_near w h1 h2
      have hcl := cl_lt (t := t) (v := v) (u := u) o.2.1 o.1
      rw [flow_rec w hu, sumTo_only h1 (fun i hi hne => if_neg (fun z => hne (h3 i hi z))), if_pos h2, h5, Nat.div_one, ih _ _ (by omega) o.2.1 h6, sp_cons w hu q h4]
      by_cases c : j = l
      · rw [if_pos c, if_neg (fun z => ?_), if_pos (by rw [c]; exact List.mem_cons_self), Nat.add_zero]
        have := (sp_mem w o.2.1 z).1
        rw [← c, o.2.2.1] at this
        omega
      · rw [if_neg c, Nat.zero_add]
        by_cases c2 : l ∈ sp t v (nT t j)
        · rw [if_pos c2, if_pos (List.mem_cons_of_mem _ c2)]
        · rw [if_neg c2, if_neg (fun z => by rcases List.mem_cons.mp z with z | z; exact c z.symm; exact c2 z)]
theorem flow_sole {t : NT} {v l u x : Nat} (w : wfN t) (hv : v < nN t) (hu : u < nN t) (hc : cnt t v u = 1) : flow t v u x l = if l ∈ sp t v u then x else 0 := flow_sole' w hv _ u x (Nat.lt_succ_self _) hu hc
