/-! ===== the rank of a node: how many are nearer (for Bellman and Ford's rounds) ===== -/
theorem sumTo_mono {f g : Nat → Nat} : ∀ n, (∀ i, i < n → f i ≤ g i) → sumTo f n ≤ sumTo g n := by
  intro n
  induction n with
  | zero => intro _; exact Nat.le_refl _
  | succ n ih =>
    intro h
    show sumTo f n + f n ≤ sumTo g n + g n
    exact Nat.add_le_add (ih (fun i hi => h i (by omega))) (h n (by omega))
theorem sumTo_strict {f g : Nat → Nat} {j : Nat} : ∀ n, (∀ i, i < n → f i ≤ g i) → j < n → f j < g j → sumTo f n < sumTo g n := by
  intro n
  induction n with
  | zero => intro _ hj _; omega
  | succ n ih =>
    intro h hj hlt
    show sumTo f n + f n < sumTo g n + g n
    by_cases q : j = n
    · subst q
      exact Nat.add_lt_add_of_le_of_lt (sumTo_mono j (fun i hi => h i (by omega))) hlt
    · exact Nat.add_lt_add_of_lt_of_le (ih (fun i hi => h i (by omega)) (by omega) hlt) (h n (by omega))
theorem sumTo_one : ∀ n, sumTo (fun _ => 1) n = n := by
  intro n
  induction n with
  | zero => rfl
  | succ n ih =>
    show sumTo (fun _ => 1) n + 1 = n + 1
    rw [ih]
/-- how many nodes are nearer than u -/
noncomputable def cl (t : NT) (v u : Nat) : Nat := sumTo (fun w => if dist t v w < dist t v u then 1 else 0) (nN t)
theorem cl_lt {t : NT} {v u w : Nat} (hw : w < nN t) (h : dist t v w < dist t v u) : cl t v w < cl t v u := by
  unfold cl
  refine sumTo_strict (j := w) _ (fun i _ => ?_) hw ?_
  · by_cases q : dist t v i < dist t v w
    · rw [if_pos q, if_pos (by omega)]; exact Nat.le_refl _
    · rw [if_neg q]; exact Nat.zero_le _
  · rw [if_neg (Nat.lt_irrefl _), if_pos h]; exact Nat.zero_lt_one
theorem cl_bound {t : NT} {v u : Nat} (hu : u < nN t) : cl t v u < nN t := by
  unfold cl
  have := sumTo_strict (f := fun w => if dist t v w < dist t v u then 1 else 0) (g := fun _ => 1) (j := u) (nN t) (fun i _ => by
    by_cases q : dist t v i < dist t v u
    · rw [if_pos q]; exact Nat.le_refl _
    · rw [if_neg q]; exact Nat.zero_le _) hu (by rw [if_neg (Nat.lt_irrefl _)]; exact Nat.zero_lt_one)
  rw [sumTo_one] at this
  exact this
/-- a node that none is nearer than is the target itself -/
theorem cl_zero {t : NT} {v u : Nat} (w : wfN t) (hv : v < nN t) (hu : u < nN t) (h : cl t v u = 0) : u = v := by
  by_cases q : u = v
  · exact q
  · have e0 : dist t v v = 0 := (dist_bel w hv).1
    have hd : ¬ dist t v v < dist t v u := fun z => by have := cl_lt hv z; omega
    have hz : dist t v u = 0 := by omega
    obtain ⟨l, hl, hU, hF, hd'⟩ := (dist_bel w hv).2.2.2 u hu q (by omega)
    have := (w.2.2.2 l hl).2.2.2.1
    omega
/-- what the rounds keep, for one target v: T is the table's column -/
def bfI (t : NT) (v k : Nat) (T : Nat → Nat) : Prop := (∀ u, u < nN t → dist t v u ≤ T u ∧ T u ≤ 1000000) ∧ ∀ u, u < nN t → cl t v u ≤ k → T u = dist t v u
/-- one link is looked at -/
def bfS (t : NT) (l : Nat) (T : Nat → Nat) : Nat → Nat := fun u => if u = nF t l ∧ nC t l + T (nT t l) < T u then nC t l + T (nT t l) else T u
theorem bfS_keep {t : NT} {v l k : Nat} {T : Nat → Nat} (w : wfN t) (hv : v < nN t) (hl : l < nM t) (hU : nU t l = true) (h : bfI t v k T) : bfI t v k (bfS t l T) := by
  have ht := (w.2.2.2 l hl).2.1
  have hb := (dist_bel w hv).2.2.1 l hl hU
  have h1 : ∀ u, u < nN t → dist t v u ≤ bfS t l T u ∧ bfS t l T u ≤ T u := fun u hu => by
    unfold bfS
    by_cases q : u = nF t l ∧ nC t l + T (nT t l) < T u
    · rw [if_pos q]
      have := (h.1 _ ht).1
      refine ⟨?_, by omega⟩
      rw [q.1]; omega
    · rw [if_neg q]; exact ⟨(h.1 u hu).1, Nat.le_refl _⟩
  refine ⟨fun u hu => ⟨(h1 u hu).1, Nat.le_trans (h1 u hu).2 (h.1 u hu).2⟩, fun u hu hc => ?_⟩
  have := h1 u hu
  have := h.2 u hu hc
  omega
/-- once the link is looked at, its from is near enough -/
theorem bfS_done {t : NT} {v l : Nat} {T : Nat → Nat} (h : T (nT t l) = dist t v (nT t l)) (h2 : nC t l + dist t v (nT t l) = dist t v (nF t l)) (h3 : dist t v (nF t l) ≤ T (nF t l)) : bfS t l T (nF t l) = dist t v (nF t l) := by
  unfold bfS
  rw [h, h2]
  by_cases q : dist t v (nF t l) < T (nF t l)
  · rw [if_pos ⟨rfl, q⟩]
  · rw [if_neg (fun z => q z.2)]; omega
