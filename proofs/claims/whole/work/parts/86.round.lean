/-! ===== one round ===== -/
def bfR (t : NT) (v r i : Nat) (T : Nat → Nat) : Prop := bfI t v r T ∧ ∀ j, j < i → nU t j = true → cl t v (nF t j) ≤ r + 1 → nC t j + dist t v (nT t j) = dist t v (nF t j) → T (nF t j) = dist t v (nF t j)
theorem bfR_0 {t : NT} {v r : Nat} {T : Nat → Nat} (h : bfI t v r T) : bfR t v r 0 T := ⟨h, fun j hj => absurd hj (Nat.not_lt_zero _)⟩
theorem bfR_dn {t : NT} {v r l : Nat} {T : Nat → Nat} (hU : ¬ nU t l = true) (h : bfR t v r l T) : bfR t v r (l + 1) T := by
  refine ⟨h.1, fun j hj hj1 => ?_⟩
  by_cases q : j = l
  · subst q; exact absurd hj1 hU
  · exact h.2 j (by omega) hj1
theorem bfR_up {t : NT} {v r l : Nat} {T : Nat → Nat} (w : wfN t) (hv : v < nN t) (hl : l < nM t) (hU : nU t l = true) (h : bfR t v r l T) : bfR t v r (l + 1) (bfS t l T) := by
  have K := bfS_keep w hv hl hU h.1
  have hle : ∀ u, bfS t l T u ≤ T u := fun u => by
    unfold bfS
    by_cases q : u = nF t l ∧ nC t l + T (nT t l) < T u
    · rw [if_pos q]; omega
    · rw [if_neg q]; exact Nat.le_refl _
  refine ⟨K, fun j hj hj1 hc hd => ?_⟩
  by_cases q : j = l
  · subst q
    obtain ⟨w1, w2, w3, w4, w5⟩ := w.2.2.2 j hl
    have hlt : dist t v (nT t j) < dist t v (nF t j) := by omega
    have hcl := cl_lt w2 hlt
    exact bfS_done (h.1.2 _ w2 (by omega)) hd (h.1.1 _ w1).1
  · have hF := (w.2.2.2 j (by omega)).1
    have e1 := h.2 j (by omega) hj1 hc hd
    have e2 := (K.1 _ hF).1
    have e3 := hle (nF t j)
    omega
theorem bfR_end {t : NT} {v r : Nat} {T : Nat → Nat} (w : wfN t) (hv : v < nN t) (h : bfR t v r (nM t) T) : bfI t v (r + 1) T := by
  refine ⟨h.1.1, fun u hu hc => ?_⟩
  by_cases q : u = v
  · have e0 : dist t v v = 0 := (dist_bel w hv).1
    have hz : cl t v u ≤ r := by
      rcases Nat.lt_or_ge r (cl t v u) with z | z
      · have : cl t v u = 0 := by
          unfold cl
          rw [q, e0]
          have := sumTo_mono (f := fun w => if dist t v w < 0 then 1 else 0) (g := fun _ => 0) (nN t) (fun i _ => by rw [if_neg (Nat.not_lt_zero _)]; exact Nat.le_refl _)
          have h0 : ∀ n, sumTo (fun _ => 0) n = 0 := fun n => by
            induction n with
            | zero => rfl
            | succ n ih => show sumTo (fun _ => 0) n + 0 = 0; rw [ih]
          rw [h0] at this
          exact Nat.le_zero.mp this
        omega
      · exact z
    exact h.1.2 u hu hz
  · by_cases q2 : dist t v u < 1000000
    · obtain ⟨l, hl, hU, hF, hd⟩ := (dist_bel w hv).2.2.2 u hu q q2
      have := h.2 l hl hU (by rw [hF]; exact hc) (by rw [hF]; exact hd.symm)
      rw [hF] at this
      exact this
    · have := h.1.1 u hu
      omega
theorem bf_start {t : NT} {v : Nat} (w : wfN t) (hv : v < nN t) : bfI t v 0 (fun u => if u = v then 0 else 1000000) := by
  have e0 : dist t v v = 0 := (dist_bel w hv).1
  have hb := (dist_bel w hv).2.1
  refine ⟨fun u hu => ?_, fun u hu hc => ?_⟩
  · dsimp only
    by_cases q : u = v
    · rw [if_pos q, q, e0]; omega
    · rw [if_neg q]; exact ⟨hb u hu, Nat.le_refl _⟩
  · have := cl_zero w hv hu (by omega)
    dsimp only
    rw [if_pos this, this, e0]
theorem bf_end {t : NT} {v : Nat} {T : Nat → Nat} (h : bfI t v (nN t) T) : ∀ u, u < nN t → T u = dist t v u := fun u hu => h.2 u hu (Nat.le_of_lt (cl_bound hu))
