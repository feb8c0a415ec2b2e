/-! ===== networks, how far, how many ways ===== -/
abbrev NT : Type := Nat × Nat × (Nat → Nat) × (Nat → Nat) × (Nat → Nat) × (Nat → Bool)
def nN (t : NT) : Nat := t.1
def nM (t : NT) : Nat := t.2.1
def nF (t : NT) : Nat → Nat := t.2.2.1
def nT (t : NT) : Nat → Nat := t.2.2.2.1
def nC (t : NT) : Nat → Nat := t.2.2.2.2.1
def nU (t : NT) : Nat → Bool := t.2.2.2.2.2
/-- a network as it can be -/
def wfN (t : NT) : Prop := 2 ≤ nN t ∧ nN t ≤ 10 ∧ nM t ≤ 30 ∧ ∀ l, l < nM t → nF t l < nN t ∧ nT t l < nN t ∧ nF t l ≠ nT t l ∧ 1 ≤ nC t l ∧ nC t l ≤ 99
/-- a link is barred -/
def barN (t : NT) (b : Nat) : NT := (nN t, nM t, nF t, nT t, nC t, fun l => if l = b then false else nU t l)
theorem wfN.bar {t : NT} (h : wfN t) (b : Nat) : wfN (barN t b) := h
/-- what Bellman asks -/
def Bel (t : NT) (v : Nat) (d : Nat → Nat) : Prop := d v = 0 ∧ (∀ u, u < nN t → d u ≤ 1000000) ∧ (∀ l, l < nM t → nU t l = true → d (nF t l) ≤ nC t l + d (nT t l)) ∧ (∀ u, u < nN t → u ≠ v → d u < 1000000 → ∃ l, l < nM t ∧ nU t l = true ∧ nF t l = u ∧ d u = nC t l + d (nT t l))
theorem Bel_le {t : NT} {v : Nat} {d d' : Nat → Nat} (hw : wfN t) (h : Bel t v d) (h' : Bel t v d') : ∀ (c u : Nat), u < nN t → d u ≤ c → d u < 1000000 → d' u ≤ d u := by
  intro c
  induction c with
  | zero =>
    intro u hu hc hf
    by_cases huv : u = v
    · subst huv; rw [h'.1]; omega
    · obtain ⟨l, hl, hup, hF, he⟩ := h.2.2.2 u hu huv hf
      have := (hw.2.2.2 l hl).2.2.2.1
      omega
  | succ c ih =>
    intro u hu hc hf
    by_cases huv : u = v
    · subst huv; rw [h'.1]; omega
    · obtain ⟨l, hl, hup, hF, he⟩ := h.2.2.2 u hu huv hf
      have h1 := (hw.2.2.2 l hl).2.2.2.1
      have h2 := (hw.2.2.2 l hl).2.1
      have h3 := ih (nT t l) h2 (by omega) (by omega)
      have h4 := h'.2.2.1 l hl hup
      rw [hF] at h4
      omega
theorem Bel_eq {t : NT} {v : Nat} {d d' : Nat → Nat} (hw : wfN t) (h : Bel t v d) (h' : Bel t v d') : ∀ u, u < nN t → d u = d' u := by
  intro u hu
  have a1 := h.2.1 u hu
  have a2 := h'.2.1 u hu
  by_cases hf : d u < 1000000
  · have b1 := Bel_le hw h h' _ u hu (Nat.le_refl _) hf
    have b2 := Bel_le hw h' h _ u hu (Nat.le_refl _) (by omega)
    omega
  · by_cases hf' : d' u < 1000000
    · have b2 := Bel_le hw h' h _ u hu (Nat.le_refl _) hf'
      omega
    · omega
/-- the least of the links that leave u, among the first k -/
def mnL (t : NT) (d : Nat → Nat) (u : Nat) : Nat → Nat
  | 0 => 1000000
  | l + 1 => if nU t l = true ∧ nF t l = u then min (mnL t d u l) (nC t l + d (nT t l)) else mnL t d u l
theorem mnL_le {t : NT} {d : Nat → Nat} {u : Nat} : ∀ k, mnL t d u k ≤ 1000000 := by
  intro k
  induction k with
  | zero => exact Nat.le_refl _
  | succ k ih =>
    unfold mnL
    split <;> omega
theorem mnL_lt {t : NT} {d : Nat → Nat} {u : Nat} : ∀ k l, l < k → nU t l = true → nF t l = u → mnL t d u k ≤ nC t l + d (nT t l) := by
  intro k
  induction k with
  | zero => intro l hl; omega
  | succ k ih =>
    intro l hl h1 h2
    unfold mnL
    by_cases hk : l = k
    · subst hk
      rw [if_pos ⟨h1, h2⟩]; omega
    · have := ih l (by omega) h1 h2
      split <;> omega
theorem mnL_at {t : NT} {d : Nat → Nat} {u : Nat} : ∀ k, mnL t d u k < 1000000 → ∃ l, l < k ∧ nU t l = true ∧ nF t l = u ∧ mnL t d u k = nC t l + d (nT t l) := by
  intro k
  induction k with
  | zero => intro h; simp [mnL] at h
  | succ k ih =>
    intro h
    unfold mnL at h ⊢
    by_cases hc : nU t k = true ∧ nF t k = u
    · rw [if_pos hc] at h ⊢
      by_cases hm : mnL t d u k ≤ nC t k + d (nT t k)
      · obtain ⟨l, h1, h2, h3, h4⟩ := ih (by omega)
        exact ⟨l, by omega, h2, h3, by omega⟩
      · exact ⟨k, by omega, hc.1, hc.2, by omega⟩
    · rw [if_neg hc] at h ⊢
      obtain ⟨l, h1, h2, h3, h4⟩ := ih h
      exact ⟨l, by omega, h2, h3, h4⟩
theorem mnL_mono {t : NT} {d d' : Nat → Nat} {u : Nat} (hw : wfN t) (hd : ∀ w, w < nN t → d w ≤ d' w) : ∀ k, k ≤ nM t → mnL t d u k ≤ mnL t d' u k := by
  intro k
  induction k with
  | zero => intro _; exact Nat.le_refl _
  | succ k ih =>
    intro hk
    have h1 := ih (by omega)
    have h2 := hd (nT t k) (hw.2.2.2 k (by omega)).2.1
    unfold mnL
    split <;> omega
def phiN (t : NT) (v : Nat) (d : Nat → Nat) : Nat → Nat := fun u => if u = v then 0 else mnL t d u (nM t)
def sumTo (f : Nat → Nat) : Nat → Nat
  | 0 => 0
  | k + 1 => sumTo f k + f k
theorem sumTo_le {f g : Nat → Nat} : ∀ n, (∀ u, u < n → f u ≤ g u) → sumTo f n ≤ sumTo g n := by
  intro n
  induction n with
  | zero => intro _; exact Nat.le_refl _
  | succ n ih =>
    intro h
    have h1 := ih (fun u hu => h u (by omega))
    have h2 := h n (by omega)
    show sumTo f n + f n ≤ sumTo g n + g n
    omega
theorem sumTo_lt {f g : Nat → Nat} : ∀ n, (∀ u, u < n → f u ≤ g u) → ∀ w, w < n → f w < g w → sumTo f n < sumTo g n := by
  intro n
  induction n with
  | zero => intro _ w hw; omega
  | succ n ih =>
    intro h w hw hlt
    show sumTo f n + f n < sumTo g n + g n
    by_cases hwn : w = n
    · subst hwn
      have h1 := sumTo_le (f := f) (g := g) w (fun u hu => h u (by omega))
      omega
    · have h1 := ih (fun u hu => h u (by omega)) w (by omega) hlt
      have h2 := h n (by omega)
      omega
theorem sumTo_congr {f g : Nat → Nat} : ∀ n, (∀ u, u < n → f u = g u) → sumTo f n = sumTo g n := by
  intro n
  induction n with
  | zero => intro _; rfl
  | succ n ih =>
    intro h
    show sumTo f n + f n = sumTo g n + g n
    rw [ih (fun u hu => h u (by omega)), h n (by omega)]
theorem phi_fix {t : NT} {v : Nat} (hw : wfN t) : ∀ (s : Nat) (d : Nat → Nat), sumTo d (nN t) ≤ s → (∀ u, u < nN t → phiN t v d u ≤ d u) → ∃ d', ∀ u, u < nN t → phiN t v d' u = d' u := by
  intro s
  induction s with
  | zero =>
    intro d hs hd
    refine ⟨d, fun u hu => ?_⟩
    by_cases he : phiN t v d u = d u
    · exact he
    · have := sumTo_lt (f := phiN t v d) (g := d) (nN t) hd u hu (by have := hd u hu; omega)
      omega
  | succ s ih =>
    intro d hs hd
    by_cases hall : ∀ u, u < nN t → phiN t v d u = d u
    · exact ⟨d, hall⟩
    · have hex : ∃ u, u < nN t ∧ ¬ phiN t v d u = d u := by
        apply Classical.byContradiction
        intro hn
        apply hall
        intro u hu
        apply Classical.byContradiction
        intro hq
        exact hn ⟨u, hu, hq⟩
      obtain ⟨u, hu, hq⟩ := hex
      have hlt := sumTo_lt (f := phiN t v d) (g := d) (nN t) hd u hu (by have := hd u hu; omega)
      refine ih (phiN t v d) (by omega) (fun w hw' => ?_)
      unfold phiN
      split
      · exact Nat.le_refl _
      · exact mnL_mono hw hd (nM t) (Nat.le_refl _)
theorem Bel_ex {t : NT} {v : Nat} (hw : wfN t) (hv : v < nN t) : ∃ d, Bel t v d := by
  obtain ⟨d, hd⟩ := phi_fix (v := v) hw (sumTo (fun _ => 1000000) (nN t)) (fun _ => 1000000) (Nat.le_refl _) (fun u _ => by unfold phiN; split; omega; exact mnL_le _)
  have e0 : d v = 0 := by rw [← hd v hv]; unfold phiN; rw [if_pos rfl]
  have e1 : ∀ u, u < nN t → u ≠ v → d u = mnL t d u (nM t) := by
    intro u hu huv
    have := hd u hu
    unfold phiN at this
    rw [if_neg huv] at this
    exact this.symm
  refine ⟨d, e0, fun u hu => ?_, fun l hl hup => ?_, fun u hu huv hf => ?_⟩
  · by_cases huv : u = v
    · subst huv; omega
    · rw [e1 u hu huv]; exact mnL_le _
  · by_cases huv : nF t l = v
    · rw [huv, e0]; omega
    · rw [e1 _ (hw.2.2.2 l hl).1 huv]; exact mnL_lt _ l hl hup rfl
  · rw [e1 u hu huv] at hf ⊢
    exact mnL_at _ hf
noncomputable def dist (t : NT) (v : Nat) : Nat → Nat := by
  classical
  exact if h : ∃ d, Bel t v d then Classical.choose h else fun _ => 0
theorem dist_bel {t : NT} {v : Nat} (hw : wfN t) (hv : v < nN t) : Bel t v (dist t v) := by
  have h := Bel_ex hw hv
  unfold dist
  rw [dif_pos h]
  exact Classical.choose_spec h
theorem dist_uniq {t : NT} {v : Nat} {d : Nat → Nat} (hw : wfN t) (hv : v < nN t) (h : Bel t v d) : ∀ u, u < nN t → d u = dist t v u := Bel_eq hw h (dist_bel hw hv)
/-- a link leads on from u to v -/
noncomputable def onL (t : NT) (v u l : Nat) : Prop := nU t l = true ∧ nF t l = u ∧ dist t v u < 1000000 ∧ nC t l + dist t v (nT t l) = dist t v u
noncomputable def onB (t : NT) (v u l : Nat) : Bool := nU t l && (nF t l == u) && decide (dist t v u < 1000000) && (nC t l + dist t v (nT t l) == dist t v u)
theorem onB_iff {t : NT} {v u l : Nat} : onB t v u l = true ↔ onL t v u l := by
  simp [onB, onL, and_assoc]
noncomputable def kap (t : NT) (v : Nat) : Nat → Nat → Nat
  | 0, _ => 0
  | k + 1, u => if u = v then 1 else sumTo (fun l => if onB t v u l then kap t v k (nT t l) else 0) (nM t)
theorem kap_st {t : NT} {v : Nat} (hw : wfN t) : ∀ (k k' u : Nat), u < nN t → dist t v u < k → dist t v u < k' → kap t v k u = kap t v k' u := by
  intro k
  induction k with
  | zero => intro k' u hu h; omega
  | succ k ih =>
    intro k' u hu h1 h2
    cases k' with
    | zero => omega
    | succ k' =>
      unfold kap
      by_cases huv : u = v
      · rw [if_pos huv, if_pos huv]
      · rw [if_neg huv, if_neg huv]
        apply sumTo_congr
        intro l hl
        by_cases ho : onB t v u l = true
        · rw [if_pos ho, if_pos ho]
          obtain ⟨a1, a2, a3, a4⟩ := onB_iff.mp ho
          have hc := (hw.2.2.2 l hl).2.2.2.1
          exact ih k' (nT t l) (hw.2.2.2 l hl).2.1 (by omega) (by omega)
        · rw [if_neg ho, if_neg ho]
noncomputable def cnt (t : NT) (v u : Nat) : Nat := kap t v 1000001 u
theorem cnt_self {t : NT} {v : Nat} : cnt t v v = 1 := by
  show kap t v (1000000 + 1) v = 1
  unfold kap
  rw [if_pos rfl]
theorem cnt_rec {t : NT} {v u : Nat} (hw : wfN t) (hv : v < nN t) (hu : u < nN t) (huv : u ≠ v) : cnt t v u = sumTo (fun l => if onB t v u l then cnt t v (nT t l) else 0) (nM t) := by
  show kap t v (1000000 + 1) u = _
  rw [kap, if_neg huv]
  apply sumTo_congr
  intro l hl
  by_cases ho : onB t v u l = true
  · rw [if_pos ho, if_pos ho]
    obtain ⟨a1, a2, a3, a4⟩ := onB_iff.mp ho
    have hc := (hw.2.2.2 l hl).2.2.2.1
    have hb := (dist_bel hw hv).2.1 u hu
    exact kap_st hw _ _ _ (hw.2.2.2 l hl).2.1 (by omega) (by omega)
  · rw [if_neg ho, if_neg ho]
