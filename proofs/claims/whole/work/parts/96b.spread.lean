/-! ===== parting from the farthest node on: what is kept ===== -/
section SPR
variable {t : NT} {v Y n : Nat} {F0 : Nat → Nat} {C : Nat → Bool} {p f : Nat → Nat}
def spI (t : NT) (v Y : Nat) (F0 : Nat → Nat) (C : Nat → Bool) (p f : Nat → Nat) : Prop :=
  (∀ l, l < nM t → f l + sumTo (fun u => if C u = true then 0 else flow t v u (p u) l) (nN t) = F0 l) ∧ (∀ u, u < nN t → C u = false → rDv t v u ∣ p u) ∧ (∀ c u, c < nN t → u < nN t → C c = true → C u = false → p u ≠ 0 → dist t v u ≤ dist t v c) ∧ sumTo (fun u => if C u = true then 0 else p u) (nN t) ≤ Y ∧ C v = false
/-- links 0 .. i less 1 of n have had their x -/
def spP (t : NT) (v Y : Nat) (F0 : Nat → Nat) (C : Nat → Bool) (p f : Nat → Nat) (n x i : Nat) : Prop :=
  (∀ l, l < nM t → f l + sumTo (fun u => if C u = true then 0 else flow t v u (p u) l) (nN t) + sumTo (fun j => if i ≤ j ∧ onB t v n j = true then (if j = l then x else 0) + flow t v (nT t j) x l else 0) (nM t) = F0 l) ∧ (∀ u, u < nN t → C u = false → rDv t v u ∣ p u) ∧ (∀ c u, c < nN t → u < nN t → C c = true → C u = false → p u ≠ 0 → dist t v u ≤ dist t v c) ∧ sumTo (fun u => if C u = true then 0 else p u) (nN t) + sumTo (fun j => if i ≤ j ∧ onB t v n j = true then x else 0) (nM t) ≤ Y ∧ C v = false ∧ (∀ c, c < nN t → C c = true → dist t v n ≤ dist t v c) ∧ (∀ j, j < nM t → onB t v n j = true → rDv t v (nT t j) ∣ x)
theorem sumTo_out {g : Nat → Nat} {m : Nat} (hm : m < n) (hC : C m = false) : sumTo (fun u => if C u = true then 0 else g u) n = g m + sumTo (fun u => if (C u || decide (u = m)) = true then 0 else g u) n := by
  have := sumTo_upd (f := fun u => if (C u || decide (u = m)) = true then 0 else g u) (g := fun u => if C u = true then 0 else g u) (i := m) n hm (fun l _ hne => by simp [hne])
  rw [hC, if_pos (by simp), if_neg (by decide)] at this
  omega
theorem sp_open (w : wfN t) (h : spI t v Y F0 C p f) (hn : n < nN t) (hC : C n = false) (hv : n ≠ v) (hp : p n ≠ 0) (hm : ∀ u, u < nN t → C u = false → p u ≠ 0 → dist t v u ≤ dist t v n) : spP t v Y F0 (fun u => C u || decide (u = n)) p f n (p n / deg t v n) 0 := by
  have hR := h.2.1 n hn hC
  refine ⟨fun l hl => ?_, fun u hu hQ => ?_, fun c u hc hu hQ hQu hpu => ?_, ?_, ?_, fun c hc hQ => ?_, fun j hj ho => (rDv_to w hn hj ho hR).2⟩
  · dsimp only
    rw [← h.1 l hl, sumTo_out hn hC, flow_rec w hn]
    have : sumTo (fun j => if 0 ≤ j ∧ onB t v n j = true then (if j = l then p n / deg t v n else 0) + flow t v (nT t j) (p n / deg t v n) l else 0) (nM t) = sumTo (fun j => if onB t v n j = true then (if j = l then p n / deg t v n else 0) + flow t v (nT t j) (p n / deg t v n) l else 0) (nM t) := sumTo_congr _ (fun j _ => by simp)
    rw [this]
    omega
  · have hQ' : C u = false ∧ u ≠ n := by simpa using hQ
    exact h.2.1 u hu hQ'.1
  · have hQ1 : C c = true ∨ c = n := by simpa using hQ
    have hQ2 : C u = false ∧ u ≠ n := by simpa using hQu
    rcases hQ1 with h1 | h1
    · exact h.2.2.1 c u hc hu h1 hQ2.1 hpu
    · rw [h1]; exact hm u hu hQ2.1 hpu
  · dsimp only
    have h4 := h.2.2.2.1
    rw [sumTo_out hn hC] at h4
    have : sumTo (fun j => if 0 ≤ j ∧ onB t v n j = true then p n / deg t v n else 0) (nM t) = p n / deg t v n * deg t v n := by
      unfold deg
      rw [← sumTo_mul]
      refine sumTo_congr _ (fun j _ => ?_)
      by_cases q : onB t v n j = true
      · rw [if_pos ⟨Nat.zero_le _, q⟩, if_pos q, Nat.mul_one]
      · rw [if_neg (fun z => q z.2), if_neg q, Nat.mul_zero]
    rw [this]
    have := Nat.div_mul_le_self (p n) (deg t v n)
    omega
  · have := h.2.2.2.2
    simp [this, Ne.symm hv]
  · have hQ1 : C c = true ∨ c = n := by simpa using hQ
    rcases hQ1 with h1 | h1
    · exact h.2.2.1 c n hc hn h1 hC hp
    · rw [h1]; exact Nat.le_refl _
variable {x i : Nat}
theorem sp_skip (ho : ¬ onB t v n i = true) (h : spP t v Y F0 C p f n x i) : spP t v Y F0 C p f n x (i + 1) := by
  have e : ∀ {α : Type} (a b : α) (j : Nat), (if i + 1 ≤ j ∧ onB t v n j = true then a else b) = (if i ≤ j ∧ onB t v n j = true then a else b) := fun a b j => by
    by_cases q : i = j
    · rw [if_neg (fun z => by omega), if_neg (fun z => by rw [← q] at z; exact ho z.2)]
    · by_cases q2 : i ≤ j ∧ onB t v n j = true
      · rw [if_pos q2, if_pos ⟨by omega, q2.2⟩]
      · rw [if_neg q2, if_neg (fun z => q2 ⟨by omega, z.2⟩)]
  refine ⟨fun l hl => ?_, h.2.1, h.2.2.1, ?_, h.2.2.2.2⟩
  · rw [← h.1 l hl]
    congr 1
    exact sumTo_congr _ (fun j _ => e _ _ j)
  · have := h.2.2.2.1
    rw [sumTo_congr (g := fun j => if i ≤ j ∧ onB t v n j = true then x else 0) _ (fun j _ => e _ _ j)]
    exact this
theorem sumTo_next {g : Nat → Nat} {m : Nat} (hi : i < m) (ho : onB t v n i = true) : sumTo (fun j => if i ≤ j ∧ onB t v n j = true then g j else 0) m = g i + sumTo (fun j => if i + 1 ≤ j ∧ onB t v n j = true then g j else 0) m := by
  have := sumTo_upd (f := fun j => if i + 1 ≤ j ∧ onB t v n j = true then g j else 0) (g := fun j => if i ≤ j ∧ onB t v n j = true then g j else 0) (i := i) m hi (fun l _ hne => by
    by_cases q2 : i ≤ l ∧ onB t v n l = true
    · rw [if_pos q2, if_pos ⟨by omega, q2.2⟩]
    · rw [if_neg q2, if_neg (fun z => q2 ⟨by omega, z.2⟩)])
  rw [if_neg (show ¬ (i + 1 ≤ i ∧ _) from fun z => by omega), if_pos ⟨Nat.le_refl _, ho⟩] at this
  omega
theorem sp_step (w : wfN t) (hi : i < nM t) (ho : onB t v n i = true) (h : spP t v Y F0 C p f n x i) : spP t v Y F0 C (fun u => if u = nT t i then p (nT t i) + x else p u) (fun l => if l = i then f i + x else f l) n x (i + 1) := by
  have o := on_near w hi ho
  obtain ⟨h1, h2, h3, h4, h5, h6, h7⟩ := h
  have hC : C (nT t i) = false := by
    cases e : C (nT t i) with
    | false => rfl
    | true => have := h6 _ o.2.1 e; omega
  have hd := h7 i hi ho
  refine ⟨fun l hl => ?_, fun u hu hQ => ?_, fun c u hc hu hQ hQu hpu => ?_, ?_, h5, h6, h7⟩
  · dsimp only
    rw [← h1 l hl, sumTo_next hi ho]
    have e1 := sumTo_upd (f := fun u => if C u = true then 0 else flow t v u (p u) l) (g := fun u => if C u = true then 0 else flow t v u (if u = nT t i then p (nT t i) + x else p u) l) (i := nT t i) (nN t) o.2.1 (fun u _ hne => by
      rw [if_neg hne])
    rw [hC, if_pos rfl, flow_add w o.2.1 (h2 _ o.2.1 hC) hd] at e1
    have e1 : sumTo (fun u => if C u = true then 0 else flow t v u (if u = nT t i then p (nT t i) + x else p u) l) (nN t) + flow t v (nT t i) (p (nT t i)) l = sumTo (fun u => if C u = true then 0 else flow t v u (p u) l) (nN t) + (flow t v (nT t i) (p (nT t i)) l + flow t v (nT t i) x l) := e1
    by_cases q : l = i
    · rw [if_pos q, if_pos q.symm, q]
      rw [q] at e1
      omega
    · rw [if_neg q, if_neg (fun z => q z.symm)]
      omega
  · show rDv t v u ∣ (if u = nT t i then p (nT t i) + x else p u)
    by_cases q : u = nT t i
    · rw [if_pos q, q]; exact Nat.dvd_add (h2 _ o.2.1 hC) hd
    · rw [if_neg q]; exact h2 u hu hQ
  · by_cases q : u = nT t i
    · have := h6 c hc hQ
      rw [q]; omega
    · have hpu : (if u = nT t i then p (nT t i) + x else p u) ≠ 0 := hpu
      rw [if_neg q] at hpu
      exact h3 c u hc hu hQ hQu hpu
  · dsimp only
    rw [sumTo_next (g := fun _ => x) hi ho] at h4
    have e1 := sumTo_upd (f := fun u => if C u = true then 0 else p u) (g := fun u => if C u = true then 0 else (if u = nT t i then p (nT t i) + x else p u)) (i := nT t i) (nN t) o.2.1 (fun u _ hne => by
      rw [if_neg hne])
    rw [hC, if_pos rfl] at e1
    have e1 : sumTo (fun u => if C u = true then 0 else (if u = nT t i then p (nT t i) + x else p u)) (nN t) + p (nT t i) = sumTo (fun u => if C u = true then 0 else p u) (nN t) + (p (nT t i) + x) := e1
    omega
theorem sp_close (h : spP t v Y F0 C p f n x (nM t)) : spI t v Y F0 C p f := by
  have e : ∀ g : Nat → Nat, sumTo (fun j => if nM t ≤ j ∧ onB t v n j = true then g j else 0) (nM t) = 0 := fun g => (sumTo_congr (g := fun _ => 0) _ (fun j hj => if_neg (fun z => by omega))).trans (sumTo_zero _)
  refine ⟨fun l hl => ?_, h.2.1, h.2.2.1, ?_, h.2.2.2.2.1⟩
  · rw [← h.1 l hl, e (fun j => (if j = l then x else 0) + flow t v (nT t j) x l)]; rfl
  · have := h.2.2.2.1
    rw [e (fun _ => x)] at this
    exact this
theorem sp_done (w : wfN t) (hv : v < nN t) (h : spI t v Y F0 C p f) (hz : ∀ u, u < nN t → C u = false → u ≠ v → p u = 0) : ∀ l, l < nM t → f l = F0 l := by
  intro l hl
  have h1 := h.1 l hl
  rw [(sumTo_congr (g := fun _ => 0) _ (fun u hu => ?_)).trans (sumTo_zero _)] at h1
  · exact h1
  · cases e : C u with
    | true => exact if_pos rfl
    | false =>
      rw [if_neg (by decide)]
      by_cases q : u = v
      · rw [q]; exact flow_v w hv
      · rw [hz u hu e q]; exact flow_zero w hu
theorem sp_init {a : Nat} (w : wfN t) (ha : a < nN t) (hR : rDv t v a ∣ Y) (hCa : C a = false) (hCv : C v = false) (hd : ∀ c, c < nN t → C c = true → dist t v a ≤ dist t v c) : spI t v Y (flow t v a Y) C (fun u => if u = a then Y else 0) (fun _ => 0) := by
  have e : ∀ g : Nat → Nat, (∀ u, u < nN t → u ≠ a → g u = 0) → sumTo (fun u => if C u = true then 0 else g u) (nN t) = g a := fun g hg => by
    rw [sumTo_only ha (fun u hu hne => by rw [hg u hu hne]; split <;> rfl), hCa, if_neg (by decide)]
  refine ⟨fun l hl => ?_, fun u hu _ => ?_, fun c u hc hu hQ _ hp => ?_, ?_, hCv⟩
  · rw [e (fun u => flow t v u (if u = a then Y else 0) l) (fun u hu hne => by rw [if_neg hne]; exact flow_zero w hu), if_pos rfl, Nat.zero_add]
  · show rDv t v u ∣ (if u = a then Y else 0)
    by_cases q : u = a
    · rw [if_pos q, q]; exact hR
    · rw [if_neg q]; exact Nat.dvd_zero _
  · have hp : (if u = a then Y else 0) ≠ 0 := hp
    by_cases q : u = a
    · rw [q]; exact hd c hc hQ
    · rw [if_neg q] at hp; exact absurd rfl hp
  · rw [e (fun u => if u = a then Y else 0) (fun u _ hne => if_neg hne), if_pos rfl]
    exact Nat.le_refl _
theorem sp_le (h : spI t v Y F0 C p f) {u : Nat} (hu : u < nN t) (hC : C u = false) : p u ≤ Y := by
  have h1 := sumTo_at (f := fun u => if C u = true then 0 else p u) (i := u) (nN t) hu
  rw [hC, if_neg (by decide)] at h1
  exact Nat.le_trans h1 h.2.2.2.1
theorem spP_le (h : spP t v Y F0 C p f n x i) {u : Nat} (hu : u < nN t) (hC : C u = false) : p u ≤ Y := by
  have h1 := sumTo_at (f := fun u => if C u = true then 0 else p u) (i := u) (nN t) hu
  rw [hC, if_neg (by decide)] at h1
  have := h.2.2.2.1
  omega
end SPR
