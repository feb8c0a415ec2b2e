/-! ===== one link more: routes joined ===== -/
section JN
variable {t : NT} {b : Nat}
/-- by way of the link -/
noncomputable def ovr (t : NT) (b v u : Nat) : Nat := dist (barN t b) (nF t b) u + nC t b + dist (barN t b) v (nT t b)
noncomputable def jD (t : NT) (b v u : Nat) : Nat := if ovr t b v u < dist (barN t b) v u then ovr t b v u else dist (barN t b) v u
noncomputable def jK (t : NT) (b v u : Nat) : Nat := (if dist (barN t b) v u = jD t b v u then cnt (barN t b) v u else 0) + (if ovr t b v u = jD t b v u then cnt (barN t b) (nF t b) u * cnt (barN t b) v (nT t b) else 0)
theorem jD_le {v u : Nat} : jD t b v u ≤ dist (barN t b) v u ∧ jD t b v u ≤ ovr t b v u ∧ (jD t b v u = dist (barN t b) v u ∨ jD t b v u = ovr t b v u) := by
  unfold jD
  split <;> omega
theorem barU {l : Nat} (h : l ≠ b) : nU (barN t b) l = nU t l := by
  show (if l = b then false else nU t l) = _
  rw [if_neg h]
theorem barUb : nU (barN t b) b = false := by
  show (if b = b then false else nU t b) = _
  rw [if_pos rfl]
theorem jD_y {v : Nat} (w : wfN t) (hb : b < nM t) : jD t b v (nT t b) = dist (barN t b) v (nT t b) := by
  have := (w.2.2.2 b hb).2.2.2.1
  unfold jD
  rw [if_neg]
  unfold ovr
  omega
theorem jD_x {v : Nat} (w : wfN t) (hb : b < nM t) : ovr t b v (nF t b) = nC t b + dist (barN t b) v (nT t b) := by
  have wB : wfN (barN t b) := w
  have := (dist_bel wB (show nF t b < nN (barN t b) from (w.2.2.2 b hb).1)).1
  unfold ovr
  omega
theorem jD_up {v l : Nat} (w : wfN t) (hb : b < nM t) (hv : v < nN t) (hl : l < nM t) (hU : nU t l = true) : jD t b v (nF t l) ≤ nC t l + jD t b v (nT t l) := by
  have wB : wfN (barN t b) := w
  have hx : nF t b < nN (barN t b) := (w.2.2.2 b hb).1
  by_cases q : l = b
  · subst q
    have h1 := jD_le (t := t) (b := l) (v := v) (u := nF t l)
    rw [jD_y w hl]
    have h2 := jD_x (v := v) w hl
    omega
  · have a1 := (dist_bel wB (show v < nN (barN t b) from hv)).2.2.1 l hl (by rw [barU q]; exact hU)
    have a2 := (dist_bel wB hx).2.2.1 l hl (by rw [barU q]; exact hU)
    have a1 : dist (barN t b) v (nF t l) ≤ nC t l + dist (barN t b) v (nT t l) := a1
    have a2 : dist (barN t b) (nF t b) (nF t l) ≤ nC t l + dist (barN t b) (nF t b) (nT t l) := a2
    have h1 := jD_le (t := t) (b := b) (v := v) (u := nF t l)
    have h2 := jD_le (t := t) (b := b) (v := v) (u := nT t l)
    unfold ovr at h1 h2
    omega
theorem j_dist {v u : Nat} (w : wfN t) (hb : b < nM t) (hUb : nU t b = true) (hv : v < nN t) (hu : u < nN t) : dist t v u = jD t b v u := by
  have wB : wfN (barN t b) := w
  have hx : nF t b < nN t := (w.2.2.2 b hb).1
  have bv := dist_bel wB (show v < nN (barN t b) from hv)
  have bx := dist_bel wB (show nF t b < nN (barN t b) from hx)
  refine (dist_uniq w hv (d := jD t b v) ⟨?_, fun y hy => ?_, fun l hl hU => jD_up w hb hv hl hU, fun y hy hyv hd => ?_⟩ u hu).symm
  · have := jD_le (t := t) (b := b) (v := v) (u := v)
    have := bv.1
    omega
  · have := jD_le (t := t) (b := b) (v := v) (u := y)
    have := bv.2.1 y hy
    omega
  · have hj := jD_le (t := t) (b := b) (v := v) (u := y)
    rcases hj.2.2 with e | e
    · obtain ⟨l, hl, hU, hF, he⟩ := bv.2.2.2 y hy hyv (by omega)
      have hlb : l ≠ b := fun z => by rw [z, barUb] at hU; cases hU
      rw [barU hlb] at hU
      have he : dist (barN t b) v y = nC t l + dist (barN t b) v (nT t l) := he
      have h1 := jD_up (v := v) w hb hv hl hU
      have hF : nF t l = y := hF
      rw [hF] at h1
      have h2 := jD_le (t := t) (b := b) (v := v) (u := nT t l)
      exact ⟨l, hl, hU, hF, by omega⟩
    · by_cases q : y = nF t b
      · refine ⟨b, hb, hUb, q.symm, ?_⟩
        rw [e, q, jD_x w hb, jD_y w hb]
      · have hlt : dist (barN t b) (nF t b) y < 1000000 := by unfold ovr at e; omega
        obtain ⟨l, hl, hU, hF, he⟩ := bx.2.2.2 y hy q hlt
        have hlb : l ≠ b := fun z => by rw [z, barUb] at hU; cases hU
        rw [barU hlb] at hU
        have he : dist (barN t b) (nF t b) y = nC t l + dist (barN t b) (nF t b) (nT t l) := he
        have h1 := jD_up (v := v) w hb hv hl hU
        have hF : nF t l = y := hF
        rw [hF] at h1
        have h2 := jD_le (t := t) (b := b) (v := v) (u := nT t l)
        refine ⟨l, hl, hU, hF, ?_⟩
        unfold ovr at e h2
        omega
theorem j_on {v u l : Nat} (w : wfN t) (hb : b < nM t) (hUb : nU t b = true) (hv : v < nN t) (hu : u < nN t) (hl : l < nM t) : onB t v u l = true ↔ nU t l = true ∧ nF t l = u ∧ jD t b v u < 1000000 ∧ nC t l + jD t b v (nT t l) = jD t b v u := by
  rw [onB_iff]
  unfold onL
  rw [j_dist w hb hUb hv hu, j_dist w hb hUb hv (w.2.2.2 l hl).2.1]
/-- how the counts come together, link by link -/
theorem j_term {v u l : Nat} (w : wfN t) (hb : b < nM t) (hUb : nU t b = true) (hv : v < nN t) (hu : u < nN t) (hl : l < nM t) : (if onB t v u l = true then jK t b v (nT t l) else 0) = ((if dist (barN t b) v u = jD t b v u then (if onB (barN t b) v u l = true then cnt (barN t b) v (nT t l) else 0) else 0) + (if ovr t b v u = jD t b v u then (if onB (barN t b) (nF t b) u l = true then cnt (barN t b) (nF t b) (nT t l) * cnt (barN t b) v (nT t b) else 0) else 0)) + (if l = b then (if onB t v u b = true then cnt (barN t b) v (nT t b) else 0) else 0) := by
  have wB : wfN (barN t b) := w
  have hx : nF t b < nN t := (w.2.2.2 b hb).1
  have hy : nT t b < nN t := (w.2.2.2 b hb).2.1
  have hcb := (w.2.2.2 b hb).2.2.2.1
  have bv := dist_bel wB (show v < nN (barN t b) from hv)
  have bx := dist_bel wB (show nF t b < nN (barN t b) from hx)
  have hcl := (w.2.2.2 l hl).2.2.2.1
  have hTl := (w.2.2.2 l hl).2.1
  by_cases q : l = b
  · subst q
    have n1 : ¬ onB (barN t l) v u l = true := fun z => by have := (onB_iff.mp z).1; rw [barUb] at this; cases this
    have n2 : ¬ onB (barN t l) (nF t l) u l = true := fun z => by have := (onB_iff.mp z).1; rw [barUb] at this; cases this
    rw [if_pos rfl, if_neg n1, if_neg n2]
    have e1 : jK t l v (nT t l) = cnt (barN t l) v (nT t l) := by
      unfold jK
      rw [jD_y w hl, if_pos rfl, if_neg]
      · rfl
      · unfold ovr; omega
    rw [e1]
    have e2 : (if dist (barN t l) v u = jD t l v u then 0 else 0) = 0 := by split <;> rfl
    have e3 : (if ovr t l v u = jD t l v u then 0 else 0) = 0 := by split <;> rfl
    rw [e2, e3]
    omega
  · rw [if_neg q, Nat.add_zero]
    have hjT := jD_le (t := t) (b := b) (v := v) (u := nT t l)
    have hju := jD_le (t := t) (b := b) (v := v) (u := u)
    have hon := j_on (l := l) w hb hUb hv hu hl
    have d1 := bv.2.1 u hu
    -- the two kinds of link
    have hA : (onB t v u l = true ∧ dist (barN t b) v (nT t l) = jD t b v (nT t l)) ↔ (dist (barN t b) v u = jD t b v u ∧ onB (barN t b) v u l = true) := by
      rw [hon, onB_iff]
      unfold onL
      rw [barU q]
      show _ ↔ _ ∧ nU t l = true ∧ nF t l = u ∧ dist (barN t b) v u < 1000000 ∧ nC t l + dist (barN t b) v (nT t l) = dist (barN t b) v u
      constructor
      · rintro ⟨⟨a1, a2, a3, a4⟩, a5⟩
        have h1 : dist (barN t b) v (nF t l) ≤ nC t l + dist (barN t b) v (nT t l) := bv.2.2.1 l hl (by rw [barU q]; exact a1)
        rw [a2] at h1
        exact ⟨by omega, a1, a2, by omega, by omega⟩
      · rintro ⟨a0, a1, a2, a3, a4⟩
        have h1 := jD_up (v := v) w hb hv hl a1
        rw [a2] at h1
        exact ⟨⟨a1, a2, by omega, by omega⟩, by omega⟩
    have hB : (onB t v u l = true ∧ ovr t b v (nT t l) = jD t b v (nT t l)) ↔ (ovr t b v u = jD t b v u ∧ onB (barN t b) (nF t b) u l = true) := by
      rw [hon, onB_iff]
      unfold onL
      rw [barU q]
      show _ ↔ _ ∧ nU t l = true ∧ nF t l = u ∧ dist (barN t b) (nF t b) u < 1000000 ∧ nC t l + dist (barN t b) (nF t b) (nT t l) = dist (barN t b) (nF t b) u
      constructor
      · rintro ⟨⟨a1, a2, a3, a4⟩, a5⟩
        have h1 : dist (barN t b) (nF t b) (nF t l) ≤ nC t l + dist (barN t b) (nF t b) (nT t l) := bx.2.2.1 l hl (by rw [barU q]; exact a1)
        rw [a2] at h1
        unfold ovr at a5 hju ⊢
        exact ⟨by omega, a1, a2, by omega, by omega⟩
      · rintro ⟨a0, a1, a2, a3, a4⟩
        have h1 := jD_up (v := v) w hb hv hl a1
        rw [a2] at h1
        have hj2 : jD t b v u < 1000000 := by
          rw [← a0]
          -- far ones are farther than all
          have g1 := dist_891 wB hx hu a3
          have g2 : dist (barN t b) v (nT t b) ≤ 1000000 := bv.2.1 _ hy
          unfold ovr
          by_cases g3 : dist (barN t b) v (nT t b) < 1000000
          · have := dist_891 wB hv hy g3
            have := (w.2.2.2 b hb).2.2.2.2
            omega
          · exfalso
            unfold ovr at a0 hju
            omega
        unfold ovr at a0 hjT ⊢
        exact ⟨⟨a1, a2, hj2, by omega⟩, by omega⟩
    have e1 : (if onB t v u l = true then jK t b v (nT t l) else 0) = (if onB t v u l = true ∧ dist (barN t b) v (nT t l) = jD t b v (nT t l) then cnt (barN t b) v (nT t l) else 0) + (if onB t v u l = true ∧ ovr t b v (nT t l) = jD t b v (nT t l) then cnt (barN t b) (nF t b) (nT t l) * cnt (barN t b) v (nT t b) else 0) := by
      by_cases c : onB t v u l = true
      · rw [if_pos c]
        unfold jK
        congr 1
        · by_cases c2 : dist (barN t b) v (nT t l) = jD t b v (nT t l)
          · rw [if_pos c2, if_pos ⟨c, c2⟩]
          · rw [if_neg c2, if_neg (fun z => c2 z.2)]
        · by_cases c2 : ovr t b v (nT t l) = jD t b v (nT t l)
          · rw [if_pos c2, if_pos ⟨c, c2⟩]
          · rw [if_neg c2, if_neg (fun z => c2 z.2)]
      · rw [if_neg c, if_neg (fun z => c z.1), if_neg (fun z => c z.1)]
    rw [e1]
    congr 1
    · by_cases c : dist (barN t b) v u = jD t b v u ∧ onB (barN t b) v u l = true
      · rw [if_pos (hA.mpr c), if_pos c.1, if_pos c.2]
      · rw [if_neg (fun z => c (hA.mp z))]
        by_cases c2 : dist (barN t b) v u = jD t b v u
        · rw [if_pos c2, if_neg (fun z => c ⟨c2, z⟩)]
        · rw [if_neg c2]
    · by_cases c : ovr t b v u = jD t b v u ∧ onB (barN t b) (nF t b) u l = true
      · rw [if_pos (hB.mpr c), if_pos c.1, if_pos c.2]
      · rw [if_neg (fun z => c (hB.mp z))]
        by_cases c2 : ovr t b v u = jD t b v u
        · rw [if_pos c2, if_neg (fun z => c ⟨c2, z⟩)]
        · rw [if_neg c2]
theorem sumTo_if {P : Prop} [Decidable P] {f : Nat → Nat} {n : Nat} : sumTo (fun l => if P then f l else 0) n = if P then sumTo f n else 0 := by
  by_cases c : P
  · rw [if_pos c]; exact sumTo_congr _ (fun l _ => if_pos c)
  · rw [if_neg c]; exact (sumTo_congr (g := fun _ => 0) _ (fun l _ => if_neg c)).trans (sumTo_zero _)
theorem sumTo_mulr {f : Nat → Nat} {c : Nat} : ∀ n, sumTo (fun i => f i * c) n = sumTo f n * c := by
  intro n
  induction n with
  | zero => exact (Nat.zero_mul c).symm
  | succ n ih =>
    show sumTo (fun i => f i * c) n + f n * c = (sumTo f n + f n) * c
    rw [ih, Nat.add_mul]
theorem j_rec {v u : Nat} (w : wfN t) (hb : b < nM t) (hUb : nU t b = true) (hv : v < nN t) (hu : u < nN t) (huv : u ≠ v) (hfar : jD t b v u < 1000000) : sumTo (fun l => if onB t v u l = true then jK t b v (nT t l) else 0) (nM t) = jK t b v u := by
  have wB : wfN (barN t b) := w
  have hx : nF t b < nN t := (w.2.2.2 b hb).1
  rw [sumTo_congr (g := fun l => ((if dist (barN t b) v u = jD t b v u then (if onB (barN t b) v u l = true then cnt (barN t b) v (nT t l) else 0) else 0) + (if ovr t b v u = jD t b v u then (if onB (barN t b) (nF t b) u l = true then cnt (barN t b) (nF t b) (nT t l) * cnt (barN t b) v (nT t b) else 0) else 0)) + (if l = b then (if onB t v u b = true then cnt (barN t b) v (nT t b) else 0) else 0)) _ (fun l hl => j_term w hb hUb hv hu hl), sumTo_add, sumTo_add, sumTo_if, sumTo_if]
  have e3 : sumTo (fun l => if l = b then (if onB t v u b = true then cnt (barN t b) v (nT t b) else 0) else 0) (nM t) = (if onB t v u b = true then cnt (barN t b) v (nT t b) else 0) := by
    rw [sumTo_only hb (fun l _ hne => if_neg hne), if_pos rfl]
  have e1 : sumTo (fun l => if onB (barN t b) v u l = true then cnt (barN t b) v (nT t l) else 0) (nM t) = cnt (barN t b) v u := (cnt_rec wB hv hu huv).symm
  have e2 : sumTo (fun l => if onB (barN t b) (nF t b) u l = true then cnt (barN t b) (nF t b) (nT t l) * cnt (barN t b) v (nT t b) else 0) (nM t) = (if u = nF t b then 0 else cnt (barN t b) (nF t b) u) * cnt (barN t b) v (nT t b) := by
    rw [← sumTo_congr (f := fun l => (if onB (barN t b) (nF t b) u l = true then cnt (barN t b) (nF t b) (nT t l) else 0) * cnt (barN t b) v (nT t b)) (nM t) (fun l _ => by
      by_cases c : onB (barN t b) (nF t b) u l = true
      · rw [if_pos c, if_pos c]
      · rw [if_neg c, if_neg c, Nat.zero_mul]), sumTo_mulr]
    congr 1
    by_cases q : u = nF t b
    · rw [if_pos q]
      refine (sumTo_congr (g := fun _ => 0) _ (fun l hl => if_neg ?_)).trans (sumTo_zero _)
      rw [q]
      exact no_on wB hx hl
    · rw [if_neg q]
      exact (cnt_rec wB hx hu q).symm
  rw [e1, e2, e3]
  unfold jK
  by_cases q : u = nF t b
  · subst q
    rw [if_pos rfl, Nat.zero_mul, cnt_self, Nat.one_mul]
    have e4 : onB t v (nF t b) b = true ↔ ovr t b v (nF t b) = jD t b v (nF t b) := by
      rw [j_on w hb hUb hv hx hb, jD_y w hb, jD_x w hb]
      exact ⟨fun z => z.2.2.2, fun z => ⟨hUb, rfl, hfar, z⟩⟩
    have e5 : (if ovr t b v (nF t b) = jD t b v (nF t b) then 0 else 0) = 0 := by split <;> rfl
    rw [e5, Nat.add_zero]
    congr 1
    by_cases c : ovr t b v (nF t b) = jD t b v (nF t b)
    · rw [if_pos c, if_pos (e4.mpr c)]
    · rw [if_neg c, if_neg (fun z => c (e4.mp z))]
  · rw [if_neg q]
    have n1 : ¬ onB t v u b = true := fun z => q (onB_iff.mp z).2.1.symm
    rw [if_neg n1, Nat.add_zero]
theorem j_cnt' {v : Nat} (w : wfN t) (hb : b < nM t) (hUb : nU t b = true) (hv : v < nN t) : ∀ (k u : Nat), cl t v u < k → u < nN t → cnt t v u = jK t b v u := by
  have wB : wfN (barN t b) := w
  have hx : nF t b < nN t := (w.2.2.2 b hb).1
  have hy : nT t b < nN t := (w.2.2.2 b hb).2.1
  have bv := dist_bel wB (show v < nN (barN t b) from hv)
  have bx := dist_bel wB (show nF t b < nN (barN t b) from hx)
  have hcb := (w.2.2.2 b hb).2.2.2
  intro k
  induction k with
  | zero => intro u h; omega
  | succ k ih =>
    intro u hk hu
    have hju := jD_le (t := t) (b := b) (v := v) (u := u)
    by_cases q : u = v
    · subst q
      have e0 := bv.1
      have ej : jD t b u u = 0 := by omega
      unfold jK
      rw [ej, e0, if_pos rfl, cnt_self, cnt_self, if_neg]
      unfold ovr
      omega
    · by_cases hd : dist t v u < 1000000
      · rw [cnt_rec w hv hu q, ← j_rec w hb hUb hv hu q (by rw [← j_dist w hb hUb hv hu]; exact hd)]
        refine sumTo_congr _ (fun l hl => ?_)
        by_cases ho : onB t v u l = true
        · have o := on_near w hl ho
          have h1 := cl_lt (t := t) (v := v) (u := u) o.2.1 o.1
          rw [if_pos ho, if_pos ho, ih _ (by omega) o.2.1]
        · rw [if_neg ho, if_neg ho]
      · rw [cnt_far w hv hu hd]
        rw [j_dist w hb hUb hv hu] at hd
        have d1 := bv.2.1 u hu
        have hne : ¬ ovr t b v u = jD t b v u := fun z => by
          have g1 : dist (barN t b) (nF t b) u ≤ 1000000 := bx.2.1 u hu
          have g2 : dist (barN t b) v (nT t b) ≤ 1000000 := bv.2.1 _ hy
          have g3 : dist (barN t b) (nF t b) u < 1000000 := by
            apply Classical.byContradiction
            intro y
            unfold ovr at z
            omega
          have g4 : dist (barN t b) v (nT t b) < 1000000 := by
            apply Classical.byContradiction
            intro y
            unfold ovr at z
            omega
          have g5 := dist_891 wB hx hu g3
          have g6 := dist_891 wB hv hy g4
          unfold ovr at z
          omega
        unfold jK
        rw [cnt_far wB hv hu (by omega), if_neg hne]
        split <;> rfl
theorem j_cnt {v u : Nat} (w : wfN t) (hb : b < nM t) (hUb : nU t b = true) (hv : v < nN t) (hu : u < nN t) : cnt t v u = jK t b v u := j_cnt' w hb hUb hv _ u (Nat.lt_succ_self _) hu
end JN
