/-! ===== the nearest node each time: what is known, apart from the heap ===== -/
theorem dist_cl {t : NT} {v : Nat} (w : wfN t) (hv : v < nN t) : ∀ (c u : Nat), u < nN t → cl t v u ≤ c → dist t v u < 1000000 → dist t v u ≤ 99 * cl t v u := by
  intro c
  induction c with
  | zero =>
    intro u hu hc _
    have := cl_zero w hv hu (by omega)
    rw [this, (dist_bel w hv).1]; omega
  | succ c ih =>
    intro u hu hc hd
    by_cases q : u = v
    · rw [q, (dist_bel w hv).1]; omega
    · obtain ⟨l, hl, hU, hF, he⟩ := (dist_bel w hv).2.2.2 u hu q hd
      obtain ⟨w1, w2, w3, w4, w5⟩ := w.2.2.2 l hl
      have h1 := cl_lt (t := t) (v := v) (u := u) w2 (by omega)
      have h2 := ih _ w2 (by omega) (by omega)
      omega
theorem dist_891 {t : NT} {v u : Nat} (w : wfN t) (hv : v < nN t) (hu : u < nN t) (h : dist t v u < 1000000) : dist t v u ≤ 891 := by
  have h1 := dist_cl w hv _ u hu (Nat.le_refl _) h
  have h2 := cl_bound (t := t) (v := v) hu
  have := w.2.1
  omega
theorem sumTo_upd {f g : Nat → Nat} {i : Nat} : ∀ n, i < n → (∀ l, l < n → l ≠ i → g l = f l) → sumTo g n + f i = sumTo f n + g i := by
  intro n
  induction n with
  | zero => intro h; omega
  | succ n ih =>
    intro hi h
    show sumTo g n + g n + f i = sumTo f n + f n + g i
    by_cases q : i = n
    · subst q
      rw [sumTo_congr (f := g) (g := f) i (fun l hl => h l (by omega) (by omega))]
      omega
    · have h1 := ih (by omega) (fun l hl hne => h l (by omega) hne)
      have h2 := h n (by omega) (fun z => q z.symm)
      omega
def djL (t : NT) (v : Nat) (S : Nat → Bool) (u x k : Nat) : Prop :=
  (∀ l, l < nM t → S l = true → nF t l = u → x ≤ nC t l + dist t v (nT t l)) ∧ (x < 1000000 → ∃ l, l < nM t ∧ S l = true ∧ nF t l = u ∧ x = nC t l + dist t v (nT t l)) ∧ k = sumTo (fun l => if S l = true ∧ nF t l = u ∧ nC t l + dist t v (nT t l) = x then cnt t v (nT t l) else 0) (nM t)
section DJ
variable {t : NT} {v i u x k : Nat} {S S' : Nat → Bool}
theorem djL_cg (hS : ∀ l, l < nM t → S' l = S l) (h : djL t v S u x k) : djL t v S' u x k := by
  refine ⟨fun l hl hs hF => h.1 l hl (by rw [← hS l hl]; exact hs) hF, fun hx => ?_, ?_⟩
  · obtain ⟨l, hl, h1, h2⟩ := h.2.1 hx
    exact ⟨l, hl, by rw [hS l hl]; exact h1, h2⟩
  · rw [h.2.2]
    exact sumTo_congr _ (fun l hl => by rw [hS l hl])
theorem djS_in (hS : ∀ l, l < nM t → S' l = (S l || decide (l = i))) {l : Nat} (hl : l < nM t) (hs : S' l = true) : S l = true ∨ l = i := by
  rw [hS l hl] at hs
  simpa using hs
theorem djS_up (hS : ∀ l, l < nM t → S' l = (S l || decide (l = i))) {l : Nat} (hl : l < nM t) (hs : S l = true) : S' l = true := by
  rw [hS l hl, hs]; rfl
theorem djS_i (hS : ∀ l, l < nM t → S' l = (S l || decide (l = i))) (hi : i < nM t) : S' i = true := by
  rw [hS i hi]; simp
theorem djL_lt (hi : i < nM t) (hS : ∀ l, l < nM t → S' l = (S l || decide (l = i))) (hF : nF t i = u) (hx : nC t i + dist t v (nT t i) < x) (h : djL t v S u x k) : djL t v S' u (nC t i + dist t v (nT t i)) (cnt t v (nT t i)) := by
  refine ⟨fun l hl hs hF' => ?_, fun _ => ⟨i, hi, djS_i hS hi, hF, rfl⟩, ?_⟩
  · rcases djS_in hS hl hs with h1 | h1
    · have := h.1 l hl h1 hF'; omega
    · rw [h1]; exact Nat.le_refl _
  · have := sumTo_upd (f := fun _ => 0) (g := fun l => if S' l = true ∧ nF t l = u ∧ nC t l + dist t v (nT t l) = nC t i + dist t v (nT t i) then cnt t v (nT t l) else 0) (i := i) (nM t) hi (fun l hl hne => if_neg (fun z => by
      rcases djS_in hS hl z.1 with h1 | h1
      · have := h.1 l hl h1 z.2.1; omega
      · exact hne h1))
    rw [sumTo_zero] at this
    have e : (if S' i = true ∧ nF t i = u ∧ nC t i + dist t v (nT t i) = nC t i + dist t v (nT t i) then cnt t v (nT t i) else 0) = cnt t v (nT t i) := if_pos ⟨djS_i hS hi, hF, rfl⟩
    rw [e] at this
    omega
theorem djL_eq (hi : i < nM t) (hn : S i = false) (hS : ∀ l, l < nM t → S' l = (S l || decide (l = i))) (hF : nF t i = u) (hx : nC t i + dist t v (nT t i) = x) (h : djL t v S u x k) : djL t v S' u x (k + cnt t v (nT t i)) := by
  refine ⟨fun l hl hs hF' => ?_, fun _ => ⟨i, hi, djS_i hS hi, hF, hx.symm⟩, ?_⟩
  · rcases djS_in hS hl hs with h1 | h1
    · exact h.1 l hl h1 hF'
    · rw [h1]; omega
  · have := sumTo_upd (f := fun l => if S l = true ∧ nF t l = u ∧ nC t l + dist t v (nT t l) = x then cnt t v (nT t l) else 0) (g := fun l => if S' l = true ∧ nF t l = u ∧ nC t l + dist t v (nT t l) = x then cnt t v (nT t l) else 0) (i := i) (nM t) hi (fun l hl hne => by
      have e : S' l = S l := by rw [hS l hl]; simp [hne]
      rw [e])
    have e1 : (if S' i = true ∧ nF t i = u ∧ nC t i + dist t v (nT t i) = x then cnt t v (nT t i) else 0) = cnt t v (nT t i) := if_pos ⟨djS_i hS hi, hF, hx⟩
    have e2 : (if S i = true ∧ nF t i = u ∧ nC t i + dist t v (nT t i) = x then cnt t v (nT t i) else 0) = 0 := if_neg (fun z => by rw [hn] at z; cases z.1)
    rw [e1, e2, ← h.2.2] at this
    omega
theorem djL_no (hi : i < nM t) (hn : S i = false) (hS : ∀ l, l < nM t → S' l = (S l || decide (l = i))) (hF : nF t i = u → x < nC t i + dist t v (nT t i)) (h : djL t v S u x k) : djL t v S' u x k := by
  refine ⟨fun l hl hs hF' => ?_, fun hx => ?_, ?_⟩
  · rcases djS_in hS hl hs with h1 | h1
    · exact h.1 l hl h1 hF'
    · rw [h1] at hF' ⊢; have := hF hF'; omega
  · obtain ⟨l, hl, h1, h2⟩ := h.2.1 hx
    exact ⟨l, hl, djS_up hS hl h1, h2⟩
  · rw [h.2.2]
    refine sumTo_congr _ (fun l hl => ?_)
    by_cases q : l = i
    · rw [if_neg (fun z => by rw [q, hn] at z; cases z.1), if_neg (fun z => by rw [q] at z; have := hF z.2.1; omega)]
    · have e : S' l = S l := by rw [hS l hl]; simp [q]
      rw [e]
end DJ
def djQ (t : NT) (Q : Nat → Bool) (l : Nat) : Bool := nU t l && Q (nT t l)
def dj (t : NT) (v : Nat) (Q : Nat → Bool) (T K : Nat → Nat) : Prop :=
  (∀ u, u < nN t → T u ≤ 1000000) ∧ (∀ u, u < nN t → Q u = true → T u = dist t v u ∧ dist t v u < 1000000 ∧ K u = cnt t v u) ∧ (T v = 0 ∧ K v = 1) ∧ (∀ u, u < nN t → Q u = false → u ≠ v → djL t v (djQ t Q) u (T u) (K u)) ∧ (∀ q u, q < nN t → u < nN t → Q q = true → Q u = false → dist t v q ≤ T u)
/-- none that is still open is nearer than the nearest is known to be -/
theorem dj_low {t : NT} {v x : Nat} {Q : Nat → Bool} {T K : Nat → Nat} (w : wfN t) (hv : v < nN t) (h : dj t v Q T K) (hx : x ≤ 1000000) (hm : ∀ u, u < nN t → Q u = false → x ≤ T u) : ∀ (c u : Nat), u < nN t → dist t v u ≤ c → Q u = false → x ≤ dist t v u := by
  intro c
  induction c with
  | zero =>
    intro u hu hc hq
    have := dist_0 w hv hu (by omega)
    have h1 := hm u hu hq
    rw [this] at h1
    have := h.2.2.1.1
    omega
  | succ c ih =>
    intro u hu hc hq
    have b := (dist_bel w hv).2.1 u hu
    by_cases huv : u = v
    · have h1 := hm u hu hq
      rw [huv] at h1
      have := h.2.2.1.1
      omega
    · by_cases hd : dist t v u < 1000000
      · obtain ⟨l, hl, hU, hF, he⟩ := (dist_bel w hv).2.2.2 u hu huv hd
        obtain ⟨w1, w2, w3, w4, w5⟩ := w.2.2.2 l hl
        cases e : Q (nT t l) with
        | true =>
          have h1 := (h.2.2.2.1 u hu hq huv).1 l hl (by unfold djQ; rw [hU, e]; rfl) hF
          have h2 := hm u hu hq
          omega
        | false =>
          have := ih _ w2 (by omega) e
          omega
      · omega
theorem dj_near {t : NT} {v n : Nat} {Q : Nat → Bool} {T K : Nat → Nat} (w : wfN t) (hv : v < nN t) (h : dj t v Q T K) (hn : n < nN t) (hq : Q n = false) (hT : T n < 1000000) (hm : ∀ u, u < nN t → Q u = false → T n ≤ T u) : T n = dist t v n ∧ K n = cnt t v n ∧ ∀ u, u < nN t → Q u = false → T n ≤ dist t v u := by
  have low := fun u hu hq => dj_low w hv h (Nat.le_of_lt hT) hm _ u hu (Nat.le_refl _) hq
  have e1 : T n = dist t v n := by
    refine Nat.le_antisymm (low n hn hq) ?_
    by_cases hnv : n = v
    · rw [hnv, (dist_bel w hv).1]; exact Nat.zero_le _
    · obtain ⟨l, hl, hS, hF, he⟩ := (h.2.2.2.1 n hn hq hnv).2.1 hT
      have hU : nU t l = true := by
        unfold djQ at hS
        cases e : nU t l with
        | true => rfl
        | false => rw [e] at hS; cases hS
      have := (dist_bel w hv).2.2.1 l hl hU
      rw [hF] at this
      omega
  refine ⟨e1, ?_, low⟩
  by_cases hnv : n = v
  · rw [hnv, h.2.2.1.2, cnt_self]
  · rw [(h.2.2.2.1 n hn hq hnv).2.2, cnt_rec w hv hn hnv]
    refine sumTo_congr _ (fun l hl => ?_)
    obtain ⟨w1, w2, w3, w4, w5⟩ := w.2.2.2 l hl
    by_cases c : onB t v n l = true
    · have o := onB_iff.mp c
      have hQ : Q (nT t l) = true := by
        cases e : Q (nT t l) with
        | true => rfl
        | false =>
          have := low _ w2 e
          have := o.2.2.2
          omega
      rw [if_pos c, if_pos ⟨by unfold djQ; rw [o.1, hQ]; rfl, o.2.1, by rw [o.2.2.2, e1]⟩]
    · rw [if_neg c, if_neg (fun z => c (onB_iff.mpr ⟨?_, z.2.1, by omega, by rw [z.2.2, e1]⟩))]
      have := z.1
      unfold djQ at this
      cases e : nU t l with
      | true => rfl
      | false => rw [e] at this; cases this
/-- while the links that come into n are looked at -/
def djC (t : NT) (v n : Nat) (Q : Nat → Bool) (T K : Nat → Nat) (i : Nat) (T' K' : Nat → Nat) : Prop :=
  (∀ u, u < nN t → T' u ≤ 1000000) ∧ (∀ u, u < nN t → (Q u = true ∨ u = n ∨ u = v) → T' u = T u ∧ K' u = K u) ∧ (∀ u, u < nN t → Q u = false → u ≠ n → u ≠ v → djL t v (fun l => nU t l && (Q (nT t l) || (decide (nT t l = n) && decide (l < i)))) u (T' u) (K' u)) ∧ (∀ u, u < nN t → Q u = false → dist t v n ≤ T' u)
theorem djC_0 {t : NT} {v n : Nat} {Q : Nat → Bool} {T K : Nat → Nat} (h : dj t v Q T K) (he : T n = dist t v n) (hm : ∀ u, u < nN t → Q u = false → T n ≤ T u) : djC t v n Q T K 0 T K :=
  ⟨h.1, fun _ _ _ => ⟨rfl, rfl⟩, fun u hu hq _ hv => djL_cg (fun l _ => by unfold djQ; simp) (h.2.2.2.1 u hu hq hv), fun u hu hq => by rw [← he]; exact hm u hu hq⟩
theorem djC_end {t : NT} {v n : Nat} {Q : Nat → Bool} {T K T' K' : Nat → Nat} (hv : v < nN t) (h : dj t v Q T K) (hn : n < nN t) (hq : Q n = false) (hT : T n < 1000000) (he : T n = dist t v n) (hk : K n = cnt t v n) (hm : ∀ u, u < nN t → Q u = false → T n ≤ T u) (c : djC t v n Q T K (nM t) T' K') : dj t v (fun u => Q u || decide (u = n)) T' K' := by
  refine ⟨c.1, fun u hu hQ => ?_, ?_, fun u hu hQ huv => ?_, fun q u hq' hu hQ hQu => ?_⟩
  · have hQ' : Q u = true ∨ u = n := by simpa using hQ
    rcases hQ' with h1 | h1
    · obtain ⟨a1, a2⟩ := c.2.1 u hu (Or.inl h1)
      rw [a1, a2]; exact h.2.1 u hu h1
    · obtain ⟨a1, a2⟩ := c.2.1 u hu (Or.inr (Or.inl h1))
      rw [a1, a2, h1]; exact ⟨he, by omega, hk⟩
  · obtain ⟨a1, a2⟩ := c.2.1 v hv (Or.inr (Or.inr rfl))
    rw [a1, a2]; exact h.2.2.1
  · have hQ' : Q u = false ∧ u ≠ n := by simpa using hQ
    exact djL_cg (fun l hl => by unfold djQ; simp [hl]) (c.2.2.1 u hu hQ'.1 hQ'.2 huv)
  · have hQ1 : Q q = true ∨ q = n := by simpa using hQ
    have hQ2 : Q u = false ∧ u ≠ n := by simpa using hQu
    have h3 := c.2.2.2 u hu hQ2.1
    rcases hQ1 with h1 | h1
    · have := h.2.2.2.2 q n hq' hn h1 hq; omega
    · rw [h1]; exact h3
section DC
variable {t : NT} {v n i : Nat} {Q : Nat → Bool} {T K T' K' : Nat → Nat}
theorem djC_skip (hi : ¬ (nU t i = true ∧ nT t i = n)) (c : djC t v n Q T K i T' K') : djC t v n Q T K (i + 1) T' K' := by
  refine ⟨c.1, c.2.1, fun u hu hq h1 h2 => djL_cg (fun l hl => ?_) (c.2.2.1 u hu hq h1 h2), c.2.2.2⟩
  by_cases q : l = i
  · subst q
    by_cases q1 : nU t l = true
    · have : ¬ nT t l = n := fun z => hi ⟨q1, z⟩
      simp [this]
    · simp [q1]
  · have : decide (l < i + 1) = decide (l < i) := by
      by_cases q2 : l < i
      · simp [q2]; omega
      · simp [q2]; omega
    rw [this]
theorem djC_S {l : Nat} (hU : nU t i = true) (hT : nT t i = n) (hq : Q n = false) : (nU t l && (Q (nT t l) || (decide (nT t l = n) && decide (l < i + 1)))) = ((nU t l && (Q (nT t l) || (decide (nT t l = n) && decide (l < i)))) || decide (l = i)) := by
  by_cases q : l = i
  · subst q; simp [hU, hT]
  · have : decide (l < i + 1) = decide (l < i) := by
      by_cases q2 : l < i
      · simp [q2]; omega
      · simp [q2]; omega
    rw [this]; simp [q]
theorem djC_Si (hU : nU t i = true) (hT : nT t i = n) (hq : Q n = false) : (nU t i && (Q (nT t i) || (decide (nT t i = n) && decide (i < i)))) = false := by
  rw [hT, hq]; simp
/-- which nodes can still come nearer -/
theorem djC_open (w : wfN t) (h : dj t v Q T K) (hn : n < nN t) (hq : Q n = false) (he : T n = dist t v n) (hi : i < nM t) (hT : nT t i = n) (c : djC t v n Q T K i T' K') (hle : nC t i + dist t v n ≤ T' (nF t i)) : Q (nF t i) = false ∧ nF t i ≠ n ∧ nF t i ≠ v := by
  obtain ⟨w1, w2, w3, w4, w5⟩ := w.2.2.2 i hi
  refine ⟨?_, fun z => w3 (by rw [z, hT]), fun z => ?_⟩
  · cases e : Q (nF t i) with
    | false => rfl
    | true =>
      have a := (c.2.1 _ w1 (Or.inl e)).1
      have b := (h.2.1 _ w1 e).1
      have d := h.2.2.2.2 _ n w1 hn e hq
      omega
  · have a := (c.2.1 _ w1 (Or.inr (Or.inr z))).1
    rw [z] at a hle
    have := h.2.2.1.1
    omega
theorem djC_lt (w : wfN t) (h : dj t v Q T K) (hn : n < nN t) (hq : Q n = false) (hT1 : T n < 1000000) (he : T n = dist t v n) (hi : i < nM t) (hU : nU t i = true) (hT : nT t i = n) (hlt : nC t i + dist t v n < T' (nF t i)) (c : djC t v n Q T K i T' K') : djC t v n Q T K (i + 1) (fun u => if u = nF t i then nC t i + dist t v n else T' u) (fun u => if u = nF t i then cnt t v n else K' u) := by
  obtain ⟨o1, o2, o3⟩ := djC_open w h hn hq he hi hT c (by omega)
  obtain ⟨w1, w2, w3, w4, w5⟩ := w.2.2.2 i hi
  have b := c.1 _ w1
  refine ⟨fun u hu => ?_, fun u hu ho => ?_, fun u hu hQ h1 h2 => ?_, fun u hu hQ => ?_⟩
  · show (if u = nF t i then _ else _) ≤ _
    split
    · omega
    · exact c.1 u hu
  · have : u ≠ nF t i := fun z => by
      rw [z] at ho
      rcases ho with ho | ho | ho
      · rw [o1] at ho; cases ho
      · exact o2 ho
      · exact o3 ho
    show (if u = nF t i then _ else _) = _ ∧ (if u = nF t i then _ else _) = _
    rw [if_neg this, if_neg this]; exact c.2.1 u hu ho
  · show djL t v _ u (if u = nF t i then _ else _) (if u = nF t i then _ else _)
    by_cases q : u = nF t i
    · rw [if_pos q, if_pos q]
      have := djL_lt (t := t) (v := v) (u := u) (i := i) (k := K' u) (x := T' u) hi (fun l _ => djC_S (i := i) (l := l) hU hT hq) q.symm (by rw [hT, q]; exact hlt) (c.2.2.1 u hu hQ h1 h2)
      rw [hT] at this
      exact this
    · rw [if_neg q, if_neg q]
      exact djL_no hi (djC_Si hU hT hq) (fun l _ => djC_S (i := i) (l := l) hU hT hq) (fun z => absurd z.symm q) (c.2.2.1 u hu hQ h1 h2)
  · show _ ≤ (if u = nF t i then _ else _)
    split
    · omega
    · exact c.2.2.2 u hu hQ
theorem djC_eq (w : wfN t) (h : dj t v Q T K) (hn : n < nN t) (hq : Q n = false) (he : T n = dist t v n) (hi : i < nM t) (hU : nU t i = true) (hT : nT t i = n) (hlt : nC t i + dist t v n = T' (nF t i)) (c : djC t v n Q T K i T' K') : djC t v n Q T K (i + 1) T' (fun u => if u = nF t i then K' (nF t i) + cnt t v n else K' u) := by
  obtain ⟨o1, o2, o3⟩ := djC_open w h hn hq he hi hT c (by omega)
  refine ⟨c.1, fun u hu ho => ?_, fun u hu hQ h1 h2 => ?_, c.2.2.2⟩
  · have : u ≠ nF t i := fun z => by
      rw [z] at ho
      rcases ho with ho | ho | ho
      · rw [o1] at ho; cases ho
      · exact o2 ho
      · exact o3 ho
    show _ ∧ (if u = nF t i then _ else _) = _
    rw [if_neg this]; exact c.2.1 u hu ho
  · show djL t v _ u _ (if u = nF t i then _ else _)
    by_cases q : u = nF t i
    · rw [if_pos q]
      have := djL_eq (t := t) (v := v) (u := u) (i := i) (k := K' u) (x := T' u) hi (djC_Si hU hT hq) (fun l _ => djC_S (i := i) (l := l) hU hT hq) q.symm (by rw [hT, q]; exact hlt) (c.2.2.1 u hu hQ h1 h2)
      rw [hT] at this
      rw [← q]
      exact this
    · rw [if_neg q]
      exact djL_no hi (djC_Si hU hT hq) (fun l _ => djC_S (i := i) (l := l) hU hT hq) (fun z => absurd z.symm q) (c.2.2.1 u hu hQ h1 h2)
theorem djC_gt (hq : Q n = false) (hi : i < nM t) (hU : nU t i = true) (hT : nT t i = n) (hlt : T' (nF t i) < nC t i + dist t v n) (c : djC t v n Q T K i T' K') : djC t v n Q T K (i + 1) T' K' := by
  refine ⟨c.1, c.2.1, fun u hu hQ h1 h2 => ?_, c.2.2.2⟩
  exact djL_no hi (djC_Si hU hT hq) (fun l _ => djC_S (i := i) (l := l) hU hT hq) (fun z => by rw [hT, ← z]; exact hlt) (c.2.2.1 u hu hQ h1 h2)
end DC
/-- where none is left to come nearer, all is known -/
theorem dj_done {t : NT} {v : Nat} {Q : Nat → Bool} {T K : Nat → Nat} (w : wfN t) (hv : v < nN t) (h : dj t v Q T K) (hm : ∀ u, u < nN t → Q u = false → ¬ T u < 1000000) : ∀ u, u < nN t → T u = dist t v u ∧ K u = cnt t v u := by
  intro u hu
  cases e : Q u with
  | true => exact ⟨(h.2.1 u hu e).1, (h.2.1 u hu e).2.2⟩
  | false =>
    have huv : u ≠ v := fun z => by
      have := hm u hu e
      rw [z, h.2.2.1.1] at this
      omega
    have h1 := dj_low w hv h (Nat.le_refl _) (fun u hu hq => by have := hm u hu hq; omega) _ u hu (Nat.le_refl _) e
    have h2 := (dist_bel w hv).2.1 u hu
    have h3 := h.1 u hu
    have h4 := hm u hu e
    refine ⟨by omega, ?_⟩
    rw [(h.2.2.2.1 u hu e huv).2.2, cnt_far w hv hu (by omega)]
    refine (sumTo_congr (g := fun _ => 0) _ (fun l hl => if_neg (fun z => ?_))).trans (sumTo_zero _)
    obtain ⟨w1, w2, w3, w4, w5⟩ := w.2.2.2 l hl
    have hQ : Q (nT t l) = true := by
      have := z.1
      unfold djQ at this
      cases e : Q (nT t l) with
      | true => rfl
      | false => rw [e] at this; simp at this
    have h5 := dist_891 w hv w2 (h.2.1 _ w2 hQ).2.1
    omega
