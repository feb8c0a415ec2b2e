/-! ===== the cost of a link that is down says nothing ===== -/
section AL
variable {t : NT} {b c : Nat}
theorem wfN.cost (w : wfN t) (hc : 1 ≤ c ∧ c ≤ 99) : wfN (tCost t b c) := by
  refine ⟨w.1, w.2.1, w.2.2.1, fun j hj => ?_⟩
  obtain ⟨z1, z2, z3, z4⟩ := w.2.2.2 j hj
  refine ⟨z1, z2, z3, ?_⟩
  show 1 ≤ (if j = b then c else nC t j) ∧ (if j = b then c else nC t j) ≤ 99
  by_cases q : j = b
  · rw [if_pos q]; exact hc
  · rw [if_neg q]; exact z4
theorem dn_C {l : Nat} (h : l ≠ b) : nC (tCost t b c) l = nC t l := by
  show (if l = b then c else nC t l) = _
  rw [if_neg h]
theorem dn_dist {v u : Nat} (w : wfN t) (hc : 1 ≤ c ∧ c ≤ 99) (hd : ¬ nU t b = true) (hv : v < nN t) (hu : u < nN t) : dist (tCost t b c) v u = dist t v u := by
  have bl := dist_bel w hv
  have ne : ∀ l, nU t l = true → l ≠ b := fun l h z => hd (by rw [← z]; exact h)
  refine (dist_uniq (w.cost (b := b) hc) hv (d := dist t v) ⟨bl.1, bl.2.1, fun l hl hU => ?_, fun y hy hyv hdy => ?_⟩ u hu).symm
  · rw [dn_C (ne l hU)]; exact bl.2.2.1 l hl hU
  · obtain ⟨l, hl, hU, hF, he⟩ := bl.2.2.2 y hy hyv hdy
    exact ⟨l, hl, hU, hF, by rw [dn_C (ne l hU)]; exact he⟩
theorem dn_on {v u l : Nat} (w : wfN t) (hc : 1 ≤ c ∧ c ≤ 99) (hd : ¬ nU t b = true) (hv : v < nN t) (hu : u < nN t) (hl : l < nM t) : onB (tCost t b c) v u l = onB t v u l := by
  have hT := (w.2.2.2 l hl).2.1
  show (nU t l && (nF t l == u) && decide (dist (tCost t b c) v u < 1000000) && (nC (tCost t b c) l + dist (tCost t b c) v (nT t l) == dist (tCost t b c) v u)) = (nU t l && (nF t l == u) && decide (dist t v u < 1000000) && (nC t l + dist t v (nT t l) == dist t v u))
  rw [dn_dist w hc hd hv hu, dn_dist w hc hd hv hT]
  by_cases q : l = b
  · have : nU t l = false := by rw [q]; simpa using hd
    rw [this]; rfl
  · rw [dn_C q]
theorem dn_kap {v : Nat} (w : wfN t) (hc : 1 ≤ c ∧ c ≤ 99) (hd : ¬ nU t b = true) (hv : v < nN t) : ∀ (k u : Nat), u < nN t → kap (tCost t b c) v k u = kap t v k u := by
  intro k
  induction k with
  | zero => intro u _; rfl
  | succ k ih =>
    intro u hu
    unfold kap
    by_cases q : u = v
    · rw [if_pos q, if_pos q]
    · rw [if_neg q, if_neg q]
      refine sumTo_congr _ (fun l hl => ?_)
      have hl : l < nM t := hl
      rw [dn_on w hc hd hv hu hl]
      rw [show kap (tCost t b c) v k (nT (tCost t b c) l) = kap t v k (nT t l) from ih _ (w.2.2.2 l hl).2.1]
theorem dn_cnt {v u : Nat} (w : wfN t) (hc : 1 ≤ c ∧ c ≤ 99) (hd : ¬ nU t b = true) (hv : v < nN t) (hu : u < nN t) : cnt (tCost t b c) v u = cnt t v u := dn_kap w hc hd hv _ u hu
theorem fstB_cg {U U' : Nat → Bool} : ∀ {m : Nat}, (∀ l, l < m → U l = U' l) → fstB U m = fstB U' m := by
  intro m
  induction m with
  | zero => intro _; rfl
  | succ m ih =>
    intro h
    show (match fstB U m with
      | some l => some l
      | none => if U m = true then some m else none) = (match fstB U' m with
      | some l => some l
      | none => if U' m = true then some m else none)
    rw [ih (fun l hl => h l (by omega)), h m (by omega)]
theorem dn_spw {v : Nat} (w : wfN t) (hc : 1 ≤ c ∧ c ≤ 99) (hd : ¬ nU t b = true) (hv : v < nN t) : ∀ (k u : Nat), u < nN t → spw (tCost t b c) v k u = spw t v k u := by
  intro k
  induction k with
  | zero => intro u _; rfl
  | succ k ih =>
    intro u hu
    show (if u = v then [] else match fstB (onB (tCost t b c) v u) (nM t) with
      | none => []
      | some l => l :: spw (tCost t b c) v k (nT t l)) = (if u = v then [] else match fstB (onB t v u) (nM t) with
      | none => []
      | some l => l :: spw t v k (nT t l))
    rw [fstB_cg (fun l hl => dn_on w hc hd hv hu hl)]
    by_cases q : u = v
    · rw [if_pos q, if_pos q]
    · rw [if_neg q, if_neg q]
      cases e : fstB (onB t v u) (nM t) with
      | none => rfl
      | some l =>
        have := (fstB_some e).1
        show l :: spw (tCost t b c) v k (nT t l) = l :: spw t v k (nT t l)
        rw [ih _ (w.2.2.2 l this).2.1]
theorem dn_sp {v u : Nat} (w : wfN t) (hc : 1 ≤ c ∧ c ≤ 99) (hd : ¬ nU t b = true) (hv : v < nN t) (hu : u < nN t) : sp (tCost t b c) v u = sp t v u := dn_spw w hc hd hv _ u hu
/-- packets alike, but for what goes along the links -/
def pkA (s s' : PK) : Prop := pN s = pN s' ∧ pE s = pE s' ∧ pT s = pT s'
theorem dn_step {B : Nat → Option (Nat × List Nat)} {x : Nat} {H : List Nat} {s s' : PK} (w : wfN t) (hc : 1 ≤ c ∧ c ≤ 99) (hd : ¬ nU t b = true) (a : pkA s s') (hn : pN s' < nN t) : (pkStep (tCost t b c) B x H s = none ∧ pkStep t B x H s' = none) ∨ ∃ q q', pkStep (tCost t b c) B x H s = some q ∧ pkStep t B x H s' = some q' ∧ q.1 = q'.1 ∧ pkA q.2 q'.2 ∧ pN q'.2 < nN t := by
  obtain ⟨a1, a2, a3⟩ := a
  have hn' : pN s < nN t := by omega
  unfold pkStep
  by_cases c1 : x < 100
  · rw [if_pos c1, if_pos c1]
    show ((if x < nN t ∧ dist (tCost t b c) x (pN s) < 1000000 then some (H, pkNode (tCost t b c) x s) else none) = none ∧ _) ∨ ∃ q q', (if x < nN t ∧ dist (tCost t b c) x (pN s) < 1000000 then some (H, pkNode (tCost t b c) x s) else none) = some q ∧ _
    by_cases c2 : x < nN t
    · rw [dn_dist w hc hd c2 hn', a1]
      by_cases c3 : dist t x (pN s') < 1000000
      · rw [if_pos ⟨c2, c3⟩, if_pos ⟨c2, c3⟩]
        refine Or.inr ⟨(H, pkNode (tCost t b c) x s), (H, pkNode t x s'), rfl, rfl, rfl, ⟨(show pN (pkNode (tCost t b c) x s) = x from rfl).trans (show x = pN (pkNode t x s') from rfl), ?_, ?_⟩, c2⟩
        · show (pE s && decide (cnt (tCost t b c) x (pN s) = 1)) = (pE s' && decide (cnt t x (pN s') = 1))
          rw [dn_cnt w hc hd c2 hn', a1, a2]
        · show pT s ++ sp (tCost t b c) x (pN s) = pT s' ++ sp t x (pN s')
          rw [dn_sp w hc hd c2 hn', a1, a3]
      · rw [if_neg (fun z => c3 z.2), if_neg (fun z => c3 z.2)]
        exact Or.inl ⟨rfl, rfl⟩
    · rw [if_neg (fun z => c2 z.1), if_neg (fun z => c2 z.1)]
      exact Or.inl ⟨rfl, rfl⟩
  · rw [if_neg c1, if_neg c1]
    by_cases c2 : x < 200
    · rw [if_pos c2, if_pos c2, a1]
      by_cases c3 : x - 100 < nM t ∧ nU t (x - 100) = true ∧ nF t (x - 100) = pN s'
      · refine Or.inr ⟨(H, pkLink (tCost t b c) (x - 100) s), (H, pkLink t (x - 100) s'), if_pos c3, if_pos c3, rfl, ⟨rfl, a2, ?_⟩, (w.2.2.2 _ c3.1).2.1⟩
        show pT s ++ [x - 100] = pT s' ++ [x - 100]
        rw [a3]
      · exact Or.inl ⟨if_neg c3, if_neg c3⟩
    · rw [if_neg c2, if_neg c2]
      cases B (x - 200) with
      | none => exact Or.inl ⟨rfl, rfl⟩
      | some q =>
        dsimp only
        rw [a1]
        by_cases c3 : q.1 = pN s'
        · rw [if_pos c3, if_pos c3]
          exact Or.inr ⟨_, _, rfl, rfl, rfl, ⟨a1, a2, a3⟩, hn⟩
        · rw [if_neg c3, if_neg c3]
          exact Or.inl ⟨rfl, rfl⟩
theorem dn_run {B : Nat → Option (Nat × List Nat)} (w : wfN t) (hc : 1 ≤ c ∧ c ≤ 99) (hd : ¬ nU t b = true) : ∀ (k i : Nat) (H : List Nat) (s s' : PK), pkA s s' → pN s' < nN t → pkA (pkRun (tCost t b c) B k i H s).2 (pkRun t B k i H s').2 := by
  intro k
  induction k with
  | zero => intro i H s s' a _; exact a
  | succ k ih =>
    intro i H s s' a hn
    cases H with
    | nil => exact a
    | cons x H =>
      rcases dn_step (B := B) (x := x) (H := H) w hc hd a hn with ⟨e1, e2⟩ | ⟨q, q', e1, e2, e3, a', hn'⟩
      · rw [pkRun_none e1, pkRun_none e2]
        exact ⟨a.1, rfl, a.2.2⟩
      · rw [pkRun_some e1, pkRun_some e2, e3]
        exact ih _ _ _ _ a' hn'
theorem dn_cvd {B : Nat → Option (Nat × List Nat)} {u : Nat} {ks ls : List Nat} (w : wfN t) (hc : 1 ≤ c ∧ c ≤ 99) (hd : ¬ nU t b = true) (hu : u < nN t) : cvd (pkt (tCost t b c) B u ks) ls = cvd (pkt t B u ks) ls := by
  have := dn_run (B := B) w hc hd 85 0 ks (u, true, [], ks.length, fun _ => 0) (u, true, [], ks.length, fun _ => 0) ⟨rfl, rfl, rfl⟩ hu
  unfold cvd pkt
  rw [this.2.1, this.2.2]
theorem dn_kind {B : Nat → Option (Nat × List Nat)} {l g k lab : Nat} {ls : List Nat} (w : wfN t) (hc : 1 ≤ c ∧ c ≤ 99) (hd : ¬ nU t b = true) (hl : l < nM t) : kindL (tCost t b c) B l ls g k lab ↔ kindL t B l ls g k lab := by
  have hF := (w.2.2.2 l hl).1
  have e : ∀ ks, cvd (pkt (tCost t b c) B (nF t l) ks) (l :: ls) = cvd (pkt t B (nF t l) ks) (l :: ls) := fun ks => dn_cvd w hc hd hF
  show ((g = 1 ∧ lab < nN t ∧ cvd (pkt (tCost t b c) B (nF t l) [lab]) (l :: ls) = k) ∨ (g = 1 ∧ lab = 100 + l ∧ k = 1 ∧ nU t l = true) ∨ (∃ b' q, b' < 6 ∧ B b' = some q ∧ q.1 = nF t l ∧ lab = 200 + b' ∧ g = q.2.length ∧ cvd (pkt (tCost t b c) B (nF t l) q.2) (l :: ls) = k)) ↔ _
  unfold kindL
  simp only [e]
theorem dn_plS {B : Nat → Option (Nat × List Nat)} {D : Nat} (w : wfN t) (hc : 1 ≤ c ∧ c ≤ 99) (hd : ¬ nU t b = true) : ∀ {W : List Nat} {ys : List (Option TR)}, (∀ l, l ∈ W → l < nM t) → plS (tCost t b c) B D W ys → plS t B D W ys := by
  intro W
  induction W with
  | nil => intro ys _ h; exact h
  | cons l W ih =>
    intro ys hW h
    obtain ⟨y, zs, e, p, q⟩ := h
    refine ⟨y, zs, e, ih (fun l hl => hW l (List.mem_cons_of_mem _ hl)) p, ?_⟩
    have : candS (tCost t b c) B D l W zs = candS t B D l W zs := by
      funext x
      unfold candS
      simp only [dn_kind w hc hd (hW l List.mem_cons_self)]
    rw [← this]
    exact q
/-- without the link, its cost says nothing -/
theorem rt_cost {h : MH} {r : Nat} (w : wfN t) (hc : 1 ≤ c ∧ c ≤ 99) (R : rtIs h r (barN t b)) : rtIs h r (barN (tCost t b c) b) := by
  have wB : wfN (barN t b) := w
  have hd : ¬ nU (barN t b) b = true := by rw [barUb]; decide
  intro u v hu hv
  have h1 := R u v hu hv
  have d1 : dist (barN (tCost t b c) b) v u = dist (barN t b) v u := dn_dist (t := barN t b) (b := b) wB hc hd hv hu
  have d2 : cnt (barN (tCost t b c) b) v u = cnt (barN t b) v u := dn_cnt (t := barN t b) (b := b) wB hc hd hv hu
  rw [d1, d2]
  exact h1
end AL
