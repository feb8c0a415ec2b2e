/-! ===== which label is best at a place ===== -/
def cvd (r : Option Nat × PK) (ls : List Nat) : Nat := if pE r.2 = true ∧ (pT r.2).isPrefixOf ls = true then (pT r.2).length else 0
theorem cvd_le {r : Option Nat × PK} {ls : List Nat} : cvd r ls ≤ ls.length := by
  unfold cvd
  split
  · rename_i h
    exact (List.isPrefixOf_iff_prefix.mp h.2).length_le
  · exact Nat.zero_le _
theorem pkStep_mono {t : NT} {B : Nat → Option (Nat × List Nat)} {x : Nat} {H : List Nat} {s : PK} {q : List Nat × PK} (e : pkStep t B x H s = some q) : (pE q.2 = true → pE s = true) ∧ pT s <+: pT q.2 := by
  unfold pkStep at e
  by_cases c1 : x < 100
  · rw [if_pos c1] at e
    by_cases c2 : x < nN t ∧ dist t x (pN s) < 1000000
    · rw [if_pos c2] at e
      obtain rfl := Option.some.inj e
      refine ⟨fun h => ?_, List.prefix_append _ _⟩
      have h : (pE s && decide (cnt t x (pN s) = 1)) = true := h
      cases z : pE s with
      | true => rfl
      | false => rw [z] at h; cases h
    · rw [if_neg c2] at e; cases e
  · rw [if_neg c1] at e
    by_cases c2 : x < 200
    · rw [if_pos c2] at e
      by_cases c3 : x - 100 < nM t ∧ nU t (x - 100) = true ∧ nF t (x - 100) = pN s
      · rw [if_pos c3] at e
        obtain rfl := Option.some.inj e
        exact ⟨fun h => h, List.prefix_append _ _⟩
      · rw [if_neg c3] at e; cases e
    · rw [if_neg c2] at e
      cases eB : B (x - 200) with
      | none => rw [eB] at e; cases e
      | some b =>
        rw [eB] at e
        have e : (if b.1 = pN s then some (b.2 ++ H, pkBind (b.2 ++ H) s) else none) = some q := e
        by_cases c3 : b.1 = pN s
        · rw [if_pos c3] at e
          obtain rfl := Option.some.inj e
          exact ⟨fun h => h, List.prefix_refl _⟩
        · rw [if_neg c3] at e; cases e
theorem pkRun_mono {t : NT} {B : Nat → Option (Nat × List Nat)} : ∀ (k c : Nat) (H : List Nat) (s : PK), (pE (pkRun t B k c H s).2 = true → pE s = true) ∧ pT s <+: pT (pkRun t B k c H s).2 := by
  intro k
  induction k with
  | zero => intro c H s; exact ⟨fun h => h, List.prefix_refl _⟩
  | succ k ih =>
    intro c H s
    cases H with
    | nil => exact ⟨fun h => h, List.prefix_refl _⟩
    | cons x H =>
      cases e : pkStep t B x H s with
      | none => rw [pkRun_none e]; exact ⟨fun h => (by cases h), List.prefix_refl _⟩
      | some q =>
        rw [pkRun_some e]
        obtain ⟨a1, a2⟩ := pkStep_mono e
        obtain ⟨b1, b2⟩ := ih (c + 1) q.1 q.2
        exact ⟨fun h => a1 (b1 h), a2.trans b2⟩
/-- once it has left the row, or isn't exact, it covers nothing -/
theorem cvd_off {t : NT} {B : Nat → Option (Nat × List Nat)} {k c : Nat} {H : List Nat} {s : PK} {ls : List Nat} (h : ¬ (pE s = true ∧ pT s <+: ls)) : cvd (pkRun t B k c H s) ls = 0 := by
  obtain ⟨a1, a2⟩ := pkRun_mono (t := t) (B := B) k c H s
  unfold cvd
  rw [if_neg (fun z => h ⟨a1 z.1, a2.trans (List.isPrefixOf_iff_prefix.mp z.2)⟩)]
theorem cvd_node {t : NT} {B : Nat → Option (Nat × List Nat)} {u v : Nat} {ls : List Nat} (w : wfN t) (hu : u < nN t) (hv : v < nN t) : cvd (pkt t B u [v]) ls = if cnt t v u = 1 ∧ (sp t v u).isPrefixOf ls = true then (sp t v u).length else 0 := by
  have hn10 := w.2.1
  unfold pkt
  have hs : pkStep t B v [] (u, true, [], [v].length, fun _ => 0) = (if v < nN t ∧ dist t v u < 1000000 then some ([], pkNode t v (u, true, [], [v].length, fun _ => 0)) else none) := by
    unfold pkStep
    rw [if_pos (by omega)]
    rfl
  by_cases c : dist t v u < 1000000
  · rw [if_pos ⟨hv, c⟩] at hs
    rw [show (85 : Nat) = 84 + 1 from rfl, pkRun_some hs, pkRun_nil]
    unfold cvd
    have e1 : pE (pkNode t v (u, true, [], [v].length, fun _ => 0)) = decide (cnt t v u = 1) := by
      show (true && decide (cnt t v u = 1)) = _
      simp
    have e2 : pT (pkNode t v (u, true, [], [v].length, fun _ => 0)) = sp t v u := by
      show [] ++ sp t v u = _
      rfl
    dsimp only
    rw [e1, e2]
    by_cases c1 : cnt t v u = 1
    · simp [c1]
    · simp [c1]
  · rw [if_neg (fun z => c z.2)] at hs
    rw [show (85 : Nat) = 84 + 1 from rfl, pkRun_none hs]
    unfold cvd
    rw [if_neg (fun z => by cases z.1), if_neg (fun z => by rw [cnt_far w hv hu c] at z; omega)]
theorem cvd_nodeC {t : NT} {B : Nat → Option (Nat × List Nat)} {u v c e : Nat} {ls : List Nat} (w : wfN t) (hu : u < nN t) (hch : chF t u ls e) (hc : 1 ≤ c) : (v < nN t ∧ cvd (pkt t B u [v]) ls = c) ↔ (c ≤ nr t u 0 ls ∧ v = nT t (ls.getD (c - 1) 0)) := by
  rw [← node_cov w hu hch hc]
  constructor
  · rintro ⟨hv, h⟩
    rw [cvd_node w hu hv] at h
    by_cases q : cnt t v u = 1 ∧ (sp t v u).isPrefixOf ls = true
    · rw [if_pos q] at h
      exact ⟨hv, q.1, List.isPrefixOf_iff_prefix.mp q.2, h⟩
    · rw [if_neg q] at h; omega
  · rintro ⟨hv, h1, h2, h3⟩
    refine ⟨hv, ?_⟩
    rw [cvd_node w hu hv, if_pos ⟨h1, List.isPrefixOf_iff_prefix.mpr h2⟩, h3]
/-- how many labels, how many links, which label -/
abbrev TR : Type := Nat × Nat × Nat
def bet (x y : TR) : Prop := x.1 < y.1 ∨ (x.1 = y.1 ∧ (y.2.1 < x.2.1 ∨ (x.2.1 = y.2.1 ∧ x.2.2 < y.2.2)))
def isBest (S : TR → Prop) (c : Option TR) : Prop := match c with
  | none => ∀ x, ¬ S x
  | some y => S y ∧ ∀ x, S x → ¬ bet x y
theorem isBest_fun {S : TR → Prop} {a b : Option TR} (ha : isBest S a) (hb : isBest S b) : a = b := by
  cases a with
  | none =>
    cases b with
    | none => rfl
    | some y => exact absurd hb.1 (ha y)
  | some x =>
    cases b with
    | none => exact absurd ha.1 (hb x)
    | some y =>
      have h1 := ha.2 y hb.1
      have h2 := hb.2 x ha.1
      obtain ⟨x1, x2, x3⟩ := x
      obtain ⟨y1, y2, y3⟩ := y
      unfold bet at h1 h2
      dsimp only at h1 h2
      have e1 : x1 = y1 := by omega
      have e2 : x2 = y2 := by omega
      have e3 : x3 = y3 := by omega
      rw [e1, e2, e3]
theorem isBest_cg {S S' : TR → Prop} {c : Option TR} (h : ∀ x, S x ↔ S' x) (hb : isBest S c) : isBest S' c := by
  cases c with
  | none => exact fun x z => hb x ((h x).mpr z)
  | some y => exact ⟨(h y).mp hb.1, fun x z => hb.2 x ((h x).mpr z)⟩
theorem bet_tr {x y z : TR} (h1 : bet x y) (h2 : bet y z) : bet x z := by
  obtain ⟨x1, x2, x3⟩ := x
  obtain ⟨y1, y2, y3⟩ := y
  obtain ⟨z1, z2, z3⟩ := z
  unfold bet at *
  dsimp only at *
  omega
/-- one more is looked at -/
theorem isBest_new {S : TR → Prop} {c : Option TR} {y : TR} (hb : isBest S c) (h : ∀ z, c = some z → ¬ bet z y) : isBest (fun x => S x ∨ x = y) (some y) := by
  refine ⟨Or.inr rfl, fun x hx => ?_⟩
  rcases hx with hx | hx
  · cases c with
    | none => exact absurd hx (hb x)
    | some z =>
      intro hxy
      have h1 := hb.2 x hx
      have h2 := h z rfl
      obtain ⟨x1, x2, x3⟩ := x
      obtain ⟨y1, y2, y3⟩ := y
      obtain ⟨z1, z2, z3⟩ := z
      unfold bet at *
      dsimp only at *
      omega
  · rw [hx]
    obtain ⟨y1, y2, y3⟩ := y
    unfold bet
    dsimp only
    omega
theorem isBest_old {S : TR → Prop} {z y : TR} (hb : isBest S (some z)) (h : ¬ bet y z) : isBest (fun x => S x ∨ x = y) (some z) := by
  refine ⟨Or.inl hb.1, fun x hx => ?_⟩
  rcases hx with hx | hx
  · exact hb.2 x hx
  · rw [hx]; exact h
/-- a label, and how high it makes the stack -/
def kindL (t : NT) (B : Nat → Option (Nat × List Nat)) (l : Nat) (ls : List Nat) (g c lab : Nat) : Prop :=
  (g = 1 ∧ lab < nN t ∧ cvd (pkt t B (nF t l) [lab]) (l :: ls) = c) ∨ (g = 1 ∧ lab = 100 + l ∧ c = 1 ∧ nU t l = true) ∨ (∃ b q, b < 6 ∧ B b = some q ∧ q.1 = nF t l ∧ lab = 200 + b ∧ g = q.2.length ∧ cvd (pkt t B (nF t l) q.2) (l :: ls) = c)
/-- what the rest takes, c links on -/
def offs (ys : List (Option TR)) (c : Nat) : Option Nat := if c = ys.length + 1 then some 0 else match ys.getD (c - 1) none with
  | some y => some y.1
  | none => none
/-- the total that a label with g labels gives -/
def totL (D : Nat) (ys : List (Option TR)) (g c lab : Nat) (x : TR) : Prop := 1 ≤ c ∧ c ≤ ys.length + 1 ∧ ∃ f, offs ys c = some f ∧ f + g ≤ D ∧ x = (f + 1, c, lab)
def candS (t : NT) (B : Nat → Option (Nat × List Nat)) (D l : Nat) (ls : List Nat) (ys : List (Option TR)) (x : TR) : Prop := ∃ g c lab, kindL t B l ls g c lab ∧ totL D ys g c lab x
def plS (t : NT) (B : Nat → Option (Nat × List Nat)) (D : Nat) : List Nat → List (Option TR) → Prop
  | [], ys => ys = []
  | l :: ls, ys => ∃ y zs, ys = y :: zs ∧ plS t B D ls zs ∧ isBest (candS t B D l ls zs) y
theorem plS_fun {t : NT} {B : Nat → Option (Nat × List Nat)} {D : Nat} : ∀ {ls : List Nat} {ys zs : List (Option TR)}, plS t B D ls ys → plS t B D ls zs → ys = zs := by
  intro ls
  induction ls with
  | nil => intro ys zs h1 h2; exact (show ys = [] from h1).trans (show zs = [] from h2).symm
  | cons l ls ih =>
    intro ys zs h1 h2
    obtain ⟨y, ys', rfl, a1, a2⟩ := h1
    obtain ⟨z, zs', rfl, b1, b2⟩ := h2
    have := ih a1 b1
    subst this
    rw [isBest_fun a2 b2]
theorem plS_len {t : NT} {B : Nat → Option (Nat × List Nat)} {D : Nat} : ∀ {ls : List Nat} {ys : List (Option TR)}, plS t B D ls ys → ys.length = ls.length := by
  intro ls
  induction ls with
  | nil => intro ys h; rw [show ys = [] from h]; rfl
  | cons l ls ih =>
    intro ys h
    obtain ⟨y, ys', rfl, a1, a2⟩ := h
    rw [List.length_cons, List.length_cons, ih a1]
/-- what a written place tells -/
theorem best_in {t : NT} {B : Nat → Option (Nat × List Nat)} {D l : Nat} {ls : List Nat} {zs : List (Option TR)} {y : TR} (w : wfN t) (wB : wfB t B) (hl : l < nM t) (h : isBest (candS t B D l ls zs) (some y)) : ∃ f, offs zs y.2.1 = some f ∧ y.1 = f + 1 ∧ y.1 ≤ D ∧ 1 ≤ y.2.1 ∧ y.2.1 ≤ zs.length + 1 ∧ isLab y.2.2 := by
  have hm30 := w.2.2.1
  have hn10 := w.2.1
  obtain ⟨g, c, lab, hk, h1, h2, f, h3, h4, rfl⟩ := h.1
  have hg : 1 ≤ g ∧ isLab lab := by
    rcases hk with hk | hk | ⟨b, q, hk⟩
    · exact ⟨by omega, by unfold isLab; omega⟩
    · exact ⟨by omega, by unfold isLab; omega⟩
    · have := wB b hk.1 q hk.2.1
      exact ⟨by omega, by unfold isLab; omega⟩
  exact ⟨f, h3, rfl, by dsimp only; omega, h1, h2, hg.2⟩
