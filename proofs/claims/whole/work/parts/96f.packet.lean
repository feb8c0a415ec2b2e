/-! ===== a packet, apart from both heaps ===== -/
/-- its node, whether it is exact, its links, the most labels, what parts of it went along each link (over zz) -/
abbrev PK : Type := Nat × Bool × List Nat × Nat × (Nat → Nat)
def pN (s : PK) : Nat := s.1
def pE (s : PK) : Bool := s.2.1
def pT (s : PK) : List Nat := s.2.2.1
def pH (s : PK) : Nat := s.2.2.2.1
def pA (s : PK) : Nat → Nat := s.2.2.2.2
noncomputable def pkNode (t : NT) (x : Nat) (s : PK) : PK := (x, pE s && decide (cnt t x (pN s) = 1), pT s ++ sp t x (pN s), pH s, fun l => pA s l + flow t x (pN s) (zz t) l)
def pkLink (t : NT) (l : Nat) (s : PK) : PK := (nT t l, pE s, pT s ++ [l], pH s, fun j => if j = l then pA s l + zz t else pA s j)
def pkBind (H : List Nat) (s : PK) : PK := (pN s, pE s, pT s, max (pH s) H.length, pA s)
def pkDrop (s : PK) : PK := (pN s, false, pT s, pH s, pA s)
noncomputable def pkStep (t : NT) (B : Nat → Option (Nat × List Nat)) (x : Nat) (H : List Nat) (s : PK) : Option (List Nat × PK) :=
  if x < 100 then (if x < nN t ∧ dist t x (pN s) < 1000000 then some (H, pkNode t x s) else none)
  else if x < 200 then (if x - 100 < nM t ∧ nU t (x - 100) = true ∧ nF t (x - 100) = pN s then some (H, pkLink t (x - 100) s) else none)
  else match B (x - 200) with
    | none => none
    | some q => if q.1 = pN s then some (q.2 ++ H, pkBind (q.2 ++ H) s) else none
noncomputable def pkRun (t : NT) (B : Nat → Option (Nat × List Nat)) : Nat → Nat → List Nat → PK → Option Nat × PK
  | 0, _, _, s => (none, s)
  | _ + 1, _, [], s => (none, s)
  | k + 1, c, x :: H, s => match pkStep t B x H s with
    | none => (some c, pkDrop s)
    | some q => pkRun t B k (c + 1) q.1 q.2
noncomputable def pkt (t : NT) (B : Nat → Option (Nat × List Nat)) (u : Nat) (ks : List Nat) : Option Nat × PK := pkRun t B 85 0 ks (u, true, [], ks.length, fun _ => 0)
theorem pkRun_nil {t : NT} {B : Nat → Option (Nat × List Nat)} {k c : Nat} {s : PK} : pkRun t B k c [] s = (none, s) := by
  cases k <;> rfl
theorem pkRun_some {t : NT} {B : Nat → Option (Nat × List Nat)} {k c x : Nat} {H : List Nat} {s : PK} {q : List Nat × PK} (e : pkStep t B x H s = some q) : pkRun t B (k + 1) c (x :: H) s = pkRun t B k (c + 1) q.1 q.2 := by
  show (match pkStep t B x H s with
    | none => (some c, pkDrop s)
    | some q => pkRun t B k (c + 1) q.1 q.2) = _
  rw [e]
theorem pkRun_none {t : NT} {B : Nat → Option (Nat × List Nat)} {k c x : Nat} {H : List Nat} {s : PK} (e : pkStep t B x H s = none) : pkRun t B (k + 1) c (x :: H) s = (some c, pkDrop s) := by
  show (match pkStep t B x H s with
    | none => (some c, pkDrop s)
    | some q => pkRun t B k (c + 1) q.1 q.2) = _
  rw [e]
/-! what the labels weigh: how many more there can be -/
def wtL (c : Nat) : List Nat → Nat
  | [] => 0
  | x :: H => (if x < 200 then 1 else c) + wtL c H
theorem wtL_app {c : Nat} {H : List Nat} : ∀ {P : List Nat}, (∀ x, x ∈ P → x < 200) → wtL c (P ++ H) = P.length + wtL c H := by
  intro P
  induction P with
  | nil => intro _; simp [wtL]
  | cons x P ih =>
    intro h
    show (if x < 200 then 1 else c) + wtL c (P ++ H) = _
    rw [if_pos (h x List.mem_cons_self), ih (fun y hy => h y (List.mem_cons_of_mem _ hy)), List.length_cons]
    omega
theorem wtL_le {c : Nat} (hc : 1 ≤ c) : ∀ {H : List Nat}, wtL c H ≤ c * H.length := by
  intro H
  induction H with
  | nil => exact Nat.zero_le _
  | cons x H ih =>
    show (if x < 200 then 1 else c) + wtL c H ≤ c * (H.length + 1)
    rw [Nat.mul_add]
    split <;> omega
/-- labels as they can lie: some of a binding ahead of some of the stack -/
def okH (H : List Nat) : Prop := ∃ P R, H = P ++ R ∧ (∀ x, x ∈ P → plLab x) ∧ P.length ≤ 6 ∧ (∀ x, x ∈ R → isLab x) ∧ R.length ≤ 12 ∧ (P ≠ [] → R.length ≤ 11)
theorem plLab_lt {x : Nat} (h : plLab x) : x < 200 := by unfold plLab at h; omega
theorem plLab_is {x : Nat} (h : plLab x) : isLab x := by unfold plLab at h; unfold isLab; omega
theorem okH_len {H : List Nat} (h : okH H) : H.length ≤ 17 := by
  obtain ⟨P, R, rfl, _, h2, _, h4, h5⟩ := h
  rw [List.length_append]
  by_cases q : P = []
  · rw [q]; simp; omega
  · have := h5 q; omega
theorem okH_lab {x : Nat} {H : List Nat} (h : okH (x :: H)) : isLab x := by
  obtain ⟨P, R, e, h1, _, h3, _, _⟩ := h
  cases P with
  | nil =>
    have e : x :: H = R := e
    exact h3 x (by rw [← e]; exact List.mem_cons_self)
  | cons p P =>
    have e : x :: H = p :: (P ++ R) := e
    have := (List.cons.inj e).1
    rw [this]; exact plLab_is (h1 p List.mem_cons_self)
theorem okH_tl {x : Nat} {H : List Nat} (h : okH (x :: H)) : okH H ∧ (¬ x < 200 → (∀ y, y ∈ H → isLab y) ∧ H.length ≤ 11) := by
  obtain ⟨P, R, e, h1, h2, h3, h4, h5⟩ := h
  cases P with
  | nil =>
    have e : x :: H = R := e
    have hl : H.length ≤ 11 := by
      have := congrArg List.length e
      rw [List.length_cons] at this
      omega
    have hm : ∀ y, y ∈ H → isLab y := fun y hy => h3 y (by rw [← e]; exact List.mem_cons_of_mem _ hy)
    exact ⟨⟨[], H, rfl, fun y hy => (by cases hy), (by simp), hm, by omega, fun z => absurd rfl z⟩, fun _ => ⟨hm, hl⟩⟩
  | cons p P =>
    have e : x :: H = p :: (P ++ R) := e
    obtain ⟨e1, e2⟩ := List.cons.inj e
    have hp := h1 p List.mem_cons_self
    have h5' := h5 (by simp)
    refine ⟨⟨P, R, e2, fun y hy => h1 y (List.mem_cons_of_mem _ hy), by rw [List.length_cons] at h2; omega, h3, h4, fun _ => h5'⟩, fun z => ?_⟩
    rw [e1] at z
    exact absurd (plLab_lt hp) z
theorem mem_getD {ls : List Nat} {x : Nat} (h : x ∈ ls) : ∃ i, i < ls.length ∧ ls.getD i 0 = x := by
  obtain ⟨i, hi, e⟩ := List.getElem_of_mem h
  exact ⟨i, hi, by rw [List.getD_eq_getElem?_getD, List.getElem?_eq_getElem hi, e]; rfl⟩
theorem okH_0 {ks : List Nat} (h : stkOK ks) : okH ks := by
  refine ⟨[], ks, rfl, fun y hy => (by cases hy), (by simp), fun x hx => ?_, h.1, fun z => absurd rfl z⟩
  obtain ⟨i, hi, e⟩ := mem_getD hx
  rw [← e]; exact h.2 i hi
/-- what a step keeps -/
def pkOK (t : NT) (c : Nat) (H : List Nat) (s : PK) : Prop := okH H ∧ wtL 7 H + c ≤ 84 ∧ 9 * wtL 6 H + (pT s).length ≤ 648 ∧ pN s < nN t ∧ (∀ l, pA s l ≤ c * zz t) ∧ H.length ≤ pH s ∧ pH s ≤ 17 ∧ ∀ l, l ∈ pT s → l < nM t
theorem pkOK_0 {t : NT} {u : Nat} {ks : List Nat} (hu : u < nN t) (h : stkOK ks) : pkOK t 0 ks (u, true, [], ks.length, fun _ => 0) := by
  have h1 := wtL_le (c := 7) (by decide) (H := ks)
  have h2 := wtL_le (c := 6) (by decide) (H := ks)
  have h3 := h.1
  refine ⟨okH_0 h, by omega, ?_, hu, fun _ => Nat.zero_le _, Nat.le_refl _, ?_, fun l hl => by cases hl⟩
  · show 9 * wtL 6 ks + 0 ≤ 648
    omega
  · show ks.length ≤ 17
    omega
theorem pkOK_step {t : NT} {B : Nat → Option (Nat × List Nat)} {c x : Nat} {H : List Nat} {s : PK} {q : List Nat × PK} (w : wfN t) (wB : wfB t B) (h : pkOK t c (x :: H) s) (e : pkStep t B x H s = some q) : pkOK t (c + 1) q.1 q.2 := by
  obtain ⟨h1, h2, h3, h4, h5, h6, h7, h8⟩ := h
  have hl := okH_lab h1
  obtain ⟨t1, t2⟩ := okH_tl h1
  have hw7 : wtL 7 (x :: H) = (if x < 200 then 1 else 7) + wtL 7 H := rfl
  have hw6 : wtL 6 (x :: H) = (if x < 200 then 1 else 6) + wtL 6 H := rfl
  rw [List.length_cons] at h6
  unfold pkStep at e
  by_cases c1 : x < 100
  · rw [if_pos c1] at e
    by_cases c2 : x < nN t ∧ dist t x (pN s) < 1000000
    · rw [if_pos c2] at e
      obtain rfl := Option.some.inj e
      have hsp := sp_len (v := x) w h4
      rw [if_pos (by omega)] at hw7 hw6
      refine ⟨t1, by dsimp only; omega, ?_, c2.1, fun l => ?_, by show H.length ≤ pH s; omega, h7, fun l hm => ?_⟩
      · show 9 * wtL 6 H + (pT s ++ sp t x (pN s)).length ≤ 648
        rw [List.length_append]; omega
      · show pA s l + flow t x (pN s) (zz t) l ≤ (c + 1) * zz t
        have a1 := h5 l
        have a2 := flow_le (t := t) (v := x) (l := l) (x := zz t) w h4
        rw [Nat.add_mul]; omega
      · rcases List.mem_append.mp hm with hm | hm
        · exact h8 l hm
        · exact (sp_mem w h4 hm).2
    · rw [if_neg c2] at e; cases e
  · rw [if_neg c1] at e
    by_cases c2 : x < 200
    · rw [if_pos c2] at e
      by_cases c3 : x - 100 < nM t ∧ nU t (x - 100) = true ∧ nF t (x - 100) = pN s
      · rw [if_pos c3] at e
        obtain rfl := Option.some.inj e
        rw [if_pos c2] at hw7 hw6
        refine ⟨t1, by dsimp only; omega, ?_, (w.2.2.2 _ c3.1).2.1, fun l => ?_, by show H.length ≤ pH s; omega, h7, fun l hm => ?_⟩
        · show 9 * wtL 6 H + (pT s ++ [x - 100]).length ≤ 648
          rw [List.length_append]; simp; omega
        · show (if l = x - 100 then pA s (x - 100) + zz t else pA s l) ≤ (c + 1) * zz t
          rw [Nat.add_mul]
          have a1 := h5 l
          have a2 := h5 (x - 100)
          split <;> omega
        · rcases List.mem_append.mp hm with hm | hm
          · exact h8 l hm
          · rw [List.mem_singleton.mp hm]; exact c3.1
      · rw [if_neg c3] at e; cases e
    · rw [if_neg c2] at e
      have hx6 : x - 200 < 6 := by unfold isLab at hl; omega
      cases eB : B (x - 200) with
      | none => rw [eB] at e; cases e
      | some b =>
        rw [eB] at e
        have e : (if b.1 = pN s then some (b.2 ++ H, pkBind (b.2 ++ H) s) else none) = some q := e
        by_cases c3 : b.1 = pN s
        · rw [if_pos c3] at e
          obtain rfl := Option.some.inj e
          obtain ⟨b1, b2, b3, b4⟩ := wB _ hx6 b eB
          obtain ⟨u1, u2⟩ := t2 c2
          rw [if_neg c2] at hw7 hw6
          have hpl : ∀ y, y ∈ b.2 → plLab y := fun y hy => by
            obtain ⟨i, hi, ei⟩ := mem_getD hy
            rw [← ei]; exact b4 i hi
          have a7 := wtL_app (c := 7) (H := H) (P := b.2) (fun y hy => plLab_lt (hpl y hy))
          have a6 := wtL_app (c := 6) (H := H) (P := b.2) (fun y hy => plLab_lt (hpl y hy))
          have hlen : (b.2 ++ H).length = b.2.length + H.length := List.length_append
          refine ⟨⟨b.2, H, rfl, hpl, b3, u1, by omega, fun _ => u2⟩, by dsimp only; omega, ?_, h4, fun l => ?_, Nat.le_max_right _ _, ?_, h8⟩
          · show 9 * wtL 6 (b.2 ++ H) + (pT s).length ≤ 648
            omega
          · have := h5 l
            show pA s l ≤ (c + 1) * zz t
            rw [Nat.add_mul]; omega
          · show max (pH s) (b.2 ++ H).length ≤ 17
            omega
        · rw [if_neg c3] at e; cases e
