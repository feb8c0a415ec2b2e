/-! ===== sole ways: what begins one is one ===== -/
def cst (t : NT) : List Nat → Nat
  | [] => 0
  | l :: ls => nC t l + cst t ls
def allUp (t : NT) (ls : List Nat) : Prop := ∀ l, l ∈ ls → nU t l = true
theorem cst_app {t : NT} {ks : List Nat} : ∀ {ls : List Nat}, cst t (ls ++ ks) = cst t ls + cst t ks := by
  intro ls
  induction ls with
  | nil => show cst t ks = 0 + cst t ks; omega
  | cons l ls ih =>
    show nC t l + cst t (ls ++ ks) = nC t l + cst t ls + cst t ks
    rw [ih]; omega
theorem chF_end {t : NT} {e : Nat} (w : wfN t) : ∀ {ls : List Nat} {u : Nat}, u < nN t → chF t u ls e → e < nN t := by
  intro ls
  induction ls with
  | nil => intro u hu h; rw [← (show u = e from h)]; exact hu
  | cons l ls ih => intro u hu h; exact ih (w.2.2.2 l h.1).2.1 h.2.2
theorem ch_le {t : NT} {e : Nat} (w : wfN t) (he : e < nN t) : ∀ {ls : List Nat} {u : Nat}, chF t u ls e → allUp t ls → dist t e u ≤ cst t ls := by
  intro ls
  induction ls with
  | nil => intro u h _; rw [show u = e from h, (dist_bel w he).1]; exact Nat.zero_le _
  | cons l ls ih =>
    intro u h hU
    have h1 := (dist_bel w he).2.2.1 l h.1 (hU l List.mem_cons_self)
    rw [h.2.1] at h1
    have h2 := ih h.2.2 (fun j hj => hU j (List.mem_cons_of_mem _ hj))
    show _ ≤ nC t l + cst t ls
    omega
theorem sp_cst' {t : NT} {v : Nat} (w : wfN t) (hv : v < nN t) : ∀ (k u : Nat), cl t v u < k → u < nN t → dist t v u < 1000000 → allUp t (sp t v u) ∧ cst t (sp t v u) = dist t v u := by
  intro k
  induction k with
  | zero => intro u h; omega
  | succ k ih =>
    intro u hk hu hd
    by_cases q : u = v
    · rw [q, sp_v, (dist_bel w hv).1]; exact ⟨fun l hl => (by cases hl), rfl⟩
    · obtain ⟨l, hl, hU, hF, he⟩ := (dist_bel w hv).2.2.2 u hu q hd
      have ho : onB t v u l = true := onB_iff.mpr ⟨hU, hF, hd, he.symm⟩
      cases e : fstB (onB t v u) (nM t) with
      | none => rw [fstB_none e l hl] at ho; cases ho
      | some j =>
        obtain ⟨h3, h4, _⟩ := fstB_some e
        have o := on_near w h3 h4
        have h1 := cl_lt (t := t) (v := v) (u := u) o.2.1 o.1
        obtain ⟨i1, i2⟩ := ih _ (by omega) o.2.1 (by omega)
        rw [sp_cons w hu q e]
        refine ⟨fun x hx => ?_, ?_⟩
        · rcases List.mem_cons.mp hx with hx | hx
          · rw [hx]; exact o.2.2.2.2
          · exact i1 x hx
        · show nC t j + cst t (sp t v (nT t j)) = _
          rw [i2]; exact (onB_iff.mp h4).2.2.2
theorem sp_cst {t : NT} {v u : Nat} (w : wfN t) (hv : v < nN t) (hu : u < nN t) (hd : dist t v u < 1000000) : allUp t (sp t v u) ∧ cst t (sp t v u) = dist t v u := sp_cst' w hv _ u (Nat.lt_succ_self _) hu hd
theorem dist_tri {t : NT} {v x : Nat} (w : wfN t) (hv : v < nN t) (hx : x < nN t) : ∀ (k u : Nat), cl t x u < k → u < nN t → dist t v u ≤ dist t x u + dist t v x := by
  intro k
  induction k with
  | zero => intro u h; omega
  | succ k ih =>
    intro u hk hu
    by_cases q : u = x
    · rw [q]; omega
    · by_cases hd : dist t x u < 1000000
      · obtain ⟨l, hl, hU, hF, he⟩ := (dist_bel w hx).2.2.2 u hu q hd
        have hn := (w.2.2.2 l hl).2.1
        have hc := (w.2.2.2 l hl).2.2.2.1
        have h1 := cl_lt (t := t) (v := x) (u := u) hn (by omega)
        have h2 := ih _ (by omega) hn
        have h3 := (dist_bel w hv).2.2.1 l hl hU
        rw [hF] at h3
        omega
      · have := (dist_bel w hv).2.1 u hu
        omega
theorem tri {t : NT} {v x u : Nat} (w : wfN t) (hv : v < nN t) (hx : x < nN t) (hu : u < nN t) : dist t v u ≤ dist t x u + dist t v x := dist_tri w hv hx _ u (Nat.lt_succ_self _) hu
theorem cnt_pre' {t : NT} {v x : Nat} (w : wfN t) (hv : v < nN t) (hx : x < nN t) : ∀ (k u : Nat), cl t x u < k → u < nN t → dist t v u < 1000000 → dist t v u = dist t x u + dist t v x → cnt t x u ≤ cnt t v u := by
  intro k
  induction k with
  | zero => intro u h; omega
  | succ k ih =>
    intro u hk hu hd he
    by_cases q : u = x
    · rw [q, cnt_self]
      exact cnt_pos w hv hx (by omega)
    · have huv : u ≠ v := fun z => by
        rw [z, (dist_bel w hv).1] at he
        have h0 := dist_0 w hx (show v < nN t from hv) (by omega)
        exact q (z.trans h0)
      rw [cnt_rec w hx hu q, cnt_rec w hv hu huv]
      refine sumTo_le _ (fun l hl => ?_)
      by_cases ho : onB t x u l = true
      · have o := on_near w hl ho
        have oi := onB_iff.mp ho
        have h1 := cl_lt (t := t) (v := x) (u := u) o.2.1 o.1
        have h2 := tri (v := v) w hv hx o.2.1
        have h3 := (dist_bel w hv).2.2.1 l hl oi.1
        rw [oi.2.1] at h3
        have h4 := oi.2.2.2
        have ho2 : onB t v u l = true := onB_iff.mpr ⟨oi.1, oi.2.1, hd, by omega⟩
        rw [if_pos ho, if_pos ho2]
        exact ih _ (by omega) o.2.1 (by omega) (by omega)
      · rw [if_neg ho]; exact Nat.zero_le _
theorem chF_split {t : NT} {e : Nat} {ks : List Nat} : ∀ {ls : List Nat} {u : Nat}, chF t u (ls ++ ks) e → ∃ m, chF t u ls m ∧ chF t m ks e := by
  intro ls
  induction ls with
  | nil => intro u h; exact ⟨u, rfl, h⟩
  | cons l ls ih =>
    intro u h
    obtain ⟨m, h1, h2⟩ := ih h.2.2
    exact ⟨m, ⟨h.1, h.2.1, h1⟩, h2⟩
theorem chF_fun {t : NT} {e e' : Nat} : ∀ {ls : List Nat} {u : Nat}, chF t u ls e → chF t u ls e' → e = e' := by
  intro ls
  induction ls with
  | nil => intro u h1 h2; exact (show u = e from h1).symm.trans h2
  | cons l ls ih => intro u h1 h2; exact ih h1.2.2 h2.2.2
theorem cnt1_near {t : NT} {v u : Nat} (w : wfN t) (hv : v < nN t) (hu : u < nN t) (hc : cnt t v u = 1) : dist t v u < 1000000 := by
  by_cases q : dist t v u < 1000000
  · exact q
  · rw [cnt_far w hv hu q] at hc; omega
theorem sole_pre {t : NT} {v u m : Nat} {l1 l2 : List Nat} (w : wfN t) (hv : v < nN t) (hu : u < nN t) (hc : cnt t v u = 1) (hs : sp t v u = l1 ++ l2) (hm : chF t u l1 m) : cnt t m u = 1 ∧ dist t m u = cst t l1 := by
  have hd := cnt1_near w hv hu hc
  have hm' := chF_end w hu hm
  obtain ⟨s1, s2⟩ := sp_cst w hv hu hd
  have s3 := sp_ch w hv hu hd
  rw [hs] at s1 s2 s3
  rw [cst_app] at s2
  obtain ⟨m2, c1, c2⟩ := chF_split s3
  rw [chF_fun c1 hm] at c2
  have a1 := ch_le w hm' hm (fun l hl => s1 l (List.mem_append_left _ hl))
  have a2 := ch_le w hv c2 (fun l hl => s1 l (List.mem_append_right _ hl))
  have a3 := tri (v := v) w hv hm' hu
  refine ⟨?_, by omega⟩
  have b1 := cnt_pre' w hv hm' _ u (Nat.lt_succ_self _) hu hd (by omega)
  have b2 := cnt_pos w hm' hu (by omega)
  omega
theorem sole_sp {t : NT} {v : Nat} (w : wfN t) (hv : v < nN t) : ∀ {ls : List Nat} {u : Nat}, u < nN t → chF t u ls v → allUp t ls → dist t v u = cst t ls → cnt t v u = 1 → sp t v u = ls := by
  intro ls
  induction ls with
  | nil => intro u _ h _ _ _; rw [show u = v from h, sp_v]
  | cons l ls ih =>
    intro u hu h hU hd hc
    obtain ⟨w1, w2, w3, w4, w5⟩ := w.2.2.2 l h.1
    have hd : dist t v u = nC t l + cst t ls := hd
    have hn := cnt1_near w hv hu hc
    have huv : u ≠ v := fun z => by rw [z, (dist_bel w hv).1] at hd; omega
    have h1 := ch_le w hv h.2.2 (fun j hj => hU j (List.mem_cons_of_mem _ hj))
    have hUl := hU l List.mem_cons_self
    have h2 := (dist_bel w hv).2.2.1 l h.1 hUl
    rw [h.2.1] at h2
    have ho : onB t v u l = true := onB_iff.mpr ⟨hUl, h.2.1, hn, by omega⟩
    obtain ⟨j, j1, j2, j3, j4, j5, j6⟩ := sole_on w hv hu huv hc
    have := j3 l h.1 ho
    subst this
    rw [sp_cons w hu huv j4, ih w2 h.2.2 (fun j hj => hU j (List.mem_cons_of_mem _ hj)) (by omega) j6]
/-! how far the best label of a node reaches -/
noncomputable def nr (t : NT) (u : Nat) : Nat → List Nat → Nat
  | _, [] => 0
  | s, l :: ls => if nU t l = true ∧ dist t (nT t l) u = s + nC t l ∧ cnt t (nT t l) u = 1 then 1 + nr t u (s + nC t l) ls else 0
theorem nr_le {t : NT} {u : Nat} : ∀ {ls : List Nat} {s : Nat}, nr t u s ls ≤ ls.length := by
  intro ls
  induction ls with
  | nil => intro s; exact Nat.le_refl _
  | cons l ls ih =>
    intro s
    unfold nr
    rw [List.length_cons]
    split
    · have := ih (s := s + nC t l); omega
    · omega
theorem nr_take {t : NT} {u : Nat} : ∀ {ls : List Nat} {s c : Nat}, 1 ≤ c → c ≤ nr t u s ls → allUp t (ls.take c) ∧ dist t (nT t (ls.getD (c - 1) 0)) u = s + cst t (ls.take c) ∧ cnt t (nT t (ls.getD (c - 1) 0)) u = 1 := by
  intro ls
  induction ls with
  | nil => intro s c h1 h2; unfold nr at h2; omega
  | cons l ls ih =>
    intro s c h1 h2
    unfold nr at h2
    by_cases q : nU t l = true ∧ dist t (nT t l) u = s + nC t l ∧ cnt t (nT t l) u = 1
    · rw [if_pos q] at h2
      cases c with
      | zero => omega
      | succ c =>
        cases c with
        | zero =>
          refine ⟨fun x hx => ?_, ?_, ?_⟩
          · rw [show (l :: ls).take (0 + 1) = [l] from rfl] at hx
            rw [List.mem_singleton.mp hx]; exact q.1
          · show dist t (nT t l) u = s + (nC t l + 0)
            exact q.2.1
          · exact q.2.2
        | succ c =>
          obtain ⟨i1, i2, i3⟩ := ih (s := s + nC t l) (c := c + 1) (by omega) (by omega)
          refine ⟨fun x hx => ?_, ?_, i3⟩
          · rw [show (l :: ls).take (c + 1 + 1) = l :: ls.take (c + 1) from rfl] at hx
            rcases List.mem_cons.mp hx with hx | hx
            · rw [hx]; exact q.1
            · exact i1 x hx
          · show dist t (nT t (ls.getD (c + 1 - 1) 0)) u = s + (nC t l + cst t (ls.take (c + 1)))
            rw [i2]; omega
    · rw [if_neg q] at h2; omega
theorem nr_ge {t : NT} {u : Nat} : ∀ {ls : List Nat} {s c : Nat}, c ≤ ls.length → (∀ p, 1 ≤ p → p ≤ c → nU t (ls.getD (p - 1) 0) = true ∧ dist t (nT t (ls.getD (p - 1) 0)) u = s + cst t (ls.take p) ∧ cnt t (nT t (ls.getD (p - 1) 0)) u = 1) → c ≤ nr t u s ls := by
  intro ls
  induction ls with
  | nil => intro s c h1 _; exact h1
  | cons l ls ih =>
    intro s c h1 h2
    cases c with
    | zero => exact Nat.zero_le _
    | succ c =>
      have q := h2 1 (by omega) (by omega)
      have q : nU t l = true ∧ dist t (nT t l) u = s + (nC t l + 0) ∧ cnt t (nT t l) u = 1 := q
      unfold nr
      rw [if_pos ⟨q.1, q.2.1, q.2.2⟩]
      have := ih (s := s + nC t l) (c := c) (by rw [List.length_cons] at h1; omega) (fun p p1 p2 => by
        have h3 := h2 (p + 1) (by omega) (by omega)
        cases p with
        | zero => omega
        | succ p =>
          have h3 : nU t (ls.getD (p + 1 - 1) 0) = true ∧ dist t (nT t (ls.getD (p + 1 - 1) 0)) u = s + (nC t l + cst t (ls.take (p + 1))) ∧ cnt t (nT t (ls.getD (p + 1 - 1) 0)) u = 1 := h3
          exact ⟨h3.1, by rw [h3.2.1]; omega, h3.2.2⟩)
      omega
/-- the chain's first so many links -/
theorem chF_take {t : NT} {e : Nat} : ∀ {ls : List Nat} {u c : Nat}, chF t u ls e → 1 ≤ c → c ≤ ls.length → chF t u (ls.take c) (nT t (ls.getD (c - 1) 0)) := by
  intro ls
  induction ls with
  | nil => intro u c _ h1 h2; simp at h2; omega
  | cons l ls ih =>
    intro u c h h1 h2
    cases c with
    | zero => omega
    | succ c =>
      cases c with
      | zero => exact ⟨h.1, h.2.1, rfl⟩
      | succ c =>
        have := ih (c := c + 1) h.2.2 (by omega) (by rw [List.length_cons] at h2; omega)
        exact ⟨h.1, h.2.1, this⟩
theorem take_is {ls : List Nat} {T : List Nat} (h : T <+: ls) : T = ls.take T.length := by
  obtain ⟨r, rfl⟩ := h
  rw [List.take_left]
/-- which labels of nodes cover how many links -/
theorem node_cov {t : NT} {u e v c : Nat} {ls : List Nat} (w : wfN t) (hu : u < nN t) (hch : chF t u ls e) (hc : 1 ≤ c) : (v < nN t ∧ cnt t v u = 1 ∧ sp t v u <+: ls ∧ (sp t v u).length = c) ↔ (c ≤ nr t u 0 ls ∧ v = nT t (ls.getD (c - 1) 0)) := by
  constructor
  · rintro ⟨hv, h1, h2, h3⟩
    have hcl : c ≤ ls.length := by
      have := h2.length_le
      omega
    have hs : sp t v u = ls.take c := by rw [take_is h2, h3]
    have hd := cnt1_near w hv hu h1
    have hch2 := sp_ch w hv hu hd
    rw [hs] at hch2
    have hve : v = nT t (ls.getD (c - 1) 0) := chF_fun hch2 (chF_take hch hc hcl)
    refine ⟨nr_ge hcl (fun p p1 p2 => ?_), hve⟩
    have hcp := chF_take hch p1 (by omega)
    have hsplit : sp t v u = ls.take p ++ (ls.take c).drop p := by
      rw [hs]
      have : ls.take p = (ls.take c).take p := by rw [List.take_take, Nat.min_eq_left p2]
      rw [this, List.take_append_drop]
    obtain ⟨a1, a2⟩ := sole_pre w hv hu h1 hsplit hcp
    refine ⟨?_, by rw [a2]; omega, a1⟩
    have hup := (sp_cst w hv hu hd).1
    refine hup _ ?_
    rw [hsplit]
    refine List.mem_append_left _ ?_
    have hlt : p - 1 < (ls.take p).length := by rw [List.length_take]; omega
    have := List.getElem_mem hlt
    have e : (ls.take p)[p - 1] = ls.getD (p - 1) 0 := by
      rw [List.getElem_take, List.getD_eq_getElem?_getD, List.getElem?_eq_getElem (by omega)]
      rfl
    rw [e] at this
    exact this
  · rintro ⟨h1, rfl⟩
    have hcl : c ≤ ls.length := Nat.le_trans h1 nr_le
    obtain ⟨a1, a2, a3⟩ := nr_take hc h1
    have hct := chF_take hch hc hcl
    have hv := chF_end w hu hct
    have hs := sole_sp w hv hu hct a1 (by rw [a2]; omega) a3
    refine ⟨hv, a3, ?_, ?_⟩
    · rw [hs]; exact List.take_prefix _ _
    · rw [hs, List.length_take]; omega
