/-! ===== rows counted from either end ===== -/
theorem sumTo_swap {f : Nat → Nat → Nat} {m : Nat} : ∀ n, sumTo (fun i => sumTo (fun j => f i j) m) n = sumTo (fun j => sumTo (fun i => f i j) n) m := by
  intro n
  induction n with
  | zero => exact (sumTo_zero m).symm
  | succ n ih =>
    show sumTo _ n + sumTo (fun j => f n j) m = sumTo (fun j => sumTo (fun i => f i j) n + f n j) m
    rw [ih, sumTo_add]
/-- the sum over all rows of n -/
def Sn (m : Nat) : Nat → (List Nat → Nat) → Nat
  | 0, f => f []
  | n + 1, f => sumTo (fun l => Sn m n (fun R => f (l :: R))) m
theorem Sn_s {m n : Nat} {f : List Nat → Nat} : Sn m (n + 1) f = sumTo (fun l => Sn m n (fun R => f (l :: R))) m := rfl
theorem Sn_cg {m : Nat} : ∀ (n : Nat) {f g : List Nat → Nat}, (∀ R, (∀ l, l ∈ R → l < m) → f R = g R) → Sn m n f = Sn m n g := by
  intro n
  induction n with
  | zero => intro f g h; exact h [] (fun l hl => by cases hl)
  | succ n ih =>
    intro f g h
    rw [Sn_s, Sn_s]
    refine sumTo_congr _ (fun l hl => ih (fun R hR => h _ (fun x hx => ?_)))
    rcases List.mem_cons.mp hx with e | e
    · rw [e]; exact hl
    · exact hR x e
theorem Sn_zero {m : Nat} : ∀ n, Sn m n (fun _ => 0) = 0 := by
  intro n
  induction n with
  | zero => rfl
  | succ n ih =>
    rw [Sn_s, show (fun l : Nat => Sn m n (fun R => (fun _ : List Nat => 0) (l :: R))) = fun _ => 0 from funext (fun _ => ih)]
    exact sumTo_zero m
theorem Sn_snoc {m : Nat} : ∀ (n : Nat) {f : List Nat → Nat}, Sn m (n + 1) f = sumTo (fun l => Sn m n (fun R => f (R ++ [l]))) m := by
  intro n
  induction n with
  | zero => intro f; rfl
  | succ n ih =>
    intro f
    rw [Sn_s]
    rw [show (fun l => Sn m (n + 1) (fun R => f (l :: R))) = fun l => sumTo (fun l' => Sn m n (fun R => f (l :: (R ++ [l'])))) m from funext (fun l => ih)]
    rw [sumTo_swap]
    rfl
theorem Sn_rev {m : Nat} : ∀ (n : Nat) {f : List Nat → Nat}, Sn m n (fun R => f R.reverse) = Sn m n f := by
  intro n
  induction n with
  | zero => intro f; rfl
  | succ n ih =>
    intro f
    rw [Sn_snoc n (f := f), Sn_s]
    refine sumTo_congr _ (fun l hl => ?_)
    rw [← ih (f := fun R => f (R ++ [l]))]
    refine Sn_cg n (fun R _ => ?_)
    rw [List.reverse_cons]
section CW
variable (F T : Nat → Nat) (U : Nat → Bool) (m g : Nat) (f : List Nat → Nat)
/-- what a walk counts -/
def cw : Nat → List Nat → List Nat → Nat → Nat
  | 0, _, P, u => if u = g then f P else 0
  | j + 1, sn, P, u => if u = g then f P else sumTo (fun l => if F l = u ∧ U l = true ∧ T l ∉ sn then cw j (T l :: sn) (P ++ [l]) (T l) else 0) m
def okG : List Nat → Nat → List Nat → Bool
  | _, u, [] => decide (u = g)
  | sn, u, l :: R => decide (F l = u ∧ U l = true ∧ T l ∉ sn) && okG (T l :: sn) (T l) R
variable {F T U m g f}
theorem okG_c {sn : List Nat} {u l : Nat} {R : List Nat} : okG F T U g sn u (l :: R) = (decide (F l = u ∧ U l = true ∧ T l ∉ sn) && okG F T U g (T l :: sn) (T l) R) := rfl
theorem okG_seen : ∀ (R : List Nat) {sn : List Nat} {u l : Nat}, g ∈ sn → okG F T U g sn u (l :: R) = false := by
  intro R
  induction R with
  | nil =>
    intro sn u l h
    rw [okG_c]
    by_cases q : T l = g
    · rw [decide_eq_false (fun z => z.2.2 (by rw [q]; exact h))]; rfl
    · rw [show okG F T U g (T l :: sn) (T l) [] = decide (T l = g) from rfl, decide_eq_false q, Bool.and_false]
  | cons k R ih =>
    intro sn u l h
    rw [okG_c, ih (List.mem_cons_of_mem _ h), Bool.and_false]
theorem cw_s {j : Nat} {sn P : List Nat} {u : Nat} : cw F T U m g f (j + 1) sn P u = if u = g then f P else sumTo (fun l => if F l = u ∧ U l = true ∧ T l ∉ sn then cw F T U m g f j (T l :: sn) (P ++ [l]) (T l) else 0) m := rfl
theorem cw_g {j : Nat} {sn P : List Nat} : cw F T U m g f j sn P g = f P := by
  cases j with
  | zero => exact if_pos rfl
  | succ j => rw [cw_s, if_pos rfl]
theorem cw_sum : ∀ (j : Nat) (sn P : List Nat) (u : Nat), u ∈ sn → cw F T U m g f j sn P u = sumTo (fun n => Sn m n (fun R => if okG F T U g sn u R = true then f (P ++ R) else 0)) (j + 1) := by
  intro j
  induction j with
  | zero =>
    intro sn P u hu
    show (if u = g then f P else 0) = 0 + (if decide (u = g) = true then f (P ++ []) else 0)
    rw [List.append_nil, Nat.zero_add]
    by_cases q : u = g
    · rw [if_pos q, if_pos (decide_eq_true q)]
    · rw [if_neg q, if_neg (by rw [decide_eq_false q]; decide)]
  | succ j ih =>
    intro sn P u hu
    rw [cw_s, show j + 1 + 1 = 1 + (j + 1) by omega, sumTo_app 1 (j + 1)]
    have e1 : sumTo (fun n => Sn m n (fun R => if okG F T U g sn u R = true then f (P ++ R) else 0)) 1 = if u = g then f P else 0 := by
      show 0 + (if decide (u = g) = true then f (P ++ []) else 0) = _
      rw [List.append_nil, Nat.zero_add]
      by_cases q : u = g
      · rw [if_pos q, if_pos (decide_eq_true q)]
      · rw [if_neg q, if_neg (by rw [decide_eq_false q]; decide)]
    rw [e1]
    by_cases q : u = g
    · rw [if_pos q, if_pos q]
      have : ∀ i, Sn m (1 + i) (fun R => if okG F T U g sn u R = true then f (P ++ R) else 0) = 0 := fun i => by
        rw [Nat.add_comm, Sn_s]
        have e : (fun l => Sn m i (fun R => (fun R => if okG F T U g sn u R = true then f (P ++ R) else 0) (l :: R))) = fun _ => 0 := by
          funext l
          refine (Sn_cg i (g := fun _ => 0) (fun R _ => ?_)).trans (Sn_zero i)
          show (if okG F T U g sn u (l :: R) = true then f (P ++ (l :: R)) else 0) = 0
          rw [okG_seen R (by rw [← q]; exact hu)]
          rfl
        rw [e]
        exact sumTo_zero m
      rw [show (fun i => Sn m (1 + i) (fun R => if okG F T U g sn u R = true then f (P ++ R) else 0)) = fun _ => 0 from funext this, sumTo_zero]
      rfl
    · rw [if_neg q, if_neg q, Nat.zero_add]
      have e2 : ∀ i, Sn m (1 + i) (fun R => if okG F T U g sn u R = true then f (P ++ R) else 0) = sumTo (fun l => Sn m i (fun R => if okG F T U g sn u (l :: R) = true then f (P ++ (l :: R)) else 0)) m := fun i => by
        rw [Nat.add_comm, Sn_s]
      rw [show (fun i => Sn m (1 + i) (fun R => if okG F T U g sn u R = true then f (P ++ R) else 0)) = fun i => sumTo (fun l => Sn m i (fun R => if okG F T U g sn u (l :: R) = true then f (P ++ (l :: R)) else 0)) m from funext e2, sumTo_swap]
      refine sumTo_congr _ (fun l hl => ?_)
      by_cases c : F l = u ∧ U l = true ∧ T l ∉ sn
      · rw [if_pos c, ih _ _ _ List.mem_cons_self]
        refine sumTo_congr _ (fun i hi => Sn_cg i (fun R _ => ?_))
        rw [okG_c, decide_eq_true c, Bool.true_and, List.append_assoc]
        rfl
      · rw [if_neg c]
        have : (fun i => Sn m i (fun R => if okG F T U g sn u (l :: R) = true then f (P ++ (l :: R)) else 0)) = fun _ => 0 := by
          funext i
          refine (Sn_cg i (g := fun _ => 0) (fun R _ => ?_)).trans (Sn_zero i)
          rw [okG_c, decide_eq_false c, Bool.false_and]
          rfl
        rw [this, sumTo_zero]
/-! the same row from the other end -/
def chn (F T : Nat → Nat) : Nat → List Nat → Nat → Prop
  | u, [], e => u = e
  | u, l :: R, e => F l = u ∧ chn F T (T l) R e
theorem chn_snoc {l e : Nat} : ∀ {R : List Nat} {u : Nat}, chn F T u (R ++ [l]) e ↔ chn F T u R (F l) ∧ T l = e := by
  intro R
  induction R with
  | nil => intro u; exact ⟨fun h => ⟨h.1.symm, h.2⟩, fun h => ⟨h.1.symm, h.2⟩⟩
  | cons k R ih =>
    intro u
    show F k = u ∧ chn F T (T k) (R ++ [l]) e ↔ (F k = u ∧ chn F T (T k) R (F l)) ∧ T l = e
    rw [ih, and_assoc]
theorem chn_rev : ∀ {R : List Nat} {u e : Nat}, chn F T u R e → chn T F e R.reverse u := by
  intro R
  induction R with
  | nil => intro u e h; exact h.symm
  | cons l R ih =>
    intro u e h
    rw [List.reverse_cons]
    exact chn_snoc.mpr ⟨ih h.2, h.1⟩
theorem chn_nodes : ∀ {R : List Nat} {u e : Nat}, chn F T u R e → u :: R.map T = R.map F ++ [e] := by
  intro R
  induction R with
  | nil => intro u e h; show [u] = [e]; rw [show u = e from h]
  | cons l R ih =>
    intro u e h
    show u :: (T l :: R.map T) = F l :: (R.map F ++ [e])
    rw [ih h.2, h.1]
theorem okG_iff : ∀ {R : List Nat} {sn : List Nat} {u : Nat}, okG F T U g sn u R = true ↔ chn F T u R g ∧ (∀ l, l ∈ R → U l = true) ∧ (R.map T).Nodup ∧ ∀ x, x ∈ R.map T → x ∉ sn := by
  intro R
  induction R with
  | nil =>
    intro sn u
    show decide (u = g) = true ↔ _
    rw [decide_eq_true_iff]
    exact ⟨fun h => ⟨h, fun l hl => (by cases hl), List.nodup_nil, fun x hx => (by cases hx)⟩, fun h => h.1⟩
  | cons l R ih =>
    intro sn u
    rw [okG_c, Bool.and_eq_true, decide_eq_true_iff, ih]
    constructor
    · rintro ⟨⟨a1, a2, a3⟩, b1, b2, b3, b4⟩
      refine ⟨⟨a1, b1⟩, fun k hk => ?_, ?_, fun x hx => ?_⟩
      · rcases List.mem_cons.mp hk with e | e
        · rw [e]; exact a2
        · exact b2 k e
      · exact List.nodup_cons.mpr ⟨fun z => b4 _ z List.mem_cons_self, b3⟩
      · rcases List.mem_cons.mp hx with e | e
        · rw [e]; exact a3
        · exact fun z => b4 x e (List.mem_cons_of_mem _ z)
    · rintro ⟨⟨a1, b1⟩, a2, a3, a4⟩
      have a3 : (T l :: R.map T).Nodup := a3
      rw [List.nodup_cons] at a3
      refine ⟨⟨a1, a2 l List.mem_cons_self, a4 _ List.mem_cons_self⟩, b1, fun k hk => a2 k (List.mem_cons_of_mem _ hk), a3.2, fun x hx z => ?_⟩
      rcases List.mem_cons.mp z with e | e
      · rw [e] at hx; exact a3.1 hx
      · exact a4 x (List.mem_cons_of_mem _ hx) e
theorem okG_rev' {a b : Nat} {R : List Nat} (h : okG F T U b [a] a R = true) : okG T F U a [b] b R.reverse = true := by
  obtain ⟨h1, h2, h3, h4⟩ := okG_iff.mp h
  have hn := chn_nodes h1
  have hnd : (a :: R.map T).Nodup := List.nodup_cons.mpr ⟨fun z => h4 a z List.mem_cons_self, h3⟩
  rw [hn] at hnd
  have hr : (R.map F ++ [b]).reverse.Nodup := List.pairwise_reverse.mpr (hnd.imp (fun h => h.symm))
  rw [List.reverse_append] at hr
  have hr : (b :: (R.map F).reverse).Nodup := hr
  rw [List.nodup_cons, ← List.map_reverse] at hr
  refine okG_iff.mpr ⟨chn_rev h1, fun l hl => h2 l (List.mem_reverse.mp hl), hr.2, fun x hx z => ?_⟩
  rcases List.mem_cons.mp z with e | e
  · rw [e] at hx; exact hr.1 hx
  · cases e
theorem okG_rev {a b : Nat} {R : List Nat} : okG T F U a [b] b R.reverse = okG F T U b [a] a R := by
  cases e : okG F T U b [a] a R with
  | true => exact okG_rev' e
  | false =>
    cases e' : okG T F U a [b] b R.reverse with
    | false => rfl
    | true =>
      have := okG_rev' e'
      rw [List.reverse_reverse, e] at this
      cases this
theorem cw_rev {a b k : Nat} : cw T F U m a (fun Q => f Q.reverse) k [b] [] b = cw F T U m b f k [a] [] a := by
  rw [cw_sum _ _ _ _ List.mem_cons_self, cw_sum _ _ _ _ List.mem_cons_self]
  refine sumTo_congr _ (fun n _ => ?_)
  rw [← Sn_rev n]
  refine Sn_cg n (fun R _ => ?_)
  show (if okG T F U a [b] b R.reverse = true then f ([] ++ R.reverse).reverse else 0) = (if okG F T U b [a] a R = true then f ([] ++ R) else 0)
  rw [okG_rev, List.nil_append, List.reverse_reverse, List.nil_append]
end CW
