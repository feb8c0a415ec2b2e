/-! ===== the tape, apart from both heaps ===== -/
/-- the byte at a place, 256 where there is none -/
def bt (P : List Nat) (i : Nat) : Nat := P.getD i 256
def okP (P : List Nat) : Prop := P.length ≤ 500 ∧ ∀ i, i < P.length → P.getD i 0 < 256
theorem bt_in {P : List Nat} {i : Nat} (h : i < P.length) : bt P i = P.getD i 0 := by
  unfold bt
  rw [List.getD_eq_getElem?_getD, List.getD_eq_getElem?_getD, List.getElem?_eq_getElem h]
  rfl
theorem bt_out {P : List Nat} {i : Nat} (h : P.length ≤ i) : bt P i = 256 := by
  unfold bt
  rw [List.getD_eq_getElem?_getD, List.getElem?_eq_none h]
  rfl
theorem bt_lt {P : List Nat} {i : Nat} (h : okP P) : bt P i < 256 ↔ i < P.length := by
  by_cases q : i < P.length
  · rw [bt_in q]; exact ⟨fun _ => q, fun _ => h.2 i q⟩
  · rw [bt_out (by omega)]; exact ⟨fun z => by omega, fun z => absurd z q⟩
abbrev isLt (n : Nat) : Prop := 97 ≤ n ∧ n ≤ 122
abbrev isDg (n : Nat) : Prop := 48 ≤ n ∧ n ≤ 57
/-- how many in a row are so -/
def rnF (p : Nat → Bool) : Nat → Nat → Nat
  | 0, _ => 0
  | k + 1, i => if p i = true then rnF p k (i + 1) + 1 else 0
theorem rnF_is {p : Nat → Bool} {L : Nat} (hL : ∀ i, L ≤ i → p i = false) : ∀ (k i : Nat), L < i + k → (∀ j, j < rnF p k i → p (i + j) = true) ∧ p (i + rnF p k i) = false := by
  intro k
  induction k with
  | zero => intro i h; exact ⟨fun j hj => absurd hj (Nat.not_lt_zero _), hL _ (by show L ≤ i + 0; omega)⟩
  | succ k ih =>
    intro i h
    unfold rnF
    by_cases q : p i = true
    · rw [if_pos q]
      obtain ⟨h1, h2⟩ := ih (i + 1) (by omega)
      refine ⟨fun j hj => ?_, by rw [show i + (rnF p k (i + 1) + 1) = i + 1 + rnF p k (i + 1) by omega]; exact h2⟩
      cases j with
      | zero => exact q
      | succ j => rw [show i + (j + 1) = i + 1 + j by omega]; exact h1 j (by omega)
    · rw [if_neg q]
      exact ⟨fun j hj => absurd hj (Nat.not_lt_zero _), by cases e : p (i + 0) with | false => rfl | true => exact absurd e q⟩
theorem rn_uniq {p : Nat → Bool} {i a b : Nat} (ha : (∀ j, j < a → p (i + j) = true) ∧ p (i + a) = false) (hb : (∀ j, j < b → p (i + j) = true) ∧ p (i + b) = false) : a = b := by
  rcases Nat.lt_trichotomy a b with h | h | h
  · have := hb.1 a h; rw [ha.2] at this; cases this
  · exact h
  · have := ha.1 b h; rw [hb.2] at this; cases this
def rn (p : Nat → Bool) (i : Nat) : Nat := rnF p 501 i
theorem rn_is {p : Nat → Bool} {P : List Nat} (h : okP P) (hp : ∀ i, P.length ≤ i → p i = false) (i : Nat) : (∀ j, j < rn p i → p (i + j) = true) ∧ p (i + rn p i) = false := rnF_is (L := P.length) hp 501 i (by have := h.1; omega)
def bkB (P : List Nat) (i : Nat) : Bool := decide (bt P i = 32)
def ltB (P : List Nat) (i : Nat) : Bool := decide (isLt (bt P i))
def dgB (P : List Nat) (i : Nat) : Bool := decide (isDg (bt P i))
theorem bk_out {P : List Nat} : ∀ i, P.length ≤ i → bkB P i = false := fun i hi => by unfold bkB; rw [bt_out hi]; decide
theorem lt_out {P : List Nat} : ∀ i, P.length ≤ i → ltB P i = false := fun i hi => by unfold ltB; rw [bt_out hi]; decide
theorem dg_out {P : List Nat} : ∀ i, P.length ≤ i → dgB P i = false := fun i hi => by unfold dgB; rw [bt_out hi]; decide
/-- behind the blanks -/
def skp (P : List Nat) (i : Nat) : Nat := i + rn (bkB P) i
theorem rn_in {p : Nat → Bool} {P : List Nat} (h : okP P) (hp : ∀ i, P.length ≤ i → p i = false) {i : Nat} (hi : i ≤ P.length) : i + rn p i ≤ P.length := by
  apply Classical.byContradiction
  intro q
  have := (rn_is h hp i).1 (P.length - i) (by omega)
  rw [hp _ (by omega)] at this
  cases this
theorem skp_in {P : List Nat} (h : okP P) {i : Nat} (hi : i ≤ P.length) : i ≤ skp P i ∧ skp P i ≤ P.length := ⟨Nat.le_add_right _ _, rn_in h bk_out hi⟩
theorem skp_not {P : List Nat} (h : okP P) {i : Nat} : ¬ bt P (skp P i) = 32 := of_decide_eq_false (show decide (bt P (skp P i) = 32) = false from (rn_is h bk_out i).2)
theorem rn_step {p : Nat → Bool} {P : List Nat} (h : okP P) (hp : ∀ i, P.length ≤ i → p i = false) {i : Nat} (hi : p i = true) : i + rn p i = i + 1 + rn p (i + 1) := by
  have h1 := rn_is h hp (i + 1)
  have : rn p i = rn p (i + 1) + 1 := by
    refine rn_uniq (rn_is h hp i) ⟨fun j hj => ?_, by rw [show i + (rn p (i + 1) + 1) = i + 1 + rn p (i + 1) by omega]; exact h1.2⟩
    cases j with
    | zero => exact hi
    | succ j => rw [show i + (j + 1) = i + 1 + j by omega]; exact h1.1 j (by omega)
  omega
theorem rn_stop {p : Nat → Bool} {P : List Nat} (h : okP P) (hp : ∀ i, P.length ≤ i → p i = false) {i : Nat} (hi : p i = false) : rn p i = 0 := rn_uniq (rn_is h hp i) ⟨fun j hj => absurd hj (Nat.not_lt_zero _), hi⟩
theorem skp_step {P : List Nat} (h : okP P) {i : Nat} (hi : bt P i = 32) : skp P i = skp P (i + 1) := rn_step h bk_out (decide_eq_true hi)
theorem skp_stop {P : List Nat} (h : okP P) {i : Nat} (hi : ¬ bt P i = 32) : skp P i = i := by unfold skp; rw [rn_stop h bk_out (decide_eq_false hi)]; rfl
theorem skp_skp {P : List Nat} (h : okP P) {i : Nat} : skp P (skp P i) = skp P i := skp_stop h (skp_not h)
/-! words -/
def wdL : List (List Nat) := [[110, 111, 100, 101, 115], [108, 105, 110, 107], [100, 111, 119, 110], [98, 105, 110, 100], [97, 116], [110], [108]]
def wd (s : Nat) : List Nat := wdL.getD s []
theorem wd_len : ∀ s, s < 7 → strL s = some (nI (wd s).length) := by decide
theorem wd_chr : ∀ s, s < 7 → ∀ k, k < (wd s).length → strC s (nI k) = some (nI ((wd s).getD k 0)) := by decide
theorem wd_lt : ∀ s, s < 7 → ∀ k, k < (wd s).length → isLt ((wd s).getD k 0) := by decide
theorem wd_5 : ∀ s, s < 7 → (wd s).length ≤ 5 ∧ 0 < (wd s).length := by decide
abbrev isWd (P : List Nat) (s i : Nat) : Prop := (∀ k, k < (wd s).length → bt P (i + k) = (wd s).getD k 0) ∧ ¬ isLt (bt P (i + (wd s).length))
theorem isWd_in {P : List Nat} {s i : Nat} (h : okP P) (hs : s < 7) (hw : isWd P s i) : i + (wd s).length ≤ P.length := by
  have h0 := (wd_5 s hs).2
  have h1 := hw.1 ((wd s).length - 1) (by omega)
  have h2 := wd_lt s hs ((wd s).length - 1) (by omega)
  have h3 := (bt_lt (i := i + ((wd s).length - 1)) h).mp (by rw [h1]; omega)
  omega
theorem isWd_rn {P : List Nat} {s i : Nat} (h : okP P) (hs : s < 7) : isWd P s i ↔ rn (ltB P) i = (wd s).length ∧ ∀ k, k < (wd s).length → bt P (i + k) = (wd s).getD k 0 := by
  constructor
  · intro w
    refine ⟨rn_uniq (rn_is h lt_out i) ⟨fun j hj => ?_, decide_eq_false w.2⟩, w.1⟩
    unfold ltB
    rw [w.1 j hj]
    exact decide_eq_true (wd_lt s hs j hj)
  · rintro ⟨e, w⟩
    refine ⟨w, fun z => ?_⟩
    have := (rn_is h lt_out i).2
    rw [e] at this
    unfold ltB at this
    rw [decide_eq_true z] at this
    cases this
/-! numbers -/
def dv (P : List Nat) (i : Nat) : Nat → Nat
  | 0 => 0
  | n + 1 => 10 * dv P i n + (bt P (i + n) - 48)
/-- what stands at a place: a fault, or a number and the place behind it -/
def nmb (P : List Nat) (i lo hi : Nat) : (Nat × Nat) ⊕ (Nat × Nat) := if rn (dgB P) i = 0 then .inl (1, i) else if lo ≤ dv P i (rn (dgB P) i) ∧ dv P i (rn (dgB P) i) ≤ hi then .inr (dv P i (rn (dgB P) i), i + rn (dgB P) i) else .inl (2, i)
theorem nmb_ok {P : List Nat} {i lo hi v e : Nat} (h : okP P) (hi' : i ≤ P.length) (n : nmb P i lo hi = .inr (v, e)) : lo ≤ v ∧ v ≤ hi ∧ i < e ∧ e ≤ P.length := by
  unfold nmb at n
  by_cases q : rn (dgB P) i = 0
  · rw [if_pos q] at n; cases n
  · rw [if_neg q] at n
    by_cases q2 : lo ≤ dv P i (rn (dgB P) i) ∧ dv P i (rn (dgB P) i) ≤ hi
    · rw [if_pos q2] at n
      have := Sum.inr.inj n
      have h1 : dv P i (rn (dgB P) i) = v := congrArg Prod.fst this
      have h2 : i + rn (dgB P) i = e := congrArg Prod.snd this
      have := rn_in h dg_out hi'
      omega
    · rw [if_neg q2] at n; cases n
