/-! ===== tools for the turned methods: Ev x P: x comes to a value, and P of it ===== -/
def Ev {α : Type} (x : Option α) (P : α → Prop) : Prop := ∃ v, x = some v ∧ P v
theorem Ev_some {α : Type} {v : α} {P : α → Prop} (h : P v) : Ev (some v) P := ⟨v, rfl, h⟩
theorem Ev_bind {α β : Type} {x : Option α} {k : α → Option β} {P : β → Prop} (h : Ev x (fun v => Ev (k v) P)) : Ev (x.bind k) P := by
  obtain ⟨v, rfl, h⟩ := h
  exact h
theorem Ev_eq {α β : Type} {x : Option α} {v : α} {k : α → Option β} {P : β → Prop} (e : x = some v) (h : Ev (k v) P) : Ev (x.bind k) P := by
  subst e
  exact h
theorem Ev_to {α β : Type} {x : Option α} {Q : α → Prop} {k : α → Option β} {P : β → Prop} (e : Ev x Q) (h : ∀ v, Q v → Ev (k v) P) : Ev (x.bind k) P := by
  obtain ⟨v, rfl, hq⟩ := e
  exact h v hq
theorem Ev_lt {α β : Type} {e : α} {k : α → Option β} {P : β → Prop} (h : Ev (k e) P) : Ev (lt e k) P := h
theorem Ev_if {α : Type} {c : Prop} [Decidable c] {A B : Option α} {P : α → Prop} (h1 : c → Ev A P) (h2 : ¬ c → Ev B P) : Ev (if c then A else B) P := by
  by_cases h : c
  · rw [if_pos h]; exact h1 h
  · rw [if_neg h]; exact h2 h
theorem Ev_pos {α : Type} {c : Prop} [Decidable c] {A B : Option α} {P : α → Prop} (hc : c) (h1 : Ev A P) : Ev (if c then A else B) P := by
  rw [if_pos hc]; exact h1
theorem Ev_neg {α : Type} {c : Prop} [Decidable c] {A B : Option α} {P : α → Prop} (hc : ¬ c) (h1 : Ev B P) : Ev (if c then A else B) P := by
  rw [if_neg hc]; exact h1
theorem Ev_mono {α : Type} {x : Option α} {P P' : α → Prop} (h : Ev x P) (hp : ∀ v, P v → P' v) : Ev x P' := by
  obtain ⟨v, e, h⟩ := h
  exact ⟨v, e, hp v h⟩
/-- a loop: a measure k that falls, an invariant I -/
theorem Ev_lp {P R : Type} {body : (P → MH → Option R) → P → MH → Option R} {Post : R → Prop} (I : Nat → P → MH → Prop)
    (hb : ∀ (k : Nat) (p : P) (h : MH) (rec : P → MH → Option R), I k p h → (∀ (k' : Nat) (p' : P) (h' : MH), k' < k → I k' p' h' → Ev (rec p' h') Post) → Ev (body rec p h) Post) :
    ∀ (n k : Nat) (p : P) (h : MH), k < n → I k p h → Ev (lp body n p h) Post := by
  intro n
  induction n with
  | zero => intro k p h hk; omega
  | succ n ih =>
    intro k p h hk hI
    exact hb k p h (lp body n) hI (fun k' p' h' hk' hI' => ih k' p' h' (by omega) hI')
theorem Ev_FU {P R : Type} {body : (P → MH → Option R) → P → MH → Option R} {Post : R → Prop} (I : Nat → P → MH → Prop) (k : Nat) (p : P) (h : MH) (hk : k < 5000) (hI : I k p h)
    (hb : ∀ (k : Nat) (p : P) (h : MH) (rec : P → MH → Option R), I k p h → (∀ (k' : Nat) (p' : P) (h' : MH), k' < k → I k' p' h' → Ev (rec p' h') Post) → Ev (body rec p h) Post) : Ev (lp body FU p h) Post :=
  Ev_lp I hb FU k p h hk hI
/-! the heap's reads and writes -/
theorem gI_sI (h : MH) (a k b j : Nat) (v : Int32) : gI (sI h a k v) b j = if b = a ∧ j = k then v else gI h b j := rfl
theorem gI_sI_ne {h : MH} {a k b j : Nat} {v : Int32} (hb : b ≠ a) : gI (sI h a k v) b j = gI h b j := by rw [gI_sI, if_neg (fun q => hb q.1)]
theorem gI_sI_nk {h : MH} {a k b j : Nat} {v : Int32} (hb : j ≠ k) : gI (sI h a k v) b j = gI h b j := by rw [gI_sI, if_neg (fun q => hb q.2)]
theorem gI_sI_f {h : MH} {a k b : Nat} {v : Int32} (hb : b ≠ a) : gI (sI h a k v) b = gI h b := by funext j; exact gI_sI_ne hb
theorem gL_sI (h : MH) (a k : Nat) (v : Int32) : gL (sI h a k v) = gL h := rfl
theorem gR_sI (h : MH) (a k : Nat) (v : Int32) : gR (sI h a k v) = gR h := rfl
theorem gN_sI (h : MH) (a k : Nat) (v : Int32) : gN (sI h a k v) = gN h := rfl
theorem gZ_sI (h : MH) (a k : Nat) (v : Int32) : gZ (sI h a k v) = gZ h := rfl
theorem gL_sL (h : MH) (a k b j : Nat) (v : Int64) : gL (sL h a k v) b j = if b = a ∧ j = k then v else gL h b j := rfl
theorem gL_sL_ne {h : MH} {a k b j : Nat} {v : Int64} (hb : b ≠ a) : gL (sL h a k v) b j = gL h b j := by rw [gL_sL, if_neg (fun q => hb q.1)]
theorem gL_sL_f {h : MH} {a k b : Nat} {v : Int64} (hb : b ≠ a) : gL (sL h a k v) b = gL h b := by funext j; exact gL_sL_ne hb
theorem gI_sL (h : MH) (a k : Nat) (v : Int64) : gI (sL h a k v) = gI h := rfl
theorem gR_sL (h : MH) (a k : Nat) (v : Int64) : gR (sL h a k v) = gR h := rfl
theorem gN_sL (h : MH) (a k : Nat) (v : Int64) : gN (sL h a k v) = gN h := rfl
theorem gZ_sL (h : MH) (a k : Nat) (v : Int64) : gZ (sL h a k v) = gZ h := rfl
theorem nI_nn {i : Nat} (h : i < 2 ^ 31) : ¬ nI i < 0 := nI_pos h
theorem ix_ok {i n : Nat} (hi : i < n) (hn : i < 2 ^ 31) : ¬ (nI i < 0 ∨ n ≤ (nI i).toNatClampNeg) := by
  rw [nI_clamp hn]
  intro q
  rcases q with q | q
  · exact nI_nn hn q
  · omega
theorem ldI_ok {h : MH} {a i : Nat} (hi : i < gN h a) (hn : i < 2 ^ 31) : ldI h a (nI i) = some (gI h a i) := by
  unfold ldI
  rw [if_neg (ix_ok hi hn), nI_clamp hn]
theorem ldL_ok {h : MH} {a i : Nat} (hi : i < gN h a) (hn : i < 2 ^ 31) : ldL h a (nI i) = some (gL h a i) := by
  unfold ldL
  rw [if_neg (ix_ok hi hn), nI_clamp hn]
theorem ldR_ok {h : MH} {a i b : Nat} (hi : i < gN h a) (hn : i < 2 ^ 31) (hb : gR h a i = some b) : ldR h a (nI i) = some b := by
  unfold ldR
  rw [if_neg (ix_ok hi hn), nI_clamp hn]; exact hb
theorem stI_ok {h : MH} {a i : Nat} {v : Int32} (hi : i < gN h a) (hn : i < 2 ^ 31) : stI h a (nI i) v = some (sI h a i v) := by
  unfold stI
  rw [if_neg (ix_ok hi hn), nI_clamp hn]
theorem stB_ok {h : MH} {a i : Nat} {v : Int32} (hi : i < gN h a) (hn : i < 2 ^ 31) : stB h a (nI i) v = some (sI h a i v.toInt8.toInt32) := by
  unfold stB
  rw [if_neg (ix_ok hi hn), nI_clamp hn]
theorem stL_ok {h : MH} {a i : Nat} {v : Int64} (hi : i < gN h a) (hn : i < 2 ^ 31) : stL h a (nI i) v = some (sL h a i v) := by
  unfold stL
  rw [if_neg (ix_ok hi hn), nI_clamp hn]
theorem stR_ok {h : MH} {a i v : Nat} (hi : i < gN h a) (hn : i < 2 ^ 31) : stR h a (nI i) v = some (sR h a i (some v)) := by
  unfold stR
  rw [if_neg (ix_ok hi hn), nI_clamp hn]
section EvR
variable {β : Type} {P : β → Prop} {h : MH} {a i : Nat}
theorem Ev_ldI {k : Int32 → Option β} {x : Int32} (i : Nat) (e : x = nI i) (hi : i < gN h a) (hn : i < 2 ^ 31) (hk : Ev (k (gI h a i)) P) : Ev ((ldI h a x).bind k) P := by
  subst e; exact Ev_eq (ldI_ok hi hn) hk
theorem Ev_ldL {k : Int64 → Option β} {x : Int32} (i : Nat) (e : x = nI i) (hi : i < gN h a) (hn : i < 2 ^ 31) (hk : Ev (k (gL h a i)) P) : Ev ((ldL h a x).bind k) P := by
  subst e; exact Ev_eq (ldL_ok hi hn) hk
theorem Ev_stI {k : MH → Option β} {x v : Int32} (i : Nat) (e : x = nI i) (hi : i < gN h a) (hn : i < 2 ^ 31) (hk : Ev (k (sI h a i v)) P) : Ev ((stI h a x v).bind k) P := by
  subst e; exact Ev_eq (stI_ok hi hn) hk
theorem Ev_stB {k : MH → Option β} {x v : Int32} (i : Nat) (e : x = nI i) (hi : i < gN h a) (hn : i < 2 ^ 31) (hk : Ev (k (sI h a i v.toInt8.toInt32)) P) : Ev ((stB h a x v).bind k) P := by
  subst e; exact Ev_eq (stB_ok hi hn) hk
theorem Ev_stL {k : MH → Option β} {x : Int32} {v : Int64} (i : Nat) (e : x = nI i) (hi : i < gN h a) (hn : i < 2 ^ 31) (hk : Ev (k (sL h a i v)) P) : Ev ((stL h a x v).bind k) P := by
  subst e; exact Ev_eq (stL_ok hi hn) hk
end EvR
/-! what a method leaves alone: all but the arrays and objects named in X; references and lengths stay -/
def frm (X : List Nat) (h h' : MH) : Prop := (∀ b, b ∉ X → gI h' b = gI h b) ∧ (∀ b, b ∉ X → gL h' b = gL h b) ∧ gR h' = gR h ∧ gN h' = gN h ∧ gZ h' = gZ h
theorem frm.rf {X : List Nat} {h : MH} : frm X h h := ⟨fun _ _ => rfl, fun _ _ => rfl, rfl, rfl, rfl⟩
theorem frm.tr {X : List Nat} {h h1 h2 : MH} (a : frm X h h1) (b : frm X h1 h2) : frm X h h2 :=
  ⟨fun q hq => (b.1 q hq).trans (a.1 q hq), fun q hq => (b.2.1 q hq).trans (a.2.1 q hq), b.2.2.1.trans a.2.2.1, b.2.2.2.1.trans a.2.2.2.1, b.2.2.2.2.trans a.2.2.2.2⟩
theorem frm.up {X Y : List Nat} {h h' : MH} (hXY : ∀ q, q ∈ X → q ∈ Y) (a : frm X h h') : frm Y h h' :=
  ⟨fun q hq => a.1 q (fun z => hq (hXY q z)), fun q hq => a.2.1 q (fun z => hq (hXY q z)), a.2.2⟩
theorem frm.sI {X : List Nat} {h h' : MH} {b k : Nat} {v : Int32} (hb : b ∈ X) (a : frm X h h') : frm X h (sI h' b k v) :=
  ⟨fun q hq => (gI_sI_f (fun e => hq (by rw [e]; exact hb))).trans (a.1 q hq), a.2.1, a.2.2⟩
theorem frm.sL {X : List Nat} {h h' : MH} {b k : Nat} {v : Int64} (hb : b ∈ X) (a : frm X h h') : frm X h (sL h' b k v) :=
  ⟨a.1, fun q hq => (gL_sL_f (fun e => hq (by rw [e]; exact hb))).trans (a.2.1 q hq), a.2.2⟩
/-! numbers -/
theorem litI (n : Nat) : (OfNat.ofNat n : Int32) = nI n := rfl
theorem litL (n : Nat) : (OfNat.ofNat n : Int64) = lN n := rfl
theorem m1_lt {n : Nat} (h : n < 2 ^ 31) : (-1 : Int32) < nI n := by
  rw [Int32.lt_iff_toInt_lt, nI_toInt h]
  have : (-1 : Int32).toInt = -1 := rfl
  omega
theorem nI_m1 {n : Nat} (h : n < 2 ^ 31) : ¬ nI n = -1 := by
  intro e
  have := congrArg Int32.toInt e
  rw [nI_toInt h] at this
  have h1 : (-1 : Int32).toInt = -1 := rfl
  omega
theorem nI_lt_iff {a b : Nat} (ha : a < 2 ^ 31) (hb : b < 2 ^ 31) : nI a < nI b ↔ a < b := nI_ltI ha hb
theorem bd {n m : Nat} (h : n < m) (hm : m ≤ 100000 := by decide) : n < 2 ^ 31 := by omega
def bI (p : Prop) [Decidable p] : Int32 := if p then 1 else 0
theorem bI_0 {p : Prop} [Decidable p] : bI p = 0 ↔ ¬ p := by
  unfold bI
  by_cases h : p
  · rw [if_pos h]; exact ⟨fun q => absurd q (by decide), fun q => absurd h q⟩
  · rw [if_neg h]; exact ⟨fun _ => h, fun _ => rfl⟩
theorem bI_01 {p : Prop} [Decidable p] : bI p = 0 ∨ bI p = 1 := by
  unfold bI
  by_cases h : p
  · rw [if_pos h]; exact Or.inr rfl
  · rw [if_neg h]; exact Or.inl rfl
theorem toI64_lt (a b : Int32) : a.toInt64 < b.toInt64 ↔ a < b := by
  rw [Int64.lt_iff_toInt_lt, Int32.lt_iff_toInt_lt, Int32.toInt_toInt64, Int32.toInt_toInt64]
