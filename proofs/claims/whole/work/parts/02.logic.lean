/-! ===== the small machine: heaps of ints, longs, references, at addresses 0, 1, .. (cell a lies at B + a) ===== -/
abbrev MH : Type := (Nat → Nat → Int32) × (Nat → Nat → Int64) × (Nat → Nat → Option Nat) × (Nat → Nat) × Nat
def gI (h : MH) (a k : Nat) : Int32 := h.1 a k
def gL (h : MH) (a k : Nat) : Int64 := h.2.1 a k
def gR (h : MH) (a k : Nat) : Option Nat := h.2.2.1 a k
def gN (h : MH) (a : Nat) : Nat := h.2.2.2.1 a
def gZ (h : MH) : Nat := h.2.2.2.2
def up2 {α : Type} (f : Nat → Nat → α) (a k : Nat) (v : α) : Nat → Nat → α := fun b j => if b = a ∧ j = k then v else f b j
def sI (h : MH) (a k : Nat) (v : Int32) : MH := (up2 h.1 a k v, h.2)
def sL (h : MH) (a k : Nat) (v : Int64) : MH := (h.1, up2 h.2.1 a k v, h.2.2)
def sR (h : MH) (a k : Nat) (v : Option Nat) : MH := (h.1, h.2.1, up2 h.2.2.1 a k v, h.2.2.2)
def nW (h : MH) (n : Nat) : MH := (fun b j => if b = gZ h then 0 else h.1 b j, fun b j => if b = gZ h then 0 else h.2.1 b j, fun b j => if b = gZ h then none else h.2.2.1 b j, fun b => if b = gZ h then n else h.2.2.2.1 b, gZ h + 1)
def ldI (h : MH) (a : Nat) (i : Int32) : Option Int32 := if i < 0 ∨ gN h a ≤ i.toNatClampNeg then none else some (gI h a i.toNatClampNeg)
def ldL (h : MH) (a : Nat) (i : Int32) : Option Int64 := if i < 0 ∨ gN h a ≤ i.toNatClampNeg then none else some (gL h a i.toNatClampNeg)
def ldR (h : MH) (a : Nat) (i : Int32) : Option Nat := if i < 0 ∨ gN h a ≤ i.toNatClampNeg then none else gR h a i.toNatClampNeg
def stI (h : MH) (a : Nat) (i v : Int32) : Option MH := if i < 0 ∨ gN h a ≤ i.toNatClampNeg then none else some (sI h a i.toNatClampNeg v)
def stB (h : MH) (a : Nat) (i v : Int32) : Option MH := if i < 0 ∨ gN h a ≤ i.toNatClampNeg then none else some (sI h a i.toNatClampNeg v.toInt8.toInt32)
def stL (h : MH) (a : Nat) (i : Int32) (v : Int64) : Option MH := if i < 0 ∨ gN h a ≤ i.toNatClampNeg then none else some (sL h a i.toNatClampNeg v)
def stR (h : MH) (a : Nat) (i : Int32) (v : Nat) : Option MH := if i < 0 ∨ gN h a ≤ i.toNatClampNeg then none else some (sR h a i.toNatClampNeg (some v))
def isB (x : Int32) : Prop := x = 0 ∨ x = 1
abbrev SHP : Type := Nat ⊕ Nat
/-- classes by their numbers, their fields' types, what reference fields refer to -/
def CLS (c : Nat) : vw_C := vwCl.getD c (RX0, TX0, 2)
def tyOf (c k : Nat) : FieldType := match c with
  | 0 => tyX0 k
  | 1 => tyX1 k
  | 2 => tyX2 k
  | 3 => tyX3 k
  | 4 => tyX4 k
  | 5 => tyX5 k
  | 6 => tyX6 k
  | 7 => tyX7 k
  | 8 => tyX8 k
  | 9 => tyX9 k
  | 10 => tyX10 k
  | _ => tyX11 k
/-! ===== rows of the heap ===== -/
def fsX0 : Nat → Option SHP := fun k => match k with
  | 0 => some (.inr 3)
  | _ => none
def fsX1 : Nat → Option SHP := fun k => match k with
  | 0 => some (.inr 1)
  | 1 => some (.inr 1)
  | _ => none
def fsX2 : Nat → Option SHP := fun k => match k with
  | 3 => some (.inr 0)
  | 4 => some (.inr 0)
  | 5 => some (.inr 0)
  | 6 => some (.inr 0)
  | 7 => some (.inl 6)
  | _ => none
def fsX3 : Nat → Option SHP := fun k => match k with
  | 0 => some (.inl 5)
  | 1 => some (.inl 5)
  | 2 => some (.inl 1)
  | 3 => some (.inr 0)
  | 5 => some (.inr 1)
  | 6 => some (.inr 1)
  | _ => none
def fsX4 : Nat → Option SHP := fun k => match k with
  | 0 => some (.inr 0)
  | 1 => some (.inr 1)
  | _ => none
def fsX5 : Nat → Option SHP := fun k => match k with
  | 0 => some (.inr 0)
  | _ => none
def fsX6 : Nat → Option SHP := fun k => match k with
  | 1 => some (.inr 0)
  | 2 => some (.inr 0)
  | _ => none
def fsX7 : Nat → Option SHP := fun k => match k with
  | 0 => some (.inl 2)
  | 1 => some (.inr 0)
  | 2 => some (.inr 0)
  | 3 => some (.inl 6)
  | 5 => some (.inl 6)
  | 6 => some (.inl 5)
  | _ => none
def fsX8 : Nat → Option SHP := fun k => match k with
  | 0 => some (.inr 2)
  | 5 => some (.inl 2)
  | _ => none
def fsX9 : Nat → Option SHP := fun k => match k with
  | 0 => some (.inr 0)
  | 3 => some (.inr 0)
  | 4 => some (.inr 0)
  | 5 => some (.inr 0)
  | _ => none
def fsX10 : Nat → Option SHP := fun k => match k with
  | 0 => some (.inl 7)
  | 1 => some (.inl 5)
  | 3 => some (.inl 0)
  | 4 => some (.inl 7)
  | 5 => some (.inl 5)
  | 8 => some (.inl 8)
  | 9 => some (.inl 4)
  | 10 => some (.inl 4)
  | 11 => some (.inl 4)
  | 13 => some (.inl 9)
  | 14 => some (.inl 3)
  | 15 => some (.inl 1)
  | 16 => some (.inl 5)
  | _ => none
def fsX11 : Nat → Option SHP := fun k => match k with
  | 1 => some (.inr 0)
  | 2 => some (.inr 0)
  | 5 => some (.inr 0)
  | 8 => some (.inr 0)
  | 9 => some (.inr 1)
  | 12 => some (.inr 0)
  | 19 => some (.inr 0)
  | 22 => some (.inr 1)
  | 23 => some (.inr 1)
  | 24 => some (.inr 1)
  | 25 => some (.inr 1)
  | 26 => some (.inr 0)
  | 28 => some (.inr 0)
  | 29 => some (.inr 0)
  | 30 => some (.inr 0)
  | 31 => some (.inr 0)
  | 32 => some (.inr 1)
  | 33 => some (.inr 1)
  | 34 => some (.inr 0)
  | 36 => some (.inr 0)
  | 43 => some (.inr 0)
  | 45 => some (.inr 0)
  | _ => none
def fsh (c k : Nat) : Option SHP := match c with
  | 0 => fsX0 k
  | 1 => fsX1 k
  | 2 => fsX2 k
  | 3 => fsX3 k
  | 4 => fsX4 k
  | 5 => fsX5 k
  | 6 => fsX6 k
  | 7 => fsX7 k
  | 8 => fsX8 k
  | 9 => fsX9 k
  | 10 => fsX10 k
  | _ => fsX11 k
def elt (x : SHP) (k : Nat) : Option SHP := match x with
  | .inl c => fsh c k
  | .inr t => if t = 3 then some (.inl 7) else none
/-- the class tables, the array classes, the strings' addresses -/
abbrev GE : Type := va_G × (Nat → ClassId) × (Nat → Nat)
def tysG (G : GE) : List (ClassId × FieldType) := [(G.2.1 0, .int), (G.2.1 1, .long), (G.2.1 2, .byte), (G.2.1 3, .object "LabelStacks$State")]
def aty (t : Nat) : FieldType := if t = 0 then .int else if t = 1 then .long else if t = 2 then .byte else .object "LabelStacks$State"
def rfv (B : Nat) (r : Option Nat) : Value := match r with
  | none => .null
  | some b => .ref (B + b)
def fvl (B : Nat) (ty : FieldType) (h : MH) (a k : Nat) : Value := match ty with
  | .int => .int (gI h a k)
  | .boolean => .int (gI h a k)
  | .long => .long (gL h a k)
  | _ => rfv B (gR h a k)
def ent (B : Nat) (cid : Nat → ClassId) (h : MH) (a : Nat) (x : SHP) : va_E := match x with
  | .inl c => .inr (c, (List.range (CLS c).2.2).map (fun k => fvl B (tyOf c k) h a k))
  | .inr t => if t = 1 then .inl (cid 1, gN h a, .inr (.inl (gL h a))) else if t = 3 then .inl (cid 3, gN h a, .inr (.inr (.inr (.inr (fun j => (gR h a j).map (B + ·)))))) else .inl (cid t, gN h a, .inl (gI h a))
def wsO (B : Nat) (cid : Nat → ClassId) (S : List SHP) (h : MH) : va_W := S.mapIdx (fun a x => (B + a, ent B cid h a x))
def TY (S : List SHP) (h : MH) : Prop := S.length = gZ h ∧ ∀ (a k b : Nat) (x y : SHP), S[a]? = some x → elt x k = some y → gR h a k = some b → S[b]? = some y
def tr (G : GE) (B : Nat) : Value → Value
  | .ref a => .ref (B + a)
  | .retAddr j => .ref (G.2.2 j)
  | v => v
def trl (G : GE) (B : Nat) (q : Nat × Value) : Nat × Value := (q.1, tr G B q.2)
theorem tr_cat (G : GE) (B : Nat) (v : Value) : (tr G B v).category = v.category := by cases v <;> rfl
theorem wsO_at {B : Nat} {cid : Nat → ClassId} {S : List SHP} {h : MH} {a : Nat} {x : SHP} (hx : S[a]? = some x) : (wsO B cid S h)[a]? = some (B + a, ent B cid h a x) := by
  simp [wsO, List.getElem?_mapIdx, hx]
theorem wsO_of {B : Nat} {cid : Nat → ClassId} {S : List SHP} {h : MH} {a : Nat} {q : Nat × va_E} (hq : (wsO B cid S h)[a]? = some q) : ∃ x, S[a]? = some x ∧ q = (B + a, ent B cid h a x) := by
  simp only [wsO, List.getElem?_mapIdx] at hq
  cases hs : S[a]? with
  | none => rw [hs] at hq; cases hq
  | some x => rw [hs] at hq; exact ⟨x, rfl, (Option.some.inj hq).symm⟩
theorem wsO_set {B : Nat} {cid : Nat → ClassId} {S : List SHP} {h h' : MH} {a : Nat} {x : SHP} (hx : S[a]? = some x) (ho : ∀ b, b ≠ a → ∀ y, ent B cid h' b y = ent B cid h b y) : (wsO B cid S h).set a (B + a, ent B cid h' a x) = wsO B cid S h' := by
  apply List.ext_getElem?
  intro i
  by_cases hi : i = a
  · subst hi
    rw [List.getElem?_set_self (by have := (List.getElem?_eq_some_iff.mp (wsO_at (B := B) (cid := cid) (h := h) hx)).1; exact this), wsO_at hx]
  · rw [List.getElem?_set_ne (Ne.symm hi)]
    simp only [wsO, List.getElem?_mapIdx]
    cases S[i]? with
    | none => rfl
    | some y => simp [ho i hi y]
/-- which real cells are a method's own -/
def AR (B N hs : Nat) : Nat → Prop := fun q => (B ≤ q ∧ q < B + N) ∨ hs ≤ q
theorem wsO_D {B N hs : Nat} {cid : Nat → ClassId} {S : List SHP} {h : MH} (hal : S.length = N ∨ hs = B + N) : va_D (AR B N hs) (wsO B cid S h) := by
  refine ⟨fun i j x y hx hy hxy => ?_, fun k q hq => ?_⟩
  · obtain ⟨_, -, rfl⟩ := wsO_of hx
    obtain ⟨_, -, rfl⟩ := wsO_of hy
    have : B + i = B + j := hxy
    omega
  · obtain ⟨z, hz, rfl⟩ := wsO_of hq
    have hl := (List.getElem?_eq_some_iff.mp hz).1
    show (B ≤ B + k ∧ B + k < B + N) ∨ hs ≤ B + k
    rcases hal with e | e <;> omega
