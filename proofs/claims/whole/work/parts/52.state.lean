/-! ===== what the two systems' heaps stand for ===== -/
abbrev ST : Type := NT × (Nat → Option (Nat × List Nat)) × (Nat → Option (Nat × Nat × List Nat)) × List (List Nat) × List Nat
def sN (s : ST) : NT := s.1
def sB (s : ST) : Nat → Option (Nat × List Nat) := s.2.1
def sD (s : ST) : Nat → Option (Nat × Nat × List Nat) := s.2.2.1
def sK (s : ST) : List (List Nat) := s.2.2.2.1
def sW (s : ST) : List Nat := s.2.2.2.2
def plLab (x : Nat) : Prop := x < 10 ∨ (100 ≤ x ∧ x < 130)
def isLab (x : Nat) : Prop := x < 10 ∨ (100 ≤ x ∧ x < 130) ∨ (200 ≤ x ∧ x < 206)
def wayOK (t : NT) (w : List Nat) : Prop := w.length ≤ 16 ∧ (∀ i, i < w.length → w.getD i 0 < nM t) ∧ ∀ i, i + 1 < w.length → nT t (w.getD i 0) = nF t (w.getD (i + 1) 0)
def wfB (t : NT) (B : Nat → Option (Nat × List Nat)) : Prop := ∀ b, b < 6 → ∀ q, B b = some q → q.1 < nN t ∧ 1 ≤ q.2.length ∧ q.2.length ≤ 6 ∧ ∀ i, i < q.2.length → plLab (q.2.getD i 0)
def wfD (t : NT) (D : Nat → Option (Nat × Nat × List Nat)) : Prop := ∀ d, d < 8 → ∀ q, D d = some q → q.1 < nN t ∧ 1 ≤ q.2.1 ∧ q.2.1 ≤ 99 ∧ q.2.2.length ≤ 12 ∧ ∀ i, i < q.2.2.length → isLab (q.2.2.getD i 0)
def wfS (s : ST) : Prop := wfN (sN s) ∧ wfB (sN s) (sB s) ∧ wfD (sN s) (sD s) ∧ ((sK s).length ≤ 12 ∧ ∀ k, k < (sK s).length → wayOK (sN s) ((sK s).getD k []) ∧ 1 ≤ ((sK s).getD k []).length) ∧ wayOK (sN s) (sW s)
def stkOK (k : List Nat) : Prop := k.length ≤ 12 ∧ ∀ i, i < k.length → isLab (k.getD i 0)
/-- the state, the stack, the depth, the acts (the oldest first), the image, the tape, the fault's kind and place -/
abbrev AB : Type := ST × List Nat × Nat × List ST × Option (ST × List Nat × Nat) × List Nat × Nat × Option Nat
def aS (a : AB) : ST := a.1
def aK (a : AB) : List Nat := a.2.1
def aD (a : AB) : Nat := a.2.2.1
def aA (a : AB) : List ST := a.2.2.2.1
def aI (a : AB) : Option (ST × List Nat × Nat) := a.2.2.2.2.1
def aP (a : AB) : List Nat := a.2.2.2.2.2.1
def aF (a : AB) : Nat := a.2.2.2.2.2.2.1
def aG (a : AB) : Option Nat := a.2.2.2.2.2.2.2
def wfA (a : AB) : Prop := wfS (aS a) ∧ stkOK (aK a) ∧ (1 ≤ aD a ∧ aD a ≤ 12) ∧ ((aA a).length ≤ 6 ∧ ∀ s, s ∈ aA a → wfS s) ∧ (∀ q, aI a = some q → wfS q.1 ∧ stkOK q.2.1 ∧ 1 ≤ q.2.2 ∧ q.2.2 ≤ 12) ∧ ((aP a).length ≤ 500 ∧ ∀ i, i < (aP a).length → (aP a).getD i 0 < 256) ∧ aF a ≤ 4 ∧ ∀ p, aG a = some p → p ≤ 500
def lrep (g : Nat → Int32) (o : Nat) (ls : List Nat) : Prop := ∀ i, i < ls.length → g (o + i) = nI (ls.getD i 0)
def setF (U : Nat → Bool) : Nat → Int32
  | 0 => 0
  | k + 1 => if U k then setF U k ||| ((1 : Int32) <<< (nI k &&& 31)) else setF U k
/-! the class: how it lies (what never changes), and what it holds -/
def rowAt (h : MH) (a w : Nat) : Prop := gR h a 0 = some (a + 1) ∧ gN h (a + 1) = w
def rowsAt (h : MH) (a c w : Nat) : Prop := gR h a 1 = some (a + 1) ∧ gR h a 2 = some (a + 2) ∧ gN h (a + 1) = c ∧ gN h (a + 2) = c * w ∧ gI h a 0 = nI w
def netAt (h : MH) (a : Nat) : Prop := gR h a 3 = some (a + 1) ∧ gR h a 4 = some (a + 2) ∧ gR h a 5 = some (a + 3) ∧ gR h a 6 = some (a + 4) ∧ gR h a 7 = some (a + 5) ∧ gN h (a + 1) = 30 ∧ gN h (a + 2) = 30 ∧ gN h (a + 3) = 30 ∧ gN h (a + 4) = 6 ∧ rowsAt h (a + 5) 6 6
def stAt (h : MH) (a : Nat) : Prop := gR h a 0 = some (a + 1) ∧ gR h a 1 = some (a + 9) ∧ gR h a 2 = some (a + 10) ∧ gR h a 3 = some (a + 11) ∧ gR h a 5 = some (a + 14) ∧ gR h a 6 = some (a + 17) ∧ netAt h (a + 1) ∧ gN h (a + 9) = 8 ∧ gN h (a + 10) = 8 ∧ rowsAt h (a + 11) 8 12 ∧ rowsAt h (a + 14) 12 16 ∧ rowAt h (a + 17) 16
def rtAt (h : MH) (a n : Nat) : Prop := gR h a 0 = some (a + 1) ∧ gR h a 1 = some (a + 2) ∧ gN h (a + 1) = n ∧ gN h (a + 2) = n
def svAd (i : Nat) : Nat := 24 + 19 * i
def XL (h : MH) : Prop :=
  (gR h 0 0 = some 1 ∧ gR h 0 1 = some 20 ∧ gR h 0 3 = some 22 ∧ gR h 0 4 = some 138 ∧ gR h 0 5 = some 157 ∧ gR h 0 8 = some 159 ∧ gR h 0 9 = some 169 ∧ gR h 0 10 = some 172 ∧ gR h 0 11 = some 175 ∧ gR h 0 13 = some 178 ∧ gR h 0 14 = some 183 ∧ gR h 0 15 = some 194 ∧ gR h 0 16 = some 197) ∧
  stAt h 1 ∧ rowAt h 20 12 ∧ (gR h 22 0 = some 23 ∧ gN h 23 = 6 ∧ ∀ i, i < 6 → stAt h (svAd i)) ∧ stAt h 138 ∧ rowAt h 157 12 ∧
  (gR h 159 0 = some 160 ∧ gR h 159 5 = some 161 ∧ gN h 160 = 500 ∧ netAt h 161) ∧ rtAt h 169 100 ∧ rtAt h 172 100 ∧ rtAt h 175 100 ∧
  (gR h 178 0 = some 179 ∧ gR h 178 3 = some 180 ∧ gR h 178 4 = some 181 ∧ gR h 178 5 = some 182 ∧ gN h 179 = 16 ∧ gN h 180 = 17 ∧ gN h 181 = 17 ∧ gN h 182 = 17) ∧
  (gR h 183 0 = some 184 ∧ gR h 183 1 = some 186 ∧ gR h 183 2 = some 188 ∧ gR h 183 3 = some 191 ∧ gR h 183 5 = some 192 ∧ gR h 183 6 = some 193 ∧ rowAt h 184 12 ∧ rowAt h 186 16 ∧ rtAt h 188 30 ∧ gN h 191 = 18 ∧ gN h 192 = 10 ∧ gN h 193 = 30) ∧
  rtAt h 194 30 ∧ rowAt h 197 16
def XN (h : MH) (a : Nat) (t : NT) (B : Nat → Option (Nat × List Nat)) : Prop :=
  gI h a 0 = nI (nN t) ∧ gI h a 1 = nI (nM t) ∧ gI h a 2 = setF (nU t) (nM t) ∧ (∀ l, l < nM t → gI h (a + 1) l = nI (nF t l) ∧ gI h (a + 2) l = nI (nT t l) ∧ gI h (a + 3) l = nI (nC t l)) ∧
  ∀ b, b < 6 → (B b = none → gI h (a + 4) b = -1) ∧ ∀ q, B b = some q → gI h (a + 4) b = nI q.1 ∧ gI h (a + 6) b = nI q.2.length ∧ lrep (gI h (a + 7)) (6 * b) q.2
def XS (h : MH) (a : Nat) (s : ST) : Prop :=
  XN h (a + 1) (sN s) (sB s) ∧
  (∀ d, d < 8 → (sD s d = none → gI h (a + 9) d = -1) ∧ ∀ q, sD s d = some q → gI h (a + 9) d = nI q.1 ∧ gI h (a + 10) d = nI q.2.1 ∧ gI h (a + 12) d = nI q.2.2.length ∧ lrep (gI h (a + 13)) (12 * d) q.2.2) ∧
  (gI h a 4 = nI (sK s).length ∧ ∀ k, k < (sK s).length → gI h (a + 15) k = nI ((sK s).getD k []).length ∧ lrep (gI h (a + 16)) (16 * k) ((sK s).getD k [])) ∧
  (gI h (a + 17) 1 = nI (sW s).length ∧ lrep (gI h (a + 18)) 0 (sW s))
def rowIs (h : MH) (a : Nat) (ls : List Nat) : Prop := gI h a 1 = nI ls.length ∧ lrep (gI h (a + 1)) 0 ls
def rtIs (h : MH) (a : Nat) (t : NT) : Prop := ∀ u v, u < nN t → v < nN t → gI h (a + 1) (10 * v + u) = nI (dist t v u) ∧ gL h (a + 2) (10 * v + u) = lN (cnt t v u)
def XR (h : MH) (a : AB) : Prop :=
  XL h ∧ XS h 1 (aS a) ∧ rowIs h 20 (aK a) ∧ gI h 0 2 = nI (aD a) ∧
  (gI h 22 1 = nI (aA a).length ∧ (aA a).length ≤ 6 ∧ ∃ σ : Nat → Nat, (∀ i, i < 6 → σ i < 6 ∧ gR h 23 i = some (svAd (σ i))) ∧ (∀ i j, i < 6 → j < 6 → σ i = σ j → i = j) ∧ ∀ i, i < (aA a).length → ∀ s, (aA a)[i]? = some s → XS h (svAd (σ i)) s) ∧
  ((aI a = none → gI h 0 7 = 0) ∧ ∀ q, aI a = some q → gI h 0 7 = 1 ∧ XS h 138 q.1 ∧ rowIs h 157 q.2.1 ∧ gI h 0 6 = nI q.2.2) ∧
  (gI h 159 1 = nI (aP a).length ∧ ∀ i, i < (aP a).length → gI h 160 i = (nI ((aP a).getD i 0)).toInt8.toInt32) ∧
  (gI h 159 3 = nI (aF a) ∧ gI h 159 4 = (match aG a with | none => -1 | some p => nI p)) ∧
  ((gI h 0 12 = 0 ∧ rtIs h 169 (sN (aS a))) ∨ gI h 0 12 = 1)
/-! the reference -/
def ML (h : MH) : Prop :=
  (gR h 0 1 = some 1 ∧ gR h 0 2 = some 2 ∧ gR h 0 5 = some 3 ∧ gR h 0 8 = some 4 ∧ gR h 0 9 = some 5 ∧ gR h 0 12 = some 6 ∧ gR h 0 19 = some 7 ∧ gR h 0 22 = some 8 ∧ gR h 0 23 = some 9 ∧ gR h 0 24 = some 10 ∧ gR h 0 25 = some 11 ∧ gR h 0 26 = some 12 ∧ gR h 0 28 = some 13 ∧ gR h 0 29 = some 14 ∧ gR h 0 30 = some 15 ∧ gR h 0 31 = some 16 ∧ gR h 0 32 = some 17 ∧ gR h 0 33 = some 18 ∧ gR h 0 34 = some 19 ∧ gR h 0 36 = some 20 ∧ gR h 0 43 = some 21 ∧ gR h 0 45 = some 22) ∧
  (gN h 1 = 512 ∧ gN h 2 = 3072 ∧ gN h 3 = 12 ∧ gN h 4 = 100 ∧ gN h 5 = 100 ∧ gN h 6 = 24 ∧ gN h 7 = 700 ∧ gN h 8 = 30 ∧ gN h 9 = 30 ∧ gN h 10 = 10 ∧ gN h 11 = 10 ∧ gN h 12 = 17 ∧ gN h 13 = 17 ∧ gN h 14 = 17 ∧ gN h 15 = 17 ∧ gN h 16 = 1 ∧ gN h 17 = 30 ∧ gN h 18 = 30 ∧ gN h 19 = 10 ∧ gN h 20 = 500 ∧ gN h 21 = 512 ∧ gN h 22 = 526)
def MN (g : Nat → Int32) (t : NT) : Prop := g 0 = nI (nN t - 2) ∧ g 1 = nI (nM t) ∧ ∀ l, l < nM t → g (2 + l) = nI (nF t l) ∧ g (32 + l) = nI (nT t l) ∧ g (62 + l) = nI (nC t l) ∧ g (92 + l) = (if nU t l then 0 else 1)
def MS (g : Nat → Int32) (s : ST) : Prop :=
  MN g (sN s) ∧
  (∀ b, b < 6 → (sB s b = none → g (122 + b) = 0) ∧ ∀ q, sB s b = some q → g (122 + b) = nI (q.1 + 1) ∧ g (128 + b) = nI q.2.length ∧ lrep g (134 + 6 * b) q.2) ∧
  (∀ d, d < 8 → (sD s d = none → g (170 + d) = 0) ∧ ∀ q, sD s d = some q → g (170 + d) = nI (q.1 + 1) ∧ g (178 + d) = nI q.2.1 ∧ g (186 + d) = nI q.2.2.length ∧ lrep g (194 + 12 * d) q.2.2) ∧
  (g 290 = nI (sK s).length ∧ ∀ k, k < (sK s).length → g (291 + k) = nI ((sK s).getD k []).length ∧ lrep g (303 + 16 * k) ((sK s).getD k [])) ∧
  (g 495 = nI (sW s).length ∧ lrep g 496 (sW s))
def farIs (h : MH) (t : NT) : Prop := ∀ u v, u < nN t → v < nN t → gI h 4 (10 * u + v) = nI (dist t v u) ∧ gL h 5 (10 * u + v) = lN (cnt t v u)
def MR (h : MH) (a : AB) : Prop :=
  ML h ∧ MS (gI h 1) (aS a) ∧ (gI h 0 6 = nI (aK a).length ∧ lrep (gI h 3) 0 (aK a)) ∧ gI h 0 4 = nI (aD a) ∧
  (gI h 0 3 = nI (aA a).length ∧ ∀ i, i < (aA a).length → ∀ s, (aA a)[i]? = some s → MS (fun j => gI h 2 (512 * i + j)) s) ∧
  ((aI a = none → gI h 0 44 = 0) ∧ ∀ q, aI a = some q → gI h 0 44 = 1 ∧ MS (gI h 22) q.1 ∧ gI h 22 524 = nI q.2.1.length ∧ lrep (gI h 22) 512 q.2.1 ∧ gI h 22 525 = nI q.2.2) ∧
  (gI h 0 37 = nI (aP a).length ∧ lrep (gI h 20) 0 (aP a)) ∧
  (gI h 0 38 = nI (aF a) ∧ gI h 0 39 = (match aG a with | none => -1 | some p => nI p)) ∧
  ((gI h 0 7 = 1 ∧ farIs h (sN (aS a))) ∨ gI h 0 7 = 0)
def RR (hx hm : MH) : Prop := ∃ a : AB, wfA a ∧ XR hx a ∧ MR hm a
