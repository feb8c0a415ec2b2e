/-! ===== the pieces of the two relations, each with its frame ===== -/
def xA (h : MH) (A : List ST) : Prop := gI h 22 1 = nI A.length ∧ A.length ≤ 6 ∧ ∃ σ : Nat → Nat, (∀ i, i < 6 → σ i < 6 ∧ gR h 23 i = some (svAd (σ i))) ∧ (∀ i j, i < 6 → j < 6 → σ i = σ j → i = j) ∧ ∀ i, i < A.length → ∀ s, A[i]? = some s → XS h (svAd (σ i)) s
def xI (h : MH) (q0 : Option (ST × List Nat × Nat)) : Prop := (q0 = none → gI h 0 7 = 0) ∧ ∀ q, q0 = some q → gI h 0 7 = 1 ∧ XS h 138 q.1 ∧ rowIs h 157 q.2.1 ∧ gI h 0 6 = nI q.2.2
def xP (h : MH) (P : List Nat) : Prop := gI h 159 1 = nI P.length ∧ ∀ i, i < P.length → gI h 160 i = (nI (P.getD i 0)).toInt8.toInt32
def fpl (p : Option Nat) : Int32 := match p with
  | none => -1
  | some p => nI p
def xF (h : MH) (k : Nat) (p : Option Nat) : Prop := gI h 159 3 = nI k ∧ gI h 159 4 = fpl p
def xC (h : MH) (t : NT) : Prop := (gI h 0 12 = 0 ∧ rtIs h 169 t) ∨ gI h 0 12 = 1
theorem XR_iff {h : MH} {a : AB} : XR h a ↔ XL h ∧ XS h 1 (aS a) ∧ rowIs h 20 (aK a) ∧ gI h 0 2 = nI (aD a) ∧ xA h (aA a) ∧ xI h (aI a) ∧ xP h (aP a) ∧ xF h (aF a) (aG a) ∧ xC h (sN (aS a)) := Iff.rfl
theorem xA.fr {h h' : MH} {A : List ST} (hg : ∀ b, 22 ≤ b → b ≤ 137 → gI h' b = gI h b) (hr : gR h' = gR h) (X : xA h A) : xA h' A := by
  obtain ⟨x1, x0, σ, x2, x3, x4⟩ := X
  refine ⟨by rw [hg 22 (by decide) (by decide)]; exact x1, x0, σ, fun i hi => by rw [hr]; exact x2 i hi, x3, fun i hi s hs => (x4 i hi s hs).fr (fun k hk => hg _ ?_ ?_)⟩
  · unfold svAd; omega
  · have := x2 i (by omega)
    unfold svAd; omega
theorem xI.fr {h h' : MH} {q0 : Option (ST × List Nat × Nat)} (h7 : gI h' 0 7 = gI h 0 7) (h6 : gI h' 0 6 = gI h 0 6) (hg : ∀ b, 138 ≤ b → b ≤ 158 → gI h' b = gI h b) (X : xI h q0) : xI h' q0 := by
  obtain ⟨x1, x2⟩ := X
  refine ⟨fun e => by rw [h7]; exact x1 e, fun q e => ?_⟩
  obtain ⟨y1, y2, y3, y4⟩ := x2 q e
  exact ⟨by rw [h7]; exact y1, y2.fr (fun k hk => hg _ (by omega) (by omega)), y3.fr (hg _ (by decide) (by decide)) (hg _ (by decide) (by decide)), by rw [h6]; exact y4⟩
theorem xP.fr {h h' : MH} {P : List Nat} (h1 : gI h' 159 1 = gI h 159 1) (h2 : gI h' 160 = gI h 160) (X : xP h P) : xP h' P := by
  unfold xP; rw [h1, h2]; exact X
theorem xF.fr {h h' : MH} {k : Nat} {p : Option Nat} (h3 : gI h' 159 3 = gI h 159 3) (h4 : gI h' 159 4 = gI h 159 4) (X : xF h k p) : xF h' k p := by
  unfold xF; rw [h3, h4]; exact X
theorem xC.fr {h h' : MH} {t : NT} (h1 : gI h' 0 12 = gI h 0 12) (h2 : gI h' 170 = gI h 170) (h3 : gL h' 171 = gL h 171) (X : xC h t) : xC h' t := by
  unfold xC; rw [h1]
  exact X.imp (fun q => ⟨q.1, q.2.fr h2 h3⟩) id
/-- what only touches scratch -/
theorem XR.fr {X : List Nat} {h h' : MH} {a : AB} (f : frm X h h') (hX : ∀ q, q ∈ X → (161 ≤ q ∧ q ≤ 168 ∧ q ≠ 166) ∨ 172 ≤ q) (R : XR h a) : XR h' a := by
  have hn : ∀ b, b ≤ 160 ∨ b = 166 ∨ (169 ≤ b ∧ b ≤ 171) → b ∉ X := by
    intro b hb q
    have := hX b q
    omega
  have hg : ∀ b, b ≤ 160 ∨ b = 166 ∨ (169 ≤ b ∧ b ≤ 171) → gI h' b = gI h b := fun b hb => f.1 b (hn b hb)
  obtain ⟨L, S, K, D, A, I, P, F, C⟩ := XR_iff.mp R
  refine XR_iff.mpr ⟨L.fr f (fun q hq => hn q ?_), S.fr (fun k hk => hg _ (by omega)), K.fr (hg _ (by decide)) (hg _ (by decide)), by rw [hg 0 (by decide)]; exact D, A.fr (fun b h1 h2 => hg b (by omega)) f.2.2.1, I.fr (by rw [hg 0 (by decide)]) (by rw [hg 0 (by decide)]) (fun b h1 h2 => hg b (by omega)), P.fr (by rw [hg 159 (by decide)]) (hg _ (by decide)), F.fr (by rw [hg 159 (by decide)]) (by rw [hg 159 (by decide)]), C.fr (by rw [hg 0 (by decide)]) (hg _ (by decide)) (f.2.1 _ (hn _ (by decide)))⟩
  have : ∀ q ∈ rowsAds, q ≤ 160 ∨ q = 166 ∨ (169 ≤ q ∧ q ≤ 171) := by decide
  exact this q hq
def mA (h : MH) (A : List ST) : Prop := gI h 0 3 = nI A.length ∧ ∀ i, i < A.length → ∀ s, A[i]? = some s → MS (fun j => gI h 2 (512 * i + j)) s
def mI (h : MH) (q0 : Option (ST × List Nat × Nat)) : Prop := (q0 = none → gI h 0 44 = 0) ∧ ∀ q, q0 = some q → gI h 0 44 = 1 ∧ MS (gI h 22) q.1 ∧ gI h 22 524 = nI q.2.1.length ∧ lrep (gI h 22) 512 q.2.1 ∧ gI h 22 525 = nI q.2.2
def mP (h : MH) (P : List Nat) : Prop := gI h 0 37 = nI P.length ∧ lrep (gI h 20) 0 P
def mF (h : MH) (k : Nat) (p : Option Nat) : Prop := gI h 0 38 = nI k ∧ gI h 0 39 = fpl p
def mC (h : MH) (t : NT) : Prop := (gI h 0 7 = 1 ∧ farIs h t) ∨ gI h 0 7 = 0
def mK (h : MH) (K : List Nat) : Prop := gI h 0 6 = nI K.length ∧ lrep (gI h 3) 0 K
theorem MR_iff {h : MH} {a : AB} : MR h a ↔ ML h ∧ MS (gI h 1) (aS a) ∧ mK h (aK a) ∧ gI h 0 4 = nI (aD a) ∧ mA h (aA a) ∧ mI h (aI a) ∧ mP h (aP a) ∧ mF h (aF a) (aG a) ∧ mC h (sN (aS a)) := Iff.rfl
theorem mA.fr {h h' : MH} {A : List ST} (h3 : gI h' 0 3 = gI h 0 3) (h2 : gI h' 2 = gI h 2) (X : mA h A) : mA h' A := by
  unfold mA; rw [h3, h2]; exact X
theorem mI.fr {h h' : MH} {q0 : Option (ST × List Nat × Nat)} (h44 : gI h' 0 44 = gI h 0 44) (h22 : gI h' 22 = gI h 22) (X : mI h q0) : mI h' q0 := by
  unfold mI; rw [h44, h22]; exact X
theorem mP.fr {h h' : MH} {P : List Nat} (h1 : gI h' 0 37 = gI h 0 37) (h2 : gI h' 20 = gI h 20) (X : mP h P) : mP h' P := by
  unfold mP; rw [h1, h2]; exact X
theorem mF.fr {h h' : MH} {k : Nat} {p : Option Nat} (h1 : gI h' 0 38 = gI h 0 38) (h2 : gI h' 0 39 = gI h 0 39) (X : mF h k p) : mF h' k p := by
  unfold mF; rw [h1, h2]; exact X
theorem mC.fr {h h' : MH} {t : NT} (h1 : gI h' 0 7 = gI h 0 7) (h2 : gI h' 4 = gI h 4) (h3 : gL h' 5 = gL h 5) (X : mC h t) : mC h' t := by
  unfold mC farIs; rw [h1, h2, h3]; exact X
theorem mK.fr {h h' : MH} {K : List Nat} (h1 : gI h' 0 6 = gI h 0 6) (h2 : gI h' 3 = gI h 3) (X : mK h K) : mK h' K := by
  unfold mK; rw [h1, h2]; exact X
/-- what only touches scratch of the reference -/
theorem MR.cg {h h' : MH} {a : AB} (L' : ML h') (hk : ∀ k, k ∈ [3, 4, 6, 7, 37, 38, 39, 44] → gI h' 0 k = gI h 0 k) (h1 : gI h' 1 = gI h 1) (h2 : gI h' 2 = gI h 2) (h3 : gI h' 3 = gI h 3) (h20 : gI h' 20 = gI h 20) (h22 : gI h' 22 = gI h 22) (h4 : gI h' 4 = gI h 4) (h5 : gL h' 5 = gL h 5) (R : MR h a) : MR h' a := by
  obtain ⟨L, S, K, D, A, I, P, F, C⟩ := MR_iff.mp R
  exact MR_iff.mpr ⟨L', by rw [h1]; exact S, K.fr (hk 6 (by decide)) h3, by rw [hk 4 (by decide)]; exact D, A.fr (hk 3 (by decide)) h2, I.fr (hk 44 (by decide)) h22, P.fr (hk 37 (by decide)) h20, F.fr (hk 38 (by decide)) (hk 39 (by decide)), C.fr (hk 7 (by decide)) h4 h5⟩
theorem MR.told {h : MH} {a : AB} {v : Int32} (R : MR h a) : MR (sI h 0 0 v) a :=
  MR.cg (show ML (sI h 0 0 v) from R.1) (fun k hk => gI_sI_nk (by intro e; subst e; revert hk; decide)) (gI_sI_f (by decide)) (gI_sI_f (by decide)) (gI_sI_f (by decide)) (gI_sI_f (by decide)) (gI_sI_f (by decide)) (gI_sI_f (by decide)) rfl R
