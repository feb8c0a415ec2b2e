/-! ===== layouts and frames ===== -/
theorem ML.r1 {h : MH} (L : ML h) : gR h 0 1 = some 1 := L.1.1
theorem ML.r2 {h : MH} (L : ML h) : gR h 0 2 = some 2 := L.1.2.1
theorem ML.r5 {h : MH} (L : ML h) : gR h 0 5 = some 3 := L.1.2.2.1
theorem ML.r8 {h : MH} (L : ML h) : gR h 0 8 = some 4 := L.1.2.2.2.1
theorem ML.r9 {h : MH} (L : ML h) : gR h 0 9 = some 5 := L.1.2.2.2.2.1
theorem ML.r12 {h : MH} (L : ML h) : gR h 0 12 = some 6 := L.1.2.2.2.2.2.1
theorem ML.r19 {h : MH} (L : ML h) : gR h 0 19 = some 7 := L.1.2.2.2.2.2.2.1
theorem ML.r22 {h : MH} (L : ML h) : gR h 0 22 = some 8 := L.1.2.2.2.2.2.2.2.1
theorem ML.r23 {h : MH} (L : ML h) : gR h 0 23 = some 9 := L.1.2.2.2.2.2.2.2.2.1
theorem ML.r24 {h : MH} (L : ML h) : gR h 0 24 = some 10 := L.1.2.2.2.2.2.2.2.2.2.1
theorem ML.r25 {h : MH} (L : ML h) : gR h 0 25 = some 11 := L.1.2.2.2.2.2.2.2.2.2.2.1
theorem ML.r26 {h : MH} (L : ML h) : gR h 0 26 = some 12 := L.1.2.2.2.2.2.2.2.2.2.2.2.1
theorem ML.r28 {h : MH} (L : ML h) : gR h 0 28 = some 13 := L.1.2.2.2.2.2.2.2.2.2.2.2.2.1
theorem ML.r29 {h : MH} (L : ML h) : gR h 0 29 = some 14 := L.1.2.2.2.2.2.2.2.2.2.2.2.2.2.1
theorem ML.r30 {h : MH} (L : ML h) : gR h 0 30 = some 15 := L.1.2.2.2.2.2.2.2.2.2.2.2.2.2.2.1
theorem ML.r31 {h : MH} (L : ML h) : gR h 0 31 = some 16 := L.1.2.2.2.2.2.2.2.2.2.2.2.2.2.2.2.1
theorem ML.r32 {h : MH} (L : ML h) : gR h 0 32 = some 17 := L.1.2.2.2.2.2.2.2.2.2.2.2.2.2.2.2.2.1
theorem ML.r33 {h : MH} (L : ML h) : gR h 0 33 = some 18 := L.1.2.2.2.2.2.2.2.2.2.2.2.2.2.2.2.2.2.1
theorem ML.r34 {h : MH} (L : ML h) : gR h 0 34 = some 19 := L.1.2.2.2.2.2.2.2.2.2.2.2.2.2.2.2.2.2.2.1
theorem ML.r36 {h : MH} (L : ML h) : gR h 0 36 = some 20 := L.1.2.2.2.2.2.2.2.2.2.2.2.2.2.2.2.2.2.2.2.1
theorem ML.r43 {h : MH} (L : ML h) : gR h 0 43 = some 21 := L.1.2.2.2.2.2.2.2.2.2.2.2.2.2.2.2.2.2.2.2.2.1
theorem ML.r45 {h : MH} (L : ML h) : gR h 0 45 = some 22 := L.1.2.2.2.2.2.2.2.2.2.2.2.2.2.2.2.2.2.2.2.2.2
theorem ML.n1 {h : MH} (L : ML h) : gN h 1 = 512 := L.2.1
theorem ML.n2 {h : MH} (L : ML h) : gN h 2 = 3072 := L.2.2.1
theorem ML.n3 {h : MH} (L : ML h) : gN h 3 = 12 := L.2.2.2.1
theorem ML.n4 {h : MH} (L : ML h) : gN h 4 = 100 := L.2.2.2.2.1
theorem ML.n5 {h : MH} (L : ML h) : gN h 5 = 100 := L.2.2.2.2.2.1
theorem ML.n6 {h : MH} (L : ML h) : gN h 6 = 24 := L.2.2.2.2.2.2.1
theorem ML.n7 {h : MH} (L : ML h) : gN h 7 = 700 := L.2.2.2.2.2.2.2.1
theorem ML.n8 {h : MH} (L : ML h) : gN h 8 = 30 := L.2.2.2.2.2.2.2.2.1
theorem ML.n9 {h : MH} (L : ML h) : gN h 9 = 30 := L.2.2.2.2.2.2.2.2.2.1
theorem ML.n10 {h : MH} (L : ML h) : gN h 10 = 10 := L.2.2.2.2.2.2.2.2.2.2.1
theorem ML.n11 {h : MH} (L : ML h) : gN h 11 = 10 := L.2.2.2.2.2.2.2.2.2.2.2.1
theorem ML.n12 {h : MH} (L : ML h) : gN h 12 = 17 := L.2.2.2.2.2.2.2.2.2.2.2.2.1
theorem ML.n13 {h : MH} (L : ML h) : gN h 13 = 17 := L.2.2.2.2.2.2.2.2.2.2.2.2.2.1
theorem ML.n14 {h : MH} (L : ML h) : gN h 14 = 17 := L.2.2.2.2.2.2.2.2.2.2.2.2.2.2.1
theorem ML.n15 {h : MH} (L : ML h) : gN h 15 = 17 := L.2.2.2.2.2.2.2.2.2.2.2.2.2.2.2.1
theorem ML.n16 {h : MH} (L : ML h) : gN h 16 = 1 := L.2.2.2.2.2.2.2.2.2.2.2.2.2.2.2.2.1
theorem ML.n17 {h : MH} (L : ML h) : gN h 17 = 30 := L.2.2.2.2.2.2.2.2.2.2.2.2.2.2.2.2.2.1
theorem ML.n18 {h : MH} (L : ML h) : gN h 18 = 30 := L.2.2.2.2.2.2.2.2.2.2.2.2.2.2.2.2.2.2.1
theorem ML.n19 {h : MH} (L : ML h) : gN h 19 = 10 := L.2.2.2.2.2.2.2.2.2.2.2.2.2.2.2.2.2.2.2.1
theorem ML.n20 {h : MH} (L : ML h) : gN h 20 = 500 := L.2.2.2.2.2.2.2.2.2.2.2.2.2.2.2.2.2.2.2.2.1
theorem ML.n21 {h : MH} (L : ML h) : gN h 21 = 512 := L.2.2.2.2.2.2.2.2.2.2.2.2.2.2.2.2.2.2.2.2.2.1
theorem ML.n22 {h : MH} (L : ML h) : gN h 22 = 526 := L.2.2.2.2.2.2.2.2.2.2.2.2.2.2.2.2.2.2.2.2.2.2
theorem ML.fr {X : List Nat} {h h' : MH} (f : frm X h h') (L : ML h) : ML h' := by
  unfold ML
  rw [f.2.2.1, f.2.2.2.1]
  exact L
theorem rowAt.fr {X : List Nat} {h h' : MH} {a w : Nat} (f : frm X h h') (L : rowAt h a w) : rowAt h' a w := by
  unfold rowAt
  rw [f.2.2.1, f.2.2.2.1]
  exact L
theorem rtAt.fr {X : List Nat} {h h' : MH} {a n : Nat} (f : frm X h h') (L : rtAt h a n) : rtAt h' a n := by
  unfold rtAt
  rw [f.2.2.1, f.2.2.2.1]
  exact L
theorem rowsAt.fr {X : List Nat} {h h' : MH} {a c w : Nat} (f : frm X h h') (hx : a ∉ X) (L : rowsAt h a c w) : rowsAt h' a c w := by
  unfold rowsAt
  rw [f.2.2.1, f.2.2.2.1, f.1 a hx]
  exact L
theorem netAt.fr {X : List Nat} {h h' : MH} {a : Nat} (f : frm X h h') (hx : a + 5 ∉ X) (L : netAt h a) : netAt h' a := by
  obtain ⟨a1, a2, a3, a4, a5, b1, b2, b3, b4, c⟩ := L
  refine ⟨?_, ?_, ?_, ?_, ?_, ?_, ?_, ?_, ?_, c.fr f hx⟩
  all_goals first | (rw [f.2.2.1]; assumption) | (rw [f.2.2.2.1]; assumption)
theorem stAt.fr {X : List Nat} {h h' : MH} {a : Nat} (f : frm X h h') (h1 : a + 6 ∉ X) (h2 : a + 11 ∉ X) (h3 : a + 14 ∉ X) (L : stAt h a) : stAt h' a := by
  obtain ⟨a1, a2, a3, a4, a5, a6, n, b1, b2, r1, r2, r3⟩ := L
  refine ⟨?_, ?_, ?_, ?_, ?_, ?_, n.fr f h1, ?_, ?_, r1.fr f h2, r2.fr f h3, r3.fr f⟩
  all_goals first | (rw [f.2.2.1]; assumption) | (rw [f.2.2.2.1]; assumption)
def rowsAds : List Nat := [7, 12, 15, 144, 149, 152, 166, 30, 35, 38, 49, 54, 57, 68, 73, 76, 87, 92, 95, 106, 111, 114, 125, 130, 133]
theorem XL.fr {X : List Nat} {h h' : MH} (f : frm X h h') (hx : ∀ q, q ∈ rowsAds → q ∉ X) (L : XL h) : XL h' := by
  obtain ⟨a0, s1, r20, ⟨c1, c2, c3⟩, s138, r157, ⟨t1, t2, t3, t4⟩, q1, q2, q3, w, p, q4, r197⟩ := L
  have st : ∀ i, i < 6 → stAt h' (svAd i) := by
    intro i hi
    have := c3 i hi
    rcases (show i = 0 ∨ i = 1 ∨ i = 2 ∨ i = 3 ∨ i = 4 ∨ i = 5 by omega) with rfl | rfl | rfl | rfl | rfl | rfl
    all_goals exact this.fr f (hx _ (by decide)) (hx _ (by decide)) (hx _ (by decide))
  refine ⟨?_, s1.fr f (hx _ (by decide)) (hx _ (by decide)) (hx _ (by decide)), r20.fr f, ⟨by rw [f.2.2.1]; exact c1, by rw [f.2.2.2.1]; exact c2, st⟩, s138.fr f (hx _ (by decide)) (hx _ (by decide)) (hx _ (by decide)), r157.fr f, ⟨by rw [f.2.2.1]; exact t1, by rw [f.2.2.1]; exact t2, by rw [f.2.2.2.1]; exact t3, t4.fr f (hx _ (by decide))⟩, q1.fr f, q2.fr f, q3.fr f, ?_, ?_, q4.fr f, r197.fr f⟩
  · rw [f.2.2.1]; exact a0
  · rw [f.2.2.1, f.2.2.2.1]; exact w
  · obtain ⟨p1, p2, p3, p4, p5, p6, p7, p8, p9, p10, p11, p12⟩ := p
    exact ⟨by rw [f.2.2.1]; exact p1, by rw [f.2.2.1]; exact p2, by rw [f.2.2.1]; exact p3, by rw [f.2.2.1]; exact p4, by rw [f.2.2.1]; exact p5, by rw [f.2.2.1]; exact p6, p7.fr f, p8.fr f, p9.fr f, by rw [f.2.2.2.1]; exact p10, by rw [f.2.2.2.1]; exact p11, by rw [f.2.2.2.1]; exact p12⟩
theorem XL.r0 {h : MH} (L : XL h) : gR h 0 0 = some 1 := L.1.1
theorem XL.r1 {h : MH} (L : XL h) : gR h 0 1 = some 20 := L.1.2.1
theorem XL.r3 {h : MH} (L : XL h) : gR h 0 3 = some 22 := L.1.2.2.1
theorem XL.r4 {h : MH} (L : XL h) : gR h 0 4 = some 138 := L.1.2.2.2.1
theorem XL.r5 {h : MH} (L : XL h) : gR h 0 5 = some 157 := L.1.2.2.2.2.1
theorem XL.r8 {h : MH} (L : XL h) : gR h 0 8 = some 159 := L.1.2.2.2.2.2.1
theorem XL.r9 {h : MH} (L : XL h) : gR h 0 9 = some 169 := L.1.2.2.2.2.2.2.1
theorem XL.r10 {h : MH} (L : XL h) : gR h 0 10 = some 172 := L.1.2.2.2.2.2.2.2.1
theorem XL.r11 {h : MH} (L : XL h) : gR h 0 11 = some 175 := L.1.2.2.2.2.2.2.2.2.1
theorem XL.r13 {h : MH} (L : XL h) : gR h 0 13 = some 178 := L.1.2.2.2.2.2.2.2.2.2.1
theorem XL.r14 {h : MH} (L : XL h) : gR h 0 14 = some 183 := L.1.2.2.2.2.2.2.2.2.2.2.1
theorem XL.r15 {h : MH} (L : XL h) : gR h 0 15 = some 194 := L.1.2.2.2.2.2.2.2.2.2.2.2.1
theorem XL.r16 {h : MH} (L : XL h) : gR h 0 16 = some 197 := L.1.2.2.2.2.2.2.2.2.2.2.2.2
theorem XL.st {h : MH} (L : XL h) : stAt h 1 := L.2.1
theorem XL.stk {h : MH} (L : XL h) : rowAt h 20 12 := L.2.2.1
theorem XL.acts {h : MH} (L : XL h) : (gR h 22 0 = some 23 ∧ gN h 23 = 6 ∧ ∀ i, i < 6 → stAt h (svAd i)) := L.2.2.2.1
theorem XL.img {h : MH} (L : XL h) : stAt h 138 := L.2.2.2.2.1
theorem XL.imk {h : MH} (L : XL h) : rowAt h 157 12 := L.2.2.2.2.2.1
theorem XL.tape {h : MH} (L : XL h) : (gR h 159 0 = some 160 ∧ gR h 159 5 = some 161 ∧ gN h 160 = 500 ∧ netAt h 161) := L.2.2.2.2.2.2.1
theorem XL.rt {h : MH} (L : XL h) : rtAt h 169 100 := L.2.2.2.2.2.2.2.1
theorem XL.wo {h : MH} (L : XL h) : rtAt h 172 100 := L.2.2.2.2.2.2.2.2.1
theorem XL.tri {h : MH} (L : XL h) : rtAt h 175 100 := L.2.2.2.2.2.2.2.2.2.1
theorem XL.lo {h : MH} (L : XL h) : rtAt h 194 30 := L.2.2.2.2.2.2.2.2.2.2.2.2.1
theorem XL.rou {h : MH} (L : XL h) : rowAt h 197 16 := L.2.2.2.2.2.2.2.2.2.2.2.2.2
theorem lrep.cg {g g' : Nat → Int32} {o : Nat} {ls : List Nat} (e : g' = g) (h : lrep g o ls) : lrep g' o ls := by rw [e]; exact h
theorem XN.fr {h h' : MH} {a : Nat} {t : NT} {B : Nat → Option (Nat × List Nat)} (hg : ∀ k, k < 8 → gI h' (a + k) = gI h (a + k)) (X : XN h a t B) : XN h' a t B := by
  have g0 := hg 0 (by decide); have g1 := hg 1 (by decide); have g2 := hg 2 (by decide); have g3 := hg 3 (by decide); have g4 := hg 4 (by decide); have g6 := hg 6 (by decide); have g7 := hg 7 (by decide)
  rw [Nat.add_zero] at g0
  unfold XN
  rw [g0, g1, g2, g3, g4, g6, g7]
  exact X
theorem XS.fr {h h' : MH} {a : Nat} {s : ST} (hg : ∀ k, k < 19 → gI h' (a + k) = gI h (a + k)) (X : XS h a s) : XS h' a s := by
  obtain ⟨x1, x2, x3, x4⟩ := X
  have g0 := hg 0 (by decide); have g9 := hg 9 (by decide); have g10 := hg 10 (by decide); have g12 := hg 12 (by decide); have g13 := hg 13 (by decide); have g15 := hg 15 (by decide); have g16 := hg 16 (by decide); have g17 := hg 17 (by decide); have g18 := hg 18 (by decide)
  rw [Nat.add_zero] at g0
  refine ⟨x1.fr (fun k hk => ?_), ?_, ?_, ?_⟩
  · rw [Nat.add_assoc]; exact hg (1 + k) (by omega)
  · rw [g9, g10, g12, g13]; exact x2
  · rw [g0, g15, g16]; exact x3
  · rw [g17, g18]; exact x4
theorem rowIs.fr {h h' : MH} {a : Nat} {ls : List Nat} (h0 : gI h' a = gI h a) (h1 : gI h' (a + 1) = gI h (a + 1)) (X : rowIs h a ls) : rowIs h' a ls := by
  unfold rowIs
  rw [h0, h1]
  exact X
theorem rtIs.fr {h h' : MH} {a : Nat} {t : NT} (h0 : gI h' (a + 1) = gI h (a + 1)) (h1 : gL h' (a + 2) = gL h (a + 2)) (X : rtIs h a t) : rtIs h' a t := by
  unfold rtIs
  rw [h0, h1]
  exact X
