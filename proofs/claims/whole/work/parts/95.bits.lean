/-! ===== how many bits a set has; its least ===== -/
def bcF (x0 : Int32) : Int32 :=
  lt (x0 - ((ush x0 1) &&& 1431655765)) fun x_1 =>
  lt ((x_1 &&& 858993459) + ((ush x_1 2) &&& 858993459)) fun x_2 =>
  lt ((x_2 + (ush x_2 4)) &&& 252645135) fun x_3 =>
  lt (x_3 + (ush x_3 8)) fun x_4 =>
  lt (x_4 + (ush x_4 16)) fun x_5 =>
  x_5 &&& 63
theorem x_bitCount (x : Int32) (h : MH) : f_J6_bitCount_0f7a4 x h = some (bcF x, h) := rfl
def q4 (a b c d : Nat) : Nat := 256 * (256 * (256 * a + b) + c) + d
theorem and8 {a b c d : Nat} (hb : b < 256) (hd : d < 256) : (256 * a + b) &&& (256 * c + d) = 256 * (a &&& c) + (b &&& d) := by
  have hb' : b < 2 ^ 8 := hb
  have hd' : d < 2 ^ 8 := hd
  have h3 : b &&& d < 2 ^ 8 := Nat.and_lt_two_pow b hd'
  apply Nat.eq_of_testBit_eq
  intro i
  rw [Nat.testBit_and, show (256 : Nat) = 2 ^ 8 from rfl, Nat.testBit_two_pow_mul_add _ hb', Nat.testBit_two_pow_mul_add _ hd', Nat.testBit_two_pow_mul_add _ h3]
  by_cases q : i < 8
  · rw [if_pos q, if_pos q, if_pos q, Nat.testBit_and]
  · rw [if_neg q, if_neg q, if_neg q, Nat.testBit_and]
theorem and4 {a b c d a' b' c' d' : Nat} (hb : b < 256) (hc : c < 256) (hd : d < 256) (hb' : b' < 256) (hc' : c' < 256) (hd' : d' < 256) : q4 a b c d &&& q4 a' b' c' d' = q4 (a &&& a') (b &&& b') (c &&& c') (d &&& d') := by
  unfold q4
  rw [and8 hd hd', and8 hc hc', and8 hb hb']
def tN (x : Int32) : Nat := x.toBitVec.toNat
theorem tN_lt (x : Int32) : tN x < 2 ^ 32 := x.toBitVec.isLt
theorem tN_and (x y : Int32) : tN (x &&& y) = tN x &&& tN y := by
  unfold tN; rw [Int32.toBitVec_and, BitVec.toNat_and]
theorem tN_add (x y : Int32) : tN (x + y) = (tN x + tN y) % 2 ^ 32 := by
  unfold tN; rw [Int32.toBitVec_add, BitVec.toNat_add]
theorem tN_sub (x y : Int32) (h : tN y ≤ tN x) : tN (x - y) = tN x - tN y := by
  have h1 := tN_lt x
  have h2 := tN_lt y
  unfold tN at *
  rw [Int32.toBitVec_sub, BitVec.toNat_sub]
  omega
theorem tN_ush (x : Int32) {l : Nat} (hl : l < 32) : tN (ush x (nI l)) = tN x / 2 ^ l := by
  have e : (ush x (nI l)).toBitVec = x.toBitVec >>> l := by
    show x.toBitVec >>> (((nI l).toUInt32 &&& Int32.toUInt32 31).toBitVec % 32) = x.toBitVec >>> l
    rw [BitVec.ushiftRight_eq', zf_sl l hl]
  unfold tN
  rw [e, BitVec.toNat_ushiftRight, Nat.shiftRight_eq_div_pow]
def pa1 (b : Nat) : Nat := b - (b / 2 &&& 85)
def pa2 (b : Nat) : Nat := (b &&& 51) + (b / 4 &&& 51)
def pa3 (b : Nat) : Nat := b % 16 + b / 16
def pop8 (b : Nat) : Nat := b % 2 + b / 2 % 2 + b / 4 % 2 + b / 8 % 2 + b / 16 % 2 + b / 32 % 2 + b / 64 % 2 + b / 128 % 2
theorem zf_p1 : ∀ b, b < 256 → ∀ c, c < 2 → (128 * c + b / 2) &&& 85 = b / 2 &&& 85 := by decide +kernel
theorem zf_p1b : ∀ b, b < 256 → (b / 2 &&& 85) ≤ b ∧ pa1 b < 256 := by decide +kernel
theorem zf_p2 : ∀ b, b < 256 → ∀ c, c < 4 → (64 * c + b / 4) &&& 51 = b / 4 &&& 51 := by decide +kernel
theorem zf_p2b : ∀ b, b < 256 → (b &&& 51) + (b / 4 &&& 51) < 256 := by decide +kernel
theorem zf_p3 : ∀ b, b < 256 → pa2 (pa1 b) % 16 ≤ 4 ∧ pa2 (pa1 b) / 16 ≤ 4 := by decide +kernel
theorem zf_pop : ∀ b, b < 256 → pa3 (pa2 (pa1 b)) = pop8 b ∧ pop8 b ≤ 8 := by decide +kernel
theorem bc_1 {x : Int32} {a b c d : Nat} (ha : a < 256) (hb : b < 256) (hc : c < 256) (hd : d < 256) (e : tN x = q4 a b c d) : tN (x - ((ush x 1) &&& 1431655765)) = q4 (pa1 a) (pa1 b) (pa1 c) (pa1 d) := by
  have e1 : tN ((ush x 1) &&& 1431655765) = q4 (a / 2 &&& 85) (b / 2 &&& 85) (c / 2 &&& 85) (d / 2 &&& 85) := by
    rw [tN_and, show tN (ush x 1) = tN x / 2 ^ 1 from tN_ush x (by decide), e, show q4 a b c d / 2 ^ 1 = q4 (a / 2) (128 * (a % 2) + b / 2) (128 * (b % 2) + c / 2) (128 * (c % 2) + d / 2) by unfold q4; omega, show tN 1431655765 = q4 85 85 85 85 by decide, and4 (by omega) (by omega) (by omega) (by decide) (by decide) (by decide), zf_p1 b hb _ (by omega), zf_p1 c hc _ (by omega), zf_p1 d hd _ (by omega)]
  have h1 := zf_p1b a ha
  have h2 := zf_p1b b hb
  have h3 := zf_p1b c hc
  have h4 := zf_p1b d hd
  rw [tN_sub _ _ (by rw [e1, e]; unfold q4; omega), e1, e]
  unfold pa1 q4
  omega
theorem bc_2 {x : Int32} {a b c d : Nat} (ha : a < 256) (hb : b < 256) (hc : c < 256) (hd : d < 256) (e : tN x = q4 a b c d) : tN ((x &&& 858993459) + ((ush x 2) &&& 858993459)) = q4 (pa2 a) (pa2 b) (pa2 c) (pa2 d) := by
  have e1 : tN ((ush x 2) &&& 858993459) = q4 (a / 4 &&& 51) (b / 4 &&& 51) (c / 4 &&& 51) (d / 4 &&& 51) := by
    rw [tN_and, show tN (ush x 2) = tN x / 2 ^ 2 from tN_ush x (by decide), e, show q4 a b c d / 2 ^ 2 = q4 (a / 4) (64 * (a % 4) + b / 4) (64 * (b % 4) + c / 4) (64 * (c % 4) + d / 4) by unfold q4; omega, show tN 858993459 = q4 51 51 51 51 by decide, and4 (by omega) (by omega) (by omega) (by decide) (by decide) (by decide), zf_p2 b hb _ (by omega), zf_p2 c hc _ (by omega), zf_p2 d hd _ (by omega)]
  have h1 := zf_p2b a ha
  have h2 := zf_p2b b hb
  have h3 := zf_p2b c hc
  have h4 := zf_p2b d hd
  rw [tN_add, e1, tN_and, e, show tN 858993459 = q4 51 51 51 51 by decide, and4 hb hc hd (by decide) (by decide) (by decide)]
  unfold pa2 q4
  omega
theorem and15 (x : Nat) : x &&& 15 = x % 16 := Nat.and_two_pow_sub_one_eq_mod x 4
theorem bc_3 {x : Int32} {a b c d : Nat} (ha : a % 16 ≤ 4 ∧ a / 16 ≤ 4) (hb : b % 16 ≤ 4 ∧ b / 16 ≤ 4) (hc : c % 16 ≤ 4 ∧ c / 16 ≤ 4) (hd : d % 16 ≤ 4 ∧ d / 16 ≤ 4) (e : tN x = q4 a b c d) : tN ((x + (ush x 4)) &&& 252645135) = q4 (pa3 a) (pa3 b) (pa3 c) (pa3 d) := by
  have e1 : tN (x + (ush x 4)) = q4 (a + a / 16) (b + (16 * (a % 16) + b / 16)) (c + (16 * (b % 16) + c / 16)) (d + (16 * (c % 16) + d / 16)) := by
    rw [tN_add, show tN (ush x 4) = tN x / 2 ^ 4 from tN_ush x (by decide), e, show q4 a b c d / 2 ^ 4 = q4 (a / 16) (16 * (a % 16) + b / 16) (16 * (b % 16) + c / 16) (16 * (c % 16) + d / 16) by unfold q4; omega]
    unfold q4
    omega
  have k : ∀ x y, y % 16 ≤ 4 ∧ y / 16 ≤ 4 → (y + (16 * x + y / 16)) % 16 = pa3 y := fun x y hy => by unfold pa3; omega
  have k0 : (a + a / 16) % 16 = pa3 a := by unfold pa3; omega
  rw [tN_and, e1, show tN 252645135 = q4 15 15 15 15 by decide, and4 (by omega) (by omega) (by omega) (by decide) (by decide) (by decide), and15, and15, and15, and15, k0, k _ b hb, k _ c hc, k _ d hd]
theorem bc_4 {x : Int32} {a b c d : Nat} (ha : a ≤ 8) (hb : b ≤ 8) (hc : c ≤ 8) (hd : d ≤ 8) (e : tN x = q4 a b c d) : (lt (x + (ush x 8)) fun x_4 => lt (x_4 + (ush x_4 16)) fun x_5 => x_5 &&& 63) = nI (a + b + c + d) := by
  rw [lt_def, lt_def]
  have e4 : tN (x + ush x 8) = q4 a (a + b) (b + c) (c + d) := by
    rw [tN_add, show tN (ush x 8) = tN x / 2 ^ 8 from tN_ush x (by decide), e]
    unfold q4
    omega
  have e5 : tN ((x + ush x 8) + ush (x + ush x 8) 16) = q4 a (a + b) (a + b + c) (a + b + c + d) := by
    rw [tN_add, show tN (ush (x + ush x 8) 16) = tN (x + ush x 8) / 2 ^ 16 from tN_ush _ (by decide), e4, show q4 a (a + b) (b + c) (c + d) / 2 ^ 16 = 256 * a + (a + b) by unfold q4; omega]
    rw [Nat.mod_eq_of_lt (by unfold q4; omega)]
    unfold q4
    omega
  apply Int32.toBitVec_inj.mp
  apply BitVec.eq_of_toNat_eq
  show tN (_ &&& 63) = tN (nI (a + b + c + d))
  rw [tN_and, e5, show tN 63 = 2 ^ 6 - 1 by decide, Nat.and_two_pow_sub_one_eq_mod]
  have : tN (nI (a + b + c + d)) = (a + b + c + d) % 2 ^ 32 := by
    show (BitVec.ofNat 32 (a + b + c + d)).toNat = _
    rw [BitVec.toNat_ofNat]
  rw [this]
  unfold q4
  omega
theorem bcF_pop {x : Int32} {a b c d : Nat} (ha : a < 256) (hb : b < 256) (hc : c < 256) (hd : d < 256) (e : tN x = q4 a b c d) : bcF x = nI (pop8 a + pop8 b + pop8 c + pop8 d) := by
  have e1 := bc_1 ha hb hc hd e
  have e2 := bc_2 (zf_p1b a ha).2 (zf_p1b b hb).2 (zf_p1b c hc).2 (zf_p1b d hd).2 e1
  have e3 := bc_3 (zf_p3 a ha) (zf_p3 b hb) (zf_p3 c hc) (zf_p3 d hd) e2
  rw [(zf_pop a ha).1, (zf_pop b hb).1, (zf_pop c hc).1, (zf_pop d hd).1] at e3
  unfold bcF
  rw [lt_def, lt_def, lt_def]
  exact bc_4 (zf_pop a ha).2 (zf_pop b hb).2 (zf_pop c hc).2 (zf_pop d hd).2 e3
theorem sumTo_app {f : Nat → Nat} (k : Nat) : ∀ n, sumTo f (k + n) = sumTo f k + sumTo (fun i => f (k + i)) n := by
  intro n
  induction n with
  | zero => rfl
  | succ n ih =>
    show sumTo f (k + n) + f (k + n) = sumTo f k + (sumTo (fun i => f (k + i)) n + f (k + n))
    rw [ih]; omega
theorem sumTo_cut {f : Nat → Nat} {m : Nat} : ∀ k, m ≤ k → (∀ i, m ≤ i → i < k → f i = 0) → sumTo f k = sumTo f m := by
  intro k
  induction k with
  | zero => intro h _; have : m = 0 := by omega
            rw [this]
  | succ k ih =>
    intro h hz
    by_cases q : m = k + 1
    · rw [q]
    · show sumTo f k + f k = _
      rw [ih (by omega) (fun i h1 h2 => hz i h1 (by omega)), hz k (by omega) (by omega)]
      omega
theorem pop_low (r : Nat) {d : Nat} (hd : d < 256) : sumTo (fun i => (256 * r + d) / 2 ^ i % 2) 8 = pop8 d := by
  simp only [sumTo, pop8]
  omega
theorem pop_hi (r : Nat) {d : Nat} (hd : d < 256) (i : Nat) : (256 * r + d) / 2 ^ (8 + i) = r / 2 ^ i := by
  rw [Nat.pow_add, ← Nat.div_div_eq_div_mul]
  congr 1
  omega
theorem pop_32 {a b c d : Nat} (ha : a < 256) (hb : b < 256) (hc : c < 256) (hd : d < 256) : sumTo (fun i => q4 a b c d / 2 ^ i % 2) 32 = pop8 a + pop8 b + pop8 c + pop8 d := by
  unfold q4
  rw [sumTo_app 8 24, pop_low _ hd, sumTo_congr (g := fun i => (256 * (256 * a + b) + c) / 2 ^ i % 2) 24 (fun i _ => by rw [pop_hi _ hd]), sumTo_app 8 16, pop_low _ hc, sumTo_congr (g := fun i => (256 * a + b) / 2 ^ i % 2) 16 (fun i _ => by rw [pop_hi _ hc]), sumTo_app 8 8, pop_low _ hb, sumTo_congr (g := fun i => (256 * 0 + a) / 2 ^ i % 2) 8 (fun i _ => by rw [pop_hi _ hb]; simp), pop_low _ ha]
  omega
theorem bcF_set {U : Nat → Bool} {m : Nat} (hm : m ≤ 32) : bcF (setF U m) = nI (sumTo (fun l => if U l = true then 1 else 0) m) := by
  have hX := tN_lt (setF U m)
  have e : tN (setF U m) = q4 (tN (setF U m) / 16777216) (tN (setF U m) / 65536 % 256) (tN (setF U m) / 256 % 256) (tN (setF U m) % 256) := by
    unfold q4; omega
  rw [bcF_pop (by omega) (by omega) (by omega) (by omega) e, ← pop_32 (by omega) (by omega) (by omega) (by omega), ← e]
  congr 1
  rw [sumTo_congr (g := fun i => if bit (setF U m) i = true then 1 else 0) 32 (fun i _ => by
    unfold bit
    rw [BitVec.getLsbD, Nat.testBit_eq_decide_div_mod_eq]
    show tN (setF U m) / 2 ^ i % 2 = (if decide (tN (setF U m) / 2 ^ i % 2 = 1) = true then 1 else 0)
    have := Nat.mod_lt (tN (setF U m) / 2 ^ i) (show 0 < 2 by decide)
    by_cases q : tN (setF U m) / 2 ^ i % 2 = 1
    · rw [if_pos (by exact decide_eq_true q), q]
    · rw [if_neg (fun z => q (of_decide_eq_true z))]; omega)]
  rw [sumTo_cut (m := m) 32 hm (fun i h1 _ => by
    rw [bit_setF hm, if_neg (fun z => by simp at z; omega)])]
  exact sumTo_congr _ (fun i hi => by rw [bit_setF hm]; simp [hi])
def fstB (U : Nat → Bool) : Nat → Option Nat
  | 0 => none
  | m + 1 => match fstB U m with
    | some l => some l
    | none => if U m = true then some m else none
theorem fstB_some {U : Nat → Bool} {l : Nat} : ∀ {m : Nat}, fstB U m = some l → l < m ∧ U l = true ∧ ∀ j, j < l → U j = false := by
  intro m
  induction m with
  | zero => intro h; cases h
  | succ m ih =>
    intro h
    unfold fstB at h
    cases e : fstB U m with
    | some l' =>
      rw [e] at h
      have h' : l' = l := Option.some.inj h
      subst h'
      have := ih e
      exact ⟨by omega, this.2⟩
    | none =>
      rw [e] at h
      have h : (if U m = true then some m else none) = some l := h
      by_cases q : U m = true
      · rw [if_pos q] at h
        have h' : m = l := Option.some.inj h
        subst h'
        refine ⟨by omega, q, ?_⟩
        clear ih h q
        have : ∀ k, fstB U k = none → ∀ j, j < k → U j = false := by
          intro k
          induction k with
          | zero => intro _ j hj; omega
          | succ k ihk =>
            intro hk j hj
            unfold fstB at hk
            cases e2 : fstB U k with
            | some l' => rw [e2] at hk; cases hk
            | none =>
              rw [e2] at hk
              have hk : (if U k = true then some k else none) = none := hk
              by_cases q2 : U k = true
              · rw [if_pos q2] at hk; cases hk
              · by_cases q3 : j = k
                · rw [q3]; cases e3 : U k with
                  | true => exact absurd e3 q2
                  | false => rfl
                · exact ihk e2 j (by omega)
        exact this m e
      · rw [if_neg q] at h; cases h
theorem fstB_none {U : Nat → Bool} : ∀ {m : Nat}, fstB U m = none → ∀ j, j < m → U j = false := by
  intro m
  induction m with
  | zero => intro _ j hj; omega
  | succ m ih =>
    intro h j hj
    unfold fstB at h
    cases e2 : fstB U m with
    | some l' => rw [e2] at h; cases h
    | none =>
      rw [e2] at h
      have h : (if U m = true then some m else none) = none := h
      by_cases q2 : U m = true
      · rw [if_pos q2] at h; cases h
      · by_cases q3 : j = m
        · rw [q3]; cases e3 : U m with
          | true => exact absurd e3 q2
          | false => rfl
        · exact ih e2 j (by omega)
theorem fstB_is {U : Nat → Bool} {l m : Nat} (hl : l < m) (h1 : U l = true) (h2 : ∀ j, j < l → U j = false) : fstB U m = some l := by
  cases e : fstB U m with
  | none => rw [fstB_none e l hl] at h1; cases h1
  | some k =>
    obtain ⟨k1, k2, k3⟩ := fstB_some e
    by_cases q : k < l
    · rw [h2 k q] at k2; cases k2
    · by_cases q2 : l < k
      · rw [k3 l q2] at h1; cases h1
      · rw [show k = l by omega]
theorem zf_low : ∀ l, l < 32 → bcF (((1 : Int32) <<< (nI l &&& 31)) - 1) = nI l := by decide +kernel
theorem x_leastOf {U : Nat → Bool} {m : Nat} (hm : m ≤ 32) (h : MH) : f_X10_leastOf (setF U m) h = some (fpl (fstB U m), h) := by
  unfold f_X10_leastOf
  cases e : fstB U m with
  | none =>
    rw [if_pos]
    · rfl
    · refine bit_ext (fun i hi => ?_)
      rw [bit_setF hm, bit_0]
      by_cases q : i < m
      · rw [fstB_none e i q]; simp
      · simp [q]
  | some l =>
    obtain ⟨k1, k2, k3⟩ := fstB_some e
    have hb : ∀ i, bit (setF U m) i = (decide (i < m) && U i) := fun i => bit_setF hm
    have e1 : (setF U m &&& -setF U m) = ((1 : Int32) <<< (nI l &&& 31)) := by
      refine bit_ext (fun i hi => ?_)
      rw [bit_and, bit_one (by omega)]
      have hn : bit (-setF U m) i = (bit (setF U m) i ^^ decide (i < 32) && decide (∃ j < i, bit (setF U m) j = true)) := by
        unfold bit
        rw [Int32.toBitVec_neg, BitVec.getLsbD_neg]
      rw [hn, hb i]
      by_cases q : l = i
      · subst q
        have : ¬ ∃ j < l, bit (setF U m) j = true := fun ⟨j, hj, z⟩ => by
          rw [hb j, k3 j hj] at z; simp at z
        simp [k1, k2, this]
      · by_cases q2 : i < l
        · rw [k3 i q2]; simp [q]
        · have : ∃ j < i, bit (setF U m) j = true := ⟨l, by omega, by rw [hb l, k2]; simp [k1]⟩
          cases hu : (decide (i < m) && U i) with
          | false => simp [q]
          | true => simp [this, hi, q]
    rw [if_neg, e1, x_bitCount, Option.bind_some, zf_low l (by omega)]
    · rfl
    · intro z
      have := hb l
      rw [z, bit_0, k2] at this
      simp [k1] at this
