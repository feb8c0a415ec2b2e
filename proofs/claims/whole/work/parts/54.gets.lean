/-! ===== bits, ranges, small reads of the two systems (the first four rows are the kit's, pasted) ===== -/
theorem zf_sh : ∀ l, l < 32 → ((1 : Int32) <<< (nI l &&& 31)).toBitVec = BitVec.twoPow 32 l := by decide +kernel
theorem zf_sl : ∀ l, l < 32 → (((nI l).toUInt32 &&& Int32.toUInt32 31).toBitVec % 32).toNat = l := by decide +kernel
/-- bit i of a set -/
def bit (x : Int32) (i : Nat) : Bool := x.toBitVec.getLsbD i
theorem bit_ext {x y : Int32} (h : ∀ i, i < 32 → bit x i = bit y i) : x = y := Int32.toBitVec_inj.mp (BitVec.eq_of_getLsbD_eq (fun i hi => h i hi))
theorem bit_or (x y : Int32) (i : Nat) : bit (x ||| y) i = (bit x i || bit y i) := by
  unfold bit; rw [Int32.toBitVec_or, BitVec.getLsbD_or]
theorem bit_and (x y : Int32) (i : Nat) : bit (x &&& y) i = (bit x i && bit y i) := by
  unfold bit; rw [Int32.toBitVec_and, BitVec.getLsbD_and]
theorem bit_xor (x y : Int32) (i : Nat) : bit (x ^^^ y) i = (bit x i ^^ bit y i) := by
  unfold bit; rw [Int32.toBitVec_xor, BitVec.getLsbD_xor]
theorem bit_0 (i : Nat) : bit 0 i = false := by unfold bit; show (0#32).getLsbD i = false; simp
theorem bit_m1 : ∀ i, i < 32 → bit (-1) i = true := by decide
theorem bit_one {l i : Nat} (hl : l < 32) : bit ((1 : Int32) <<< (nI l &&& 31)) i = decide (l = i) := by
  unfold bit
  rw [zf_sh l hl, BitVec.getLsbD_twoPow]
  by_cases h : l = i
  · subst h; simp [hl]
  · simp [h]
theorem bit_ush {x : Int32} {l : Nat} (hl : l < 32) : ((ush x (nI l)) &&& 1) = 0 ↔ bit x l = false := by
  have e : (ush x (nI l)).toBitVec = x.toBitVec >>> l := by
    show x.toBitVec >>> (((nI l).toUInt32 &&& Int32.toUInt32 31).toBitVec % 32) = x.toBitVec >>> l
    rw [BitVec.ushiftRight_eq', zf_sl l hl]
  rw [← Int32.toBitVec_inj, Int32.toBitVec_and, e]
  show (x.toBitVec >>> l &&& 1#32) = 0#32 ↔ _
  rw [BitVec.and_one_eq_setWidth_ofBool_getLsbD, BitVec.getLsbD_ushiftRight, Nat.add_zero]
  unfold bit
  cases x.toBitVec.getLsbD l
  · exact ⟨fun _ => rfl, fun _ => by decide⟩
  · exact ⟨fun z => absurd z (by decide), fun z => by cases z⟩
theorem bit_setF {U : Nat → Bool} : ∀ {m i : Nat}, m ≤ 32 → bit (setF U m) i = (decide (i < m) && U i) := by
  intro m
  induction m with
  | zero => intro i _; unfold setF; rw [bit_0]; simp
  | succ m ih =>
    intro i hm
    unfold setF
    have h1 := ih (i := i) (by omega)
    by_cases hu : U m = true
    · rw [if_pos hu, bit_or, h1, bit_one (by omega)]
      by_cases hi : m = i
      · subst hi; simp [hu]
      · have e1 : decide (i < m + 1) = decide (i < m) := by
          by_cases q : i < m
          · simp [q]; omega
          · simp [q]; omega
        rw [e1]; simp [hi]
    · rw [if_neg hu, h1]
      by_cases hi : m = i
      · subst hi; simp [hu]
      · have e1 : decide (i < m + 1) = decide (i < m) := by
          by_cases q : i < m
          · simp [q]; omega
          · simp [q]; omega
        rw [e1]
theorem setF_congr {U V : Nat → Bool} : ∀ {m : Nat}, (∀ l, l < m → U l = V l) → setF U m = setF V m := by
  intro m
  induction m with
  | zero => intro _; rfl
  | succ m ih =>
    intro h
    unfold setF
    rw [ih (fun l hl => h l (by omega)), h m (by omega)]
theorem ofZ {x : Int32} {n : Nat} (h0 : 0 ≤ x.toInt) (h1 : x.toInt < n) : ∃ u, u < n ∧ x = nI u := by
  have hb := Int32.toInt_lt x
  refine ⟨x.toInt.toNat, by omega, ?_⟩
  apply Int32.toInt_inj.mp
  rw [nI_toInt (by omega)]
  omega
theorem Z0 : (0 : Int32).toInt = 0 := rfl
theorem zlt {x y : Int32} : x < y ↔ x.toInt < y.toInt := Int32.lt_iff_toInt_lt
theorem rng_lt {x : Int32} {n : Nat} (hn : n < 2 ^ 31) {h : MH} : (if x < 0 then some ((0 : Int32), h) else if x < nI n then some (1, h) else some (0, h)) = some (bI (0 ≤ x.toInt ∧ x.toInt < n), h) := by
  unfold bI
  by_cases h1 : x < 0
  · rw [if_pos h1, if_neg (by rw [zlt, Z0] at h1; omega)]
  · rw [if_neg h1]
    by_cases h2 : x < nI n
    · rw [if_pos h2, if_pos (by rw [zlt, Z0] at h1; rw [zlt, nI_toInt hn] at h2; omega)]
    · rw [if_neg h2, if_neg (by rw [zlt, nI_toInt hn] at h2; omega)]
theorem rng_le {x : Int32} {lo hi : Nat} (hl : lo < 2 ^ 31) (hh : hi < 2 ^ 31) {h : MH} : (if x < nI lo then some ((0 : Int32), h) else if nI hi < x then some (0, h) else some (1, h)) = some (bI ((lo : Int) ≤ x.toInt ∧ x.toInt ≤ hi), h) := by
  unfold bI
  by_cases h1 : x < nI lo
  · rw [if_pos h1, if_neg (by rw [zlt, nI_toInt hl] at h1; omega)]
  · rw [if_neg h1]
    by_cases h2 : nI hi < x
    · rw [if_pos h2, if_neg (by rw [zlt, nI_toInt hh] at h2; omega)]
    · rw [if_neg h2, if_pos (by rw [zlt, nI_toInt hl] at h1; rw [zlt, nI_toInt hh] at h2; omega)]
/-! the class -/
theorem x_hasNode {h : MH} {a n : Nat} {x : Int32} (e : gI h a 0 = nI n) (hn : n < 2 ^ 31) : f_X2_hasNode a x h = some (bI (0 ≤ x.toInt ∧ x.toInt < n), h) := by
  unfold f_X2_hasNode; rw [e]; exact rng_lt hn
theorem x_hasLink {h : MH} {a n : Nat} {x : Int32} (e : gI h a 1 = nI n) (hn : n < 2 ^ 31) : f_X2_hasLink a x h = some (bI (0 ≤ x.toInt ∧ x.toInt < n), h) := by
  unfold f_X2_hasLink; rw [e]; exact rng_lt hn
theorem x_isUp {h : MH} {a m l : Nat} {U : Nat → Bool} (e : gI h a 1 = nI m) (e2 : gI h a 2 = setF U m) (hm : m ≤ 30) (hl : l < m) : f_X2_isUp a (nI l) h = some (bI (U l = true), h) := by
  unfold f_X2_isUp
  rw [if_neg (nI_nn (by omega)), e, if_pos ((nI_ltI (by omega) (by omega)).mpr hl), e2]
  have hb := bit_setF (U := U) (m := m) (i := l) (by omega)
  unfold bI
  by_cases hu : U l = true
  · rw [if_neg (fun q => by rw [(bit_ush (by omega)).mp q] at hb; simp [hl, hu] at hb), if_pos hu]
  · rw [if_pos ((bit_ush (by omega)).mpr (by rw [hb]; simp [hl, hu])), if_neg hu]
theorem x_isAmount {h : MH} {x : Int32} : f_X10_isAmount x h = some (bI (1 ≤ x.toInt ∧ x.toInt ≤ 99), h) := rng_le (lo := 1) (hi := 99) (by decide) (by decide)
theorem x_isBinding {h : MH} {x : Int32} : f_X10_isBinding x h = some (bI (0 ≤ x.toInt ∧ x.toInt < 6), h) := rng_lt (n := 6) (by decide)
theorem x_isDemand {h : MH} {x : Int32} : f_X10_isDemand x h = some (bI (0 ≤ x.toInt ∧ x.toInt < 8), h) := rng_lt (n := 8) (by decide)
/-! the reference -/
theorem m_isIn {h : MH} {a : Nat} {x lo hi : Int64} : f_X11_isIn a x lo hi h = some (bI (lo.toInt ≤ x.toInt ∧ x.toInt ≤ hi.toInt), h) := by
  unfold f_X11_isIn bI
  by_cases h1 : x < lo
  · rw [if_pos h1, if_neg (by rw [Int64.lt_iff_toInt_lt] at h1; omega)]
  · rw [if_neg h1]
    by_cases h2 : hi < x
    · rw [if_pos h2, if_neg (by rw [Int64.lt_iff_toInt_lt] at h2; omega)]
    · rw [if_neg h2, if_pos (by rw [Int64.lt_iff_toInt_lt] at h1 h2; omega)]
theorem z64 (x : Int32) : x.toInt64.toInt = x.toInt := Int32.toInt_toInt64 x
theorem z64p {n : Nat} (hn : n < 2 ^ 31) : ((nI n).toInt64 - 1).toInt = (n : Int) - 1 := by
  rw [Int64.toInt_sub, z64, nI_toInt hn]
  have : (1 : Int64).toInt = 1 := rfl
  rw [this, Int.bmod_eq_of_le (by omega) (by omega)]
theorem m_inN {h : MH} {a n : Nat} {x : Int32} (hn : n < 2 ^ 31) : f_X11_isIn a x.toInt64 0 ((nI n).toInt64 - 1) h = some (bI (0 ≤ x.toInt ∧ x.toInt < n), h) := by
  rw [m_isIn, z64, z64p hn]
  have h0 : (0 : Int64).toInt = 0 := rfl
  rw [h0]
  unfold bI
  by_cases q : 0 ≤ x.toInt ∧ x.toInt < n
  · rw [if_pos q, if_pos (by omega)]
  · rw [if_neg q, if_neg (by omega)]
theorem m_inT {h : MH} {a n : Nat} {x : Int32} (hn : n < 2 ^ 31) : f_X11_isIn a x.toInt64 0 (nI n).toInt64 h = some (bI (0 ≤ x.toInt ∧ x.toInt ≤ n), h) := by
  rw [m_isIn, z64, z64, nI_toInt hn]
  rfl
theorem m_inL {h : MH} {a : Nat} {x : Int32} {lo hi : Int64} {l k : Nat} (hl : lo.toInt = l) (hk : hi.toInt = k) : f_X11_isIn a x.toInt64 lo hi h = some (bI ((l : Int) ≤ x.toInt ∧ x.toInt ≤ k), h) := by
  rw [m_isIn, z64, hl, hk]
section MG
variable {h : MH} {t : NT}
theorem m_now (L : ML h) {i : Nat} (hi : i < 512) : ldI h 1 (nI i) = some (gI h 1 i) := ldI_ok (by rw [L.n1]; exact hi) (by omega)
theorem m_n (L : ML h) (N : MN (gI h 1) t) (w : wfN t) : f_X11_n 0 h = some (nI (nN t), h) := by
  unfold f_X11_n
  rw [L.r1]
  show (ldI h 1 (nI 0)).bind _ = _
  rw [m_now L (by decide), N.1]
  show some (nI (nN t - 2) + nI 2, h) = _
  rw [nI_add, Nat.sub_add_cancel w.1]
theorem m_links (L : ML h) (N : MN (gI h 1) t) : f_X11_links 0 h = some (nI (nM t), h) := by
  unfold f_X11_links
  rw [L.r1]
  show (ldI h 1 (nI 1)).bind _ = _
  rw [m_now L (by decide), N.2.1]
  rfl
theorem m_from (L : ML h) (N : MN (gI h 1) t) (w : wfN t) {l : Nat} (hl : l < nM t) : f_X11_from 0 (nI l) h = some (nI (nF t l), h) := by
  have hm := w.2.2.1
  unfold f_X11_from
  rw [L.r1]
  show (ldI h 1 (nI 2 + nI l)).bind _ = _
  rw [nI_add, m_now L (by omega), (N.2.2 l hl).1]
  rfl
theorem m_to (L : ML h) (N : MN (gI h 1) t) (w : wfN t) {l : Nat} (hl : l < nM t) : f_X11_to 0 (nI l) h = some (nI (nT t l), h) := by
  have hm := w.2.2.1
  unfold f_X11_to
  rw [L.r1]
  show (ldI h 1 (nI 32 + nI l)).bind _ = _
  rw [nI_add, m_now L (by omega), (N.2.2 l hl).2.1]
  rfl
theorem m_costOf (L : ML h) (N : MN (gI h 1) t) (w : wfN t) {l : Nat} (hl : l < nM t) : f_X11_costOf 0 (nI l) h = some (nI (nC t l), h) := by
  have hm := w.2.2.1
  unfold f_X11_costOf
  rw [L.r1]
  show (ldI h 1 (nI 62 + nI l)).bind _ = _
  rw [nI_add, m_now L (by omega), (N.2.2 l hl).2.2.1]
  rfl
theorem m_isUp (L : ML h) (N : MN (gI h 1) t) (w : wfN t) {l : Nat} (hl : l < nM t) : f_X11_isUp 0 (nI l) h = some (bI (nU t l = true), h) := by
  have hm := w.2.2.1
  unfold f_X11_isUp
  rw [L.r1]
  show (ldI h 1 (nI 92 + nI l)).bind _ = _
  rw [nI_add, m_now L (by omega), (N.2.2 l hl).2.2.2]
  show (if (if nU t l then (0 : Int32) else 1) = 0 then some ((1 : Int32), h) else some (0, h)) = _
  unfold bI
  by_cases hu : nU t l = true
  · rw [if_pos hu, if_pos rfl, if_pos hu]
  · rw [if_neg hu, if_neg (by decide), if_neg hu]
theorem m_isNode (L : ML h) (N : MN (gI h 1) t) (w : wfN t) {x : Int32} : f_X11_isNode 0 x h = some (bI (0 ≤ x.toInt ∧ x.toInt < nN t), h) := by
  have hn := w.2.1
  unfold f_X11_isNode
  rw [m_n L N w]
  show (f_X11_isIn 0 x.toInt64 0 ((nI (nN t)).toInt64 - 1) h).bind _ = _
  rw [m_inN (by omega)]
  exact if_pos bI_01
theorem m_isLink (L : ML h) (N : MN (gI h 1) t) (w : wfN t) {x : Int32} : f_X11_isLink 0 x h = some (bI (0 ≤ x.toInt ∧ x.toInt < nM t), h) := by
  have hn := w.2.2.1
  unfold f_X11_isLink
  rw [m_links L N]
  show (f_X11_isIn 0 x.toInt64 0 ((nI (nM t)).toInt64 - 1) h).bind _ = _
  rw [m_inN (by omega)]
  exact if_pos bI_01
theorem m_isBinding {x : Int32} : f_X11_isBinding 0 x h = some (bI (0 ≤ x.toInt ∧ x.toInt < 6), h) := by
  unfold f_X11_isBinding
  rw [m_inL (l := 0) (k := 5) rfl rfl]
  show (if _ then some (_, h) else none) = _
  rw [if_pos bI_01]
  unfold bI
  by_cases q : 0 ≤ x.toInt ∧ x.toInt < 6
  · rw [if_pos q, if_pos (by omega)]
  · rw [if_neg q, if_neg (by omega)]
theorem m_isDemand {x : Int32} : f_X11_isDemand 0 x h = some (bI (0 ≤ x.toInt ∧ x.toInt < 8), h) := by
  unfold f_X11_isDemand
  rw [m_inL (l := 0) (k := 7) rfl rfl]
  show (if _ then some (_, h) else none) = _
  rw [if_pos bI_01]
  unfold bI
  by_cases q : 0 ≤ x.toInt ∧ x.toInt < 8
  · rw [if_pos q, if_pos (by omega)]
  · rw [if_neg q, if_neg (by omega)]
theorem m_wayLong (L : ML h) {n : Nat} (e : gI h 1 495 = nI n) : f_X11_wayLong 0 h = some (nI n, h) := by
  unfold f_X11_wayLong
  rw [L.r1]
  show (ldI h 1 (nI 495)).bind _ = _
  rw [m_now L (by decide), e]
  rfl
theorem m_wayLink (L : ML h) {i : Nat} (hi : i < 16) : f_X11_wayLink 0 (nI i) h = some (gI h 1 (496 + i), h) := by
  unfold f_X11_wayLink
  rw [L.r1]
  show (ldI h 1 (nI 496 + nI i)).bind _ = _
  rw [nI_add, m_now L (by omega)]
  rfl
end MG
