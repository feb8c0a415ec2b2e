/-! ===== the class's reads that test their index ===== -/
section XBr
variable {h : MH} {a : Nat}
theorem x_getN {w i : Nat} {ls : List Nat} (A : rowAt h a w) (r : rowIs h a ls) (hl : ls.length ≤ w) (hw : w < 2 ^ 31) (hi : i < ls.length) : f_X5_get a (nI i) h = some (nI (ls.getD i 0), h) := by
  rw [x_get A r hl hw, nI_toInt (by omega), if_pos ⟨by omega, by omega⟩, Int.toNat_natCast]
theorem x_fromOf {t : NT} {B : Nat → Option (Nat × List Nat)} {l : Nat} (A : netAt h a) (X : XN h a t B) (hm : nM t ≤ 30) (hl : l < nM t) : f_X2_fromOf a (nI l) h = some (nI (nF t l), h) := by
  unfold f_X2_fromOf
  rw [if_neg (nI_nn (by omega)), X.2.1, if_pos (nI_lt hl (by omega)), A.1, Option.bind_some, ldI_ok (by rw [A.2.2.2.2.2.1]; omega) (by omega), Option.bind_some, (X.2.2.2.1 l hl).1]
theorem x_toOf {t : NT} {B : Nat → Option (Nat × List Nat)} {l : Nat} (A : netAt h a) (X : XN h a t B) (hm : nM t ≤ 30) (hl : l < nM t) : f_X2_toOf a (nI l) h = some (nI (nT t l), h) := by
  unfold f_X2_toOf
  rw [if_neg (nI_nn (by omega)), X.2.1, if_pos (nI_lt hl (by omega)), A.2.1, Option.bind_some, ldI_ok (by rw [A.2.2.2.2.2.2.1]; omega) (by omega), Option.bind_some, (X.2.2.2.1 l hl).2.1]
theorem x_priceOf {t : NT} {B : Nat → Option (Nat × List Nat)} {l : Nat} (A : netAt h a) (X : XN h a t B) (hm : nM t ≤ 30) (hl : l < nM t) : f_X2_priceOf a (nI l) h = some (nI (nC t l), h) := by
  unfold f_X2_priceOf
  rw [if_neg (nI_nn (by omega)), X.2.1, if_pos (nI_lt hl (by omega)), A.2.2.1, Option.bind_some, ldI_ok (by rw [A.2.2.2.2.2.2.2.1]; omega) (by omega), Option.bind_some, (X.2.2.2.1 l hl).2.2]
theorem x_fromOf_m1 : f_X2_fromOf a (-1) h = some (-1, h) := by
  unfold f_X2_fromOf
  rw [if_pos (by decide)]
theorem x_toOf_m1 : f_X2_toOf a (-1) h = some (-1, h) := by
  unfold f_X2_toOf
  rw [if_pos (by decide)]
theorem x_distIn {r u v : Nat} (hu : u < 10) (hv : v < 10) : f_X4_distance r (nI u) (nI v) h = (gR h r 0).bind fun a_1 => (ldI h a_1 ((nI v * 10) + nI u)).bind fun x_2 => some (x_2, h) := by
  unfold f_X4_distance
  rw [if_neg (show ¬ nI u < 0 from nI_nn (by omega)), if_pos (show nI u < 10 from nI_lt hu (by decide)), if_neg (show ¬ nI v < 0 from nI_nn (by omega)), if_pos (show nI v < 10 from nI_lt hv (by decide))]
  unfold f_X4_distance_25
  rw [if_neg (by decide)]
theorem x_countIn {r u v : Nat} (hu : u < 10) (hv : v < 10) : f_X4_countOf r (nI u) (nI v) h = (gR h r 1).bind fun a_1 => (ldL h a_1 ((nI v * 10) + nI u)).bind fun x_2 => some (x_2, h) := by
  unfold f_X4_countOf
  rw [if_neg (show ¬ nI u < 0 from nI_nn (by omega)), if_pos (show nI u < 10 from nI_lt hu (by decide)), if_neg (show ¬ nI v < 0 from nI_nn (by omega)), if_pos (show nI v < 10 from nI_lt hv (by decide))]
  unfold f_X4_countOf_25
  rw [if_neg (by decide)]
end XBr
