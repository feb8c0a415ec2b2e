/-! java/util/Arrays.fill([II)V -/
theorem dJ7_fill_53178_0 : decode cJ7_fill_53178 0 = .ok (.iconst 0, 1) := by decide +kernel
theorem dJ7_fill_53178_1 : decode cJ7_fill_53178 1 = .ok (.istore_n 2, 1) := by decide +kernel
theorem dJ7_fill_53178_2 : decode cJ7_fill_53178 2 = .ok (.aload_n 0, 1) := by decide +kernel
theorem dJ7_fill_53178_3 : decode cJ7_fill_53178 3 = .ok (.arraylength, 1) := by decide +kernel
theorem dJ7_fill_53178_4 : decode cJ7_fill_53178 4 = .ok (.istore_n 3, 1) := by decide +kernel
theorem dJ7_fill_53178_5 : decode cJ7_fill_53178 5 = .ok (.iload_n 2, 1) := by decide +kernel
theorem dJ7_fill_53178_6 : decode cJ7_fill_53178 6 = .ok (.iload_n 3, 1) := by decide +kernel
theorem dJ7_fill_53178_7 : decode cJ7_fill_53178 7 = .ok (.if_icmp .ge 13, 3) := by decide +kernel
theorem dJ7_fill_53178_10 : decode cJ7_fill_53178 10 = .ok (.aload_n 0, 1) := by decide +kernel
theorem dJ7_fill_53178_11 : decode cJ7_fill_53178 11 = .ok (.iload_n 2, 1) := by decide +kernel
theorem dJ7_fill_53178_12 : decode cJ7_fill_53178 12 = .ok (.iload_n 1, 1) := by decide +kernel
theorem dJ7_fill_53178_13 : decode cJ7_fill_53178 13 = .ok (.iastore, 1) := by decide +kernel
theorem dJ7_fill_53178_14 : decode cJ7_fill_53178 14 = .ok (.iinc 2 1, 3) := by decide +kernel
theorem dJ7_fill_53178_17 : decode cJ7_fill_53178 17 = .ok (.goto (-12), 3) := by decide +kernel
theorem dJ7_fill_53178_20 : decode cJ7_fill_53178 20 = .ok (.return_, 1) := by decide +kernel
abbrev mJ7_fill_53178 : MI := (RJ7, yJ7_fill_53178, cJ7_fill_53178, 4, none)
theorem mok_J7_fill_53178 : MOKs mJ7_fill_53178 2 := ⟨⟨bm_162, bm_118, ⟨by decide, by decide⟩, by decide +kernel⟩, bm_161⟩
def f_J7_fill_53178_5b   (a0 : Nat) (x1 : Int32) (x3 : Int32) (k5 : Int32 → MH → Option (MH)) (p : Int32) (h : MH) : Option (MH) :=
  if p < x3 then
    (stI h a0 p x1).bind fun h_1 =>
    k5 (p + 1) h_1
  else
    some h
def f_J7_fill_53178_5   (a0 : Nat) (x1 : Int32) (x3 : Int32) : Nat → Int32 → MH → Option (MH) := lp (f_J7_fill_53178_5b a0 x1 x3)
def f_J7_fill_53178   (a0 : Nat) (x1 : Int32) (h : MH) : Option (MH) :=
  lt (Int32.ofNat (gN h a0)) fun x_1 =>
  f_J7_fill_53178_5 a0 x1 x_1 FU 0 h
set_option maxRecDepth 100000 in
set_option maxHeartbeats 4000000 in
theorem v_J7_fill_53178_5b {l : Launch} {G : GE} {B N : Nat} {S : List SHP} {o : MH} {a0 : Nat} {x1 : Int32} {x3 : Int32}    (hs0 : S[a0]? = some (.inr 0)) {k5 : Int32 → MH → Option (MH)} (hk5 : ∀ (p : Int32) (h : MH), k5 p h = some o → V l G B N mJ7_fill_53178 (rmm 3 0 0) false 0 0 (QV S o) S 0 0 5 [(0, .ref a0), (1, .int x1), (2, .int p), (3, .int x3)] [] h) {p : Int32} {h : MH} (hf : f_J7_fill_53178_5b a0 x1 x3 k5 p h = some o) : V l G B N mJ7_fill_53178 (rmm 3 0 0) false 0 0 (QV S o) S 0 0 5 [(0, .ref a0), (1, .int x1), (2, .int p), (3, .int x3)] [] h := by
  unfold f_J7_fill_53178_5b at hf
  refine V_iload_n (pc' := 6) dJ7_fill_53178_5 rfl 2 rfl rfl ?_
  refine V_iload_n (pc' := 7) dJ7_fill_53178_6 rfl 3 rfl rfl ?_
  refine V_icmp_ge (tgt := 20) (pc' := 10) dJ7_fill_53178_7 (by decide) rfl hf (fun hf => ?_) (fun hf => ?_)
  ·
    refine V_aload_n (pc' := 11) dJ7_fill_53178_10 rfl 0 rfl rfl ?_
    refine V_iload_n (pc' := 12) dJ7_fill_53178_11 rfl 2 rfl rfl ?_
    refine V_iload_n (pc' := 13) dJ7_fill_53178_12 rfl 1 rfl rfl ?_
    refine V_iast (pc' := 14) dJ7_fill_53178_13 rfl hs0 hf (fun h_1 hf => ?_)
    refine V_iinc (v := (p + 1)) (lv' := [(2, .int (p + 1)), (0, .ref a0), (1, .int x1), (3, .int x3)]) (pc' := 17) dJ7_fill_53178_14 rfl 2 rfl rfl (Nat.le_of_ble_eq_true rfl) rfl ?_
    refine V_goto (tgt := 5) dJ7_fill_53178_17 (by decide) ?_
    exact V_sub (lv' := [(0, .ref a0), (1, .int x1), (2, .int (p + 1)), (3, .int x3)]) [1, 2, 0, 3] rfl (hk5 (p + 1) h_1 hf)
  ·
    obtain rfl := Option.some.inj hf
    exact V_vret dJ7_fill_53178_20 rfl rfl rfl ⟨rfl, rfl, rfl⟩
theorem v_J7_fill_53178_5 {l : Launch} {G : GE} {B N : Nat} {S : List SHP} {o : MH} {a0 : Nat} {x1 : Int32} {x3 : Int32}    (hs0 : S[a0]? = some (.inr 0)) {n : Nat} {p : Int32} {h : MH} (hf : f_J7_fill_53178_5 a0 x1 x3 n p h = some o) : V l G B N mJ7_fill_53178 (rmm 3 0 0) false 0 0 (QV S o) S 0 0 5 [(0, .ref a0), (1, .int x1), (2, .int p), (3, .int x3)] [] h :=
  V_lp (VV := fun p h => V l G B N mJ7_fill_53178 (rmm 3 0 0) false 0 0 (QV S o) S 0 0 5 [(0, .ref a0), (1, .int x1), (2, .int p), (3, .int x3)] [] h) (fun _ hk _ _ hf => v_J7_fill_53178_5b hs0 hk hf) n p h hf
set_option maxRecDepth 100000 in
set_option maxHeartbeats 4000000 in
theorem v_J7_fill_53178 {l : Launch} {G : GE} {B N : Nat} {S : List SHP} {o : MH} {a0 : Nat} {x1 : Int32}    (hs0 : S[a0]? = some (.inr 0)) {h : MH} (hf : f_J7_fill_53178 a0 x1 h = some o) : V l G B N mJ7_fill_53178 (rmm 3 0 0) false 0 0 (QV S o) S 0 0 0 [(0, .ref a0), (1, .int x1)] [] h := by
  unfold f_J7_fill_53178 at hf
  refine V_iconst (v := 0) (pc' := 1) dJ7_fill_53178_0 rfl (by decide) ?_
  refine V_istore_n (lv' := [(2, .int 0), (0, .ref a0), (1, .int x1)]) (pc' := 2) dJ7_fill_53178_1 rfl rfl (Nat.le_of_ble_eq_true rfl) rfl ?_
  refine V_aload_n (pc' := 3) dJ7_fill_53178_2 rfl 1 rfl rfl ?_
  refine V_alen (pc' := 4) dJ7_fill_53178_3 rfl hs0 (by decide) ?_
  refine V_nmI hf (fun x_1 hf => ?_)
  refine V_istore_n (lv' := [(3, .int x_1), (2, .int 0), (0, .ref a0), (1, .int x1)]) (pc' := 5) dJ7_fill_53178_4 rfl rfl (Nat.le_of_ble_eq_true rfl) rfl ?_
  exact V_sub (lv' := [(0, .ref a0), (1, .int x1), (2, .int 0), (3, .int x_1)]) [2, 3, 1, 0] rfl (v_J7_fill_53178_5 hs0 hf)
theorem ct_J7_fill_53178 {l : Launch} {S : List SHP} {h : MH} {a0 : Nat} {x1 : Int32} (hs0 : S[a0]? = some (.inr 0)) {q : MH} (hf : f_J7_fill_53178 a0 x1 h = some q) : CT l mJ7_fill_53178 3 false 0 0 S [.ref a0, .int x1] h (QV S q) :=
  CT_ofV (by decide) rfl (Nat.le_of_ble_eq_true rfl) (fun G B hT => v_J7_fill_53178 hs0 hf)
/-! java/util/Arrays.fill([JJ)V -/
theorem dJ7_fill_d0a16_0 : decode cJ7_fill_d0a16 0 = .ok (.iconst 0, 1) := by decide +kernel
theorem dJ7_fill_d0a16_1 : decode cJ7_fill_d0a16 1 = .ok (.istore_n 3, 1) := by decide +kernel
theorem dJ7_fill_d0a16_2 : decode cJ7_fill_d0a16 2 = .ok (.aload_n 0, 1) := by decide +kernel
theorem dJ7_fill_d0a16_3 : decode cJ7_fill_d0a16 3 = .ok (.arraylength, 1) := by decide +kernel
theorem dJ7_fill_d0a16_4 : decode cJ7_fill_d0a16 4 = .ok (.istore 4, 2) := by decide +kernel
theorem dJ7_fill_d0a16_6 : decode cJ7_fill_d0a16 6 = .ok (.iload_n 3, 1) := by decide +kernel
theorem dJ7_fill_d0a16_7 : decode cJ7_fill_d0a16 7 = .ok (.iload 4, 2) := by decide +kernel
theorem dJ7_fill_d0a16_9 : decode cJ7_fill_d0a16 9 = .ok (.if_icmp .ge 13, 3) := by decide +kernel
theorem dJ7_fill_d0a16_12 : decode cJ7_fill_d0a16 12 = .ok (.aload_n 0, 1) := by decide +kernel
theorem dJ7_fill_d0a16_13 : decode cJ7_fill_d0a16 13 = .ok (.iload_n 3, 1) := by decide +kernel
theorem dJ7_fill_d0a16_14 : decode cJ7_fill_d0a16 14 = .ok (.lload_n 1, 1) := by decide +kernel
theorem dJ7_fill_d0a16_15 : decode cJ7_fill_d0a16 15 = .ok (.lastore, 1) := by decide +kernel
theorem dJ7_fill_d0a16_16 : decode cJ7_fill_d0a16 16 = .ok (.iinc 3 1, 3) := by decide +kernel
theorem dJ7_fill_d0a16_19 : decode cJ7_fill_d0a16 19 = .ok (.goto (-13), 3) := by decide +kernel
theorem dJ7_fill_d0a16_22 : decode cJ7_fill_d0a16 22 = .ok (.return_, 1) := by decide +kernel
abbrev mJ7_fill_d0a16 : MI := (RJ7, yJ7_fill_d0a16, cJ7_fill_d0a16, 5, none)
theorem mok_J7_fill_d0a16 : MOKs mJ7_fill_d0a16 2 := ⟨⟨bm_837, bm_118, ⟨by decide, by decide⟩, by decide +kernel⟩, bm_836⟩
def f_J7_fill_d0a16_6b   (a0 : Nat) (l1 : Int64) (x4 : Int32) (k6 : Int32 → MH → Option (MH)) (p : Int32) (h : MH) : Option (MH) :=
  if p < x4 then
    (stL h a0 p l1).bind fun h_1 =>
    k6 (p + 1) h_1
  else
    some h
def f_J7_fill_d0a16_6   (a0 : Nat) (l1 : Int64) (x4 : Int32) : Nat → Int32 → MH → Option (MH) := lp (f_J7_fill_d0a16_6b a0 l1 x4)
def f_J7_fill_d0a16   (a0 : Nat) (l1 : Int64) (h : MH) : Option (MH) :=
  lt (Int32.ofNat (gN h a0)) fun x_1 =>
  f_J7_fill_d0a16_6 a0 l1 x_1 FU 0 h
set_option maxRecDepth 100000 in
set_option maxHeartbeats 4000000 in
theorem v_J7_fill_d0a16_6b {l : Launch} {G : GE} {B N : Nat} {S : List SHP} {o : MH} {a0 : Nat} {l1 : Int64} {x4 : Int32}    (hs0 : S[a0]? = some (.inr 1)) {k6 : Int32 → MH → Option (MH)} (hk6 : ∀ (p : Int32) (h : MH), k6 p h = some o → V l G B N mJ7_fill_d0a16 (rmm 3 0 0) false 0 0 (QV S o) S 0 0 6 [(0, .ref a0), (1, .long l1), (3, .int p), (4, .int x4)] [] h) {p : Int32} {h : MH} (hf : f_J7_fill_d0a16_6b a0 l1 x4 k6 p h = some o) : V l G B N mJ7_fill_d0a16 (rmm 3 0 0) false 0 0 (QV S o) S 0 0 6 [(0, .ref a0), (1, .long l1), (3, .int p), (4, .int x4)] [] h := by
  unfold f_J7_fill_d0a16_6b at hf
  refine V_iload_n (pc' := 7) dJ7_fill_d0a16_6 rfl 2 rfl rfl ?_
  refine V_iload (pc' := 9) dJ7_fill_d0a16_7 rfl 3 rfl ?_
  refine V_icmp_ge (tgt := 22) (pc' := 12) dJ7_fill_d0a16_9 (by decide) rfl hf (fun hf => ?_) (fun hf => ?_)
  ·
    refine V_aload_n (pc' := 13) dJ7_fill_d0a16_12 rfl 0 rfl rfl ?_
    refine V_iload_n (pc' := 14) dJ7_fill_d0a16_13 rfl 2 rfl rfl ?_
    refine V_lload_n (pc' := 15) dJ7_fill_d0a16_14 rfl 1 rfl rfl ?_
    refine V_last (pc' := 16) dJ7_fill_d0a16_15 rfl hs0 hf (fun h_1 hf => ?_)
    refine V_iinc (v := (p + 1)) (lv' := [(3, .int (p + 1)), (0, .ref a0), (1, .long l1), (4, .int x4)]) (pc' := 19) dJ7_fill_d0a16_16 rfl 2 rfl rfl (Nat.le_of_ble_eq_true rfl) rfl ?_
    refine V_goto (tgt := 6) dJ7_fill_d0a16_19 (by decide) ?_
    exact V_sub (lv' := [(0, .ref a0), (1, .long l1), (3, .int (p + 1)), (4, .int x4)]) [1, 2, 0, 3] rfl (hk6 (p + 1) h_1 hf)
  ·
    obtain rfl := Option.some.inj hf
    exact V_vret dJ7_fill_d0a16_22 rfl rfl rfl ⟨rfl, rfl, rfl⟩
theorem v_J7_fill_d0a16_6 {l : Launch} {G : GE} {B N : Nat} {S : List SHP} {o : MH} {a0 : Nat} {l1 : Int64} {x4 : Int32}    (hs0 : S[a0]? = some (.inr 1)) {n : Nat} {p : Int32} {h : MH} (hf : f_J7_fill_d0a16_6 a0 l1 x4 n p h = some o) : V l G B N mJ7_fill_d0a16 (rmm 3 0 0) false 0 0 (QV S o) S 0 0 6 [(0, .ref a0), (1, .long l1), (3, .int p), (4, .int x4)] [] h :=
  V_lp (VV := fun p h => V l G B N mJ7_fill_d0a16 (rmm 3 0 0) false 0 0 (QV S o) S 0 0 6 [(0, .ref a0), (1, .long l1), (3, .int p), (4, .int x4)] [] h) (fun _ hk _ _ hf => v_J7_fill_d0a16_6b hs0 hk hf) n p h hf
set_option maxRecDepth 100000 in
set_option maxHeartbeats 4000000 in
theorem v_J7_fill_d0a16 {l : Launch} {G : GE} {B N : Nat} {S : List SHP} {o : MH} {a0 : Nat} {l1 : Int64}    (hs0 : S[a0]? = some (.inr 1)) {h : MH} (hf : f_J7_fill_d0a16 a0 l1 h = some o) : V l G B N mJ7_fill_d0a16 (rmm 3 0 0) false 0 0 (QV S o) S 0 0 0 [(0, .ref a0), (1, .long l1)] [] h := by
  unfold f_J7_fill_d0a16 at hf
  refine V_iconst (v := 0) (pc' := 1) dJ7_fill_d0a16_0 rfl (by decide) ?_
  refine V_istore_n (lv' := [(3, .int 0), (0, .ref a0), (1, .long l1)]) (pc' := 2) dJ7_fill_d0a16_1 rfl rfl (Nat.le_of_ble_eq_true rfl) rfl ?_
  refine V_aload_n (pc' := 3) dJ7_fill_d0a16_2 rfl 1 rfl rfl ?_
  refine V_alen (pc' := 4) dJ7_fill_d0a16_3 rfl hs0 (by decide) ?_
  refine V_nmI hf (fun x_1 hf => ?_)
  refine V_istore (lv' := [(4, .int x_1), (3, .int 0), (0, .ref a0), (1, .long l1)]) (pc' := 6) dJ7_fill_d0a16_4 rfl (Nat.le_of_ble_eq_true rfl) rfl ?_
  exact V_sub (lv' := [(0, .ref a0), (1, .long l1), (3, .int 0), (4, .int x_1)]) [2, 3, 1, 0] rfl (v_J7_fill_d0a16_6 hs0 hf)
theorem ct_J7_fill_d0a16 {l : Launch} {S : List SHP} {h : MH} {a0 : Nat} {l1 : Int64} (hs0 : S[a0]? = some (.inr 1)) {q : MH} (hf : f_J7_fill_d0a16 a0 l1 h = some q) : CT l mJ7_fill_d0a16 3 false 0 0 S [.ref a0, .long l1] h (QV S q) :=
  CT_ofV (by decide) rfl (Nat.le_of_ble_eq_true rfl) (fun G B hT => v_J7_fill_d0a16 hs0 hf)
/-! java/lang/Integer.bitCount(I)I -/
theorem dJ6_bitCount_0f7a4_0 : decode cJ6_bitCount_0f7a4 0 = .ok (.iload_n 0, 1) := by decide +kernel
theorem dJ6_bitCount_0f7a4_1 : decode cJ6_bitCount_0f7a4 1 = .ok (.iload_n 0, 1) := by decide +kernel
theorem dJ6_bitCount_0f7a4_2 : decode cJ6_bitCount_0f7a4 2 = .ok (.iconst 1, 1) := by decide +kernel
theorem dJ6_bitCount_0f7a4_3 : decode cJ6_bitCount_0f7a4 3 = .ok (.iushr, 1) := by decide +kernel
theorem dJ6_bitCount_0f7a4_4 : decode cJ6_bitCount_0f7a4 4 = .ok (.ldc_w 265, 3) := by decide +kernel
theorem dJ6_bitCount_0f7a4_7 : decode cJ6_bitCount_0f7a4 7 = .ok (.iand, 1) := by decide +kernel
theorem dJ6_bitCount_0f7a4_8 : decode cJ6_bitCount_0f7a4 8 = .ok (.isub, 1) := by decide +kernel
theorem dJ6_bitCount_0f7a4_9 : decode cJ6_bitCount_0f7a4 9 = .ok (.istore_n 0, 1) := by decide +kernel
theorem dJ6_bitCount_0f7a4_10 : decode cJ6_bitCount_0f7a4 10 = .ok (.iload_n 0, 1) := by decide +kernel
theorem dJ6_bitCount_0f7a4_11 : decode cJ6_bitCount_0f7a4 11 = .ok (.ldc_w 266, 3) := by decide +kernel
theorem dJ6_bitCount_0f7a4_14 : decode cJ6_bitCount_0f7a4 14 = .ok (.iand, 1) := by decide +kernel
theorem dJ6_bitCount_0f7a4_15 : decode cJ6_bitCount_0f7a4 15 = .ok (.iload_n 0, 1) := by decide +kernel
theorem dJ6_bitCount_0f7a4_16 : decode cJ6_bitCount_0f7a4 16 = .ok (.iconst 2, 1) := by decide +kernel
theorem dJ6_bitCount_0f7a4_17 : decode cJ6_bitCount_0f7a4 17 = .ok (.iushr, 1) := by decide +kernel
theorem dJ6_bitCount_0f7a4_18 : decode cJ6_bitCount_0f7a4 18 = .ok (.ldc_w 266, 3) := by decide +kernel
theorem dJ6_bitCount_0f7a4_21 : decode cJ6_bitCount_0f7a4 21 = .ok (.iand, 1) := by decide +kernel
theorem dJ6_bitCount_0f7a4_22 : decode cJ6_bitCount_0f7a4 22 = .ok (.iadd, 1) := by decide +kernel
theorem dJ6_bitCount_0f7a4_23 : decode cJ6_bitCount_0f7a4 23 = .ok (.istore_n 0, 1) := by decide +kernel
theorem dJ6_bitCount_0f7a4_24 : decode cJ6_bitCount_0f7a4 24 = .ok (.iload_n 0, 1) := by decide +kernel
theorem dJ6_bitCount_0f7a4_25 : decode cJ6_bitCount_0f7a4 25 = .ok (.iload_n 0, 1) := by decide +kernel
theorem dJ6_bitCount_0f7a4_26 : decode cJ6_bitCount_0f7a4 26 = .ok (.iconst 4, 1) := by decide +kernel
theorem dJ6_bitCount_0f7a4_27 : decode cJ6_bitCount_0f7a4 27 = .ok (.iushr, 1) := by decide +kernel
theorem dJ6_bitCount_0f7a4_28 : decode cJ6_bitCount_0f7a4 28 = .ok (.iadd, 1) := by decide +kernel
theorem dJ6_bitCount_0f7a4_29 : decode cJ6_bitCount_0f7a4 29 = .ok (.ldc_w 267, 3) := by decide +kernel
theorem dJ6_bitCount_0f7a4_32 : decode cJ6_bitCount_0f7a4 32 = .ok (.iand, 1) := by decide +kernel
theorem dJ6_bitCount_0f7a4_33 : decode cJ6_bitCount_0f7a4 33 = .ok (.istore_n 0, 1) := by decide +kernel
theorem dJ6_bitCount_0f7a4_34 : decode cJ6_bitCount_0f7a4 34 = .ok (.iload_n 0, 1) := by decide +kernel
theorem dJ6_bitCount_0f7a4_35 : decode cJ6_bitCount_0f7a4 35 = .ok (.iload_n 0, 1) := by decide +kernel
theorem dJ6_bitCount_0f7a4_36 : decode cJ6_bitCount_0f7a4 36 = .ok (.bipush 8, 2) := by decide +kernel
theorem dJ6_bitCount_0f7a4_38 : decode cJ6_bitCount_0f7a4 38 = .ok (.iushr, 1) := by decide +kernel
theorem dJ6_bitCount_0f7a4_39 : decode cJ6_bitCount_0f7a4 39 = .ok (.iadd, 1) := by decide +kernel
theorem dJ6_bitCount_0f7a4_40 : decode cJ6_bitCount_0f7a4 40 = .ok (.istore_n 0, 1) := by decide +kernel
theorem dJ6_bitCount_0f7a4_41 : decode cJ6_bitCount_0f7a4 41 = .ok (.iload_n 0, 1) := by decide +kernel
theorem dJ6_bitCount_0f7a4_42 : decode cJ6_bitCount_0f7a4 42 = .ok (.iload_n 0, 1) := by decide +kernel
theorem dJ6_bitCount_0f7a4_43 : decode cJ6_bitCount_0f7a4 43 = .ok (.bipush 16, 2) := by decide +kernel
theorem dJ6_bitCount_0f7a4_45 : decode cJ6_bitCount_0f7a4 45 = .ok (.iushr, 1) := by decide +kernel
theorem dJ6_bitCount_0f7a4_46 : decode cJ6_bitCount_0f7a4 46 = .ok (.iadd, 1) := by decide +kernel
theorem dJ6_bitCount_0f7a4_47 : decode cJ6_bitCount_0f7a4 47 = .ok (.istore_n 0, 1) := by decide +kernel
theorem dJ6_bitCount_0f7a4_48 : decode cJ6_bitCount_0f7a4 48 = .ok (.iload_n 0, 1) := by decide +kernel
theorem dJ6_bitCount_0f7a4_49 : decode cJ6_bitCount_0f7a4 49 = .ok (.bipush 63, 2) := by decide +kernel
theorem dJ6_bitCount_0f7a4_51 : decode cJ6_bitCount_0f7a4 51 = .ok (.iand, 1) := by decide +kernel
theorem dJ6_bitCount_0f7a4_52 : decode cJ6_bitCount_0f7a4 52 = .ok (.ireturn, 1) := by decide +kernel
abbrev mJ6_bitCount_0f7a4 : MI := (RJ6, yJ6_bitCount_0f7a4, cJ6_bitCount_0f7a4, 1, (some .int))
theorem mok_J6_bitCount_0f7a4 : MOKs mJ6_bitCount_0f7a4 1 := ⟨⟨bm_875, bm_129, ⟨by decide, by decide⟩, by decide +kernel⟩, bm_874⟩
def f_J6_bitCount_0f7a4   (x0 : Int32) (h : MH) : Option (Int32 × MH) :=
  lt (x0 - ((ush x0 1) &&& 1431655765)) fun x_1 =>
  lt ((x_1 &&& 858993459) + ((ush x_1 2) &&& 858993459)) fun x_2 =>
  lt ((x_2 + (ush x_2 4)) &&& 252645135) fun x_3 =>
  lt (x_3 + (ush x_3 8)) fun x_4 =>
  lt (x_4 + (ush x_4 16)) fun x_5 =>
  some ((x_5 &&& 63), h)
set_option maxRecDepth 100000 in
set_option maxHeartbeats 4000000 in
theorem v_J6_bitCount_0f7a4 {l : Launch} {G : GE} {B N : Nat} {S : List SHP} {o : Int32 × MH} {x0 : Int32}     {h : MH} (hf : f_J6_bitCount_0f7a4 x0 h = some o) : V l G B N mJ6_bitCount_0f7a4 (rmm 3 0 0) false 0 0 (QI S o) S 0 0 0 [(0, .int x0)] [] h := by
  unfold f_J6_bitCount_0f7a4 at hf
  refine V_iload_n (pc' := 1) dJ6_bitCount_0f7a4_0 rfl 0 rfl rfl ?_
  refine V_iload_n (pc' := 2) dJ6_bitCount_0f7a4_1 rfl 0 rfl rfl ?_
  refine V_iconst (v := 1) (pc' := 3) dJ6_bitCount_0f7a4_2 rfl (by decide) ?_
  refine V_iushr (pc' := 4) dJ6_bitCount_0f7a4_3 rfl ?_
  refine V_ldcw (v := 1431655765) (pc' := 7) dJ6_bitCount_0f7a4_4 rfl bm_876 ?_
  refine V_iand (pc' := 8) dJ6_bitCount_0f7a4_7 rfl ?_
  refine V_isub (pc' := 9) dJ6_bitCount_0f7a4_8 rfl ?_
  refine V_nmI hf (fun x_1 hf => ?_)
  refine V_istore_n (lv' := [(0, .int x_1)]) (pc' := 10) dJ6_bitCount_0f7a4_9 rfl rfl (Nat.le_of_ble_eq_true rfl) rfl ?_
  refine V_iload_n (pc' := 11) dJ6_bitCount_0f7a4_10 rfl 0 rfl rfl ?_
  refine V_ldcw (v := 858993459) (pc' := 14) dJ6_bitCount_0f7a4_11 rfl bm_877 ?_
  refine V_iand (pc' := 15) dJ6_bitCount_0f7a4_14 rfl ?_
  refine V_iload_n (pc' := 16) dJ6_bitCount_0f7a4_15 rfl 0 rfl rfl ?_
  refine V_iconst (v := 2) (pc' := 17) dJ6_bitCount_0f7a4_16 rfl (by decide) ?_
  refine V_iushr (pc' := 18) dJ6_bitCount_0f7a4_17 rfl ?_
  refine V_ldcw (v := 858993459) (pc' := 21) dJ6_bitCount_0f7a4_18 rfl bm_877 ?_
  refine V_iand (pc' := 22) dJ6_bitCount_0f7a4_21 rfl ?_
  refine V_iadd (pc' := 23) dJ6_bitCount_0f7a4_22 rfl ?_
  refine V_nmI hf (fun x_2 hf => ?_)
  refine V_istore_n (lv' := [(0, .int x_2)]) (pc' := 24) dJ6_bitCount_0f7a4_23 rfl rfl (Nat.le_of_ble_eq_true rfl) rfl ?_
  refine V_iload_n (pc' := 25) dJ6_bitCount_0f7a4_24 rfl 0 rfl rfl ?_
  refine V_iload_n (pc' := 26) dJ6_bitCount_0f7a4_25 rfl 0 rfl rfl ?_
  refine V_iconst (v := 4) (pc' := 27) dJ6_bitCount_0f7a4_26 rfl (by decide) ?_
  refine V_iushr (pc' := 28) dJ6_bitCount_0f7a4_27 rfl ?_
  refine V_iadd (pc' := 29) dJ6_bitCount_0f7a4_28 rfl ?_
  refine V_ldcw (v := 252645135) (pc' := 32) dJ6_bitCount_0f7a4_29 rfl bm_878 ?_
  refine V_iand (pc' := 33) dJ6_bitCount_0f7a4_32 rfl ?_
  refine V_nmI hf (fun x_3 hf => ?_)
  refine V_istore_n (lv' := [(0, .int x_3)]) (pc' := 34) dJ6_bitCount_0f7a4_33 rfl rfl (Nat.le_of_ble_eq_true rfl) rfl ?_
  refine V_iload_n (pc' := 35) dJ6_bitCount_0f7a4_34 rfl 0 rfl rfl ?_
  refine V_iload_n (pc' := 36) dJ6_bitCount_0f7a4_35 rfl 0 rfl rfl ?_
  refine V_bipush (v := 8) (pc' := 38) dJ6_bitCount_0f7a4_36 rfl (by decide) ?_
  refine V_iushr (pc' := 39) dJ6_bitCount_0f7a4_38 rfl ?_
  refine V_iadd (pc' := 40) dJ6_bitCount_0f7a4_39 rfl ?_
  refine V_nmI hf (fun x_4 hf => ?_)
  refine V_istore_n (lv' := [(0, .int x_4)]) (pc' := 41) dJ6_bitCount_0f7a4_40 rfl rfl (Nat.le_of_ble_eq_true rfl) rfl ?_
  refine V_iload_n (pc' := 42) dJ6_bitCount_0f7a4_41 rfl 0 rfl rfl ?_
  refine V_iload_n (pc' := 43) dJ6_bitCount_0f7a4_42 rfl 0 rfl rfl ?_
  refine V_bipush (v := 16) (pc' := 45) dJ6_bitCount_0f7a4_43 rfl (by decide) ?_
  refine V_iushr (pc' := 46) dJ6_bitCount_0f7a4_45 rfl ?_
  refine V_iadd (pc' := 47) dJ6_bitCount_0f7a4_46 rfl ?_
  refine V_nmI hf (fun x_5 hf => ?_)
  refine V_istore_n (lv' := [(0, .int x_5)]) (pc' := 48) dJ6_bitCount_0f7a4_47 rfl rfl (Nat.le_of_ble_eq_true rfl) rfl ?_
  refine V_iload_n (pc' := 49) dJ6_bitCount_0f7a4_48 rfl 0 rfl rfl ?_
  refine V_bipush (v := 63) (pc' := 51) dJ6_bitCount_0f7a4_49 rfl (by decide) ?_
  refine V_iand (pc' := 52) dJ6_bitCount_0f7a4_51 rfl ?_
  obtain rfl := Option.some.inj hf
  exact V_iret dJ6_bitCount_0f7a4_52 rfl rfl rfl ⟨rfl, rfl, rfl⟩
theorem ct_J6_bitCount_0f7a4 {l : Launch} {S : List SHP} {h : MH} {x0 : Int32}  {q : Int32 × MH} (hf : f_J6_bitCount_0f7a4 x0 h = some q) : CT l mJ6_bitCount_0f7a4 3 false 0 0 S [.int x0] h (QI S q) :=
  CT_ofV (by decide) rfl (Nat.le_of_ble_eq_true rfl) (fun G B hT => v_J6_bitCount_0f7a4  hf)
/-! LabelStacks.leastOf(I)I -/
theorem dX10_leastOf_0 : decode cX10_leastOf 0 = .ok (.iload_n 0, 1) := by decide +kernel
theorem dX10_leastOf_1 : decode cX10_leastOf 1 = .ok (.ifCond .ne 7, 3) := by decide +kernel
theorem dX10_leastOf_4 : decode cX10_leastOf 4 = .ok (.iconst (-1), 1) := by decide +kernel
theorem dX10_leastOf_5 : decode cX10_leastOf 5 = .ok (.goto 12, 3) := by decide +kernel
theorem dX10_leastOf_8 : decode cX10_leastOf 8 = .ok (.iload_n 0, 1) := by decide +kernel
theorem dX10_leastOf_9 : decode cX10_leastOf 9 = .ok (.iload_n 0, 1) := by decide +kernel
theorem dX10_leastOf_10 : decode cX10_leastOf 10 = .ok (.ineg, 1) := by decide +kernel
theorem dX10_leastOf_11 : decode cX10_leastOf 11 = .ok (.iand, 1) := by decide +kernel
theorem dX10_leastOf_12 : decode cX10_leastOf 12 = .ok (.iconst 1, 1) := by decide +kernel
theorem dX10_leastOf_13 : decode cX10_leastOf 13 = .ok (.isub, 1) := by decide +kernel
theorem dX10_leastOf_14 : decode cX10_leastOf 14 = .ok (.invokestatic 374, 3) := by decide +kernel
theorem dX10_leastOf_17 : decode cX10_leastOf 17 = .ok (.ireturn, 1) := by decide +kernel
abbrev mX10_leastOf : MI := (RX10, yX10_leastOf, cX10_leastOf, 1, (some .int))
theorem mok_X10_leastOf : MOKs mX10_leastOf 1 := ⟨⟨bm_872, bm_114, ⟨by decide, by decide⟩, by decide +kernel⟩, bm_871⟩
def f_X10_leastOf   (x0 : Int32) (h : MH) : Option (Int32 × MH) :=
  if x0 = 0 then
    some ((-1 : Int32), h)
  else
    (f_J6_bitCount_0f7a4 ((x0 &&& (-x0)) - 1) h).bind fun q_1 =>
    some (q_1.1, q_1.2)
set_option maxRecDepth 100000 in
set_option maxHeartbeats 4000000 in
theorem v_X10_leastOf {l : Launch} {G : GE} {B N : Nat} {S : List SHP} {o : Int32 × MH} {x0 : Int32}     {h : MH} (hf : f_X10_leastOf x0 h = some o) : V l G B N mX10_leastOf (rmm 4 0 0) false 0 0 (QI S o) S 0 0 0 [(0, .int x0)] [] h := by
  unfold f_X10_leastOf at hf
  refine V_iload_n (pc' := 1) dX10_leastOf_0 rfl 0 rfl rfl ?_
  refine V_if_ne (tgt := 8) (pc' := 4) dX10_leastOf_1 (by decide) rfl hf (fun hf => ?_) (fun hf => ?_)
  ·
    refine V_iconst (v := (-1)) (pc' := 5) dX10_leastOf_4 rfl (by decide) ?_
    refine V_goto (tgt := 17) dX10_leastOf_5 (by decide) ?_
    obtain rfl := Option.some.inj hf
    exact V_iret dX10_leastOf_17 rfl rfl rfl ⟨rfl, rfl, rfl⟩
  ·
    refine V_iload_n (pc' := 9) dX10_leastOf_8 rfl 0 rfl rfl ?_
    refine V_iload_n (pc' := 10) dX10_leastOf_9 rfl 0 rfl rfl ?_
    refine V_ineg (pc' := 11) dX10_leastOf_10 rfl ?_
    refine V_iand (pc' := 12) dX10_leastOf_11 rfl ?_
    refine V_iconst (v := 1) (pc' := 13) dX10_leastOf_12 rfl (by decide) ?_
    refine V_isub (pc' := 14) dX10_leastOf_13 rfl ?_
    refine V_csI (pc' := 17) (As := [.int ((x0 &&& (-x0)) - 1)]) (rest := []) dX10_leastOf_14 rfl mok_J6_bitCount_0f7a4 bm_873 rfl rfl (Nat.le_of_ble_eq_true rfl) (by decide) hf (fun q e => ct_J6_bitCount_0f7a4  e) (fun q_1 hf => ?_)
    obtain rfl := Option.some.inj hf
    exact V_iret dX10_leastOf_17 rfl rfl rfl ⟨rfl, rfl, rfl⟩
theorem ct_X10_leastOf {l : Launch} {S : List SHP} {h : MH} {x0 : Int32}  {q : Int32 × MH} (hf : f_X10_leastOf x0 h = some q) : CT l mX10_leastOf 4 false 0 0 S [.int x0] h (QI S q) :=
  CT_ofV (by decide) rfl (Nat.le_of_ble_eq_true rfl) (fun G B hT => v_X10_leastOf  hf)
