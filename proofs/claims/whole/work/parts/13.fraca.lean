/-! LabelStacks$Fractions.clear()V -/
theorem dX1_clear_0 : decode cX1_clear 0 = .ok (.aload_n 0, 1) := by decide +kernel
theorem dX1_clear_1 : decode cX1_clear 1 = .ok (.getfield 15, 3) := by decide +kernel
theorem dX1_clear_4 : decode cX1_clear 4 = .ok (.lconst 0, 1) := by decide +kernel
theorem dX1_clear_5 : decode cX1_clear 5 = .ok (.invokestatic 24, 3) := by decide +kernel
theorem dX1_clear_8 : decode cX1_clear 8 = .ok (.aload_n 0, 1) := by decide +kernel
theorem dX1_clear_9 : decode cX1_clear 9 = .ok (.getfield 21, 3) := by decide +kernel
theorem dX1_clear_12 : decode cX1_clear 12 = .ok (.lconst 1, 1) := by decide +kernel
theorem dX1_clear_13 : decode cX1_clear 13 = .ok (.invokestatic 24, 3) := by decide +kernel
theorem dX1_clear_16 : decode cX1_clear 16 = .ok (.return_, 1) := by decide +kernel
abbrev mX1_clear : MI := (RX1, yX1_clear, cX1_clear, 1, none)
theorem mok_X1_clear : MOKv mX1_clear 0 := ⟨⟨bm_834, bm_126, ⟨by decide, by decide⟩, by decide +kernel⟩, bm_832, bm_833⟩
def f_X1_clear   (a0 : Nat) (h : MH) : Option (MH) :=
  (gR h a0 0).bind fun a_1 =>
  (f_J7_fill_d0a16 a_1 0 h).bind fun q_2 =>
  (gR q_2 a0 1).bind fun a_3 =>
  (f_J7_fill_d0a16 a_3 1 q_2).bind fun q_4 =>
  some q_4
set_option maxRecDepth 100000 in
set_option maxHeartbeats 4000000 in
theorem v_X1_clear {l : Launch} {G : GE} {B N : Nat} {S : List SHP} {o : MH} {a0 : Nat}    (hs0 : S[a0]? = some (.inl 1)) {h : MH} (hf : f_X1_clear a0 h = some o) : V l G B N mX1_clear (rmm 4 0 0) false 0 0 (QV S o) S 0 0 0 [(0, .ref a0)] [] h := by
  unfold f_X1_clear at hf
  refine V_aload_n (pc' := 1) dX1_clear_0 rfl 0 rfl rfl ?_
  refine V_getR (pc' := 4) 1 0 dX1_clear_1 rfl (by decide) (Nat.le_of_ble_eq_true rfl) bm_406 hs0 (fun _ _ _ => rfl) rfl hf (fun a_1 ha_1 hf => ?_)
  refine V_lconst (v := 0) (pc' := 5) dX1_clear_4 rfl (by decide) ?_
  refine V_csV (pc' := 8) (As := [.ref a_1, .long 0]) (rest := []) dX1_clear_5 rfl mok_J7_fill_d0a16 bm_835 rfl rfl (Nat.le_of_ble_eq_true rfl) (by decide) hf (fun q e => ct_J7_fill_d0a16 ha_1 e) (fun q_2 hf => ?_)
  refine V_aload_n (pc' := 9) dX1_clear_8 rfl 0 rfl rfl ?_
  refine V_getR (pc' := 12) 1 1 dX1_clear_9 rfl (by decide) (Nat.le_of_ble_eq_true rfl) bm_407 hs0 (fun _ _ _ => rfl) rfl hf (fun a_3 ha_3 hf => ?_)
  refine V_lconst (v := 1) (pc' := 13) dX1_clear_12 rfl (by decide) ?_
  refine V_csV (pc' := 16) (As := [.ref a_3, .long 1]) (rest := []) dX1_clear_13 rfl mok_J7_fill_d0a16 bm_835 rfl rfl (Nat.le_of_ble_eq_true rfl) (by decide) hf (fun q e => ct_J7_fill_d0a16 ha_3 e) (fun q_4 hf => ?_)
  obtain rfl := Option.some.inj hf
  exact V_vret dX1_clear_16 rfl rfl rfl ⟨rfl, rfl, rfl⟩
theorem ct_X1_clear {l : Launch} {S : List SHP} {h : MH} {a0 : Nat} (hs0 : S[a0]? = some (.inl 1)) {q : MH} (hf : f_X1_clear a0 h = some q) : CT l mX1_clear 4 false 0 0 S [.ref a0] h (QV S q) :=
  CT_ofV (by decide) rfl (Nat.le_of_ble_eq_true rfl) (fun G B hT => v_X1_clear hs0 hf)
/-! LabelStacks$Fractions.get(II)J -/
theorem dX1_get_0 : decode cX1_get 0 = .ok (.iload_n 1, 1) := by decide +kernel
theorem dX1_get_1 : decode cX1_get 1 = .ok (.ifCond .lt 12, 3) := by decide +kernel
theorem dX1_get_4 : decode cX1_get 4 = .ok (.iload_n 1, 1) := by decide +kernel
theorem dX1_get_5 : decode cX1_get 5 = .ok (.aload_n 0, 1) := by decide +kernel
theorem dX1_get_6 : decode cX1_get 6 = .ok (.getfield 15, 3) := by decide +kernel
theorem dX1_get_9 : decode cX1_get 9 = .ok (.arraylength, 1) := by decide +kernel
theorem dX1_get_10 : decode cX1_get 10 = .ok (.if_icmp .lt 7, 3) := by decide +kernel
theorem dX1_get_13 : decode cX1_get 13 = .ok (.ldc2_w 30, 3) := by decide +kernel
theorem dX1_get_16 : decode cX1_get 16 = .ok (.lreturn, 1) := by decide +kernel
theorem dX1_get_17 : decode cX1_get 17 = .ok (.iload_n 2, 1) := by decide +kernel
theorem dX1_get_18 : decode cX1_get 18 = .ok (.ifCond .ne 12, 3) := by decide +kernel
theorem dX1_get_21 : decode cX1_get 21 = .ok (.aload_n 0, 1) := by decide +kernel
theorem dX1_get_22 : decode cX1_get 22 = .ok (.getfield 15, 3) := by decide +kernel
theorem dX1_get_25 : decode cX1_get 25 = .ok (.iload_n 1, 1) := by decide +kernel
theorem dX1_get_26 : decode cX1_get 26 = .ok (.laload, 1) := by decide +kernel
theorem dX1_get_27 : decode cX1_get 27 = .ok (.goto 9, 3) := by decide +kernel
theorem dX1_get_30 : decode cX1_get 30 = .ok (.aload_n 0, 1) := by decide +kernel
theorem dX1_get_31 : decode cX1_get 31 = .ok (.getfield 21, 3) := by decide +kernel
theorem dX1_get_34 : decode cX1_get 34 = .ok (.iload_n 1, 1) := by decide +kernel
theorem dX1_get_35 : decode cX1_get 35 = .ok (.laload, 1) := by decide +kernel
theorem dX1_get_36 : decode cX1_get 36 = .ok (.lreturn, 1) := by decide +kernel
abbrev mX1_get : MI := (RX1, yX1_get, cX1_get, 3, (some .long))
theorem mok_X1_get : MOKv mX1_get 2 := ⟨⟨bm_924, bm_126, ⟨by decide, by decide⟩, by decide +kernel⟩, bm_922, bm_923⟩
def f_X1_get_13    (h : MH) : Option (Int64 × MH) :=
  some ((-1 : Int64), h)
def f_X1_get   (a0 : Nat) (x1 : Int32) (x2 : Int32) (h : MH) : Option (Int64 × MH) :=
  if x1 < 0 then
    f_X1_get_13  h
  else
    (gR h a0 0).bind fun a_1 =>
    if x1 < (Int32.ofNat (gN h a_1)) then
      if x2 = 0 then
        (gR h a0 0).bind fun a_2 =>
        (ldL h a_2 x1).bind fun l_3 =>
        some (l_3, h)
      else
        (gR h a0 1).bind fun a_4 =>
        (ldL h a_4 x1).bind fun l_5 =>
        some (l_5, h)
    else
      f_X1_get_13  h
set_option maxRecDepth 100000 in
set_option maxHeartbeats 4000000 in
theorem v_X1_get_13 {l : Launch} {G : GE} {B N : Nat} {S : List SHP} {o : Int64 × MH}      {h : MH} (hf : f_X1_get_13  h = some o) : V l G B N mX1_get (rmm 3 0 0) false 0 0 (QL S o) S 0 0 13 [] [] h := by
  unfold f_X1_get_13 at hf
  refine V_ldc2 (v := (-1)) (pc' := 16) dX1_get_13 rfl bm_925 ?_
  obtain rfl := Option.some.inj hf
  exact V_lret dX1_get_16 rfl rfl rfl ⟨rfl, rfl, rfl⟩
set_option maxRecDepth 100000 in
set_option maxHeartbeats 4000000 in
theorem v_X1_get {l : Launch} {G : GE} {B N : Nat} {S : List SHP} {o : Int64 × MH} {a0 : Nat} {x1 : Int32} {x2 : Int32}    (hs0 : S[a0]? = some (.inl 1)) {h : MH} (hf : f_X1_get a0 x1 x2 h = some o) : V l G B N mX1_get (rmm 3 0 0) false 0 0 (QL S o) S 0 0 0 [(0, .ref a0), (1, .int x1), (2, .int x2)] [] h := by
  unfold f_X1_get at hf
  refine V_iload_n (pc' := 1) dX1_get_0 rfl 1 rfl rfl ?_
  refine V_if_lt (tgt := 13) (pc' := 4) dX1_get_1 (by decide) rfl hf (fun hf => ?_) (fun hf => ?_)
  ·
    exact V_sub (lv' := []) [] rfl (v_X1_get_13  hf)
  ·
    refine V_iload_n (pc' := 5) dX1_get_4 rfl 1 rfl rfl ?_
    refine V_aload_n (pc' := 6) dX1_get_5 rfl 0 rfl rfl ?_
    refine V_getR (pc' := 9) 1 0 dX1_get_6 rfl (by decide) (Nat.le_of_ble_eq_true rfl) bm_406 hs0 (fun _ _ _ => rfl) rfl hf (fun a_1 ha_1 hf => ?_)
    refine V_alen (pc' := 10) dX1_get_9 rfl ha_1 (by decide) ?_
    refine V_icmp_lt (tgt := 17) (pc' := 13) dX1_get_10 (by decide) rfl hf (fun hf => ?_) (fun hf => ?_)
    ·
      refine V_iload_n (pc' := 18) dX1_get_17 rfl 2 rfl rfl ?_
      refine V_if_ne (tgt := 30) (pc' := 21) dX1_get_18 (by decide) rfl hf (fun hf => ?_) (fun hf => ?_)
      ·
        refine V_aload_n (pc' := 22) dX1_get_21 rfl 0 rfl rfl ?_
        refine V_getR (pc' := 25) 1 0 dX1_get_22 rfl (by decide) (Nat.le_of_ble_eq_true rfl) bm_406 hs0 (fun _ _ _ => rfl) rfl hf (fun a_2 ha_2 hf => ?_)
        refine V_iload_n (pc' := 26) dX1_get_25 rfl 1 rfl rfl ?_
        refine V_lald (pc' := 27) dX1_get_26 rfl ha_2 hf (fun l_3 hf => ?_)
        refine V_goto (tgt := 36) dX1_get_27 (by decide) ?_
        obtain rfl := Option.some.inj hf
        exact V_lret dX1_get_36 rfl rfl rfl ⟨rfl, rfl, rfl⟩
      ·
        refine V_aload_n (pc' := 31) dX1_get_30 rfl 0 rfl rfl ?_
        refine V_getR (pc' := 34) 1 1 dX1_get_31 rfl (by decide) (Nat.le_of_ble_eq_true rfl) bm_407 hs0 (fun _ _ _ => rfl) rfl hf (fun a_4 ha_4 hf => ?_)
        refine V_iload_n (pc' := 35) dX1_get_34 rfl 1 rfl rfl ?_
        refine V_lald (pc' := 36) dX1_get_35 rfl ha_4 hf (fun l_5 hf => ?_)
        obtain rfl := Option.some.inj hf
        exact V_lret dX1_get_36 rfl rfl rfl ⟨rfl, rfl, rfl⟩
    ·
      exact V_sub (lv' := []) [] rfl (v_X1_get_13  hf)
theorem ct_X1_get {l : Launch} {S : List SHP} {h : MH} {a0 : Nat} {x1 : Int32} {x2 : Int32} (hs0 : S[a0]? = some (.inl 1)) {q : Int64 × MH} (hf : f_X1_get a0 x1 x2 h = some q) : CT l mX1_get 3 false 0 0 S [.ref a0, .int x1, .int x2] h (QL S q) :=
  CT_ofV (by decide) rfl (Nat.le_of_ble_eq_true rfl) (fun G B hT => v_X1_get hs0 hf)
/-! LabelStacks$Fractions.divisor(JJ)J -/
theorem dX1_divisor_0 : decode cX1_divisor 0 = .ok (.lload_n 0, 1) := by decide +kernel
theorem dX1_divisor_1 : decode cX1_divisor 1 = .ok (.lstore 4, 2) := by decide +kernel
theorem dX1_divisor_3 : decode cX1_divisor 3 = .ok (.lload_n 2, 1) := by decide +kernel
theorem dX1_divisor_4 : decode cX1_divisor 4 = .ok (.lstore 6, 2) := by decide +kernel
theorem dX1_divisor_6 : decode cX1_divisor 6 = .ok (.iconst 0, 1) := by decide +kernel
theorem dX1_divisor_7 : decode cX1_divisor 7 = .ok (.istore 8, 2) := by decide +kernel
theorem dX1_divisor_9 : decode cX1_divisor 9 = .ok (.iload 8, 2) := by decide +kernel
theorem dX1_divisor_11 : decode cX1_divisor 11 = .ok (.sipush 200, 3) := by decide +kernel
theorem dX1_divisor_14 : decode cX1_divisor 14 = .ok (.if_icmp .ge 31, 3) := by decide +kernel
theorem dX1_divisor_17 : decode cX1_divisor 17 = .ok (.lload 6, 2) := by decide +kernel
theorem dX1_divisor_19 : decode cX1_divisor 19 = .ok (.lconst 0, 1) := by decide +kernel
theorem dX1_divisor_20 : decode cX1_divisor 20 = .ok (.lcmp, 1) := by decide +kernel
theorem dX1_divisor_21 : decode cX1_divisor 21 = .ok (.ifCond .eq 24, 3) := by decide +kernel
theorem dX1_divisor_24 : decode cX1_divisor 24 = .ok (.lload 4, 2) := by decide +kernel
theorem dX1_divisor_26 : decode cX1_divisor 26 = .ok (.lload 6, 2) := by decide +kernel
theorem dX1_divisor_28 : decode cX1_divisor 28 = .ok (.lrem, 1) := by decide +kernel
theorem dX1_divisor_29 : decode cX1_divisor 29 = .ok (.lstore 9, 2) := by decide +kernel
theorem dX1_divisor_31 : decode cX1_divisor 31 = .ok (.lload 6, 2) := by decide +kernel
theorem dX1_divisor_33 : decode cX1_divisor 33 = .ok (.lstore 4, 2) := by decide +kernel
theorem dX1_divisor_35 : decode cX1_divisor 35 = .ok (.lload 9, 2) := by decide +kernel
theorem dX1_divisor_37 : decode cX1_divisor 37 = .ok (.lstore 6, 2) := by decide +kernel
theorem dX1_divisor_39 : decode cX1_divisor 39 = .ok (.iinc 8 1, 3) := by decide +kernel
theorem dX1_divisor_42 : decode cX1_divisor 42 = .ok (.goto (-33), 3) := by decide +kernel
theorem dX1_divisor_45 : decode cX1_divisor 45 = .ok (.lload 4, 2) := by decide +kernel
theorem dX1_divisor_47 : decode cX1_divisor 47 = .ok (.lconst 1, 1) := by decide +kernel
theorem dX1_divisor_48 : decode cX1_divisor 48 = .ok (.lcmp, 1) := by decide +kernel
theorem dX1_divisor_49 : decode cX1_divisor 49 = .ok (.ifCond .ge 7, 3) := by decide +kernel
theorem dX1_divisor_52 : decode cX1_divisor 52 = .ok (.lconst 1, 1) := by decide +kernel
theorem dX1_divisor_53 : decode cX1_divisor 53 = .ok (.goto 5, 3) := by decide +kernel
theorem dX1_divisor_56 : decode cX1_divisor 56 = .ok (.lload 4, 2) := by decide +kernel
theorem dX1_divisor_58 : decode cX1_divisor 58 = .ok (.lreturn, 1) := by decide +kernel
abbrev mX1_divisor : MI := (RX1, yX1_divisor, cX1_divisor, 11, (some .long))
theorem mok_X1_divisor : MOKs mX1_divisor 2 := ⟨⟨bm_900, bm_126, ⟨by decide, by decide⟩, by decide +kernel⟩, bm_899⟩
def f_X1_divisor_45   (l4 : Int64) (h : MH) : Option (Int64 × MH) :=
  if l4 < 1 then
    some (1, h)
  else
    some (l4, h)
def f_X1_divisor_9b    (k9 : Int64 × Int64 × Int32 → MH → Option (Int64 × MH)) (p : Int64 × Int64 × Int32) (h : MH) : Option (Int64 × MH) :=
  if p.2.2 < 200 then
    if p.2.1 = 0 then
      f_X1_divisor_45 p.1 h
    else
      if p.2.1 = (0 : Int64) then none else
      lt (p.1 - p.1 / p.2.1 * p.2.1) fun l_1 =>
      k9 (p.2.1, l_1, (p.2.2 + 1)) h
  else
    f_X1_divisor_45 p.1 h
def f_X1_divisor_9    : Nat → Int64 × Int64 × Int32 → MH → Option (Int64 × MH) := lp (f_X1_divisor_9b )
def f_X1_divisor   (l0 : Int64) (l2 : Int64) (h : MH) : Option (Int64 × MH) :=
  f_X1_divisor_9  FU (l0, l2, 0) h
set_option maxRecDepth 100000 in
set_option maxHeartbeats 4000000 in
theorem v_X1_divisor_45 {l : Launch} {G : GE} {B N : Nat} {S : List SHP} {o : Int64 × MH} {l4 : Int64}     {h : MH} (hf : f_X1_divisor_45 l4 h = some o) : V l G B N mX1_divisor (rmm 3 0 0) false 0 0 (QL S o) S 0 0 45 [(4, .long l4)] [] h := by
  unfold f_X1_divisor_45 at hf
  refine V_lload (pc' := 47) dX1_divisor_45 rfl 0 rfl ?_
  refine V_lconst (v := 1) (pc' := 48) dX1_divisor_47 rfl (by decide) ?_
  refine V_lcmp_ge (pc1 := 49) (tgt := 56) (pc' := 52) dX1_divisor_48 rfl dX1_divisor_49 (by decide) rfl hf (fun hf => ?_) (fun hf => ?_)
  ·
    refine V_lconst (v := 1) (pc' := 53) dX1_divisor_52 rfl (by decide) ?_
    refine V_goto (tgt := 58) dX1_divisor_53 (by decide) ?_
    obtain rfl := Option.some.inj hf
    exact V_lret dX1_divisor_58 rfl rfl rfl ⟨rfl, rfl, rfl⟩
  ·
    refine V_lload (pc' := 58) dX1_divisor_56 rfl 0 rfl ?_
    obtain rfl := Option.some.inj hf
    exact V_lret dX1_divisor_58 rfl rfl rfl ⟨rfl, rfl, rfl⟩
set_option maxRecDepth 100000 in
set_option maxHeartbeats 4000000 in
theorem v_X1_divisor_9b {l : Launch} {G : GE} {B N : Nat} {S : List SHP} {o : Int64 × MH}      {k9 : Int64 × Int64 × Int32 → MH → Option (Int64 × MH)} (hk9 : ∀ (p : Int64 × Int64 × Int32) (h : MH), k9 p h = some o → V l G B N mX1_divisor (rmm 3 0 0) false 0 0 (QL S o) S 0 0 9 [(4, .long p.1), (6, .long p.2.1), (8, .int p.2.2)] [] h) {p : Int64 × Int64 × Int32} {h : MH} (hf : f_X1_divisor_9b  k9 p h = some o) : V l G B N mX1_divisor (rmm 3 0 0) false 0 0 (QL S o) S 0 0 9 [(4, .long p.1), (6, .long p.2.1), (8, .int p.2.2)] [] h := by
  unfold f_X1_divisor_9b at hf
  refine V_iload (pc' := 11) dX1_divisor_9 rfl 2 rfl ?_
  refine V_sipush (v := 200) (pc' := 14) dX1_divisor_11 rfl (by decide) ?_
  refine V_icmp_ge (tgt := 45) (pc' := 17) dX1_divisor_14 (by decide) rfl hf (fun hf => ?_) (fun hf => ?_)
  ·
    refine V_lload (pc' := 19) dX1_divisor_17 rfl 1 rfl ?_
    refine V_lconst (v := 0) (pc' := 20) dX1_divisor_19 rfl (by decide) ?_
    refine V_lcmp_eq (pc1 := 21) (tgt := 45) (pc' := 24) dX1_divisor_20 rfl dX1_divisor_21 (by decide) rfl hf (fun hf => ?_) (fun hf => ?_)
    ·
      exact V_sub (lv' := [(4, .long p.1)]) [0] rfl (v_X1_divisor_45  hf)
    ·
      refine V_lload (pc' := 26) dX1_divisor_24 rfl 0 rfl ?_
      refine V_lload (pc' := 28) dX1_divisor_26 rfl 1 rfl ?_
      refine V_lremF (pc' := 29) dX1_divisor_28 rfl hf (fun hf => ?_)
      refine V_nmJ hf (fun l_1 hf => ?_)
      refine V_lstore (lv' := [(9, .long l_1), (4, .long p.1), (6, .long p.2.1), (8, .int p.2.2)]) (pc' := 31) dX1_divisor_29 rfl (Nat.le_of_ble_eq_true rfl) rfl ?_
      refine V_lload (pc' := 33) dX1_divisor_31 rfl 2 rfl ?_
      refine V_lstore (lv' := [(4, .long p.2.1), (9, .long l_1), (6, .long p.2.1), (8, .int p.2.2)]) (pc' := 35) dX1_divisor_33 rfl (Nat.le_of_ble_eq_true rfl) rfl ?_
      refine V_lload (pc' := 37) dX1_divisor_35 rfl 1 rfl ?_
      refine V_lstore (lv' := [(6, .long l_1), (4, .long p.2.1), (9, .long l_1), (8, .int p.2.2)]) (pc' := 39) dX1_divisor_37 rfl (Nat.le_of_ble_eq_true rfl) rfl ?_
      refine V_iinc (v := (p.2.2 + 1)) (lv' := [(8, .int (p.2.2 + 1)), (6, .long l_1), (4, .long p.2.1), (9, .long l_1)]) (pc' := 42) dX1_divisor_39 rfl 3 rfl rfl (Nat.le_of_ble_eq_true rfl) rfl ?_
      refine V_goto (tgt := 9) dX1_divisor_42 (by decide) ?_
      exact V_sub (lv' := [(4, .long p.2.1), (6, .long l_1), (8, .int (p.2.2 + 1))]) [2, 1, 0] rfl (hk9 (p.2.1, l_1, (p.2.2 + 1)) h hf)
  ·
    exact V_sub (lv' := [(4, .long p.1)]) [0] rfl (v_X1_divisor_45  hf)
theorem v_X1_divisor_9 {l : Launch} {G : GE} {B N : Nat} {S : List SHP} {o : Int64 × MH}      {n : Nat} {p : Int64 × Int64 × Int32} {h : MH} (hf : f_X1_divisor_9  n p h = some o) : V l G B N mX1_divisor (rmm 3 0 0) false 0 0 (QL S o) S 0 0 9 [(4, .long p.1), (6, .long p.2.1), (8, .int p.2.2)] [] h :=
  V_lp (VV := fun p h => V l G B N mX1_divisor (rmm 3 0 0) false 0 0 (QL S o) S 0 0 9 [(4, .long p.1), (6, .long p.2.1), (8, .int p.2.2)] [] h) (fun _ hk _ _ hf => v_X1_divisor_9b  hk hf) n p h hf
set_option maxRecDepth 100000 in
set_option maxHeartbeats 4000000 in
theorem v_X1_divisor {l : Launch} {G : GE} {B N : Nat} {S : List SHP} {o : Int64 × MH} {l0 : Int64} {l2 : Int64}     {h : MH} (hf : f_X1_divisor l0 l2 h = some o) : V l G B N mX1_divisor (rmm 3 0 0) false 0 0 (QL S o) S 0 0 0 [(0, .long l0), (2, .long l2)] [] h := by
  unfold f_X1_divisor at hf
  refine V_lload_n (pc' := 1) dX1_divisor_0 rfl 0 rfl rfl ?_
  refine V_lstore (lv' := [(4, .long l0), (0, .long l0), (2, .long l2)]) (pc' := 3) dX1_divisor_1 rfl (Nat.le_of_ble_eq_true rfl) rfl ?_
  refine V_lload_n (pc' := 4) dX1_divisor_3 rfl 2 rfl rfl ?_
  refine V_lstore (lv' := [(6, .long l2), (4, .long l0), (0, .long l0), (2, .long l2)]) (pc' := 6) dX1_divisor_4 rfl (Nat.le_of_ble_eq_true rfl) rfl ?_
  refine V_iconst (v := 0) (pc' := 7) dX1_divisor_6 rfl (by decide) ?_
  refine V_istore (lv' := [(8, .int 0), (6, .long l2), (4, .long l0), (0, .long l0), (2, .long l2)]) (pc' := 9) dX1_divisor_7 rfl (Nat.le_of_ble_eq_true rfl) rfl ?_
  exact V_sub (lv' := [(4, .long l0), (6, .long l2), (8, .int 0)]) [2, 1, 0] rfl (v_X1_divisor_9  hf)
theorem ct_X1_divisor {l : Launch} {S : List SHP} {h : MH} {l0 : Int64} {l2 : Int64}  {q : Int64 × MH} (hf : f_X1_divisor l0 l2 h = some q) : CT l mX1_divisor 3 false 0 0 S [.long l0, .long l2] h (QL S q) :=
  CT_ofV (by decide) rfl (Nat.le_of_ble_eq_true rfl) (fun G B hT => v_X1_divisor  hf)
/-! LabelStacks$Fractions.add(IJJ)V -/
theorem dX1_add_0 : decode cX1_add 0 = .ok (.iload_n 1, 1) := by decide +kernel
theorem dX1_add_1 : decode cX1_add 1 = .ok (.ifCond .lt 25, 3) := by decide +kernel
theorem dX1_add_4 : decode cX1_add 4 = .ok (.iload_n 1, 1) := by decide +kernel
theorem dX1_add_5 : decode cX1_add 5 = .ok (.aload_n 0, 1) := by decide +kernel
theorem dX1_add_6 : decode cX1_add 6 = .ok (.getfield 15, 3) := by decide +kernel
theorem dX1_add_9 : decode cX1_add 9 = .ok (.arraylength, 1) := by decide +kernel
theorem dX1_add_10 : decode cX1_add 10 = .ok (.if_icmp .ge 16, 3) := by decide +kernel
theorem dX1_add_13 : decode cX1_add 13 = .ok (.lload_n 2, 1) := by decide +kernel
theorem dX1_add_14 : decode cX1_add 14 = .ok (.lconst 0, 1) := by decide +kernel
theorem dX1_add_15 : decode cX1_add 15 = .ok (.lcmp, 1) := by decide +kernel
theorem dX1_add_16 : decode cX1_add 16 = .ok (.ifCond .le 10, 3) := by decide +kernel
theorem dX1_add_19 : decode cX1_add 19 = .ok (.lload 4, 2) := by decide +kernel
theorem dX1_add_21 : decode cX1_add 21 = .ok (.lconst 0, 1) := by decide +kernel
theorem dX1_add_22 : decode cX1_add 22 = .ok (.lcmp, 1) := by decide +kernel
theorem dX1_add_23 : decode cX1_add 23 = .ok (.ifCond .gt 4, 3) := by decide +kernel
theorem dX1_add_26 : decode cX1_add 26 = .ok (.return_, 1) := by decide +kernel
theorem dX1_add_27 : decode cX1_add 27 = .ok (.aload_n 0, 1) := by decide +kernel
theorem dX1_add_28 : decode cX1_add 28 = .ok (.getfield 21, 3) := by decide +kernel
theorem dX1_add_31 : decode cX1_add 31 = .ok (.iload_n 1, 1) := by decide +kernel
theorem dX1_add_32 : decode cX1_add 32 = .ok (.laload, 1) := by decide +kernel
theorem dX1_add_33 : decode cX1_add 33 = .ok (.lload 4, 2) := by decide +kernel
theorem dX1_add_35 : decode cX1_add 35 = .ok (.invokestatic 32, 3) := by decide +kernel
theorem dX1_add_38 : decode cX1_add 38 = .ok (.lstore 6, 2) := by decide +kernel
theorem dX1_add_40 : decode cX1_add 40 = .ok (.aload_n 0, 1) := by decide +kernel
theorem dX1_add_41 : decode cX1_add 41 = .ok (.getfield 15, 3) := by decide +kernel
theorem dX1_add_44 : decode cX1_add 44 = .ok (.iload_n 1, 1) := by decide +kernel
theorem dX1_add_45 : decode cX1_add 45 = .ok (.laload, 1) := by decide +kernel
theorem dX1_add_46 : decode cX1_add 46 = .ok (.lload 4, 2) := by decide +kernel
theorem dX1_add_48 : decode cX1_add 48 = .ok (.lload 6, 2) := by decide +kernel
theorem dX1_add_50 : decode cX1_add 50 = .ok (.ldiv, 1) := by decide +kernel
theorem dX1_add_51 : decode cX1_add 51 = .ok (.lmul, 1) := by decide +kernel
theorem dX1_add_52 : decode cX1_add 52 = .ok (.lload_n 2, 1) := by decide +kernel
theorem dX1_add_53 : decode cX1_add 53 = .ok (.aload_n 0, 1) := by decide +kernel
theorem dX1_add_54 : decode cX1_add 54 = .ok (.getfield 21, 3) := by decide +kernel
theorem dX1_add_57 : decode cX1_add 57 = .ok (.iload_n 1, 1) := by decide +kernel
theorem dX1_add_58 : decode cX1_add 58 = .ok (.laload, 1) := by decide +kernel
theorem dX1_add_59 : decode cX1_add 59 = .ok (.lload 6, 2) := by decide +kernel
theorem dX1_add_61 : decode cX1_add 61 = .ok (.ldiv, 1) := by decide +kernel
theorem dX1_add_62 : decode cX1_add 62 = .ok (.lmul, 1) := by decide +kernel
theorem dX1_add_63 : decode cX1_add 63 = .ok (.ladd, 1) := by decide +kernel
theorem dX1_add_64 : decode cX1_add 64 = .ok (.lstore 8, 2) := by decide +kernel
theorem dX1_add_66 : decode cX1_add 66 = .ok (.aload_n 0, 1) := by decide +kernel
theorem dX1_add_67 : decode cX1_add 67 = .ok (.getfield 21, 3) := by decide +kernel
theorem dX1_add_70 : decode cX1_add 70 = .ok (.iload_n 1, 1) := by decide +kernel
theorem dX1_add_71 : decode cX1_add 71 = .ok (.laload, 1) := by decide +kernel
theorem dX1_add_72 : decode cX1_add 72 = .ok (.lload 6, 2) := by decide +kernel
theorem dX1_add_74 : decode cX1_add 74 = .ok (.ldiv, 1) := by decide +kernel
theorem dX1_add_75 : decode cX1_add 75 = .ok (.lload 4, 2) := by decide +kernel
theorem dX1_add_77 : decode cX1_add 77 = .ok (.lmul, 1) := by decide +kernel
theorem dX1_add_78 : decode cX1_add 78 = .ok (.lstore 10, 2) := by decide +kernel
theorem dX1_add_80 : decode cX1_add 80 = .ok (.lload 8, 2) := by decide +kernel
theorem dX1_add_82 : decode cX1_add 82 = .ok (.lload 10, 2) := by decide +kernel
theorem dX1_add_84 : decode cX1_add 84 = .ok (.invokestatic 32, 3) := by decide +kernel
theorem dX1_add_87 : decode cX1_add 87 = .ok (.lstore 12, 2) := by decide +kernel
theorem dX1_add_89 : decode cX1_add 89 = .ok (.aload_n 0, 1) := by decide +kernel
theorem dX1_add_90 : decode cX1_add 90 = .ok (.getfield 15, 3) := by decide +kernel
theorem dX1_add_93 : decode cX1_add 93 = .ok (.iload_n 1, 1) := by decide +kernel
theorem dX1_add_94 : decode cX1_add 94 = .ok (.lload 8, 2) := by decide +kernel
theorem dX1_add_96 : decode cX1_add 96 = .ok (.lload 12, 2) := by decide +kernel
theorem dX1_add_98 : decode cX1_add 98 = .ok (.ldiv, 1) := by decide +kernel
theorem dX1_add_99 : decode cX1_add 99 = .ok (.lastore, 1) := by decide +kernel
theorem dX1_add_100 : decode cX1_add 100 = .ok (.aload_n 0, 1) := by decide +kernel
theorem dX1_add_101 : decode cX1_add 101 = .ok (.getfield 21, 3) := by decide +kernel
theorem dX1_add_104 : decode cX1_add 104 = .ok (.iload_n 1, 1) := by decide +kernel
theorem dX1_add_105 : decode cX1_add 105 = .ok (.lload 10, 2) := by decide +kernel
theorem dX1_add_107 : decode cX1_add 107 = .ok (.lload 12, 2) := by decide +kernel
theorem dX1_add_109 : decode cX1_add 109 = .ok (.ldiv, 1) := by decide +kernel
theorem dX1_add_110 : decode cX1_add 110 = .ok (.lastore, 1) := by decide +kernel
theorem dX1_add_111 : decode cX1_add 111 = .ok (.return_, 1) := by decide +kernel
abbrev mX1_add : MI := (RX1, yX1_add, cX1_add, 14, none)
theorem mok_X1_add : MOKv mX1_add 3 := ⟨⟨bm_897, bm_126, ⟨by decide, by decide⟩, by decide +kernel⟩, bm_895, bm_896⟩
def f_X1_add   (a0 : Nat) (x1 : Int32) (l2 : Int64) (l4 : Int64) (h : MH) : Option (MH) :=
  if x1 < 0 then
    some h
  else
    (gR h a0 0).bind fun a_1 =>
    if x1 < (Int32.ofNat (gN h a_1)) then
      if 0 < l2 then
        if 0 < l4 then
          (gR h a0 1).bind fun a_2 =>
          (ldL h a_2 x1).bind fun l_3 =>
          (f_X1_divisor l_3 l4 h).bind fun q_4 =>
          (gR q_4.2 a0 0).bind fun a_5 =>
          (ldL q_4.2 a_5 x1).bind fun l_6 =>
          if q_4.1 = (0 : Int64) then none else
          (gR q_4.2 a0 1).bind fun a_7 =>
          (ldL q_4.2 a_7 x1).bind fun l_8 =>
          if q_4.1 = (0 : Int64) then none else
          lt ((l_6 * (l4 / q_4.1)) + (l2 * (l_8 / q_4.1))) fun l_9 =>
          (gR q_4.2 a0 1).bind fun a_10 =>
          (ldL q_4.2 a_10 x1).bind fun l_11 =>
          if q_4.1 = (0 : Int64) then none else
          lt ((l_11 / q_4.1) * l4) fun l_12 =>
          (f_X1_divisor l_9 l_12 q_4.2).bind fun q_13 =>
          (gR q_13.2 a0 0).bind fun a_14 =>
          if q_13.1 = (0 : Int64) then none else
          (stL q_13.2 a_14 x1 (l_9 / q_13.1)).bind fun h_15 =>
          (gR h_15 a0 1).bind fun a_16 =>
          if q_13.1 = (0 : Int64) then none else
          (stL h_15 a_16 x1 (l_12 / q_13.1)).bind fun h_17 =>
          some h_17
        else
          some h
      else
        some h
    else
      some h
set_option maxRecDepth 100000 in
set_option maxHeartbeats 4000000 in
theorem v_X1_add {l : Launch} {G : GE} {B N : Nat} {S : List SHP} {o : MH} {a0 : Nat} {x1 : Int32} {l2 : Int64} {l4 : Int64}    (hs0 : S[a0]? = some (.inl 1)) {h : MH} (hf : f_X1_add a0 x1 l2 l4 h = some o) : V l G B N mX1_add (rmm 4 0 0) false 0 0 (QV S o) S 0 0 0 [(0, .ref a0), (1, .int x1), (2, .long l2), (4, .long l4)] [] h := by
  unfold f_X1_add at hf
  refine V_iload_n (pc' := 1) dX1_add_0 rfl 1 rfl rfl ?_
  refine V_if_lt (tgt := 26) (pc' := 4) dX1_add_1 (by decide) rfl hf (fun hf => ?_) (fun hf => ?_)
  ·
    obtain rfl := Option.some.inj hf
    exact V_vret dX1_add_26 rfl rfl rfl ⟨rfl, rfl, rfl⟩
  ·
    refine V_iload_n (pc' := 5) dX1_add_4 rfl 1 rfl rfl ?_
    refine V_aload_n (pc' := 6) dX1_add_5 rfl 0 rfl rfl ?_
    refine V_getR (pc' := 9) 1 0 dX1_add_6 rfl (by decide) (Nat.le_of_ble_eq_true rfl) bm_406 hs0 (fun _ _ _ => rfl) rfl hf (fun a_1 ha_1 hf => ?_)
    refine V_alen (pc' := 10) dX1_add_9 rfl ha_1 (by decide) ?_
    refine V_icmp_ge (tgt := 26) (pc' := 13) dX1_add_10 (by decide) rfl hf (fun hf => ?_) (fun hf => ?_)
    ·
      refine V_lload_n (pc' := 14) dX1_add_13 rfl 2 rfl rfl ?_
      refine V_lconst (v := 0) (pc' := 15) dX1_add_14 rfl (by decide) ?_
      refine V_lcmp_le (pc1 := 16) (tgt := 26) (pc' := 19) dX1_add_15 rfl dX1_add_16 (by decide) rfl hf (fun hf => ?_) (fun hf => ?_)
      ·
        refine V_lload (pc' := 21) dX1_add_19 rfl 3 rfl ?_
        refine V_lconst (v := 0) (pc' := 22) dX1_add_21 rfl (by decide) ?_
        refine V_lcmp_gt (pc1 := 23) (tgt := 27) (pc' := 26) dX1_add_22 rfl dX1_add_23 (by decide) rfl hf (fun hf => ?_) (fun hf => ?_)
        ·
          refine V_aload_n (pc' := 28) dX1_add_27 rfl 0 rfl rfl ?_
          refine V_getR (pc' := 31) 1 1 dX1_add_28 rfl (by decide) (Nat.le_of_ble_eq_true rfl) bm_407 hs0 (fun _ _ _ => rfl) rfl hf (fun a_2 ha_2 hf => ?_)
          refine V_iload_n (pc' := 32) dX1_add_31 rfl 1 rfl rfl ?_
          refine V_lald (pc' := 33) dX1_add_32 rfl ha_2 hf (fun l_3 hf => ?_)
          refine V_lload (pc' := 35) dX1_add_33 rfl 3 rfl ?_
          refine V_csL (pc' := 38) (As := [.long l_3, .long l4]) (rest := []) dX1_add_35 rfl mok_X1_divisor bm_898 rfl rfl (Nat.le_of_ble_eq_true rfl) (by decide) hf (fun q e => ct_X1_divisor  e) (fun q_4 hf => ?_)
          refine V_lstore (lv' := [(6, .long q_4.1), (0, .ref a0), (1, .int x1), (2, .long l2), (4, .long l4)]) (pc' := 40) dX1_add_38 rfl (Nat.le_of_ble_eq_true rfl) rfl ?_
          refine V_aload_n (pc' := 41) dX1_add_40 rfl 1 rfl rfl ?_
          refine V_getR (pc' := 44) 1 0 dX1_add_41 rfl (by decide) (Nat.le_of_ble_eq_true rfl) bm_406 hs0 (fun _ _ _ => rfl) rfl hf (fun a_5 ha_5 hf => ?_)
          refine V_iload_n (pc' := 45) dX1_add_44 rfl 2 rfl rfl ?_
          refine V_lald (pc' := 46) dX1_add_45 rfl ha_5 hf (fun l_6 hf => ?_)
          refine V_lload (pc' := 48) dX1_add_46 rfl 4 rfl ?_
          refine V_lload (pc' := 50) dX1_add_48 rfl 0 rfl ?_
          refine V_ldivF (pc' := 51) dX1_add_50 rfl hf (fun hf => ?_)
          refine V_lmul (pc' := 52) dX1_add_51 rfl ?_
          refine V_lload_n (pc' := 53) dX1_add_52 rfl 3 rfl rfl ?_
          refine V_aload_n (pc' := 54) dX1_add_53 rfl 1 rfl rfl ?_
          refine V_getR (pc' := 57) 1 1 dX1_add_54 rfl (by decide) (Nat.le_of_ble_eq_true rfl) bm_407 hs0 (fun _ _ _ => rfl) rfl hf (fun a_7 ha_7 hf => ?_)
          refine V_iload_n (pc' := 58) dX1_add_57 rfl 2 rfl rfl ?_
          refine V_lald (pc' := 59) dX1_add_58 rfl ha_7 hf (fun l_8 hf => ?_)
          refine V_lload (pc' := 61) dX1_add_59 rfl 0 rfl ?_
          refine V_ldivF (pc' := 62) dX1_add_61 rfl hf (fun hf => ?_)
          refine V_lmul (pc' := 63) dX1_add_62 rfl ?_
          refine V_ladd (pc' := 64) dX1_add_63 rfl ?_
          refine V_nmJ hf (fun l_9 hf => ?_)
          refine V_lstore (lv' := [(8, .long l_9), (6, .long q_4.1), (0, .ref a0), (1, .int x1), (2, .long l2), (4, .long l4)]) (pc' := 66) dX1_add_64 rfl (Nat.le_of_ble_eq_true rfl) rfl ?_
          refine V_aload_n (pc' := 67) dX1_add_66 rfl 2 rfl rfl ?_
          refine V_getR (pc' := 70) 1 1 dX1_add_67 rfl (by decide) (Nat.le_of_ble_eq_true rfl) bm_407 hs0 (fun _ _ _ => rfl) rfl hf (fun a_10 ha_10 hf => ?_)
          refine V_iload_n (pc' := 71) dX1_add_70 rfl 3 rfl rfl ?_
          refine V_lald (pc' := 72) dX1_add_71 rfl ha_10 hf (fun l_11 hf => ?_)
          refine V_lload (pc' := 74) dX1_add_72 rfl 1 rfl ?_
          refine V_ldivF (pc' := 75) dX1_add_74 rfl hf (fun hf => ?_)
          refine V_lload (pc' := 77) dX1_add_75 rfl 5 rfl ?_
          refine V_lmul (pc' := 78) dX1_add_77 rfl ?_
          refine V_nmJ hf (fun l_12 hf => ?_)
          refine V_lstore (lv' := [(10, .long l_12), (8, .long l_9), (6, .long q_4.1), (0, .ref a0), (1, .int x1), (2, .long l2), (4, .long l4)]) (pc' := 80) dX1_add_78 rfl (Nat.le_of_ble_eq_true rfl) rfl ?_
          refine V_lload (pc' := 82) dX1_add_80 rfl 1 rfl ?_
          refine V_lload (pc' := 84) dX1_add_82 rfl 0 rfl ?_
          refine V_csL (pc' := 87) (As := [.long l_9, .long l_12]) (rest := []) dX1_add_84 rfl mok_X1_divisor bm_898 rfl rfl (Nat.le_of_ble_eq_true rfl) (by decide) hf (fun q e => ct_X1_divisor  e) (fun q_13 hf => ?_)
          refine V_lstore (lv' := [(12, .long q_13.1), (10, .long l_12), (8, .long l_9), (6, .long q_4.1), (0, .ref a0), (1, .int x1), (2, .long l2), (4, .long l4)]) (pc' := 89) dX1_add_87 rfl (Nat.le_of_ble_eq_true rfl) rfl ?_
          refine V_aload_n (pc' := 90) dX1_add_89 rfl 4 rfl rfl ?_
          refine V_getR (pc' := 93) 1 0 dX1_add_90 rfl (by decide) (Nat.le_of_ble_eq_true rfl) bm_406 hs0 (fun _ _ _ => rfl) rfl hf (fun a_14 ha_14 hf => ?_)
          refine V_iload_n (pc' := 94) dX1_add_93 rfl 5 rfl rfl ?_
          refine V_lload (pc' := 96) dX1_add_94 rfl 2 rfl ?_
          refine V_lload (pc' := 98) dX1_add_96 rfl 0 rfl ?_
          refine V_ldivF (pc' := 99) dX1_add_98 rfl hf (fun hf => ?_)
          refine V_last (pc' := 100) dX1_add_99 rfl ha_14 hf (fun h_15 hf => ?_)
          refine V_aload_n (pc' := 101) dX1_add_100 rfl 4 rfl rfl ?_
          refine V_getR (pc' := 104) 1 1 dX1_add_101 rfl (by decide) (Nat.le_of_ble_eq_true rfl) bm_407 hs0 (fun _ _ _ => rfl) rfl hf (fun a_16 ha_16 hf => ?_)
          refine V_iload_n (pc' := 105) dX1_add_104 rfl 5 rfl rfl ?_
          refine V_lload (pc' := 107) dX1_add_105 rfl 1 rfl ?_
          refine V_lload (pc' := 109) dX1_add_107 rfl 0 rfl ?_
          refine V_ldivF (pc' := 110) dX1_add_109 rfl hf (fun hf => ?_)
          refine V_last (pc' := 111) dX1_add_110 rfl ha_16 hf (fun h_17 hf => ?_)
          obtain rfl := Option.some.inj hf
          exact V_vret dX1_add_111 rfl rfl rfl ⟨rfl, rfl, rfl⟩
        ·
          obtain rfl := Option.some.inj hf
          exact V_vret dX1_add_26 rfl rfl rfl ⟨rfl, rfl, rfl⟩
      ·
        obtain rfl := Option.some.inj hf
        exact V_vret dX1_add_26 rfl rfl rfl ⟨rfl, rfl, rfl⟩
    ·
      obtain rfl := Option.some.inj hf
      exact V_vret dX1_add_26 rfl rfl rfl ⟨rfl, rfl, rfl⟩
theorem ct_X1_add {l : Launch} {S : List SHP} {h : MH} {a0 : Nat} {x1 : Int32} {l2 : Int64} {l4 : Int64} (hs0 : S[a0]? = some (.inl 1)) {q : MH} (hf : f_X1_add a0 x1 l2 l4 h = some q) : CT l mX1_add 4 false 0 0 S [.ref a0, .int x1, .long l2, .long l4] h (QV S q) :=
  CT_ofV (by decide) rfl (Nat.le_of_ble_eq_true rfl) (fun G B hT => v_X1_add hs0 hf)
/-! LabelStacks$Fractions.addOne(I)V -/
theorem dX1_addOne_0 : decode cX1_addOne 0 = .ok (.iload_n 1, 1) := by decide +kernel
theorem dX1_addOne_1 : decode cX1_addOne 1 = .ok (.ifCond .lt 27, 3) := by decide +kernel
theorem dX1_addOne_4 : decode cX1_addOne 4 = .ok (.iload_n 1, 1) := by decide +kernel
theorem dX1_addOne_5 : decode cX1_addOne 5 = .ok (.aload_n 0, 1) := by decide +kernel
theorem dX1_addOne_6 : decode cX1_addOne 6 = .ok (.getfield 15, 3) := by decide +kernel
theorem dX1_addOne_9 : decode cX1_addOne 9 = .ok (.arraylength, 1) := by decide +kernel
theorem dX1_addOne_10 : decode cX1_addOne 10 = .ok (.if_icmp .ge 18, 3) := by decide +kernel
theorem dX1_addOne_13 : decode cX1_addOne 13 = .ok (.aload_n 0, 1) := by decide +kernel
theorem dX1_addOne_14 : decode cX1_addOne 14 = .ok (.getfield 15, 3) := by decide +kernel
theorem dX1_addOne_17 : decode cX1_addOne 17 = .ok (.iload_n 1, 1) := by decide +kernel
theorem dX1_addOne_18 : decode cX1_addOne 18 = .ok (.dup2, 1) := by decide +kernel
theorem dX1_addOne_19 : decode cX1_addOne 19 = .ok (.laload, 1) := by decide +kernel
theorem dX1_addOne_20 : decode cX1_addOne 20 = .ok (.aload_n 0, 1) := by decide +kernel
theorem dX1_addOne_21 : decode cX1_addOne 21 = .ok (.getfield 21, 3) := by decide +kernel
theorem dX1_addOne_24 : decode cX1_addOne 24 = .ok (.iload_n 1, 1) := by decide +kernel
theorem dX1_addOne_25 : decode cX1_addOne 25 = .ok (.laload, 1) := by decide +kernel
theorem dX1_addOne_26 : decode cX1_addOne 26 = .ok (.ladd, 1) := by decide +kernel
theorem dX1_addOne_27 : decode cX1_addOne 27 = .ok (.lastore, 1) := by decide +kernel
theorem dX1_addOne_28 : decode cX1_addOne 28 = .ok (.return_, 1) := by decide +kernel
abbrev mX1_addOne : MI := (RX1, yX1_addOne, cX1_addOne, 2, none)
theorem mok_X1_addOne : MOKv mX1_addOne 1 := ⟨⟨bm_855, bm_126, ⟨by decide, by decide⟩, by decide +kernel⟩, bm_853, bm_854⟩
def f_X1_addOne   (a0 : Nat) (x1 : Int32) (h : MH) : Option (MH) :=
  if x1 < 0 then
    some h
  else
    (gR h a0 0).bind fun a_1 =>
    if x1 < (Int32.ofNat (gN h a_1)) then
      (gR h a0 0).bind fun a_2 =>
      (ldL h a_2 x1).bind fun l_3 =>
      (gR h a0 1).bind fun a_4 =>
      (ldL h a_4 x1).bind fun l_5 =>
      (stL h a_2 x1 (l_3 + l_5)).bind fun h_6 =>
      some h_6
    else
      some h
set_option maxRecDepth 100000 in
set_option maxHeartbeats 4000000 in
theorem v_X1_addOne {l : Launch} {G : GE} {B N : Nat} {S : List SHP} {o : MH} {a0 : Nat} {x1 : Int32}    (hs0 : S[a0]? = some (.inl 1)) {h : MH} (hf : f_X1_addOne a0 x1 h = some o) : V l G B N mX1_addOne (rmm 3 0 0) false 0 0 (QV S o) S 0 0 0 [(0, .ref a0), (1, .int x1)] [] h := by
  unfold f_X1_addOne at hf
  refine V_iload_n (pc' := 1) dX1_addOne_0 rfl 1 rfl rfl ?_
  refine V_if_lt (tgt := 28) (pc' := 4) dX1_addOne_1 (by decide) rfl hf (fun hf => ?_) (fun hf => ?_)
  ·
    obtain rfl := Option.some.inj hf
    exact V_vret dX1_addOne_28 rfl rfl rfl ⟨rfl, rfl, rfl⟩
  ·
    refine V_iload_n (pc' := 5) dX1_addOne_4 rfl 1 rfl rfl ?_
    refine V_aload_n (pc' := 6) dX1_addOne_5 rfl 0 rfl rfl ?_
    refine V_getR (pc' := 9) 1 0 dX1_addOne_6 rfl (by decide) (Nat.le_of_ble_eq_true rfl) bm_406 hs0 (fun _ _ _ => rfl) rfl hf (fun a_1 ha_1 hf => ?_)
    refine V_alen (pc' := 10) dX1_addOne_9 rfl ha_1 (by decide) ?_
    refine V_icmp_ge (tgt := 28) (pc' := 13) dX1_addOne_10 (by decide) rfl hf (fun hf => ?_) (fun hf => ?_)
    ·
      refine V_aload_n (pc' := 14) dX1_addOne_13 rfl 0 rfl rfl ?_
      refine V_getR (pc' := 17) 1 0 dX1_addOne_14 rfl (by decide) (Nat.le_of_ble_eq_true rfl) bm_406 hs0 (fun _ _ _ => rfl) rfl hf (fun a_2 ha_2 hf => ?_)
      refine V_iload_n (pc' := 18) dX1_addOne_17 rfl 1 rfl rfl ?_
      refine V_dup2 (pc' := 19) dX1_addOne_18 rfl rfl rfl ?_
      refine V_lald (pc' := 20) dX1_addOne_19 rfl ha_2 hf (fun l_3 hf => ?_)
      refine V_aload_n (pc' := 21) dX1_addOne_20 rfl 0 rfl rfl ?_
      refine V_getR (pc' := 24) 1 1 dX1_addOne_21 rfl (by decide) (Nat.le_of_ble_eq_true rfl) bm_407 hs0 (fun _ _ _ => rfl) rfl hf (fun a_4 ha_4 hf => ?_)
      refine V_iload_n (pc' := 25) dX1_addOne_24 rfl 1 rfl rfl ?_
      refine V_lald (pc' := 26) dX1_addOne_25 rfl ha_4 hf (fun l_5 hf => ?_)
      refine V_ladd (pc' := 27) dX1_addOne_26 rfl ?_
      refine V_last (pc' := 28) dX1_addOne_27 rfl ha_2 hf (fun h_6 hf => ?_)
      obtain rfl := Option.some.inj hf
      exact V_vret dX1_addOne_28 rfl rfl rfl ⟨rfl, rfl, rfl⟩
    ·
      obtain rfl := Option.some.inj hf
      exact V_vret dX1_addOne_28 rfl rfl rfl ⟨rfl, rfl, rfl⟩
theorem ct_X1_addOne {l : Launch} {S : List SHP} {h : MH} {a0 : Nat} {x1 : Int32} (hs0 : S[a0]? = some (.inl 1)) {q : MH} (hf : f_X1_addOne a0 x1 h = some q) : CT l mX1_addOne 3 false 0 0 S [.ref a0, .int x1] h (QV S q) :=
  CT_ofV (by decide) rfl (Nat.le_of_ble_eq_true rfl) (fun G B hT => v_X1_addOne hs0 hf)
/-! LabelStacks$Fractions.addAll(LLabelStacks$Fractions;I)V -/
theorem dX1_addAll_0 : decode cX1_addAll 0 = .ok (.iconst 0, 1) := by decide +kernel
theorem dX1_addAll_1 : decode cX1_addAll 1 = .ok (.istore_n 3, 1) := by decide +kernel
theorem dX1_addAll_2 : decode cX1_addAll 2 = .ok (.iload_n 3, 1) := by decide +kernel
theorem dX1_addAll_3 : decode cX1_addAll 3 = .ok (.aload_n 0, 1) := by decide +kernel
theorem dX1_addAll_4 : decode cX1_addAll 4 = .ok (.getfield 15, 3) := by decide +kernel
theorem dX1_addAll_7 : decode cX1_addAll 7 = .ok (.arraylength, 1) := by decide +kernel
theorem dX1_addAll_8 : decode cX1_addAll 8 = .ok (.if_icmp .ge 38, 3) := by decide +kernel
theorem dX1_addAll_11 : decode cX1_addAll 11 = .ok (.iload_n 3, 1) := by decide +kernel
theorem dX1_addAll_12 : decode cX1_addAll 12 = .ok (.aload_n 1, 1) := by decide +kernel
theorem dX1_addAll_13 : decode cX1_addAll 13 = .ok (.getfield 15, 3) := by decide +kernel
theorem dX1_addAll_16 : decode cX1_addAll 16 = .ok (.arraylength, 1) := by decide +kernel
theorem dX1_addAll_17 : decode cX1_addAll 17 = .ok (.if_icmp .ge 29, 3) := by decide +kernel
theorem dX1_addAll_20 : decode cX1_addAll 20 = .ok (.aload_n 0, 1) := by decide +kernel
theorem dX1_addAll_21 : decode cX1_addAll 21 = .ok (.iload_n 3, 1) := by decide +kernel
theorem dX1_addAll_22 : decode cX1_addAll 22 = .ok (.aload_n 1, 1) := by decide +kernel
theorem dX1_addAll_23 : decode cX1_addAll 23 = .ok (.getfield 15, 3) := by decide +kernel
theorem dX1_addAll_26 : decode cX1_addAll 26 = .ok (.iload_n 3, 1) := by decide +kernel
theorem dX1_addAll_27 : decode cX1_addAll 27 = .ok (.laload, 1) := by decide +kernel
theorem dX1_addAll_28 : decode cX1_addAll 28 = .ok (.iload_n 2, 1) := by decide +kernel
theorem dX1_addAll_29 : decode cX1_addAll 29 = .ok (.i2l, 1) := by decide +kernel
theorem dX1_addAll_30 : decode cX1_addAll 30 = .ok (.lmul, 1) := by decide +kernel
theorem dX1_addAll_31 : decode cX1_addAll 31 = .ok (.aload_n 1, 1) := by decide +kernel
theorem dX1_addAll_32 : decode cX1_addAll 32 = .ok (.getfield 21, 3) := by decide +kernel
theorem dX1_addAll_35 : decode cX1_addAll 35 = .ok (.iload_n 3, 1) := by decide +kernel
theorem dX1_addAll_36 : decode cX1_addAll 36 = .ok (.laload, 1) := by decide +kernel
theorem dX1_addAll_37 : decode cX1_addAll 37 = .ok (.invokevirtual 36, 3) := by decide +kernel
theorem dX1_addAll_40 : decode cX1_addAll 40 = .ok (.iinc 3 1, 3) := by decide +kernel
theorem dX1_addAll_43 : decode cX1_addAll 43 = .ok (.goto (-41), 3) := by decide +kernel
theorem dX1_addAll_46 : decode cX1_addAll 46 = .ok (.return_, 1) := by decide +kernel
abbrev mX1_addAll : MI := (RX1, yX1_addAll, cX1_addAll, 4, none)
theorem mok_X1_addAll : MOKv mX1_addAll 2 := ⟨⟨bm_959, bm_126, ⟨by decide, by decide⟩, by decide +kernel⟩, bm_957, bm_958⟩
def f_X1_addAll_2b   (a0 : Nat) (a1 : Nat) (x2 : Int32) (k2 : Int32 → MH → Option (MH)) (p : Int32) (h : MH) : Option (MH) :=
  (gR h a0 0).bind fun a_1 =>
  if p < (Int32.ofNat (gN h a_1)) then
    (gR h a1 0).bind fun a_2 =>
    if p < (Int32.ofNat (gN h a_2)) then
      (gR h a1 0).bind fun a_3 =>
      (ldL h a_3 p).bind fun l_4 =>
      (gR h a1 1).bind fun a_5 =>
      (ldL h a_5 p).bind fun l_6 =>
      (f_X1_add a0 p (l_4 * (Int32.toInt64 x2)) l_6 h).bind fun q_7 =>
      k2 (p + 1) q_7
    else
      some h
  else
    some h
def f_X1_addAll_2   (a0 : Nat) (a1 : Nat) (x2 : Int32) : Nat → Int32 → MH → Option (MH) := lp (f_X1_addAll_2b a0 a1 x2)
def f_X1_addAll   (a0 : Nat) (a1 : Nat) (x2 : Int32) (h : MH) : Option (MH) :=
  f_X1_addAll_2 a0 a1 x2 FU 0 h
set_option maxRecDepth 100000 in
set_option maxHeartbeats 4000000 in
theorem v_X1_addAll_2b {l : Launch} {G : GE} {B N : Nat} {S : List SHP} {o : MH} {a0 : Nat} {a1 : Nat} {x2 : Int32}    (hs0 : S[a0]? = some (.inl 1)) (hs1 : S[a1]? = some (.inl 1)) {k2 : Int32 → MH → Option (MH)} (hk2 : ∀ (p : Int32) (h : MH), k2 p h = some o → V l G B N mX1_addAll (rmm 5 0 0) false 0 0 (QV S o) S 0 0 2 [(0, .ref a0), (1, .ref a1), (2, .int x2), (3, .int p)] [] h) {p : Int32} {h : MH} (hf : f_X1_addAll_2b a0 a1 x2 k2 p h = some o) : V l G B N mX1_addAll (rmm 5 0 0) false 0 0 (QV S o) S 0 0 2 [(0, .ref a0), (1, .ref a1), (2, .int x2), (3, .int p)] [] h := by
  unfold f_X1_addAll_2b at hf
  refine V_iload_n (pc' := 3) dX1_addAll_2 rfl 3 rfl rfl ?_
  refine V_aload_n (pc' := 4) dX1_addAll_3 rfl 0 rfl rfl ?_
  refine V_getR (pc' := 7) 1 0 dX1_addAll_4 rfl (by decide) (Nat.le_of_ble_eq_true rfl) bm_406 hs0 (fun _ _ _ => rfl) rfl hf (fun a_1 ha_1 hf => ?_)
  refine V_alen (pc' := 8) dX1_addAll_7 rfl ha_1 (by decide) ?_
  refine V_icmp_ge (tgt := 46) (pc' := 11) dX1_addAll_8 (by decide) rfl hf (fun hf => ?_) (fun hf => ?_)
  ·
    refine V_iload_n (pc' := 12) dX1_addAll_11 rfl 3 rfl rfl ?_
    refine V_aload_n (pc' := 13) dX1_addAll_12 rfl 1 rfl rfl ?_
    refine V_getR (pc' := 16) 1 0 dX1_addAll_13 rfl (by decide) (Nat.le_of_ble_eq_true rfl) bm_406 hs1 (fun _ _ _ => rfl) rfl hf (fun a_2 ha_2 hf => ?_)
    refine V_alen (pc' := 17) dX1_addAll_16 rfl ha_2 (by decide) ?_
    refine V_icmp_ge (tgt := 46) (pc' := 20) dX1_addAll_17 (by decide) rfl hf (fun hf => ?_) (fun hf => ?_)
    ·
      refine V_aload_n (pc' := 21) dX1_addAll_20 rfl 0 rfl rfl ?_
      refine V_iload_n (pc' := 22) dX1_addAll_21 rfl 3 rfl rfl ?_
      refine V_aload_n (pc' := 23) dX1_addAll_22 rfl 1 rfl rfl ?_
      refine V_getR (pc' := 26) 1 0 dX1_addAll_23 rfl (by decide) (Nat.le_of_ble_eq_true rfl) bm_406 hs1 (fun _ _ _ => rfl) rfl hf (fun a_3 ha_3 hf => ?_)
      refine V_iload_n (pc' := 27) dX1_addAll_26 rfl 3 rfl rfl ?_
      refine V_lald (pc' := 28) dX1_addAll_27 rfl ha_3 hf (fun l_4 hf => ?_)
      refine V_iload_n (pc' := 29) dX1_addAll_28 rfl 2 rfl rfl ?_
      refine V_i2l (pc' := 30) dX1_addAll_29 rfl ?_
      refine V_lmul (pc' := 31) dX1_addAll_30 rfl ?_
      refine V_aload_n (pc' := 32) dX1_addAll_31 rfl 1 rfl rfl ?_
      refine V_getR (pc' := 35) 1 1 dX1_addAll_32 rfl (by decide) (Nat.le_of_ble_eq_true rfl) bm_407 hs1 (fun _ _ _ => rfl) rfl hf (fun a_5 ha_5 hf => ?_)
      refine V_iload_n (pc' := 36) dX1_addAll_35 rfl 3 rfl rfl ?_
      refine V_lald (pc' := 37) dX1_addAll_36 rfl ha_5 hf (fun l_6 hf => ?_)
      refine V_cvV (pc' := 40) (As := [.int p, .long (l_4 * (Int32.toInt64 x2)), .long l_6]) (rest := []) dX1_addAll_37 rfl mok_X1_add bm_960 1 (by decide) rfl hs0 rfl rfl (Nat.le_of_ble_eq_true rfl) (by decide) hf (fun q e => ct_X1_add hs0 e) (fun q_7 hf => ?_)
      refine V_iinc (v := (p + 1)) (lv' := [(3, .int (p + 1)), (0, .ref a0), (1, .ref a1), (2, .int x2)]) (pc' := 43) dX1_addAll_40 rfl 3 rfl rfl (Nat.le_of_ble_eq_true rfl) rfl ?_
      refine V_goto (tgt := 2) dX1_addAll_43 (by decide) ?_
      exact V_sub (lv' := [(0, .ref a0), (1, .ref a1), (2, .int x2), (3, .int (p + 1))]) [1, 2, 3, 0] rfl (hk2 (p + 1) q_7 hf)
    ·
      obtain rfl := Option.some.inj hf
      exact V_vret dX1_addAll_46 rfl rfl rfl ⟨rfl, rfl, rfl⟩
  ·
    obtain rfl := Option.some.inj hf
    exact V_vret dX1_addAll_46 rfl rfl rfl ⟨rfl, rfl, rfl⟩
theorem v_X1_addAll_2 {l : Launch} {G : GE} {B N : Nat} {S : List SHP} {o : MH} {a0 : Nat} {a1 : Nat} {x2 : Int32}    (hs0 : S[a0]? = some (.inl 1)) (hs1 : S[a1]? = some (.inl 1)) {n : Nat} {p : Int32} {h : MH} (hf : f_X1_addAll_2 a0 a1 x2 n p h = some o) : V l G B N mX1_addAll (rmm 5 0 0) false 0 0 (QV S o) S 0 0 2 [(0, .ref a0), (1, .ref a1), (2, .int x2), (3, .int p)] [] h :=
  V_lp (VV := fun p h => V l G B N mX1_addAll (rmm 5 0 0) false 0 0 (QV S o) S 0 0 2 [(0, .ref a0), (1, .ref a1), (2, .int x2), (3, .int p)] [] h) (fun _ hk _ _ hf => v_X1_addAll_2b hs0 hs1 hk hf) n p h hf
set_option maxRecDepth 100000 in
set_option maxHeartbeats 4000000 in
theorem v_X1_addAll {l : Launch} {G : GE} {B N : Nat} {S : List SHP} {o : MH} {a0 : Nat} {a1 : Nat} {x2 : Int32}    (hs0 : S[a0]? = some (.inl 1)) (hs1 : S[a1]? = some (.inl 1)) {h : MH} (hf : f_X1_addAll a0 a1 x2 h = some o) : V l G B N mX1_addAll (rmm 5 0 0) false 0 0 (QV S o) S 0 0 0 [(0, .ref a0), (1, .ref a1), (2, .int x2)] [] h := by
  unfold f_X1_addAll at hf
  refine V_iconst (v := 0) (pc' := 1) dX1_addAll_0 rfl (by decide) ?_
  refine V_istore_n (lv' := [(3, .int 0), (0, .ref a0), (1, .ref a1), (2, .int x2)]) (pc' := 2) dX1_addAll_1 rfl rfl (Nat.le_of_ble_eq_true rfl) rfl ?_
  exact V_sub (lv' := [(0, .ref a0), (1, .ref a1), (2, .int x2), (3, .int 0)]) [1, 2, 3, 0] rfl (v_X1_addAll_2 hs0 hs1 hf)
theorem ct_X1_addAll {l : Launch} {S : List SHP} {h : MH} {a0 : Nat} {a1 : Nat} {x2 : Int32} (hs0 : S[a0]? = some (.inl 1)) (hs1 : S[a1]? = some (.inl 1)) {q : MH} (hf : f_X1_addAll a0 a1 x2 h = some q) : CT l mX1_addAll 5 false 0 0 S [.ref a0, .ref a1, .int x2] h (QV S q) :=
  CT_ofV (by decide) rfl (Nat.le_of_ble_eq_true rfl) (fun G B hT => v_X1_addAll hs0 hs1 hf)
/-! LabelStacks$Fractions.isGreater(II)Z -/
theorem dX1_isGreater_0 : decode cX1_isGreater 0 = .ok (.iload_n 1, 1) := by decide +kernel
theorem dX1_isGreater_1 : decode cX1_isGreater 1 = .ok (.ifCond .lt 12, 3) := by decide +kernel
theorem dX1_isGreater_4 : decode cX1_isGreater 4 = .ok (.iload_n 1, 1) := by decide +kernel
theorem dX1_isGreater_5 : decode cX1_isGreater 5 = .ok (.aload_n 0, 1) := by decide +kernel
theorem dX1_isGreater_6 : decode cX1_isGreater 6 = .ok (.getfield 15, 3) := by decide +kernel
theorem dX1_isGreater_9 : decode cX1_isGreater 9 = .ok (.arraylength, 1) := by decide +kernel
theorem dX1_isGreater_10 : decode cX1_isGreater 10 = .ok (.if_icmp .lt 5, 3) := by decide +kernel
theorem dX1_isGreater_13 : decode cX1_isGreater 13 = .ok (.iconst 0, 1) := by decide +kernel
theorem dX1_isGreater_14 : decode cX1_isGreater 14 = .ok (.ireturn, 1) := by decide +kernel
theorem dX1_isGreater_15 : decode cX1_isGreater 15 = .ok (.iload_n 2, 1) := by decide +kernel
theorem dX1_isGreater_16 : decode cX1_isGreater 16 = .ok (.ifCond .lt 12, 3) := by decide +kernel
theorem dX1_isGreater_19 : decode cX1_isGreater 19 = .ok (.iload_n 2, 1) := by decide +kernel
theorem dX1_isGreater_20 : decode cX1_isGreater 20 = .ok (.aload_n 0, 1) := by decide +kernel
theorem dX1_isGreater_21 : decode cX1_isGreater 21 = .ok (.getfield 15, 3) := by decide +kernel
theorem dX1_isGreater_24 : decode cX1_isGreater 24 = .ok (.arraylength, 1) := by decide +kernel
theorem dX1_isGreater_25 : decode cX1_isGreater 25 = .ok (.if_icmp .lt 20, 3) := by decide +kernel
theorem dX1_isGreater_28 : decode cX1_isGreater 28 = .ok (.aload_n 0, 1) := by decide +kernel
theorem dX1_isGreater_29 : decode cX1_isGreater 29 = .ok (.getfield 15, 3) := by decide +kernel
theorem dX1_isGreater_32 : decode cX1_isGreater 32 = .ok (.iload_n 1, 1) := by decide +kernel
theorem dX1_isGreater_33 : decode cX1_isGreater 33 = .ok (.laload, 1) := by decide +kernel
theorem dX1_isGreater_34 : decode cX1_isGreater 34 = .ok (.lconst 0, 1) := by decide +kernel
theorem dX1_isGreater_35 : decode cX1_isGreater 35 = .ok (.lcmp, 1) := by decide +kernel
theorem dX1_isGreater_36 : decode cX1_isGreater 36 = .ok (.ifCond .le 7, 3) := by decide +kernel
theorem dX1_isGreater_39 : decode cX1_isGreater 39 = .ok (.iconst 1, 1) := by decide +kernel
theorem dX1_isGreater_40 : decode cX1_isGreater 40 = .ok (.goto 4, 3) := by decide +kernel
theorem dX1_isGreater_43 : decode cX1_isGreater 43 = .ok (.iconst 0, 1) := by decide +kernel
theorem dX1_isGreater_44 : decode cX1_isGreater 44 = .ok (.ireturn, 1) := by decide +kernel
theorem dX1_isGreater_45 : decode cX1_isGreater 45 = .ok (.aload_n 0, 1) := by decide +kernel
theorem dX1_isGreater_46 : decode cX1_isGreater 46 = .ok (.getfield 21, 3) := by decide +kernel
theorem dX1_isGreater_49 : decode cX1_isGreater 49 = .ok (.iload_n 1, 1) := by decide +kernel
theorem dX1_isGreater_50 : decode cX1_isGreater 50 = .ok (.laload, 1) := by decide +kernel
theorem dX1_isGreater_51 : decode cX1_isGreater 51 = .ok (.aload_n 0, 1) := by decide +kernel
theorem dX1_isGreater_52 : decode cX1_isGreater 52 = .ok (.getfield 21, 3) := by decide +kernel
theorem dX1_isGreater_55 : decode cX1_isGreater 55 = .ok (.iload_n 2, 1) := by decide +kernel
theorem dX1_isGreater_56 : decode cX1_isGreater 56 = .ok (.laload, 1) := by decide +kernel
theorem dX1_isGreater_57 : decode cX1_isGreater 57 = .ok (.invokestatic 32, 3) := by decide +kernel
theorem dX1_isGreater_60 : decode cX1_isGreater 60 = .ok (.lstore_n 3, 1) := by decide +kernel
theorem dX1_isGreater_61 : decode cX1_isGreater 61 = .ok (.aload_n 0, 1) := by decide +kernel
theorem dX1_isGreater_62 : decode cX1_isGreater 62 = .ok (.getfield 15, 3) := by decide +kernel
theorem dX1_isGreater_65 : decode cX1_isGreater 65 = .ok (.iload_n 1, 1) := by decide +kernel
theorem dX1_isGreater_66 : decode cX1_isGreater 66 = .ok (.laload, 1) := by decide +kernel
theorem dX1_isGreater_67 : decode cX1_isGreater 67 = .ok (.aload_n 0, 1) := by decide +kernel
theorem dX1_isGreater_68 : decode cX1_isGreater 68 = .ok (.getfield 21, 3) := by decide +kernel
theorem dX1_isGreater_71 : decode cX1_isGreater 71 = .ok (.iload_n 2, 1) := by decide +kernel
theorem dX1_isGreater_72 : decode cX1_isGreater 72 = .ok (.laload, 1) := by decide +kernel
theorem dX1_isGreater_73 : decode cX1_isGreater 73 = .ok (.lload_n 3, 1) := by decide +kernel
theorem dX1_isGreater_74 : decode cX1_isGreater 74 = .ok (.ldiv, 1) := by decide +kernel
theorem dX1_isGreater_75 : decode cX1_isGreater 75 = .ok (.lmul, 1) := by decide +kernel
theorem dX1_isGreater_76 : decode cX1_isGreater 76 = .ok (.aload_n 0, 1) := by decide +kernel
theorem dX1_isGreater_77 : decode cX1_isGreater 77 = .ok (.getfield 15, 3) := by decide +kernel
theorem dX1_isGreater_80 : decode cX1_isGreater 80 = .ok (.iload_n 2, 1) := by decide +kernel
theorem dX1_isGreater_81 : decode cX1_isGreater 81 = .ok (.laload, 1) := by decide +kernel
theorem dX1_isGreater_82 : decode cX1_isGreater 82 = .ok (.aload_n 0, 1) := by decide +kernel
theorem dX1_isGreater_83 : decode cX1_isGreater 83 = .ok (.getfield 21, 3) := by decide +kernel
theorem dX1_isGreater_86 : decode cX1_isGreater 86 = .ok (.iload_n 1, 1) := by decide +kernel
theorem dX1_isGreater_87 : decode cX1_isGreater 87 = .ok (.laload, 1) := by decide +kernel
theorem dX1_isGreater_88 : decode cX1_isGreater 88 = .ok (.lload_n 3, 1) := by decide +kernel
theorem dX1_isGreater_89 : decode cX1_isGreater 89 = .ok (.ldiv, 1) := by decide +kernel
theorem dX1_isGreater_90 : decode cX1_isGreater 90 = .ok (.lmul, 1) := by decide +kernel
theorem dX1_isGreater_91 : decode cX1_isGreater 91 = .ok (.lcmp, 1) := by decide +kernel
theorem dX1_isGreater_92 : decode cX1_isGreater 92 = .ok (.ifCond .le 7, 3) := by decide +kernel
theorem dX1_isGreater_95 : decode cX1_isGreater 95 = .ok (.iconst 1, 1) := by decide +kernel
theorem dX1_isGreater_96 : decode cX1_isGreater 96 = .ok (.goto 4, 3) := by decide +kernel
theorem dX1_isGreater_99 : decode cX1_isGreater 99 = .ok (.iconst 0, 1) := by decide +kernel
theorem dX1_isGreater_100 : decode cX1_isGreater 100 = .ok (.ireturn, 1) := by decide +kernel
abbrev mX1_isGreater : MI := (RX1, yX1_isGreater, cX1_isGreater, 5, (some .boolean))
theorem mok_X1_isGreater : MOKv mX1_isGreater 2 := ⟨⟨bm_968, bm_126, ⟨by decide, by decide⟩, by decide +kernel⟩, bm_966, bm_967⟩
def f_X1_isGreater_28   (a0 : Nat) (x1 : Int32) (h : MH) : Option (Int32 × MH) :=
  (gR h a0 0).bind fun a_1 =>
  (ldL h a_1 x1).bind fun l_2 =>
  if 0 < l_2 then
    some (1, h)
  else
    some (0, h)
def f_X1_isGreater   (a0 : Nat) (x1 : Int32) (x2 : Int32) (h : MH) : Option (Int32 × MH) :=
  if x1 < 0 then
    some (0, h)
  else
    (gR h a0 0).bind fun a_1 =>
    if x1 < (Int32.ofNat (gN h a_1)) then
      if x2 < 0 then
        f_X1_isGreater_28 a0 x1 h
      else
        (gR h a0 0).bind fun a_2 =>
        if x2 < (Int32.ofNat (gN h a_2)) then
          (gR h a0 1).bind fun a_3 =>
          (ldL h a_3 x1).bind fun l_4 =>
          (gR h a0 1).bind fun a_5 =>
          (ldL h a_5 x2).bind fun l_6 =>
          (f_X1_divisor l_4 l_6 h).bind fun q_7 =>
          (gR q_7.2 a0 0).bind fun a_8 =>
          (ldL q_7.2 a_8 x1).bind fun l_9 =>
          (gR q_7.2 a0 1).bind fun a_10 =>
          (ldL q_7.2 a_10 x2).bind fun l_11 =>
          if q_7.1 = (0 : Int64) then none else
          (gR q_7.2 a0 0).bind fun a_12 =>
          (ldL q_7.2 a_12 x2).bind fun l_13 =>
          (gR q_7.2 a0 1).bind fun a_14 =>
          (ldL q_7.2 a_14 x1).bind fun l_15 =>
          if q_7.1 = (0 : Int64) then none else
          if (l_13 * (l_15 / q_7.1)) < (l_9 * (l_11 / q_7.1)) then
            some (1, q_7.2)
          else
            some (0, q_7.2)
        else
          f_X1_isGreater_28 a0 x1 h
    else
      some (0, h)
set_option maxRecDepth 100000 in
set_option maxHeartbeats 4000000 in
theorem v_X1_isGreater_28 {l : Launch} {G : GE} {B N : Nat} {S : List SHP} {o : Int32 × MH} {a0 : Nat} {x1 : Int32}    (hs0 : S[a0]? = some (.inl 1)) {h : MH} (hf : f_X1_isGreater_28 a0 x1 h = some o) : V l G B N mX1_isGreater (rmm 4 0 0) false 0 0 (QI S o) S 0 0 28 [(0, .ref a0), (1, .int x1)] [] h := by
  unfold f_X1_isGreater_28 at hf
  refine V_aload_n (pc' := 29) dX1_isGreater_28 rfl 0 rfl rfl ?_
  refine V_getR (pc' := 32) 1 0 dX1_isGreater_29 rfl (by decide) (Nat.le_of_ble_eq_true rfl) bm_406 hs0 (fun _ _ _ => rfl) rfl hf (fun a_1 ha_1 hf => ?_)
  refine V_iload_n (pc' := 33) dX1_isGreater_32 rfl 1 rfl rfl ?_
  refine V_lald (pc' := 34) dX1_isGreater_33 rfl ha_1 hf (fun l_2 hf => ?_)
  refine V_lconst (v := 0) (pc' := 35) dX1_isGreater_34 rfl (by decide) ?_
  refine V_lcmp_le (pc1 := 36) (tgt := 43) (pc' := 39) dX1_isGreater_35 rfl dX1_isGreater_36 (by decide) rfl hf (fun hf => ?_) (fun hf => ?_)
  ·
    refine V_iconst (v := 1) (pc' := 40) dX1_isGreater_39 rfl (by decide) ?_
    refine V_goto (tgt := 44) dX1_isGreater_40 (by decide) ?_
    obtain rfl := Option.some.inj hf
    exact V_zretL dX1_isGreater_44 rfl rfl rfl (by decide) ⟨rfl, rfl, rfl⟩
  ·
    refine V_iconst (v := 0) (pc' := 44) dX1_isGreater_43 rfl (by decide) ?_
    obtain rfl := Option.some.inj hf
    exact V_zretL dX1_isGreater_44 rfl rfl rfl (by decide) ⟨rfl, rfl, rfl⟩
set_option maxRecDepth 100000 in
set_option maxHeartbeats 4000000 in
theorem v_X1_isGreater {l : Launch} {G : GE} {B N : Nat} {S : List SHP} {o : Int32 × MH} {a0 : Nat} {x1 : Int32} {x2 : Int32}    (hs0 : S[a0]? = some (.inl 1)) {h : MH} (hf : f_X1_isGreater a0 x1 x2 h = some o) : V l G B N mX1_isGreater (rmm 4 0 0) false 0 0 (QI S o) S 0 0 0 [(0, .ref a0), (1, .int x1), (2, .int x2)] [] h := by
  unfold f_X1_isGreater at hf
  refine V_iload_n (pc' := 1) dX1_isGreater_0 rfl 1 rfl rfl ?_
  refine V_if_lt (tgt := 13) (pc' := 4) dX1_isGreater_1 (by decide) rfl hf (fun hf => ?_) (fun hf => ?_)
  ·
    refine V_iconst (v := 0) (pc' := 14) dX1_isGreater_13 rfl (by decide) ?_
    obtain rfl := Option.some.inj hf
    exact V_zretL dX1_isGreater_14 rfl rfl rfl (by decide) ⟨rfl, rfl, rfl⟩
  ·
    refine V_iload_n (pc' := 5) dX1_isGreater_4 rfl 1 rfl rfl ?_
    refine V_aload_n (pc' := 6) dX1_isGreater_5 rfl 0 rfl rfl ?_
    refine V_getR (pc' := 9) 1 0 dX1_isGreater_6 rfl (by decide) (Nat.le_of_ble_eq_true rfl) bm_406 hs0 (fun _ _ _ => rfl) rfl hf (fun a_1 ha_1 hf => ?_)
    refine V_alen (pc' := 10) dX1_isGreater_9 rfl ha_1 (by decide) ?_
    refine V_icmp_lt (tgt := 15) (pc' := 13) dX1_isGreater_10 (by decide) rfl hf (fun hf => ?_) (fun hf => ?_)
    ·
      refine V_iload_n (pc' := 16) dX1_isGreater_15 rfl 2 rfl rfl ?_
      refine V_if_lt (tgt := 28) (pc' := 19) dX1_isGreater_16 (by decide) rfl hf (fun hf => ?_) (fun hf => ?_)
      ·
        exact V_sub (lv' := [(0, .ref a0), (1, .int x1)]) [0, 1] rfl (v_X1_isGreater_28 hs0 hf)
      ·
        refine V_iload_n (pc' := 20) dX1_isGreater_19 rfl 2 rfl rfl ?_
        refine V_aload_n (pc' := 21) dX1_isGreater_20 rfl 0 rfl rfl ?_
        refine V_getR (pc' := 24) 1 0 dX1_isGreater_21 rfl (by decide) (Nat.le_of_ble_eq_true rfl) bm_406 hs0 (fun _ _ _ => rfl) rfl hf (fun a_2 ha_2 hf => ?_)
        refine V_alen (pc' := 25) dX1_isGreater_24 rfl ha_2 (by decide) ?_
        refine V_icmp_lt (tgt := 45) (pc' := 28) dX1_isGreater_25 (by decide) rfl hf (fun hf => ?_) (fun hf => ?_)
        ·
          refine V_aload_n (pc' := 46) dX1_isGreater_45 rfl 0 rfl rfl ?_
          refine V_getR (pc' := 49) 1 1 dX1_isGreater_46 rfl (by decide) (Nat.le_of_ble_eq_true rfl) bm_407 hs0 (fun _ _ _ => rfl) rfl hf (fun a_3 ha_3 hf => ?_)
          refine V_iload_n (pc' := 50) dX1_isGreater_49 rfl 1 rfl rfl ?_
          refine V_lald (pc' := 51) dX1_isGreater_50 rfl ha_3 hf (fun l_4 hf => ?_)
          refine V_aload_n (pc' := 52) dX1_isGreater_51 rfl 0 rfl rfl ?_
          refine V_getR (pc' := 55) 1 1 dX1_isGreater_52 rfl (by decide) (Nat.le_of_ble_eq_true rfl) bm_407 hs0 (fun _ _ _ => rfl) rfl hf (fun a_5 ha_5 hf => ?_)
          refine V_iload_n (pc' := 56) dX1_isGreater_55 rfl 2 rfl rfl ?_
          refine V_lald (pc' := 57) dX1_isGreater_56 rfl ha_5 hf (fun l_6 hf => ?_)
          refine V_csL (pc' := 60) (As := [.long l_4, .long l_6]) (rest := []) dX1_isGreater_57 rfl mok_X1_divisor bm_898 rfl rfl (Nat.le_of_ble_eq_true rfl) (by decide) hf (fun q e => ct_X1_divisor  e) (fun q_7 hf => ?_)
          refine V_lstore_n (lv' := [(3, .long q_7.1), (0, .ref a0), (1, .int x1), (2, .int x2)]) (pc' := 61) dX1_isGreater_60 rfl rfl (Nat.le_of_ble_eq_true rfl) rfl ?_
          refine V_aload_n (pc' := 62) dX1_isGreater_61 rfl 1 rfl rfl ?_
          refine V_getR (pc' := 65) 1 0 dX1_isGreater_62 rfl (by decide) (Nat.le_of_ble_eq_true rfl) bm_406 hs0 (fun _ _ _ => rfl) rfl hf (fun a_8 ha_8 hf => ?_)
          refine V_iload_n (pc' := 66) dX1_isGreater_65 rfl 2 rfl rfl ?_
          refine V_lald (pc' := 67) dX1_isGreater_66 rfl ha_8 hf (fun l_9 hf => ?_)
          refine V_aload_n (pc' := 68) dX1_isGreater_67 rfl 1 rfl rfl ?_
          refine V_getR (pc' := 71) 1 1 dX1_isGreater_68 rfl (by decide) (Nat.le_of_ble_eq_true rfl) bm_407 hs0 (fun _ _ _ => rfl) rfl hf (fun a_10 ha_10 hf => ?_)
          refine V_iload_n (pc' := 72) dX1_isGreater_71 rfl 3 rfl rfl ?_
          refine V_lald (pc' := 73) dX1_isGreater_72 rfl ha_10 hf (fun l_11 hf => ?_)
          refine V_lload_n (pc' := 74) dX1_isGreater_73 rfl 0 rfl rfl ?_
          refine V_ldivF (pc' := 75) dX1_isGreater_74 rfl hf (fun hf => ?_)
          refine V_lmul (pc' := 76) dX1_isGreater_75 rfl ?_
          refine V_aload_n (pc' := 77) dX1_isGreater_76 rfl 1 rfl rfl ?_
          refine V_getR (pc' := 80) 1 0 dX1_isGreater_77 rfl (by decide) (Nat.le_of_ble_eq_true rfl) bm_406 hs0 (fun _ _ _ => rfl) rfl hf (fun a_12 ha_12 hf => ?_)
          refine V_iload_n (pc' := 81) dX1_isGreater_80 rfl 3 rfl rfl ?_
          refine V_lald (pc' := 82) dX1_isGreater_81 rfl ha_12 hf (fun l_13 hf => ?_)
          refine V_aload_n (pc' := 83) dX1_isGreater_82 rfl 1 rfl rfl ?_
          refine V_getR (pc' := 86) 1 1 dX1_isGreater_83 rfl (by decide) (Nat.le_of_ble_eq_true rfl) bm_407 hs0 (fun _ _ _ => rfl) rfl hf (fun a_14 ha_14 hf => ?_)
          refine V_iload_n (pc' := 87) dX1_isGreater_86 rfl 2 rfl rfl ?_
          refine V_lald (pc' := 88) dX1_isGreater_87 rfl ha_14 hf (fun l_15 hf => ?_)
          refine V_lload_n (pc' := 89) dX1_isGreater_88 rfl 0 rfl rfl ?_
          refine V_ldivF (pc' := 90) dX1_isGreater_89 rfl hf (fun hf => ?_)
          refine V_lmul (pc' := 91) dX1_isGreater_90 rfl ?_
          refine V_lcmp_le (pc1 := 92) (tgt := 99) (pc' := 95) dX1_isGreater_91 rfl dX1_isGreater_92 (by decide) rfl hf (fun hf => ?_) (fun hf => ?_)
          ·
            refine V_iconst (v := 1) (pc' := 96) dX1_isGreater_95 rfl (by decide) ?_
            refine V_goto (tgt := 100) dX1_isGreater_96 (by decide) ?_
            obtain rfl := Option.some.inj hf
            exact V_zretL dX1_isGreater_100 rfl rfl rfl (by decide) ⟨rfl, rfl, rfl⟩
          ·
            refine V_iconst (v := 0) (pc' := 100) dX1_isGreater_99 rfl (by decide) ?_
            obtain rfl := Option.some.inj hf
            exact V_zretL dX1_isGreater_100 rfl rfl rfl (by decide) ⟨rfl, rfl, rfl⟩
        ·
          exact V_sub (lv' := [(0, .ref a0), (1, .int x1)]) [0, 1] rfl (v_X1_isGreater_28 hs0 hf)
    ·
      refine V_iconst (v := 0) (pc' := 14) dX1_isGreater_13 rfl (by decide) ?_
      obtain rfl := Option.some.inj hf
      exact V_zretL dX1_isGreater_14 rfl rfl rfl (by decide) ⟨rfl, rfl, rfl⟩
theorem ct_X1_isGreater {l : Launch} {S : List SHP} {h : MH} {a0 : Nat} {x1 : Int32} {x2 : Int32} (hs0 : S[a0]? = some (.inl 1)) {q : Int32 × MH} (hf : f_X1_isGreater a0 x1 x2 h = some q) : CT l mX1_isGreater 4 false 0 0 S [.ref a0, .int x1, .int x2] h (QI S q) :=
  CT_ofV (by decide) rfl (Nat.le_of_ble_eq_true rfl) (fun G B hT => v_X1_isGreater hs0 hf)
