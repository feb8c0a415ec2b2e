/-! LabelStacks$Tape.append(I)V -/
theorem dX8_append_0 : decode cX8_append 0 = .ok (.bipush 24, 2) := by decide +kernel
theorem dX8_append_2 : decode cX8_append 2 = .ok (.istore_n 2, 1) := by decide +kernel
theorem dX8_append_3 : decode cX8_append 3 = .ok (.iload_n 2, 1) := by decide +kernel
theorem dX8_append_4 : decode cX8_append 4 = .ok (.ifCond .lt 42, 3) := by decide +kernel
theorem dX8_append_7 : decode cX8_append 7 = .ok (.aload_n 0, 1) := by decide +kernel
theorem dX8_append_8 : decode cX8_append 8 = .ok (.getfield 26, 3) := by decide +kernel
theorem dX8_append_11 : decode cX8_append 11 = .ok (.sipush 500, 3) := by decide +kernel
theorem dX8_append_14 : decode cX8_append 14 = .ok (.if_icmp .ge 32, 3) := by decide +kernel
theorem dX8_append_17 : decode cX8_append 17 = .ok (.aload_n 0, 1) := by decide +kernel
theorem dX8_append_18 : decode cX8_append 18 = .ok (.getfield 9, 3) := by decide +kernel
theorem dX8_append_21 : decode cX8_append 21 = .ok (.aload_n 0, 1) := by decide +kernel
theorem dX8_append_22 : decode cX8_append 22 = .ok (.getfield 26, 3) := by decide +kernel
theorem dX8_append_25 : decode cX8_append 25 = .ok (.iload_n 1, 1) := by decide +kernel
theorem dX8_append_26 : decode cX8_append 26 = .ok (.iload_n 2, 1) := by decide +kernel
theorem dX8_append_27 : decode cX8_append 27 = .ok (.iushr, 1) := by decide +kernel
theorem dX8_append_28 : decode cX8_append 28 = .ok (.i2b, 1) := by decide +kernel
theorem dX8_append_29 : decode cX8_append 29 = .ok (.bastore, 1) := by decide +kernel
theorem dX8_append_30 : decode cX8_append 30 = .ok (.aload_n 0, 1) := by decide +kernel
theorem dX8_append_31 : decode cX8_append 31 = .ok (.dup, 1) := by decide +kernel
theorem dX8_append_32 : decode cX8_append 32 = .ok (.getfield 26, 3) := by decide +kernel
theorem dX8_append_35 : decode cX8_append 35 = .ok (.iconst 1, 1) := by decide +kernel
theorem dX8_append_36 : decode cX8_append 36 = .ok (.iadd, 1) := by decide +kernel
theorem dX8_append_37 : decode cX8_append 37 = .ok (.putfield 26, 3) := by decide +kernel
theorem dX8_append_40 : decode cX8_append 40 = .ok (.iinc 2 (-8), 3) := by decide +kernel
theorem dX8_append_43 : decode cX8_append 43 = .ok (.goto (-40), 3) := by decide +kernel
theorem dX8_append_46 : decode cX8_append 46 = .ok (.return_, 1) := by decide +kernel
abbrev mX8_append : MI := (RX8, yX8_append, cX8_append, 3, none)
theorem mok_X8_append : MOKv mX8_append 1 := ⟨⟨bm_1039, bm_122, ⟨by decide, by decide⟩, by decide +kernel⟩, bm_1037, bm_1038⟩
def f_X8_append_3b   (a0 : Nat) (x1 : Int32) (k3 : Int32 → MH → Option (MH)) (p : Int32) (h : MH) : Option (MH) :=
  if p < 0 then
    some h
  else
    if (gI h a0 1) < 500 then
      (gR h a0 0).bind fun a_1 =>
      (stB h a_1 (gI h a0 1) (Int8.toInt32 (Int32.toInt8 (ush x1 p)))).bind fun h_2 =>
      lt (sI h_2 a0 1 ((gI h_2 a0 1) + 1)) fun h_3 =>
      k3 (p + (-8)) h_3
    else
      some h
def f_X8_append_3   (a0 : Nat) (x1 : Int32) : Nat → Int32 → MH → Option (MH) := lp (f_X8_append_3b a0 x1)
def f_X8_append   (a0 : Nat) (x1 : Int32) (h : MH) : Option (MH) :=
  f_X8_append_3 a0 x1 FU 24 h
set_option maxRecDepth 100000 in
set_option maxHeartbeats 4000000 in
theorem v_X8_append_3b {l : Launch} {G : GE} {B N : Nat} {S : List SHP} {o : MH} {a0 : Nat} {x1 : Int32}    (hs0 : S[a0]? = some (.inl 8)) {k3 : Int32 → MH → Option (MH)} (hk3 : ∀ (p : Int32) (h : MH), k3 p h = some o → V l G B N mX8_append (rmm 3 0 0) false 0 0 (QV S o) S 0 0 3 [(0, .ref a0), (1, .int x1), (2, .int p)] [] h) {p : Int32} {h : MH} (hf : f_X8_append_3b a0 x1 k3 p h = some o) : V l G B N mX8_append (rmm 3 0 0) false 0 0 (QV S o) S 0 0 3 [(0, .ref a0), (1, .int x1), (2, .int p)] [] h := by
  unfold f_X8_append_3b at hf
  refine V_iload_n (pc' := 4) dX8_append_3 rfl 2 rfl rfl ?_
  refine V_if_lt (tgt := 46) (pc' := 7) dX8_append_4 (by decide) rfl hf (fun hf => ?_) (fun hf => ?_)
  ·
    obtain rfl := Option.some.inj hf
    exact V_vret dX8_append_46 rfl rfl rfl ⟨rfl, rfl, rfl⟩
  ·
    refine V_aload_n (pc' := 8) dX8_append_7 rfl 0 rfl rfl ?_
    refine V_getI (pc' := 11) 8 1 dX8_append_8 rfl (by decide) (Nat.le_of_ble_eq_true rfl) bm_319 hs0 (fun _ _ _ => rfl) ?_
    refine V_sipush (v := 500) (pc' := 14) dX8_append_11 rfl (by decide) ?_
    refine V_icmp_ge (tgt := 46) (pc' := 17) dX8_append_14 (by decide) rfl hf (fun hf => ?_) (fun hf => ?_)
    ·
      refine V_aload_n (pc' := 18) dX8_append_17 rfl 0 rfl rfl ?_
      refine V_getR (pc' := 21) 8 0 dX8_append_18 rfl (by decide) (Nat.le_of_ble_eq_true rfl) bm_318 hs0 (fun _ _ _ => rfl) rfl hf (fun a_1 ha_1 hf => ?_)
      refine V_aload_n (pc' := 22) dX8_append_21 rfl 0 rfl rfl ?_
      refine V_getI (pc' := 25) 8 1 dX8_append_22 rfl (by decide) (Nat.le_of_ble_eq_true rfl) bm_319 hs0 (fun _ _ _ => rfl) ?_
      refine V_iload_n (pc' := 26) dX8_append_25 rfl 1 rfl rfl ?_
      refine V_iload_n (pc' := 27) dX8_append_26 rfl 2 rfl rfl ?_
      refine V_iushr (pc' := 28) dX8_append_27 rfl ?_
      refine V_i2b (pc' := 29) dX8_append_28 rfl ?_
      refine V_bast (pc' := 30) dX8_append_29 rfl ha_1 hf (fun h_2 hf => ?_)
      refine V_aload_n (pc' := 31) dX8_append_30 rfl 0 rfl rfl ?_
      refine V_dup (pc' := 32) dX8_append_31 rfl rfl ?_
      refine V_getI (pc' := 35) 8 1 dX8_append_32 rfl (by decide) (Nat.le_of_ble_eq_true rfl) bm_319 hs0 (fun _ _ _ => rfl) ?_
      refine V_iconst (v := 1) (pc' := 36) dX8_append_35 rfl (by decide) ?_
      refine V_iadd (pc' := 37) dX8_append_36 rfl ?_
      refine V_putI (pc' := 40) 8 1 dX8_append_37 rfl (by decide) (Nat.le_of_ble_eq_true rfl) bm_319 hs0 (Or.inl rfl) rfl ?_
      refine V_nmH hf (fun h_3 hf => ?_)
      refine V_iinc (v := (p + (-8))) (lv' := [(2, .int (p + (-8))), (0, .ref a0), (1, .int x1)]) (pc' := 43) dX8_append_40 rfl 2 rfl rfl (Nat.le_of_ble_eq_true rfl) rfl ?_
      refine V_goto (tgt := 3) dX8_append_43 (by decide) ?_
      exact V_sub (lv' := [(0, .ref a0), (1, .int x1), (2, .int (p + (-8)))]) [1, 2, 0] rfl (hk3 (p + (-8)) h_3 hf)
    ·
      obtain rfl := Option.some.inj hf
      exact V_vret dX8_append_46 rfl rfl rfl ⟨rfl, rfl, rfl⟩
theorem v_X8_append_3 {l : Launch} {G : GE} {B N : Nat} {S : List SHP} {o : MH} {a0 : Nat} {x1 : Int32}    (hs0 : S[a0]? = some (.inl 8)) {n : Nat} {p : Int32} {h : MH} (hf : f_X8_append_3 a0 x1 n p h = some o) : V l G B N mX8_append (rmm 3 0 0) false 0 0 (QV S o) S 0 0 3 [(0, .ref a0), (1, .int x1), (2, .int p)] [] h :=
  V_lp (VV := fun p h => V l G B N mX8_append (rmm 3 0 0) false 0 0 (QV S o) S 0 0 3 [(0, .ref a0), (1, .int x1), (2, .int p)] [] h) (fun _ hk _ _ hf => v_X8_append_3b hs0 hk hf) n p h hf
set_option maxRecDepth 100000 in
set_option maxHeartbeats 4000000 in
theorem v_X8_append {l : Launch} {G : GE} {B N : Nat} {S : List SHP} {o : MH} {a0 : Nat} {x1 : Int32}    (hs0 : S[a0]? = some (.inl 8)) {h : MH} (hf : f_X8_append a0 x1 h = some o) : V l G B N mX8_append (rmm 3 0 0) false 0 0 (QV S o) S 0 0 0 [(0, .ref a0), (1, .int x1)] [] h := by
  unfold f_X8_append at hf
  refine V_bipush (v := 24) (pc' := 2) dX8_append_0 rfl (by decide) ?_
  refine V_istore_n (lv' := [(2, .int 24), (0, .ref a0), (1, .int x1)]) (pc' := 3) dX8_append_2 rfl rfl (Nat.le_of_ble_eq_true rfl) rfl ?_
  exact V_sub (lv' := [(0, .ref a0), (1, .int x1), (2, .int 24)]) [1, 2, 0] rfl (v_X8_append_3 hs0 hf)
theorem ct_X8_append {l : Launch} {S : List SHP} {h : MH} {a0 : Nat} {x1 : Int32} (hs0 : S[a0]? = some (.inl 8)) {q : MH} (hf : f_X8_append a0 x1 h = some q) : CT l mX8_append 3 false 0 0 S [.ref a0, .int x1] h (QV S q) :=
  CT_ofV (by decide) rfl (Nat.le_of_ble_eq_true rfl) (fun G B hT => v_X8_append hs0 hf)
/-! LabelStacks$Tape.byteAt(I)I -/
theorem dX8_byteAt_0 : decode cX8_byteAt 0 = .ok (.iload_n 1, 1) := by decide +kernel
theorem dX8_byteAt_1 : decode cX8_byteAt 1 = .ok (.ifCond .lt 24, 3) := by decide +kernel
theorem dX8_byteAt_4 : decode cX8_byteAt 4 = .ok (.iload_n 1, 1) := by decide +kernel
theorem dX8_byteAt_5 : decode cX8_byteAt 5 = .ok (.aload_n 0, 1) := by decide +kernel
theorem dX8_byteAt_6 : decode cX8_byteAt 6 = .ok (.getfield 26, 3) := by decide +kernel
theorem dX8_byteAt_9 : decode cX8_byteAt 9 = .ok (.if_icmp .ge 16, 3) := by decide +kernel
theorem dX8_byteAt_12 : decode cX8_byteAt 12 = .ok (.aload_n 0, 1) := by decide +kernel
theorem dX8_byteAt_13 : decode cX8_byteAt 13 = .ok (.getfield 9, 3) := by decide +kernel
theorem dX8_byteAt_16 : decode cX8_byteAt 16 = .ok (.iload_n 1, 1) := by decide +kernel
theorem dX8_byteAt_17 : decode cX8_byteAt 17 = .ok (.baload, 1) := by decide +kernel
theorem dX8_byteAt_18 : decode cX8_byteAt 18 = .ok (.sipush 255, 3) := by decide +kernel
theorem dX8_byteAt_21 : decode cX8_byteAt 21 = .ok (.iand, 1) := by decide +kernel
theorem dX8_byteAt_22 : decode cX8_byteAt 22 = .ok (.goto 4, 3) := by decide +kernel
theorem dX8_byteAt_25 : decode cX8_byteAt 25 = .ok (.iconst (-1), 1) := by decide +kernel
theorem dX8_byteAt_26 : decode cX8_byteAt 26 = .ok (.ireturn, 1) := by decide +kernel
abbrev mX8_byteAt : MI := (RX8, yX8_byteAt, cX8_byteAt, 2, (some .int))
theorem mok_X8_byteAt : MOKv mX8_byteAt 1 := ⟨⟨bm_1063, bm_122, ⟨by decide, by decide⟩, by decide +kernel⟩, bm_1062, bm_29⟩
def f_X8_byteAt   (a0 : Nat) (x1 : Int32) (h : MH) : Option (Int32 × MH) :=
  if x1 < 0 then
    some ((-1 : Int32), h)
  else
    if x1 < (gI h a0 1) then
      (gR h a0 0).bind fun a_1 =>
      (ldI h a_1 x1).bind fun x_2 =>
      some ((x_2 &&& 255), h)
    else
      some ((-1 : Int32), h)
set_option maxRecDepth 100000 in
set_option maxHeartbeats 4000000 in
theorem v_X8_byteAt {l : Launch} {G : GE} {B N : Nat} {S : List SHP} {o : Int32 × MH} {a0 : Nat} {x1 : Int32}    (hs0 : S[a0]? = some (.inl 8)) {h : MH} (hf : f_X8_byteAt a0 x1 h = some o) : V l G B N mX8_byteAt (rmm 3 0 0) false 0 0 (QI S o) S 0 0 0 [(0, .ref a0), (1, .int x1)] [] h := by
  unfold f_X8_byteAt at hf
  refine V_iload_n (pc' := 1) dX8_byteAt_0 rfl 1 rfl rfl ?_
  refine V_if_lt (tgt := 25) (pc' := 4) dX8_byteAt_1 (by decide) rfl hf (fun hf => ?_) (fun hf => ?_)
  ·
    refine V_iconst (v := (-1)) (pc' := 26) dX8_byteAt_25 rfl (by decide) ?_
    obtain rfl := Option.some.inj hf
    exact V_iret dX8_byteAt_26 rfl rfl rfl ⟨rfl, rfl, rfl⟩
  ·
    refine V_iload_n (pc' := 5) dX8_byteAt_4 rfl 1 rfl rfl ?_
    refine V_aload_n (pc' := 6) dX8_byteAt_5 rfl 0 rfl rfl ?_
    refine V_getI (pc' := 9) 8 1 dX8_byteAt_6 rfl (by decide) (Nat.le_of_ble_eq_true rfl) bm_319 hs0 (fun _ _ _ => rfl) ?_
    refine V_icmp_ge (tgt := 25) (pc' := 12) dX8_byteAt_9 (by decide) rfl hf (fun hf => ?_) (fun hf => ?_)
    ·
      refine V_aload_n (pc' := 13) dX8_byteAt_12 rfl 0 rfl rfl ?_
      refine V_getR (pc' := 16) 8 0 dX8_byteAt_13 rfl (by decide) (Nat.le_of_ble_eq_true rfl) bm_318 hs0 (fun _ _ _ => rfl) rfl hf (fun a_1 ha_1 hf => ?_)
      refine V_iload_n (pc' := 17) dX8_byteAt_16 rfl 1 rfl rfl ?_
      refine V_bald (pc' := 18) dX8_byteAt_17 rfl ha_1 hf (fun x_2 hf => ?_)
      refine V_sipush (v := 255) (pc' := 21) dX8_byteAt_18 rfl (by decide) ?_
      refine V_iand (pc' := 22) dX8_byteAt_21 rfl ?_
      refine V_goto (tgt := 26) dX8_byteAt_22 (by decide) ?_
      obtain rfl := Option.some.inj hf
      exact V_iret dX8_byteAt_26 rfl rfl rfl ⟨rfl, rfl, rfl⟩
    ·
      refine V_iconst (v := (-1)) (pc' := 26) dX8_byteAt_25 rfl (by decide) ?_
      obtain rfl := Option.some.inj hf
      exact V_iret dX8_byteAt_26 rfl rfl rfl ⟨rfl, rfl, rfl⟩
theorem ct_X8_byteAt {l : Launch} {S : List SHP} {h : MH} {a0 : Nat} {x1 : Int32} (hs0 : S[a0]? = some (.inl 8)) {q : Int32 × MH} (hf : f_X8_byteAt a0 x1 h = some q) : CT l mX8_byteAt 3 false 0 0 S [.ref a0, .int x1] h (QI S q) :=
  CT_ofV (by decide) rfl (Nat.le_of_ble_eq_true rfl) (fun G B hT => v_X8_byteAt hs0 hf)
/-! LabelStacks$Tape.skipBlanks()V -/
theorem dX8_skipBlanks_0 : decode cX8_skipBlanks 0 = .ok (.iconst 0, 1) := by decide +kernel
theorem dX8_skipBlanks_1 : decode cX8_skipBlanks 1 = .ok (.istore_n 1, 1) := by decide +kernel
theorem dX8_skipBlanks_2 : decode cX8_skipBlanks 2 = .ok (.iload_n 1, 1) := by decide +kernel
theorem dX8_skipBlanks_3 : decode cX8_skipBlanks 3 = .ok (.sipush 500, 3) := by decide +kernel
theorem dX8_skipBlanks_6 : decode cX8_skipBlanks 6 = .ok (.if_icmp .ge 32, 3) := by decide +kernel
theorem dX8_skipBlanks_9 : decode cX8_skipBlanks 9 = .ok (.aload_n 0, 1) := by decide +kernel
theorem dX8_skipBlanks_10 : decode cX8_skipBlanks 10 = .ok (.aload_n 0, 1) := by decide +kernel
theorem dX8_skipBlanks_11 : decode cX8_skipBlanks 11 = .ok (.getfield 29, 3) := by decide +kernel
theorem dX8_skipBlanks_14 : decode cX8_skipBlanks 14 = .ok (.invokevirtual 102, 3) := by decide +kernel
theorem dX8_skipBlanks_17 : decode cX8_skipBlanks 17 = .ok (.bipush 32, 2) := by decide +kernel
theorem dX8_skipBlanks_19 : decode cX8_skipBlanks 19 = .ok (.if_icmp .ne 19, 3) := by decide +kernel
theorem dX8_skipBlanks_22 : decode cX8_skipBlanks 22 = .ok (.aload_n 0, 1) := by decide +kernel
theorem dX8_skipBlanks_23 : decode cX8_skipBlanks 23 = .ok (.dup, 1) := by decide +kernel
theorem dX8_skipBlanks_24 : decode cX8_skipBlanks 24 = .ok (.getfield 29, 3) := by decide +kernel
theorem dX8_skipBlanks_27 : decode cX8_skipBlanks 27 = .ok (.iconst 1, 1) := by decide +kernel
theorem dX8_skipBlanks_28 : decode cX8_skipBlanks 28 = .ok (.iadd, 1) := by decide +kernel
theorem dX8_skipBlanks_29 : decode cX8_skipBlanks 29 = .ok (.putfield 29, 3) := by decide +kernel
theorem dX8_skipBlanks_32 : decode cX8_skipBlanks 32 = .ok (.iinc 1 1, 3) := by decide +kernel
theorem dX8_skipBlanks_35 : decode cX8_skipBlanks 35 = .ok (.goto (-33), 3) := by decide +kernel
theorem dX8_skipBlanks_38 : decode cX8_skipBlanks 38 = .ok (.return_, 1) := by decide +kernel
abbrev mX8_skipBlanks : MI := (RX8, yX8_skipBlanks, cX8_skipBlanks, 2, none)
theorem mok_X8_skipBlanks : MOKv mX8_skipBlanks 0 := ⟨⟨bm_1059, bm_122, ⟨by decide, by decide⟩, by decide +kernel⟩, bm_1058, bm_28⟩
def f_X8_skipBlanks_2b   (a0 : Nat) (k2 : Int32 → MH → Option (MH)) (p : Int32) (h : MH) : Option (MH) :=
  if p < 500 then
    (f_X8_byteAt a0 (gI h a0 2) h).bind fun q_1 =>
    if q_1.1 = 32 then
      lt (sI q_1.2 a0 2 ((gI q_1.2 a0 2) + 1)) fun h_2 =>
      k2 (p + 1) h_2
    else
      some q_1.2
  else
    some h
def f_X8_skipBlanks_2   (a0 : Nat) : Nat → Int32 → MH → Option (MH) := lp (f_X8_skipBlanks_2b a0)
def f_X8_skipBlanks   (a0 : Nat) (h : MH) : Option (MH) :=
  f_X8_skipBlanks_2 a0 FU 0 h
set_option maxRecDepth 100000 in
set_option maxHeartbeats 4000000 in
theorem v_X8_skipBlanks_2b {l : Launch} {G : GE} {B N : Nat} {S : List SHP} {o : MH} {a0 : Nat}    (hs0 : S[a0]? = some (.inl 8)) {k2 : Int32 → MH → Option (MH)} (hk2 : ∀ (p : Int32) (h : MH), k2 p h = some o → V l G B N mX8_skipBlanks (rmm 4 0 0) false 0 0 (QV S o) S 0 0 2 [(0, .ref a0), (1, .int p)] [] h) {p : Int32} {h : MH} (hf : f_X8_skipBlanks_2b a0 k2 p h = some o) : V l G B N mX8_skipBlanks (rmm 4 0 0) false 0 0 (QV S o) S 0 0 2 [(0, .ref a0), (1, .int p)] [] h := by
  unfold f_X8_skipBlanks_2b at hf
  refine V_iload_n (pc' := 3) dX8_skipBlanks_2 rfl 1 rfl rfl ?_
  refine V_sipush (v := 500) (pc' := 6) dX8_skipBlanks_3 rfl (by decide) ?_
  refine V_icmp_ge (tgt := 38) (pc' := 9) dX8_skipBlanks_6 (by decide) rfl hf (fun hf => ?_) (fun hf => ?_)
  ·
    refine V_aload_n (pc' := 10) dX8_skipBlanks_9 rfl 0 rfl rfl ?_
    refine V_aload_n (pc' := 11) dX8_skipBlanks_10 rfl 0 rfl rfl ?_
    refine V_getI (pc' := 14) 8 2 dX8_skipBlanks_11 rfl (by decide) (Nat.le_of_ble_eq_true rfl) bm_321 hs0 (fun _ _ _ => rfl) ?_
    refine V_cvI (pc' := 17) (As := [.int (gI h a0 2)]) (rest := []) dX8_skipBlanks_14 rfl mok_X8_byteAt bm_1060 8 (by decide) rfl hs0 rfl rfl (Nat.le_of_ble_eq_true rfl) (by decide) hf (fun q e => ct_X8_byteAt hs0 e) (fun q_1 hf => ?_)
    refine V_bipush (v := 32) (pc' := 19) dX8_skipBlanks_17 rfl (by decide) ?_
    refine V_icmp_ne (tgt := 38) (pc' := 22) dX8_skipBlanks_19 (by decide) rfl hf (fun hf => ?_) (fun hf => ?_)
    ·
      refine V_aload_n (pc' := 23) dX8_skipBlanks_22 rfl 0 rfl rfl ?_
      refine V_dup (pc' := 24) dX8_skipBlanks_23 rfl rfl ?_
      refine V_getI (pc' := 27) 8 2 dX8_skipBlanks_24 rfl (by decide) (Nat.le_of_ble_eq_true rfl) bm_321 hs0 (fun _ _ _ => rfl) ?_
      refine V_iconst (v := 1) (pc' := 28) dX8_skipBlanks_27 rfl (by decide) ?_
      refine V_iadd (pc' := 29) dX8_skipBlanks_28 rfl ?_
      refine V_putI (pc' := 32) 8 2 dX8_skipBlanks_29 rfl (by decide) (Nat.le_of_ble_eq_true rfl) bm_321 hs0 (Or.inl rfl) rfl ?_
      refine V_nmH hf (fun h_2 hf => ?_)
      refine V_iinc (v := (p + 1)) (lv' := [(1, .int (p + 1)), (0, .ref a0)]) (pc' := 35) dX8_skipBlanks_32 rfl 1 rfl rfl (Nat.le_of_ble_eq_true rfl) rfl ?_
      refine V_goto (tgt := 2) dX8_skipBlanks_35 (by decide) ?_
      exact V_sub (lv' := [(0, .ref a0), (1, .int (p + 1))]) [1, 0] rfl (hk2 (p + 1) h_2 hf)
    ·
      obtain rfl := Option.some.inj hf
      exact V_vret dX8_skipBlanks_38 rfl rfl rfl ⟨rfl, rfl, rfl⟩
  ·
    obtain rfl := Option.some.inj hf
    exact V_vret dX8_skipBlanks_38 rfl rfl rfl ⟨rfl, rfl, rfl⟩
theorem v_X8_skipBlanks_2 {l : Launch} {G : GE} {B N : Nat} {S : List SHP} {o : MH} {a0 : Nat}    (hs0 : S[a0]? = some (.inl 8)) {n : Nat} {p : Int32} {h : MH} (hf : f_X8_skipBlanks_2 a0 n p h = some o) : V l G B N mX8_skipBlanks (rmm 4 0 0) false 0 0 (QV S o) S 0 0 2 [(0, .ref a0), (1, .int p)] [] h :=
  V_lp (VV := fun p h => V l G B N mX8_skipBlanks (rmm 4 0 0) false 0 0 (QV S o) S 0 0 2 [(0, .ref a0), (1, .int p)] [] h) (fun _ hk _ _ hf => v_X8_skipBlanks_2b hs0 hk hf) n p h hf
set_option maxRecDepth 100000 in
set_option maxHeartbeats 4000000 in
theorem v_X8_skipBlanks {l : Launch} {G : GE} {B N : Nat} {S : List SHP} {o : MH} {a0 : Nat}    (hs0 : S[a0]? = some (.inl 8)) {h : MH} (hf : f_X8_skipBlanks a0 h = some o) : V l G B N mX8_skipBlanks (rmm 4 0 0) false 0 0 (QV S o) S 0 0 0 [(0, .ref a0)] [] h := by
  unfold f_X8_skipBlanks at hf
  refine V_iconst (v := 0) (pc' := 1) dX8_skipBlanks_0 rfl (by decide) ?_
  refine V_istore_n (lv' := [(1, .int 0), (0, .ref a0)]) (pc' := 2) dX8_skipBlanks_1 rfl rfl (Nat.le_of_ble_eq_true rfl) rfl ?_
  exact V_sub (lv' := [(0, .ref a0), (1, .int 0)]) [1, 0] rfl (v_X8_skipBlanks_2 hs0 hf)
theorem ct_X8_skipBlanks {l : Launch} {S : List SHP} {h : MH} {a0 : Nat} (hs0 : S[a0]? = some (.inl 8)) {q : MH} (hf : f_X8_skipBlanks a0 h = some q) : CT l mX8_skipBlanks 4 false 0 0 S [.ref a0] h (QV S q) :=
  CT_ofV (by decide) rfl (Nat.le_of_ble_eq_true rfl) (fun G B hT => v_X8_skipBlanks hs0 hf)
/-! LabelStacks$Tape.isLetterAt(I)Z -/
theorem dX8_isLetterAt_0 : decode cX8_isLetterAt 0 = .ok (.iload_n 1, 1) := by decide +kernel
theorem dX8_isLetterAt_1 : decode cX8_isLetterAt 1 = .ok (.ifCond .lt 37, 3) := by decide +kernel
theorem dX8_isLetterAt_4 : decode cX8_isLetterAt 4 = .ok (.iload_n 1, 1) := by decide +kernel
theorem dX8_isLetterAt_5 : decode cX8_isLetterAt 5 = .ok (.aload_n 0, 1) := by decide +kernel
theorem dX8_isLetterAt_6 : decode cX8_isLetterAt 6 = .ok (.getfield 26, 3) := by decide +kernel
theorem dX8_isLetterAt_9 : decode cX8_isLetterAt 9 = .ok (.if_icmp .ge 29, 3) := by decide +kernel
theorem dX8_isLetterAt_12 : decode cX8_isLetterAt 12 = .ok (.aload_n 0, 1) := by decide +kernel
theorem dX8_isLetterAt_13 : decode cX8_isLetterAt 13 = .ok (.getfield 9, 3) := by decide +kernel
theorem dX8_isLetterAt_16 : decode cX8_isLetterAt 16 = .ok (.iload_n 1, 1) := by decide +kernel
theorem dX8_isLetterAt_17 : decode cX8_isLetterAt 17 = .ok (.baload, 1) := by decide +kernel
theorem dX8_isLetterAt_18 : decode cX8_isLetterAt 18 = .ok (.bipush 97, 2) := by decide +kernel
theorem dX8_isLetterAt_20 : decode cX8_isLetterAt 20 = .ok (.if_icmp .lt 18, 3) := by decide +kernel
theorem dX8_isLetterAt_23 : decode cX8_isLetterAt 23 = .ok (.aload_n 0, 1) := by decide +kernel
theorem dX8_isLetterAt_24 : decode cX8_isLetterAt 24 = .ok (.getfield 9, 3) := by decide +kernel
theorem dX8_isLetterAt_27 : decode cX8_isLetterAt 27 = .ok (.iload_n 1, 1) := by decide +kernel
theorem dX8_isLetterAt_28 : decode cX8_isLetterAt 28 = .ok (.baload, 1) := by decide +kernel
theorem dX8_isLetterAt_29 : decode cX8_isLetterAt 29 = .ok (.bipush 122, 2) := by decide +kernel
theorem dX8_isLetterAt_31 : decode cX8_isLetterAt 31 = .ok (.if_icmp .gt 7, 3) := by decide +kernel
theorem dX8_isLetterAt_34 : decode cX8_isLetterAt 34 = .ok (.iconst 1, 1) := by decide +kernel
theorem dX8_isLetterAt_35 : decode cX8_isLetterAt 35 = .ok (.goto 4, 3) := by decide +kernel
theorem dX8_isLetterAt_38 : decode cX8_isLetterAt 38 = .ok (.iconst 0, 1) := by decide +kernel
theorem dX8_isLetterAt_39 : decode cX8_isLetterAt 39 = .ok (.ireturn, 1) := by decide +kernel
abbrev mX8_isLetterAt : MI := (RX8, yX8_isLetterAt, cX8_isLetterAt, 2, (some .boolean))
theorem mok_X8_isLetterAt : MOKv mX8_isLetterAt 1 := ⟨⟨bm_1124, bm_122, ⟨by decide, by decide⟩, by decide +kernel⟩, bm_1123, bm_32⟩
def f_X8_isLetterAt   (a0 : Nat) (x1 : Int32) (h : MH) : Option (Int32 × MH) :=
  if x1 < 0 then
    some (0, h)
  else
    if x1 < (gI h a0 1) then
      (gR h a0 0).bind fun a_1 =>
      (ldI h a_1 x1).bind fun x_2 =>
      if x_2 < 97 then
        some (0, h)
      else
        (gR h a0 0).bind fun a_3 =>
        (ldI h a_3 x1).bind fun x_4 =>
        if 122 < x_4 then
          some (0, h)
        else
          some (1, h)
    else
      some (0, h)
set_option maxRecDepth 100000 in
set_option maxHeartbeats 4000000 in
theorem v_X8_isLetterAt {l : Launch} {G : GE} {B N : Nat} {S : List SHP} {o : Int32 × MH} {a0 : Nat} {x1 : Int32}    (hs0 : S[a0]? = some (.inl 8)) {h : MH} (hf : f_X8_isLetterAt a0 x1 h = some o) : V l G B N mX8_isLetterAt (rmm 3 0 0) false 0 0 (QI S o) S 0 0 0 [(0, .ref a0), (1, .int x1)] [] h := by
  unfold f_X8_isLetterAt at hf
  refine V_iload_n (pc' := 1) dX8_isLetterAt_0 rfl 1 rfl rfl ?_
  refine V_if_lt (tgt := 38) (pc' := 4) dX8_isLetterAt_1 (by decide) rfl hf (fun hf => ?_) (fun hf => ?_)
  ·
    refine V_iconst (v := 0) (pc' := 39) dX8_isLetterAt_38 rfl (by decide) ?_
    obtain rfl := Option.some.inj hf
    exact V_zretL dX8_isLetterAt_39 rfl rfl rfl (by decide) ⟨rfl, rfl, rfl⟩
  ·
    refine V_iload_n (pc' := 5) dX8_isLetterAt_4 rfl 1 rfl rfl ?_
    refine V_aload_n (pc' := 6) dX8_isLetterAt_5 rfl 0 rfl rfl ?_
    refine V_getI (pc' := 9) 8 1 dX8_isLetterAt_6 rfl (by decide) (Nat.le_of_ble_eq_true rfl) bm_319 hs0 (fun _ _ _ => rfl) ?_
    refine V_icmp_ge (tgt := 38) (pc' := 12) dX8_isLetterAt_9 (by decide) rfl hf (fun hf => ?_) (fun hf => ?_)
    ·
      refine V_aload_n (pc' := 13) dX8_isLetterAt_12 rfl 0 rfl rfl ?_
      refine V_getR (pc' := 16) 8 0 dX8_isLetterAt_13 rfl (by decide) (Nat.le_of_ble_eq_true rfl) bm_318 hs0 (fun _ _ _ => rfl) rfl hf (fun a_1 ha_1 hf => ?_)
      refine V_iload_n (pc' := 17) dX8_isLetterAt_16 rfl 1 rfl rfl ?_
      refine V_bald (pc' := 18) dX8_isLetterAt_17 rfl ha_1 hf (fun x_2 hf => ?_)
      refine V_bipush (v := 97) (pc' := 20) dX8_isLetterAt_18 rfl (by decide) ?_
      refine V_icmp_lt (tgt := 38) (pc' := 23) dX8_isLetterAt_20 (by decide) rfl hf (fun hf => ?_) (fun hf => ?_)
      ·
        refine V_iconst (v := 0) (pc' := 39) dX8_isLetterAt_38 rfl (by decide) ?_
        obtain rfl := Option.some.inj hf
        exact V_zretL dX8_isLetterAt_39 rfl rfl rfl (by decide) ⟨rfl, rfl, rfl⟩
      ·
        refine V_aload_n (pc' := 24) dX8_isLetterAt_23 rfl 0 rfl rfl ?_
        refine V_getR (pc' := 27) 8 0 dX8_isLetterAt_24 rfl (by decide) (Nat.le_of_ble_eq_true rfl) bm_318 hs0 (fun _ _ _ => rfl) rfl hf (fun a_3 ha_3 hf => ?_)
        refine V_iload_n (pc' := 28) dX8_isLetterAt_27 rfl 1 rfl rfl ?_
        refine V_bald (pc' := 29) dX8_isLetterAt_28 rfl ha_3 hf (fun x_4 hf => ?_)
        refine V_bipush (v := 122) (pc' := 31) dX8_isLetterAt_29 rfl (by decide) ?_
        refine V_icmp_gt (tgt := 38) (pc' := 34) dX8_isLetterAt_31 (by decide) rfl hf (fun hf => ?_) (fun hf => ?_)
        ·
          refine V_iconst (v := 0) (pc' := 39) dX8_isLetterAt_38 rfl (by decide) ?_
          obtain rfl := Option.some.inj hf
          exact V_zretL dX8_isLetterAt_39 rfl rfl rfl (by decide) ⟨rfl, rfl, rfl⟩
        ·
          refine V_iconst (v := 1) (pc' := 35) dX8_isLetterAt_34 rfl (by decide) ?_
          refine V_goto (tgt := 39) dX8_isLetterAt_35 (by decide) ?_
          obtain rfl := Option.some.inj hf
          exact V_zretL dX8_isLetterAt_39 rfl rfl rfl (by decide) ⟨rfl, rfl, rfl⟩
    ·
      refine V_iconst (v := 0) (pc' := 39) dX8_isLetterAt_38 rfl (by decide) ?_
      obtain rfl := Option.some.inj hf
      exact V_zretL dX8_isLetterAt_39 rfl rfl rfl (by decide) ⟨rfl, rfl, rfl⟩
theorem ct_X8_isLetterAt {l : Launch} {S : List SHP} {h : MH} {a0 : Nat} {x1 : Int32} (hs0 : S[a0]? = some (.inl 8)) {q : Int32 × MH} (hf : f_X8_isLetterAt a0 x1 h = some q) : CT l mX8_isLetterAt 3 false 0 0 S [.ref a0, .int x1] h (QI S q) :=
  CT_ofV (by decide) rfl (Nat.le_of_ble_eq_true rfl) (fun G B hT => v_X8_isLetterAt hs0 hf)
/-! LabelStacks$Tape.isWord(Ljava/lang/String;)Z -/
theorem dX8_isWord_0 : decode cX8_isWord 0 = .ok (.iconst 0, 1) := by decide +kernel
theorem dX8_isWord_1 : decode cX8_isWord 1 = .ok (.istore_n 2, 1) := by decide +kernel
theorem dX8_isWord_2 : decode cX8_isWord 2 = .ok (.iload_n 2, 1) := by decide +kernel
theorem dX8_isWord_3 : decode cX8_isWord 3 = .ok (.aload_n 1, 1) := by decide +kernel
theorem dX8_isWord_4 : decode cX8_isWord 4 = .ok (.invokevirtual 123, 3) := by decide +kernel
theorem dX8_isWord_7 : decode cX8_isWord 7 = .ok (.if_icmp .ge 29, 3) := by decide +kernel
theorem dX8_isWord_10 : decode cX8_isWord 10 = .ok (.aload_n 0, 1) := by decide +kernel
theorem dX8_isWord_11 : decode cX8_isWord 11 = .ok (.aload_n 0, 1) := by decide +kernel
theorem dX8_isWord_12 : decode cX8_isWord 12 = .ok (.getfield 29, 3) := by decide +kernel
theorem dX8_isWord_15 : decode cX8_isWord 15 = .ok (.iload_n 2, 1) := by decide +kernel
theorem dX8_isWord_16 : decode cX8_isWord 16 = .ok (.iadd, 1) := by decide +kernel
theorem dX8_isWord_17 : decode cX8_isWord 17 = .ok (.invokevirtual 102, 3) := by decide +kernel
theorem dX8_isWord_20 : decode cX8_isWord 20 = .ok (.aload_n 1, 1) := by decide +kernel
theorem dX8_isWord_21 : decode cX8_isWord 21 = .ok (.iload_n 2, 1) := by decide +kernel
theorem dX8_isWord_22 : decode cX8_isWord 22 = .ok (.invokevirtual 129, 3) := by decide +kernel
theorem dX8_isWord_25 : decode cX8_isWord 25 = .ok (.if_icmp .eq 5, 3) := by decide +kernel
theorem dX8_isWord_28 : decode cX8_isWord 28 = .ok (.iconst 0, 1) := by decide +kernel
theorem dX8_isWord_29 : decode cX8_isWord 29 = .ok (.ireturn, 1) := by decide +kernel
theorem dX8_isWord_30 : decode cX8_isWord 30 = .ok (.iinc 2 1, 3) := by decide +kernel
theorem dX8_isWord_33 : decode cX8_isWord 33 = .ok (.goto (-31), 3) := by decide +kernel
theorem dX8_isWord_36 : decode cX8_isWord 36 = .ok (.aload_n 0, 1) := by decide +kernel
theorem dX8_isWord_37 : decode cX8_isWord 37 = .ok (.aload_n 0, 1) := by decide +kernel
theorem dX8_isWord_38 : decode cX8_isWord 38 = .ok (.getfield 29, 3) := by decide +kernel
theorem dX8_isWord_41 : decode cX8_isWord 41 = .ok (.aload_n 1, 1) := by decide +kernel
theorem dX8_isWord_42 : decode cX8_isWord 42 = .ok (.invokevirtual 123, 3) := by decide +kernel
theorem dX8_isWord_45 : decode cX8_isWord 45 = .ok (.iadd, 1) := by decide +kernel
theorem dX8_isWord_46 : decode cX8_isWord 46 = .ok (.invokevirtual 133, 3) := by decide +kernel
theorem dX8_isWord_49 : decode cX8_isWord 49 = .ok (.ifCond .ne 7, 3) := by decide +kernel
theorem dX8_isWord_52 : decode cX8_isWord 52 = .ok (.iconst 1, 1) := by decide +kernel
theorem dX8_isWord_53 : decode cX8_isWord 53 = .ok (.goto 4, 3) := by decide +kernel
theorem dX8_isWord_56 : decode cX8_isWord 56 = .ok (.iconst 0, 1) := by decide +kernel
theorem dX8_isWord_57 : decode cX8_isWord 57 = .ok (.ireturn, 1) := by decide +kernel
abbrev mX8_isWord : MI := (RX8, yX8_isWord, cX8_isWord, 3, (some .boolean))
theorem mok_X8_isWord : MOKv mX8_isWord 1 := ⟨⟨bm_1072, bm_122, ⟨by decide, by decide⟩, by decide +kernel⟩, bm_1071, bm_31⟩
def f_X8_isWord_2b   (a0 : Nat) (s1 : Nat) (k2 : Int32 → MH → Option (Int32 × MH)) (p : Int32) (h : MH) : Option (Int32 × MH) :=
  (strL s1).bind fun x_1 =>
  if p < x_1 then
    (f_X8_byteAt a0 ((gI h a0 2) + p) h).bind fun q_2 =>
    (strC s1 p).bind fun x_3 =>
    if q_2.1 = x_3 then
      k2 (p + 1) q_2.2
    else
      some (0, q_2.2)
  else
    (strL s1).bind fun x_4 =>
    (f_X8_isLetterAt a0 ((gI h a0 2) + x_4) h).bind fun q_5 =>
    if q_5.1 = 0 then
      some (1, q_5.2)
    else
      some (0, q_5.2)
def f_X8_isWord_2   (a0 : Nat) (s1 : Nat) : Nat → Int32 → MH → Option (Int32 × MH) := lp (f_X8_isWord_2b a0 s1)
def f_X8_isWord   (a0 : Nat) (s1 : Nat) (h : MH) : Option (Int32 × MH) :=
  f_X8_isWord_2 a0 s1 FU 0 h
set_option maxRecDepth 100000 in
set_option maxHeartbeats 4000000 in
theorem v_X8_isWord_2b {l : Launch} {G : GE} {B N : Nat} {S : List SHP} {o : Int32 × MH} {a0 : Nat} {s1 : Nat}    (hs0 : S[a0]? = some (.inl 8)) {k2 : Int32 → MH → Option (Int32 × MH)} (hk2 : ∀ (p : Int32) (h : MH), k2 p h = some o → V l G B N mX8_isWord (rmm 9 0 0) false 0 0 (QI S o) S 0 0 2 [(0, .ref a0), (1, .retAddr s1), (2, .int p)] [] h) {p : Int32} {h : MH} (hf : f_X8_isWord_2b a0 s1 k2 p h = some o) : V l G B N mX8_isWord (rmm 9 0 0) false 0 0 (QI S o) S 0 0 2 [(0, .ref a0), (1, .retAddr s1), (2, .int p)] [] h := by
  unfold f_X8_isWord_2b at hf
  refine V_iload_n (pc' := 3) dX8_isWord_2 rfl 2 rfl rfl ?_
  refine V_sload_n (pc' := 4) dX8_isWord_3 rfl 1 rfl rfl ?_
  refine V_strL (pc' := 7) dX8_isWord_4 rfl bm_1073 (Nat.le_of_ble_eq_true rfl) (by decide) hf (fun x_1 hf => ?_)
  refine V_icmp_ge (tgt := 36) (pc' := 10) dX8_isWord_7 (by decide) rfl hf (fun hf => ?_) (fun hf => ?_)
  ·
    refine V_aload_n (pc' := 11) dX8_isWord_10 rfl 0 rfl rfl ?_
    refine V_aload_n (pc' := 12) dX8_isWord_11 rfl 0 rfl rfl ?_
    refine V_getI (pc' := 15) 8 2 dX8_isWord_12 rfl (by decide) (Nat.le_of_ble_eq_true rfl) bm_321 hs0 (fun _ _ _ => rfl) ?_
    refine V_iload_n (pc' := 16) dX8_isWord_15 rfl 2 rfl rfl ?_
    refine V_iadd (pc' := 17) dX8_isWord_16 rfl ?_
    refine V_cvI (pc' := 20) (As := [.int ((gI h a0 2) + p)]) (rest := []) dX8_isWord_17 rfl mok_X8_byteAt bm_1060 8 (by decide) rfl hs0 rfl rfl (Nat.le_of_ble_eq_true rfl) (by decide) hf (fun q e => ct_X8_byteAt hs0 e) (fun q_2 hf => ?_)
    refine V_sload_n (pc' := 21) dX8_isWord_20 rfl 1 rfl rfl ?_
    refine V_iload_n (pc' := 22) dX8_isWord_21 rfl 2 rfl rfl ?_
    refine V_strC (pc' := 25) dX8_isWord_22 rfl bm_1083 (Nat.le_of_ble_eq_true rfl) (by decide) hf (fun x_3 hf => ?_)
    refine V_icmp_eq (tgt := 30) (pc' := 28) dX8_isWord_25 (by decide) rfl hf (fun hf => ?_) (fun hf => ?_)
    ·
      refine V_iinc (v := (p + 1)) (lv' := [(2, .int (p + 1)), (0, .ref a0), (1, .retAddr s1)]) (pc' := 33) dX8_isWord_30 rfl 2 rfl rfl (Nat.le_of_ble_eq_true rfl) rfl ?_
      refine V_goto (tgt := 2) dX8_isWord_33 (by decide) ?_
      exact V_sub (lv' := [(0, .ref a0), (1, .retAddr s1), (2, .int (p + 1))]) [1, 2, 0] rfl (hk2 (p + 1) q_2.2 hf)
    ·
      refine V_iconst (v := 0) (pc' := 29) dX8_isWord_28 rfl (by decide) ?_
      obtain rfl := Option.some.inj hf
      exact V_zretL dX8_isWord_29 rfl rfl rfl (by decide) ⟨rfl, rfl, rfl⟩
  ·
    refine V_aload_n (pc' := 37) dX8_isWord_36 rfl 0 rfl rfl ?_
    refine V_aload_n (pc' := 38) dX8_isWord_37 rfl 0 rfl rfl ?_
    refine V_getI (pc' := 41) 8 2 dX8_isWord_38 rfl (by decide) (Nat.le_of_ble_eq_true rfl) bm_321 hs0 (fun _ _ _ => rfl) ?_
    refine V_sload_n (pc' := 42) dX8_isWord_41 rfl 1 rfl rfl ?_
    refine V_strL (pc' := 45) dX8_isWord_42 rfl bm_1073 (Nat.le_of_ble_eq_true rfl) (by decide) hf (fun x_4 hf => ?_)
    refine V_iadd (pc' := 46) dX8_isWord_45 rfl ?_
    refine V_cvI (pc' := 49) (As := [.int ((gI h a0 2) + x_4)]) (rest := []) dX8_isWord_46 rfl mok_X8_isLetterAt bm_1121 8 (by decide) rfl hs0 rfl rfl (Nat.le_of_ble_eq_true rfl) (by decide) hf (fun q e => ct_X8_isLetterAt hs0 e) (fun q_5 hf => ?_)
    refine V_if_ne (tgt := 56) (pc' := 52) dX8_isWord_49 (by decide) rfl hf (fun hf => ?_) (fun hf => ?_)
    ·
      refine V_iconst (v := 1) (pc' := 53) dX8_isWord_52 rfl (by decide) ?_
      refine V_goto (tgt := 57) dX8_isWord_53 (by decide) ?_
      obtain rfl := Option.some.inj hf
      exact V_zretL dX8_isWord_57 rfl rfl rfl (by decide) ⟨rfl, rfl, rfl⟩
    ·
      refine V_iconst (v := 0) (pc' := 57) dX8_isWord_56 rfl (by decide) ?_
      obtain rfl := Option.some.inj hf
      exact V_zretL dX8_isWord_57 rfl rfl rfl (by decide) ⟨rfl, rfl, rfl⟩
theorem v_X8_isWord_2 {l : Launch} {G : GE} {B N : Nat} {S : List SHP} {o : Int32 × MH} {a0 : Nat} {s1 : Nat}    (hs0 : S[a0]? = some (.inl 8)) {n : Nat} {p : Int32} {h : MH} (hf : f_X8_isWord_2 a0 s1 n p h = some o) : V l G B N mX8_isWord (rmm 9 0 0) false 0 0 (QI S o) S 0 0 2 [(0, .ref a0), (1, .retAddr s1), (2, .int p)] [] h :=
  V_lp (VV := fun p h => V l G B N mX8_isWord (rmm 9 0 0) false 0 0 (QI S o) S 0 0 2 [(0, .ref a0), (1, .retAddr s1), (2, .int p)] [] h) (fun _ hk _ _ hf => v_X8_isWord_2b hs0 hk hf) n p h hf
set_option maxRecDepth 100000 in
set_option maxHeartbeats 4000000 in
theorem v_X8_isWord {l : Launch} {G : GE} {B N : Nat} {S : List SHP} {o : Int32 × MH} {a0 : Nat} {s1 : Nat}    (hs0 : S[a0]? = some (.inl 8)) {h : MH} (hf : f_X8_isWord a0 s1 h = some o) : V l G B N mX8_isWord (rmm 9 0 0) false 0 0 (QI S o) S 0 0 0 [(0, .ref a0), (1, .retAddr s1)] [] h := by
  unfold f_X8_isWord at hf
  refine V_iconst (v := 0) (pc' := 1) dX8_isWord_0 rfl (by decide) ?_
  refine V_istore_n (lv' := [(2, .int 0), (0, .ref a0), (1, .retAddr s1)]) (pc' := 2) dX8_isWord_1 rfl rfl (Nat.le_of_ble_eq_true rfl) rfl ?_
  exact V_sub (lv' := [(0, .ref a0), (1, .retAddr s1), (2, .int 0)]) [1, 2, 0] rfl (v_X8_isWord_2 hs0 hf)
theorem ct_X8_isWord {l : Launch} {S : List SHP} {h : MH} {a0 : Nat} {s1 : Nat} (hs0 : S[a0]? = some (.inl 8)) {q : Int32 × MH} (hf : f_X8_isWord a0 s1 h = some q) : CT l mX8_isWord 9 false 0 0 S [.ref a0, .retAddr s1] h (QI S q) :=
  CT_ofV (by decide) rfl (Nat.le_of_ble_eq_true rfl) (fun G B hT => v_X8_isWord hs0 hf)
/-! LabelStacks$Tape.foundFault(II)Z -/
theorem dX8_foundFault_0 : decode cX8_foundFault 0 = .ok (.aload_n 0, 1) := by decide +kernel
theorem dX8_foundFault_1 : decode cX8_foundFault 1 = .ok (.iload_n 1, 1) := by decide +kernel
theorem dX8_foundFault_2 : decode cX8_foundFault 2 = .ok (.putfield 32, 3) := by decide +kernel
theorem dX8_foundFault_5 : decode cX8_foundFault 5 = .ok (.aload_n 0, 1) := by decide +kernel
theorem dX8_foundFault_6 : decode cX8_foundFault 6 = .ok (.iload_n 2, 1) := by decide +kernel
theorem dX8_foundFault_7 : decode cX8_foundFault 7 = .ok (.putfield 15, 3) := by decide +kernel
theorem dX8_foundFault_10 : decode cX8_foundFault 10 = .ok (.iconst 0, 1) := by decide +kernel
theorem dX8_foundFault_11 : decode cX8_foundFault 11 = .ok (.ireturn, 1) := by decide +kernel
abbrev mX8_foundFault : MI := (RX8, yX8_foundFault, cX8_foundFault, 3, (some .boolean))
theorem mok_X8_foundFault : MOKv mX8_foundFault 2 := ⟨⟨bm_1128, bm_122, ⟨by decide, by decide⟩, by decide +kernel⟩, bm_1127, bm_33⟩
def f_X8_foundFault   (a0 : Nat) (x1 : Int32) (x2 : Int32) (h : MH) : Option (Int32 × MH) :=
  lt (sI h a0 3 x1) fun h_1 =>
  lt (sI h_1 a0 4 x2) fun h_2 =>
  some (0, h_2)
set_option maxRecDepth 100000 in
set_option maxHeartbeats 4000000 in
theorem v_X8_foundFault {l : Launch} {G : GE} {B N : Nat} {S : List SHP} {o : Int32 × MH} {a0 : Nat} {x1 : Int32} {x2 : Int32}    (hs0 : S[a0]? = some (.inl 8)) {h : MH} (hf : f_X8_foundFault a0 x1 x2 h = some o) : V l G B N mX8_foundFault (rmm 3 0 0) false 0 0 (QI S o) S 0 0 0 [(0, .ref a0), (1, .int x1), (2, .int x2)] [] h := by
  unfold f_X8_foundFault at hf
  refine V_aload_n (pc' := 1) dX8_foundFault_0 rfl 0 rfl rfl ?_
  refine V_iload_n (pc' := 2) dX8_foundFault_1 rfl 1 rfl rfl ?_
  refine V_putI (pc' := 5) 8 3 dX8_foundFault_2 rfl (by decide) (Nat.le_of_ble_eq_true rfl) bm_322 hs0 (Or.inl rfl) rfl ?_
  refine V_nmH hf (fun h_1 hf => ?_)
  refine V_aload_n (pc' := 6) dX8_foundFault_5 rfl 0 rfl rfl ?_
  refine V_iload_n (pc' := 7) dX8_foundFault_6 rfl 2 rfl rfl ?_
  refine V_putI (pc' := 10) 8 4 dX8_foundFault_7 rfl (by decide) (Nat.le_of_ble_eq_true rfl) bm_324 hs0 (Or.inl rfl) rfl ?_
  refine V_nmH hf (fun h_2 hf => ?_)
  refine V_iconst (v := 0) (pc' := 11) dX8_foundFault_10 rfl (by decide) ?_
  obtain rfl := Option.some.inj hf
  exact V_zretL dX8_foundFault_11 rfl rfl rfl (by decide) ⟨rfl, rfl, rfl⟩
theorem ct_X8_foundFault {l : Launch} {S : List SHP} {h : MH} {a0 : Nat} {x1 : Int32} {x2 : Int32} (hs0 : S[a0]? = some (.inl 8)) {q : Int32 × MH} (hf : f_X8_foundFault a0 x1 x2 h = some q) : CT l mX8_foundFault 3 false 0 0 S [.ref a0, .int x1, .int x2] h (QI S q) :=
  CT_ofV (by decide) rfl (Nat.le_of_ble_eq_true rfl) (fun G B hT => v_X8_foundFault hs0 hf)
/-! LabelStacks$Tape.takeWord(Ljava/lang/String;)Z -/
theorem dX8_takeWord_0 : decode cX8_takeWord 0 = .ok (.aload_n 0, 1) := by decide +kernel
theorem dX8_takeWord_1 : decode cX8_takeWord 1 = .ok (.aload_n 1, 1) := by decide +kernel
theorem dX8_takeWord_2 : decode cX8_takeWord 2 = .ok (.invokevirtual 65, 3) := by decide +kernel
theorem dX8_takeWord_5 : decode cX8_takeWord 5 = .ok (.ifCond .ne 13, 3) := by decide +kernel
theorem dX8_takeWord_8 : decode cX8_takeWord 8 = .ok (.aload_n 0, 1) := by decide +kernel
theorem dX8_takeWord_9 : decode cX8_takeWord 9 = .ok (.iconst 1, 1) := by decide +kernel
theorem dX8_takeWord_10 : decode cX8_takeWord 10 = .ok (.aload_n 0, 1) := by decide +kernel
theorem dX8_takeWord_11 : decode cX8_takeWord 11 = .ok (.getfield 29, 3) := by decide +kernel
theorem dX8_takeWord_14 : decode cX8_takeWord 14 = .ok (.invokevirtual 76, 3) := by decide +kernel
theorem dX8_takeWord_17 : decode cX8_takeWord 17 = .ok (.ireturn, 1) := by decide +kernel
theorem dX8_takeWord_18 : decode cX8_takeWord 18 = .ok (.aload_n 0, 1) := by decide +kernel
theorem dX8_takeWord_19 : decode cX8_takeWord 19 = .ok (.dup, 1) := by decide +kernel
theorem dX8_takeWord_20 : decode cX8_takeWord 20 = .ok (.getfield 29, 3) := by decide +kernel
theorem dX8_takeWord_23 : decode cX8_takeWord 23 = .ok (.aload_n 1, 1) := by decide +kernel
theorem dX8_takeWord_24 : decode cX8_takeWord 24 = .ok (.invokevirtual 123, 3) := by decide +kernel
theorem dX8_takeWord_27 : decode cX8_takeWord 27 = .ok (.iadd, 1) := by decide +kernel
theorem dX8_takeWord_28 : decode cX8_takeWord 28 = .ok (.putfield 29, 3) := by decide +kernel
theorem dX8_takeWord_31 : decode cX8_takeWord 31 = .ok (.iconst 1, 1) := by decide +kernel
theorem dX8_takeWord_32 : decode cX8_takeWord 32 = .ok (.ireturn, 1) := by decide +kernel
abbrev mX8_takeWord : MI := (RX8, yX8_takeWord, cX8_takeWord, 2, (some .boolean))
theorem mok_X8_takeWord : MOKv mX8_takeWord 1 := ⟨⟨bm_1068, bm_122, ⟨by decide, by decide⟩, by decide +kernel⟩, bm_1067, bm_30⟩
def f_X8_takeWord   (a0 : Nat) (s1 : Nat) (h : MH) : Option (Int32 × MH) :=
  (f_X8_isWord a0 s1 h).bind fun q_1 =>
  if q_1.1 = 0 then
    (f_X8_foundFault a0 1 (gI q_1.2 a0 2) q_1.2).bind fun q_2 =>
    if q_2.1 = 0 ∨ q_2.1 = 1 then some (q_2.1, q_2.2) else none
  else
    (strL s1).bind fun x_3 =>
    lt (sI q_1.2 a0 2 ((gI q_1.2 a0 2) + x_3)) fun h_4 =>
    some (1, h_4)
set_option maxRecDepth 100000 in
set_option maxHeartbeats 4000000 in
theorem v_X8_takeWord {l : Launch} {G : GE} {B N : Nat} {S : List SHP} {o : Int32 × MH} {a0 : Nat} {s1 : Nat}    (hs0 : S[a0]? = some (.inl 8)) {h : MH} (hf : f_X8_takeWord a0 s1 h = some o) : V l G B N mX8_takeWord (rmm 10 0 0) false 0 0 (QI S o) S 0 0 0 [(0, .ref a0), (1, .retAddr s1)] [] h := by
  unfold f_X8_takeWord at hf
  refine V_aload_n (pc' := 1) dX8_takeWord_0 rfl 0 rfl rfl ?_
  refine V_sload_n (pc' := 2) dX8_takeWord_1 rfl 1 rfl rfl ?_
  refine V_cvI (pc' := 5) (As := [.retAddr s1]) (rest := []) dX8_takeWord_2 rfl mok_X8_isWord bm_1069 8 (by decide) rfl hs0 rfl rfl (Nat.le_of_ble_eq_true rfl) (by decide) hf (fun q e => ct_X8_isWord hs0 e) (fun q_1 hf => ?_)
  refine V_if_ne (tgt := 18) (pc' := 8) dX8_takeWord_5 (by decide) rfl hf (fun hf => ?_) (fun hf => ?_)
  ·
    refine V_aload_n (pc' := 9) dX8_takeWord_8 rfl 0 rfl rfl ?_
    refine V_iconst (v := 1) (pc' := 10) dX8_takeWord_9 rfl (by decide) ?_
    refine V_aload_n (pc' := 11) dX8_takeWord_10 rfl 0 rfl rfl ?_
    refine V_getI (pc' := 14) 8 2 dX8_takeWord_11 rfl (by decide) (Nat.le_of_ble_eq_true rfl) bm_321 hs0 (fun _ _ _ => rfl) ?_
    refine V_cvI (pc' := 17) (As := [.int 1, .int (gI q_1.2 a0 2)]) (rest := []) dX8_takeWord_14 rfl mok_X8_foundFault bm_1125 8 (by decide) rfl hs0 rfl rfl (Nat.le_of_ble_eq_true rfl) (by decide) hf (fun q e => ct_X8_foundFault hs0 e) (fun q_2 hf => ?_)
    refine V_zret dX8_takeWord_17 rfl rfl rfl hf (fun hf => ?_)
    obtain rfl := Option.some.inj hf
    exact ⟨rfl, rfl, rfl⟩
  ·
    refine V_aload_n (pc' := 19) dX8_takeWord_18 rfl 0 rfl rfl ?_
    refine V_dup (pc' := 20) dX8_takeWord_19 rfl rfl ?_
    refine V_getI (pc' := 23) 8 2 dX8_takeWord_20 rfl (by decide) (Nat.le_of_ble_eq_true rfl) bm_321 hs0 (fun _ _ _ => rfl) ?_
    refine V_sload_n (pc' := 24) dX8_takeWord_23 rfl 1 rfl rfl ?_
    refine V_strL (pc' := 27) dX8_takeWord_24 rfl bm_1073 (Nat.le_of_ble_eq_true rfl) (by decide) hf (fun x_3 hf => ?_)
    refine V_iadd (pc' := 28) dX8_takeWord_27 rfl ?_
    refine V_putI (pc' := 31) 8 2 dX8_takeWord_28 rfl (by decide) (Nat.le_of_ble_eq_true rfl) bm_321 hs0 (Or.inl rfl) rfl ?_
    refine V_nmH hf (fun h_4 hf => ?_)
    refine V_iconst (v := 1) (pc' := 32) dX8_takeWord_31 rfl (by decide) ?_
    obtain rfl := Option.some.inj hf
    exact V_zretL dX8_takeWord_32 rfl rfl rfl (by decide) ⟨rfl, rfl, rfl⟩
theorem ct_X8_takeWord {l : Launch} {S : List SHP} {h : MH} {a0 : Nat} {s1 : Nat} (hs0 : S[a0]? = some (.inl 8)) {q : Int32 × MH} (hf : f_X8_takeWord a0 s1 h = some q) : CT l mX8_takeWord 10 false 0 0 S [.ref a0, .retAddr s1] h (QI S q) :=
  CT_ofV (by decide) rfl (Nat.le_of_ble_eq_true rfl) (fun G B hT => v_X8_takeWord hs0 hf)
/-! LabelStacks$Tape.isDigitAt(I)Z -/
theorem dX8_isDigitAt_0 : decode cX8_isDigitAt 0 = .ok (.iload_n 1, 1) := by decide +kernel
theorem dX8_isDigitAt_1 : decode cX8_isDigitAt 1 = .ok (.ifCond .lt 37, 3) := by decide +kernel
theorem dX8_isDigitAt_4 : decode cX8_isDigitAt 4 = .ok (.iload_n 1, 1) := by decide +kernel
theorem dX8_isDigitAt_5 : decode cX8_isDigitAt 5 = .ok (.aload_n 0, 1) := by decide +kernel
theorem dX8_isDigitAt_6 : decode cX8_isDigitAt 6 = .ok (.getfield 26, 3) := by decide +kernel
theorem dX8_isDigitAt_9 : decode cX8_isDigitAt 9 = .ok (.if_icmp .ge 29, 3) := by decide +kernel
theorem dX8_isDigitAt_12 : decode cX8_isDigitAt 12 = .ok (.aload_n 0, 1) := by decide +kernel
theorem dX8_isDigitAt_13 : decode cX8_isDigitAt 13 = .ok (.getfield 9, 3) := by decide +kernel
theorem dX8_isDigitAt_16 : decode cX8_isDigitAt 16 = .ok (.iload_n 1, 1) := by decide +kernel
theorem dX8_isDigitAt_17 : decode cX8_isDigitAt 17 = .ok (.baload, 1) := by decide +kernel
theorem dX8_isDigitAt_18 : decode cX8_isDigitAt 18 = .ok (.bipush 48, 2) := by decide +kernel
theorem dX8_isDigitAt_20 : decode cX8_isDigitAt 20 = .ok (.if_icmp .lt 18, 3) := by decide +kernel
theorem dX8_isDigitAt_23 : decode cX8_isDigitAt 23 = .ok (.aload_n 0, 1) := by decide +kernel
theorem dX8_isDigitAt_24 : decode cX8_isDigitAt 24 = .ok (.getfield 9, 3) := by decide +kernel
theorem dX8_isDigitAt_27 : decode cX8_isDigitAt 27 = .ok (.iload_n 1, 1) := by decide +kernel
theorem dX8_isDigitAt_28 : decode cX8_isDigitAt 28 = .ok (.baload, 1) := by decide +kernel
theorem dX8_isDigitAt_29 : decode cX8_isDigitAt 29 = .ok (.bipush 57, 2) := by decide +kernel
theorem dX8_isDigitAt_31 : decode cX8_isDigitAt 31 = .ok (.if_icmp .gt 7, 3) := by decide +kernel
theorem dX8_isDigitAt_34 : decode cX8_isDigitAt 34 = .ok (.iconst 1, 1) := by decide +kernel
theorem dX8_isDigitAt_35 : decode cX8_isDigitAt 35 = .ok (.goto 4, 3) := by decide +kernel
theorem dX8_isDigitAt_38 : decode cX8_isDigitAt 38 = .ok (.iconst 0, 1) := by decide +kernel
theorem dX8_isDigitAt_39 : decode cX8_isDigitAt 39 = .ok (.ireturn, 1) := by decide +kernel
abbrev mX8_isDigitAt : MI := (RX8, yX8_isDigitAt, cX8_isDigitAt, 2, (some .boolean))
theorem mok_X8_isDigitAt : MOKv mX8_isDigitAt 1 := ⟨⟨bm_1136, bm_122, ⟨by decide, by decide⟩, by decide +kernel⟩, bm_1135, bm_35⟩
def f_X8_isDigitAt   (a0 : Nat) (x1 : Int32) (h : MH) : Option (Int32 × MH) :=
  if x1 < 0 then
    some (0, h)
  else
    if x1 < (gI h a0 1) then
      (gR h a0 0).bind fun a_1 =>
      (ldI h a_1 x1).bind fun x_2 =>
      if x_2 < 48 then
        some (0, h)
      else
        (gR h a0 0).bind fun a_3 =>
        (ldI h a_3 x1).bind fun x_4 =>
        if 57 < x_4 then
          some (0, h)
        else
          some (1, h)
    else
      some (0, h)
set_option maxRecDepth 100000 in
set_option maxHeartbeats 4000000 in
theorem v_X8_isDigitAt {l : Launch} {G : GE} {B N : Nat} {S : List SHP} {o : Int32 × MH} {a0 : Nat} {x1 : Int32}    (hs0 : S[a0]? = some (.inl 8)) {h : MH} (hf : f_X8_isDigitAt a0 x1 h = some o) : V l G B N mX8_isDigitAt (rmm 3 0 0) false 0 0 (QI S o) S 0 0 0 [(0, .ref a0), (1, .int x1)] [] h := by
  unfold f_X8_isDigitAt at hf
  refine V_iload_n (pc' := 1) dX8_isDigitAt_0 rfl 1 rfl rfl ?_
  refine V_if_lt (tgt := 38) (pc' := 4) dX8_isDigitAt_1 (by decide) rfl hf (fun hf => ?_) (fun hf => ?_)
  ·
    refine V_iconst (v := 0) (pc' := 39) dX8_isDigitAt_38 rfl (by decide) ?_
    obtain rfl := Option.some.inj hf
    exact V_zretL dX8_isDigitAt_39 rfl rfl rfl (by decide) ⟨rfl, rfl, rfl⟩
  ·
    refine V_iload_n (pc' := 5) dX8_isDigitAt_4 rfl 1 rfl rfl ?_
    refine V_aload_n (pc' := 6) dX8_isDigitAt_5 rfl 0 rfl rfl ?_
    refine V_getI (pc' := 9) 8 1 dX8_isDigitAt_6 rfl (by decide) (Nat.le_of_ble_eq_true rfl) bm_319 hs0 (fun _ _ _ => rfl) ?_
    refine V_icmp_ge (tgt := 38) (pc' := 12) dX8_isDigitAt_9 (by decide) rfl hf (fun hf => ?_) (fun hf => ?_)
    ·
      refine V_aload_n (pc' := 13) dX8_isDigitAt_12 rfl 0 rfl rfl ?_
      refine V_getR (pc' := 16) 8 0 dX8_isDigitAt_13 rfl (by decide) (Nat.le_of_ble_eq_true rfl) bm_318 hs0 (fun _ _ _ => rfl) rfl hf (fun a_1 ha_1 hf => ?_)
      refine V_iload_n (pc' := 17) dX8_isDigitAt_16 rfl 1 rfl rfl ?_
      refine V_bald (pc' := 18) dX8_isDigitAt_17 rfl ha_1 hf (fun x_2 hf => ?_)
      refine V_bipush (v := 48) (pc' := 20) dX8_isDigitAt_18 rfl (by decide) ?_
      refine V_icmp_lt (tgt := 38) (pc' := 23) dX8_isDigitAt_20 (by decide) rfl hf (fun hf => ?_) (fun hf => ?_)
      ·
        refine V_iconst (v := 0) (pc' := 39) dX8_isDigitAt_38 rfl (by decide) ?_
        obtain rfl := Option.some.inj hf
        exact V_zretL dX8_isDigitAt_39 rfl rfl rfl (by decide) ⟨rfl, rfl, rfl⟩
      ·
        refine V_aload_n (pc' := 24) dX8_isDigitAt_23 rfl 0 rfl rfl ?_
        refine V_getR (pc' := 27) 8 0 dX8_isDigitAt_24 rfl (by decide) (Nat.le_of_ble_eq_true rfl) bm_318 hs0 (fun _ _ _ => rfl) rfl hf (fun a_3 ha_3 hf => ?_)
        refine V_iload_n (pc' := 28) dX8_isDigitAt_27 rfl 1 rfl rfl ?_
        refine V_bald (pc' := 29) dX8_isDigitAt_28 rfl ha_3 hf (fun x_4 hf => ?_)
        refine V_bipush (v := 57) (pc' := 31) dX8_isDigitAt_29 rfl (by decide) ?_
        refine V_icmp_gt (tgt := 38) (pc' := 34) dX8_isDigitAt_31 (by decide) rfl hf (fun hf => ?_) (fun hf => ?_)
        ·
          refine V_iconst (v := 0) (pc' := 39) dX8_isDigitAt_38 rfl (by decide) ?_
          obtain rfl := Option.some.inj hf
          exact V_zretL dX8_isDigitAt_39 rfl rfl rfl (by decide) ⟨rfl, rfl, rfl⟩
        ·
          refine V_iconst (v := 1) (pc' := 35) dX8_isDigitAt_34 rfl (by decide) ?_
          refine V_goto (tgt := 39) dX8_isDigitAt_35 (by decide) ?_
          obtain rfl := Option.some.inj hf
          exact V_zretL dX8_isDigitAt_39 rfl rfl rfl (by decide) ⟨rfl, rfl, rfl⟩
    ·
      refine V_iconst (v := 0) (pc' := 39) dX8_isDigitAt_38 rfl (by decide) ?_
      obtain rfl := Option.some.inj hf
      exact V_zretL dX8_isDigitAt_39 rfl rfl rfl (by decide) ⟨rfl, rfl, rfl⟩
theorem ct_X8_isDigitAt {l : Launch} {S : List SHP} {h : MH} {a0 : Nat} {x1 : Int32} (hs0 : S[a0]? = some (.inl 8)) {q : Int32 × MH} (hf : f_X8_isDigitAt a0 x1 h = some q) : CT l mX8_isDigitAt 3 false 0 0 S [.ref a0, .int x1] h (QI S q) :=
  CT_ofV (by decide) rfl (Nat.le_of_ble_eq_true rfl) (fun G B hT => v_X8_isDigitAt hs0 hf)
/-! LabelStacks$Tape.takeNumber(II)I -/
theorem dX8_takeNumber_0 : decode cX8_takeNumber 0 = .ok (.aload_n 0, 1) := by decide +kernel
theorem dX8_takeNumber_1 : decode cX8_takeNumber 1 = .ok (.getfield 29, 3) := by decide +kernel
theorem dX8_takeNumber_4 : decode cX8_takeNumber 4 = .ok (.istore_n 3, 1) := by decide +kernel
theorem dX8_takeNumber_5 : decode cX8_takeNumber 5 = .ok (.iconst 0, 1) := by decide +kernel
theorem dX8_takeNumber_6 : decode cX8_takeNumber 6 = .ok (.istore 4, 2) := by decide +kernel
theorem dX8_takeNumber_8 : decode cX8_takeNumber 8 = .ok (.iconst 0, 1) := by decide +kernel
theorem dX8_takeNumber_9 : decode cX8_takeNumber 9 = .ok (.istore 5, 2) := by decide +kernel
theorem dX8_takeNumber_11 : decode cX8_takeNumber 11 = .ok (.iload 5, 2) := by decide +kernel
theorem dX8_takeNumber_13 : decode cX8_takeNumber 13 = .ok (.sipush 500, 3) := by decide +kernel
theorem dX8_takeNumber_16 : decode cX8_takeNumber 16 = .ok (.if_icmp .ge 54, 3) := by decide +kernel
theorem dX8_takeNumber_19 : decode cX8_takeNumber 19 = .ok (.aload_n 0, 1) := by decide +kernel
theorem dX8_takeNumber_20 : decode cX8_takeNumber 20 = .ok (.aload_n 0, 1) := by decide +kernel
theorem dX8_takeNumber_21 : decode cX8_takeNumber 21 = .ok (.getfield 29, 3) := by decide +kernel
theorem dX8_takeNumber_24 : decode cX8_takeNumber 24 = .ok (.invokevirtual 136, 3) := by decide +kernel
theorem dX8_takeNumber_27 : decode cX8_takeNumber 27 = .ok (.ifCond .eq 43, 3) := by decide +kernel
theorem dX8_takeNumber_30 : decode cX8_takeNumber 30 = .ok (.bipush 100, 2) := by decide +kernel
theorem dX8_takeNumber_32 : decode cX8_takeNumber 32 = .ok (.iload 4, 2) := by decide +kernel
theorem dX8_takeNumber_34 : decode cX8_takeNumber 34 = .ok (.bipush 10, 2) := by decide +kernel
theorem dX8_takeNumber_36 : decode cX8_takeNumber 36 = .ok (.imul, 1) := by decide +kernel
theorem dX8_takeNumber_37 : decode cX8_takeNumber 37 = .ok (.aload_n 0, 1) := by decide +kernel
theorem dX8_takeNumber_38 : decode cX8_takeNumber 38 = .ok (.aload_n 0, 1) := by decide +kernel
theorem dX8_takeNumber_39 : decode cX8_takeNumber 39 = .ok (.getfield 29, 3) := by decide +kernel
theorem dX8_takeNumber_42 : decode cX8_takeNumber 42 = .ok (.invokevirtual 102, 3) := by decide +kernel
theorem dX8_takeNumber_45 : decode cX8_takeNumber 45 = .ok (.iadd, 1) := by decide +kernel
theorem dX8_takeNumber_46 : decode cX8_takeNumber 46 = .ok (.bipush 48, 2) := by decide +kernel
theorem dX8_takeNumber_48 : decode cX8_takeNumber 48 = .ok (.isub, 1) := by decide +kernel
theorem dX8_takeNumber_49 : decode cX8_takeNumber 49 = .ok (.invokestatic 139, 3) := by decide +kernel
theorem dX8_takeNumber_52 : decode cX8_takeNumber 52 = .ok (.istore 4, 2) := by decide +kernel
theorem dX8_takeNumber_54 : decode cX8_takeNumber 54 = .ok (.aload_n 0, 1) := by decide +kernel
theorem dX8_takeNumber_55 : decode cX8_takeNumber 55 = .ok (.dup, 1) := by decide +kernel
theorem dX8_takeNumber_56 : decode cX8_takeNumber 56 = .ok (.getfield 29, 3) := by decide +kernel
theorem dX8_takeNumber_59 : decode cX8_takeNumber 59 = .ok (.iconst 1, 1) := by decide +kernel
theorem dX8_takeNumber_60 : decode cX8_takeNumber 60 = .ok (.iadd, 1) := by decide +kernel
theorem dX8_takeNumber_61 : decode cX8_takeNumber 61 = .ok (.putfield 29, 3) := by decide +kernel
theorem dX8_takeNumber_64 : decode cX8_takeNumber 64 = .ok (.iinc 5 1, 3) := by decide +kernel
theorem dX8_takeNumber_67 : decode cX8_takeNumber 67 = .ok (.goto (-56), 3) := by decide +kernel
theorem dX8_takeNumber_70 : decode cX8_takeNumber 70 = .ok (.aload_n 0, 1) := by decide +kernel
theorem dX8_takeNumber_71 : decode cX8_takeNumber 71 = .ok (.getfield 29, 3) := by decide +kernel
theorem dX8_takeNumber_74 : decode cX8_takeNumber 74 = .ok (.iload_n 3, 1) := by decide +kernel
theorem dX8_takeNumber_75 : decode cX8_takeNumber 75 = .ok (.if_icmp .ne 15, 3) := by decide +kernel
theorem dX8_takeNumber_78 : decode cX8_takeNumber 78 = .ok (.aload_n 0, 1) := by decide +kernel
theorem dX8_takeNumber_79 : decode cX8_takeNumber 79 = .ok (.iconst 1, 1) := by decide +kernel
theorem dX8_takeNumber_80 : decode cX8_takeNumber 80 = .ok (.aload_n 0, 1) := by decide +kernel
theorem dX8_takeNumber_81 : decode cX8_takeNumber 81 = .ok (.getfield 29, 3) := by decide +kernel
theorem dX8_takeNumber_84 : decode cX8_takeNumber 84 = .ok (.invokevirtual 76, 3) := by decide +kernel
theorem dX8_takeNumber_87 : decode cX8_takeNumber 87 = .ok (.pop, 1) := by decide +kernel
theorem dX8_takeNumber_88 : decode cX8_takeNumber 88 = .ok (.iconst (-1), 1) := by decide +kernel
theorem dX8_takeNumber_89 : decode cX8_takeNumber 89 = .ok (.ireturn, 1) := by decide +kernel
theorem dX8_takeNumber_90 : decode cX8_takeNumber 90 = .ok (.iload 4, 2) := by decide +kernel
theorem dX8_takeNumber_92 : decode cX8_takeNumber 92 = .ok (.iload_n 1, 1) := by decide +kernel
theorem dX8_takeNumber_93 : decode cX8_takeNumber 93 = .ok (.if_icmp .lt 9, 3) := by decide +kernel
theorem dX8_takeNumber_96 : decode cX8_takeNumber 96 = .ok (.iload 4, 2) := by decide +kernel
theorem dX8_takeNumber_98 : decode cX8_takeNumber 98 = .ok (.iload_n 2, 1) := by decide +kernel
theorem dX8_takeNumber_99 : decode cX8_takeNumber 99 = .ok (.if_icmp .le 12, 3) := by decide +kernel
theorem dX8_takeNumber_102 : decode cX8_takeNumber 102 = .ok (.aload_n 0, 1) := by decide +kernel
theorem dX8_takeNumber_103 : decode cX8_takeNumber 103 = .ok (.iconst 2, 1) := by decide +kernel
theorem dX8_takeNumber_104 : decode cX8_takeNumber 104 = .ok (.iload_n 3, 1) := by decide +kernel
theorem dX8_takeNumber_105 : decode cX8_takeNumber 105 = .ok (.invokevirtual 76, 3) := by decide +kernel
theorem dX8_takeNumber_108 : decode cX8_takeNumber 108 = .ok (.pop, 1) := by decide +kernel
theorem dX8_takeNumber_109 : decode cX8_takeNumber 109 = .ok (.iconst (-1), 1) := by decide +kernel
theorem dX8_takeNumber_110 : decode cX8_takeNumber 110 = .ok (.ireturn, 1) := by decide +kernel
theorem dX8_takeNumber_111 : decode cX8_takeNumber 111 = .ok (.iload 4, 2) := by decide +kernel
theorem dX8_takeNumber_113 : decode cX8_takeNumber 113 = .ok (.ireturn, 1) := by decide +kernel
abbrev mX8_takeNumber : MI := (RX8, yX8_takeNumber, cX8_takeNumber, 6, (some .int))
theorem mok_X8_takeNumber : MOKv mX8_takeNumber 2 := ⟨⟨bm_1132, bm_122, ⟨by decide, by decide⟩, by decide +kernel⟩, bm_1131, bm_34⟩
def f_X8_takeNumber_102   (a0 : Nat) (x3 : Int32) (h : MH) : Option (Int32 × MH) :=
  (f_X8_foundFault a0 2 x3 h).bind fun q_1 =>
  some ((-1 : Int32), q_1.2)
def f_X8_takeNumber_70   (a0 : Nat) (x1 : Int32) (x2 : Int32) (x3 : Int32) (x4 : Int32) (h : MH) : Option (Int32 × MH) :=
  if (gI h a0 2) = x3 then
    (f_X8_foundFault a0 1 (gI h a0 2) h).bind fun q_1 =>
    some ((-1 : Int32), q_1.2)
  else
    if x4 < x1 then
      f_X8_takeNumber_102 a0 x3 h
    else
      if x2 < x4 then
        f_X8_takeNumber_102 a0 x3 h
      else
        some (x4, h)
def f_X8_takeNumber_11b   (a0 : Nat) (x1 : Int32) (x2 : Int32) (x3 : Int32) (k11 : Int32 × Int32 → MH → Option (Int32 × MH)) (p : Int32 × Int32) (h : MH) : Option (Int32 × MH) :=
  if p.2 < 500 then
    (f_X8_isDigitAt a0 (gI h a0 2) h).bind fun q_1 =>
    if q_1.1 = 0 then
      f_X8_takeNumber_70 a0 x1 x2 x3 p.1 q_1.2
    else
      (f_X8_byteAt a0 (gI q_1.2 a0 2) q_1.2).bind fun q_2 =>
      lt ((if (((p.1 * 10) + q_2.1) - 48) < 100 then (((p.1 * 10) + q_2.1) - 48) else 100) : Int32) fun x_3 =>
      lt (sI q_2.2 a0 2 ((gI q_2.2 a0 2) + 1)) fun h_4 =>
      k11 (x_3, (p.2 + 1)) h_4
  else
    f_X8_takeNumber_70 a0 x1 x2 x3 p.1 h
def f_X8_takeNumber_11   (a0 : Nat) (x1 : Int32) (x2 : Int32) (x3 : Int32) : Nat → Int32 × Int32 → MH → Option (Int32 × MH) := lp (f_X8_takeNumber_11b a0 x1 x2 x3)
def f_X8_takeNumber   (a0 : Nat) (x1 : Int32) (x2 : Int32) (h : MH) : Option (Int32 × MH) :=
  lt (gI h a0 2) fun x_1 =>
  f_X8_takeNumber_11 a0 x1 x2 x_1 FU (0, 0) h
set_option maxRecDepth 100000 in
set_option maxHeartbeats 4000000 in
theorem v_X8_takeNumber_102 {l : Launch} {G : GE} {B N : Nat} {S : List SHP} {o : Int32 × MH} {a0 : Nat} {x3 : Int32}    (hs0 : S[a0]? = some (.inl 8)) {h : MH} (hf : f_X8_takeNumber_102 a0 x3 h = some o) : V l G B N mX8_takeNumber (rmm 4 0 0) false 0 0 (QI S o) S 0 0 102 [(0, .ref a0), (3, .int x3)] [] h := by
  unfold f_X8_takeNumber_102 at hf
  refine V_aload_n (pc' := 103) dX8_takeNumber_102 rfl 0 rfl rfl ?_
  refine V_iconst (v := 2) (pc' := 104) dX8_takeNumber_103 rfl (by decide) ?_
  refine V_iload_n (pc' := 105) dX8_takeNumber_104 rfl 1 rfl rfl ?_
  refine V_cvI (pc' := 108) (As := [.int 2, .int x3]) (rest := []) dX8_takeNumber_105 rfl mok_X8_foundFault bm_1125 8 (by decide) rfl hs0 rfl rfl (Nat.le_of_ble_eq_true rfl) (by decide) hf (fun q e => ct_X8_foundFault hs0 e) (fun q_1 hf => ?_)
  refine V_pop (pc' := 109) dX8_takeNumber_108 rfl rfl ?_
  refine V_iconst (v := (-1)) (pc' := 110) dX8_takeNumber_109 rfl (by decide) ?_
  obtain rfl := Option.some.inj hf
  exact V_iret dX8_takeNumber_110 rfl rfl rfl ⟨rfl, rfl, rfl⟩
set_option maxRecDepth 100000 in
set_option maxHeartbeats 4000000 in
theorem v_X8_takeNumber_70 {l : Launch} {G : GE} {B N : Nat} {S : List SHP} {o : Int32 × MH} {a0 : Nat} {x1 : Int32} {x2 : Int32} {x3 : Int32} {x4 : Int32}    (hs0 : S[a0]? = some (.inl 8)) {h : MH} (hf : f_X8_takeNumber_70 a0 x1 x2 x3 x4 h = some o) : V l G B N mX8_takeNumber (rmm 4 0 0) false 0 0 (QI S o) S 0 0 70 [(0, .ref a0), (1, .int x1), (2, .int x2), (3, .int x3), (4, .int x4)] [] h := by
  unfold f_X8_takeNumber_70 at hf
  refine V_aload_n (pc' := 71) dX8_takeNumber_70 rfl 0 rfl rfl ?_
  refine V_getI (pc' := 74) 8 2 dX8_takeNumber_71 rfl (by decide) (Nat.le_of_ble_eq_true rfl) bm_321 hs0 (fun _ _ _ => rfl) ?_
  refine V_iload_n (pc' := 75) dX8_takeNumber_74 rfl 3 rfl rfl ?_
  refine V_icmp_ne (tgt := 90) (pc' := 78) dX8_takeNumber_75 (by decide) rfl hf (fun hf => ?_) (fun hf => ?_)
  ·
    refine V_aload_n (pc' := 79) dX8_takeNumber_78 rfl 0 rfl rfl ?_
    refine V_iconst (v := 1) (pc' := 80) dX8_takeNumber_79 rfl (by decide) ?_
    refine V_aload_n (pc' := 81) dX8_takeNumber_80 rfl 0 rfl rfl ?_
    refine V_getI (pc' := 84) 8 2 dX8_takeNumber_81 rfl (by decide) (Nat.le_of_ble_eq_true rfl) bm_321 hs0 (fun _ _ _ => rfl) ?_
    refine V_cvI (pc' := 87) (As := [.int 1, .int (gI h a0 2)]) (rest := []) dX8_takeNumber_84 rfl mok_X8_foundFault bm_1125 8 (by decide) rfl hs0 rfl rfl (Nat.le_of_ble_eq_true rfl) (by decide) hf (fun q e => ct_X8_foundFault hs0 e) (fun q_1 hf => ?_)
    refine V_pop (pc' := 88) dX8_takeNumber_87 rfl rfl ?_
    refine V_iconst (v := (-1)) (pc' := 89) dX8_takeNumber_88 rfl (by decide) ?_
    obtain rfl := Option.some.inj hf
    exact V_iret dX8_takeNumber_89 rfl rfl rfl ⟨rfl, rfl, rfl⟩
  ·
    refine V_iload (pc' := 92) dX8_takeNumber_90 rfl 4 rfl ?_
    refine V_iload_n (pc' := 93) dX8_takeNumber_92 rfl 1 rfl rfl ?_
    refine V_icmp_lt (tgt := 102) (pc' := 96) dX8_takeNumber_93 (by decide) rfl hf (fun hf => ?_) (fun hf => ?_)
    ·
      exact V_sub (lv' := [(0, .ref a0), (3, .int x3)]) [0, 3] rfl (v_X8_takeNumber_102 hs0 hf)
    ·
      refine V_iload (pc' := 98) dX8_takeNumber_96 rfl 4 rfl ?_
      refine V_iload_n (pc' := 99) dX8_takeNumber_98 rfl 2 rfl rfl ?_
      refine V_icmp_le (tgt := 111) (pc' := 102) dX8_takeNumber_99 (by decide) rfl hf (fun hf => ?_) (fun hf => ?_)
      ·
        exact V_sub (lv' := [(0, .ref a0), (3, .int x3)]) [0, 3] rfl (v_X8_takeNumber_102 hs0 hf)
      ·
        refine V_iload (pc' := 113) dX8_takeNumber_111 rfl 4 rfl ?_
        obtain rfl := Option.some.inj hf
        exact V_iret dX8_takeNumber_113 rfl rfl rfl ⟨rfl, rfl, rfl⟩
set_option maxRecDepth 100000 in
set_option maxHeartbeats 4000000 in
theorem v_X8_takeNumber_11b {l : Launch} {G : GE} {B N : Nat} {S : List SHP} {o : Int32 × MH} {a0 : Nat} {x1 : Int32} {x2 : Int32} {x3 : Int32}    (hs0 : S[a0]? = some (.inl 8)) {k11 : Int32 × Int32 → MH → Option (Int32 × MH)} (hk11 : ∀ (p : Int32 × Int32) (h : MH), k11 p h = some o → V l G B N mX8_takeNumber (rmm 4 0 0) false 0 0 (QI S o) S 0 0 11 [(0, .ref a0), (1, .int x1), (2, .int x2), (3, .int x3), (4, .int p.1), (5, .int p.2)] [] h) {p : Int32 × Int32} {h : MH} (hf : f_X8_takeNumber_11b a0 x1 x2 x3 k11 p h = some o) : V l G B N mX8_takeNumber (rmm 4 0 0) false 0 0 (QI S o) S 0 0 11 [(0, .ref a0), (1, .int x1), (2, .int x2), (3, .int x3), (4, .int p.1), (5, .int p.2)] [] h := by
  unfold f_X8_takeNumber_11b at hf
  refine V_iload (pc' := 13) dX8_takeNumber_11 rfl 5 rfl ?_
  refine V_sipush (v := 500) (pc' := 16) dX8_takeNumber_13 rfl (by decide) ?_
  refine V_icmp_ge (tgt := 70) (pc' := 19) dX8_takeNumber_16 (by decide) rfl hf (fun hf => ?_) (fun hf => ?_)
  ·
    refine V_aload_n (pc' := 20) dX8_takeNumber_19 rfl 0 rfl rfl ?_
    refine V_aload_n (pc' := 21) dX8_takeNumber_20 rfl 0 rfl rfl ?_
    refine V_getI (pc' := 24) 8 2 dX8_takeNumber_21 rfl (by decide) (Nat.le_of_ble_eq_true rfl) bm_321 hs0 (fun _ _ _ => rfl) ?_
    refine V_cvI (pc' := 27) (As := [.int (gI h a0 2)]) (rest := []) dX8_takeNumber_24 rfl mok_X8_isDigitAt bm_1133 8 (by decide) rfl hs0 rfl rfl (Nat.le_of_ble_eq_true rfl) (by decide) hf (fun q e => ct_X8_isDigitAt hs0 e) (fun q_1 hf => ?_)
    refine V_if_eq (tgt := 70) (pc' := 30) dX8_takeNumber_27 (by decide) rfl hf (fun hf => ?_) (fun hf => ?_)
    ·
      exact V_sub (lv' := [(0, .ref a0), (1, .int x1), (2, .int x2), (3, .int x3), (4, .int p.1)]) [0, 1, 2, 3, 4] rfl (v_X8_takeNumber_70 hs0 hf)
    ·
      refine V_bipush (v := 100) (pc' := 32) dX8_takeNumber_30 rfl (by decide) ?_
      refine V_iload (pc' := 34) dX8_takeNumber_32 rfl 4 rfl ?_
      refine V_bipush (v := 10) (pc' := 36) dX8_takeNumber_34 rfl (by decide) ?_
      refine V_imul (pc' := 37) dX8_takeNumber_36 rfl ?_
      refine V_aload_n (pc' := 38) dX8_takeNumber_37 rfl 0 rfl rfl ?_
      refine V_aload_n (pc' := 39) dX8_takeNumber_38 rfl 0 rfl rfl ?_
      refine V_getI (pc' := 42) 8 2 dX8_takeNumber_39 rfl (by decide) (Nat.le_of_ble_eq_true rfl) bm_321 hs0 (fun _ _ _ => rfl) ?_
      refine V_cvI (pc' := 45) (As := [.int (gI q_1.2 a0 2)]) (rest := [.int (p.1 * 10), .int 100]) dX8_takeNumber_42 rfl mok_X8_byteAt bm_1060 8 (by decide) rfl hs0 rfl rfl (Nat.le_of_ble_eq_true rfl) (by decide) hf (fun q e => ct_X8_byteAt hs0 e) (fun q_2 hf => ?_)
      refine V_iadd (pc' := 46) dX8_takeNumber_45 rfl ?_
      refine V_bipush (v := 48) (pc' := 48) dX8_takeNumber_46 rfl (by decide) ?_
      refine V_isub (pc' := 49) dX8_takeNumber_48 rfl ?_
      refine V_min (pc' := 52) dX8_takeNumber_49 rfl bm_1137 (Nat.le_of_ble_eq_true rfl) (by decide) ?_
      refine V_nmI hf (fun x_3 hf => ?_)
      refine V_istore (lv' := [(4, .int x_3), (0, .ref a0), (1, .int x1), (2, .int x2), (3, .int x3), (5, .int p.2)]) (pc' := 54) dX8_takeNumber_52 rfl (Nat.le_of_ble_eq_true rfl) rfl ?_
      refine V_aload_n (pc' := 55) dX8_takeNumber_54 rfl 1 rfl rfl ?_
      refine V_dup (pc' := 56) dX8_takeNumber_55 rfl rfl ?_
      refine V_getI (pc' := 59) 8 2 dX8_takeNumber_56 rfl (by decide) (Nat.le_of_ble_eq_true rfl) bm_321 hs0 (fun _ _ _ => rfl) ?_
      refine V_iconst (v := 1) (pc' := 60) dX8_takeNumber_59 rfl (by decide) ?_
      refine V_iadd (pc' := 61) dX8_takeNumber_60 rfl ?_
      refine V_putI (pc' := 64) 8 2 dX8_takeNumber_61 rfl (by decide) (Nat.le_of_ble_eq_true rfl) bm_321 hs0 (Or.inl rfl) rfl ?_
      refine V_nmH hf (fun h_4 hf => ?_)
      refine V_iinc (v := (p.2 + 1)) (lv' := [(5, .int (p.2 + 1)), (4, .int x_3), (0, .ref a0), (1, .int x1), (2, .int x2), (3, .int x3)]) (pc' := 67) dX8_takeNumber_64 rfl 5 rfl rfl (Nat.le_of_ble_eq_true rfl) rfl ?_
      refine V_goto (tgt := 11) dX8_takeNumber_67 (by decide) ?_
      exact V_sub (lv' := [(0, .ref a0), (1, .int x1), (2, .int x2), (3, .int x3), (4, .int x_3), (5, .int (p.2 + 1))]) [2, 3, 4, 5, 1, 0] rfl (hk11 (x_3, (p.2 + 1)) h_4 hf)
  ·
    exact V_sub (lv' := [(0, .ref a0), (1, .int x1), (2, .int x2), (3, .int x3), (4, .int p.1)]) [0, 1, 2, 3, 4] rfl (v_X8_takeNumber_70 hs0 hf)
theorem v_X8_takeNumber_11 {l : Launch} {G : GE} {B N : Nat} {S : List SHP} {o : Int32 × MH} {a0 : Nat} {x1 : Int32} {x2 : Int32} {x3 : Int32}    (hs0 : S[a0]? = some (.inl 8)) {n : Nat} {p : Int32 × Int32} {h : MH} (hf : f_X8_takeNumber_11 a0 x1 x2 x3 n p h = some o) : V l G B N mX8_takeNumber (rmm 4 0 0) false 0 0 (QI S o) S 0 0 11 [(0, .ref a0), (1, .int x1), (2, .int x2), (3, .int x3), (4, .int p.1), (5, .int p.2)] [] h :=
  V_lp (VV := fun p h => V l G B N mX8_takeNumber (rmm 4 0 0) false 0 0 (QI S o) S 0 0 11 [(0, .ref a0), (1, .int x1), (2, .int x2), (3, .int x3), (4, .int p.1), (5, .int p.2)] [] h) (fun _ hk _ _ hf => v_X8_takeNumber_11b hs0 hk hf) n p h hf
set_option maxRecDepth 100000 in
set_option maxHeartbeats 4000000 in
theorem v_X8_takeNumber {l : Launch} {G : GE} {B N : Nat} {S : List SHP} {o : Int32 × MH} {a0 : Nat} {x1 : Int32} {x2 : Int32}    (hs0 : S[a0]? = some (.inl 8)) {h : MH} (hf : f_X8_takeNumber a0 x1 x2 h = some o) : V l G B N mX8_takeNumber (rmm 4 0 0) false 0 0 (QI S o) S 0 0 0 [(0, .ref a0), (1, .int x1), (2, .int x2)] [] h := by
  unfold f_X8_takeNumber at hf
  refine V_aload_n (pc' := 1) dX8_takeNumber_0 rfl 0 rfl rfl ?_
  refine V_getI (pc' := 4) 8 2 dX8_takeNumber_1 rfl (by decide) (Nat.le_of_ble_eq_true rfl) bm_321 hs0 (fun _ _ _ => rfl) ?_
  refine V_nmI hf (fun x_1 hf => ?_)
  refine V_istore_n (lv' := [(3, .int x_1), (0, .ref a0), (1, .int x1), (2, .int x2)]) (pc' := 5) dX8_takeNumber_4 rfl rfl (Nat.le_of_ble_eq_true rfl) rfl ?_
  refine V_iconst (v := 0) (pc' := 6) dX8_takeNumber_5 rfl (by decide) ?_
  refine V_istore (lv' := [(4, .int 0), (3, .int x_1), (0, .ref a0), (1, .int x1), (2, .int x2)]) (pc' := 8) dX8_takeNumber_6 rfl (Nat.le_of_ble_eq_true rfl) rfl ?_
  refine V_iconst (v := 0) (pc' := 9) dX8_takeNumber_8 rfl (by decide) ?_
  refine V_istore (lv' := [(5, .int 0), (4, .int 0), (3, .int x_1), (0, .ref a0), (1, .int x1), (2, .int x2)]) (pc' := 11) dX8_takeNumber_9 rfl (Nat.le_of_ble_eq_true rfl) rfl ?_
  exact V_sub (lv' := [(0, .ref a0), (1, .int x1), (2, .int x2), (3, .int x_1), (4, .int 0), (5, .int 0)]) [3, 4, 5, 2, 1, 0] rfl (v_X8_takeNumber_11 hs0 hf)
theorem ct_X8_takeNumber {l : Launch} {S : List SHP} {h : MH} {a0 : Nat} {x1 : Int32} {x2 : Int32} (hs0 : S[a0]? = some (.inl 8)) {q : Int32 × MH} (hf : f_X8_takeNumber a0 x1 x2 h = some q) : CT l mX8_takeNumber 4 false 0 0 S [.ref a0, .int x1, .int x2] h (QI S q) :=
  CT_ofV (by decide) rfl (Nat.le_of_ble_eq_true rfl) (fun G B hT => v_X8_takeNumber hs0 hf)
/-! LabelStacks$Tape.takeSign(C)Z -/
theorem dX8_takeSign_0 : decode cX8_takeSign 0 = .ok (.aload_n 0, 1) := by decide +kernel
theorem dX8_takeSign_1 : decode cX8_takeSign 1 = .ok (.invokevirtual 39, 3) := by decide +kernel
theorem dX8_takeSign_4 : decode cX8_takeSign 4 = .ok (.aload_n 0, 1) := by decide +kernel
theorem dX8_takeSign_5 : decode cX8_takeSign 5 = .ok (.aload_n 0, 1) := by decide +kernel
theorem dX8_takeSign_6 : decode cX8_takeSign 6 = .ok (.getfield 29, 3) := by decide +kernel
theorem dX8_takeSign_9 : decode cX8_takeSign 9 = .ok (.invokevirtual 102, 3) := by decide +kernel
theorem dX8_takeSign_12 : decode cX8_takeSign 12 = .ok (.iload_n 1, 1) := by decide +kernel
theorem dX8_takeSign_13 : decode cX8_takeSign 13 = .ok (.if_icmp .eq 13, 3) := by decide +kernel
theorem dX8_takeSign_16 : decode cX8_takeSign 16 = .ok (.aload_n 0, 1) := by decide +kernel
theorem dX8_takeSign_17 : decode cX8_takeSign 17 = .ok (.iconst 1, 1) := by decide +kernel
theorem dX8_takeSign_18 : decode cX8_takeSign 18 = .ok (.aload_n 0, 1) := by decide +kernel
theorem dX8_takeSign_19 : decode cX8_takeSign 19 = .ok (.getfield 29, 3) := by decide +kernel
theorem dX8_takeSign_22 : decode cX8_takeSign 22 = .ok (.invokevirtual 76, 3) := by decide +kernel
theorem dX8_takeSign_25 : decode cX8_takeSign 25 = .ok (.ireturn, 1) := by decide +kernel
theorem dX8_takeSign_26 : decode cX8_takeSign 26 = .ok (.aload_n 0, 1) := by decide +kernel
theorem dX8_takeSign_27 : decode cX8_takeSign 27 = .ok (.dup, 1) := by decide +kernel
theorem dX8_takeSign_28 : decode cX8_takeSign 28 = .ok (.getfield 29, 3) := by decide +kernel
theorem dX8_takeSign_31 : decode cX8_takeSign 31 = .ok (.iconst 1, 1) := by decide +kernel
theorem dX8_takeSign_32 : decode cX8_takeSign 32 = .ok (.iadd, 1) := by decide +kernel
theorem dX8_takeSign_33 : decode cX8_takeSign 33 = .ok (.putfield 29, 3) := by decide +kernel
theorem dX8_takeSign_36 : decode cX8_takeSign 36 = .ok (.iconst 1, 1) := by decide +kernel
theorem dX8_takeSign_37 : decode cX8_takeSign 37 = .ok (.ireturn, 1) := by decide +kernel
abbrev mX8_takeSign : MI := (RX8, yX8_takeSign, cX8_takeSign, 2, (some .boolean))
theorem mok_X8_takeSign : MOKv mX8_takeSign 1 := ⟨⟨bm_1142, bm_122, ⟨by decide, by decide⟩, by decide +kernel⟩, bm_1141, bm_36⟩
def f_X8_takeSign   (a0 : Nat) (x1 : Int32) (h : MH) : Option (Int32 × MH) :=
  (f_X8_skipBlanks a0 h).bind fun q_1 =>
  (f_X8_byteAt a0 (gI q_1 a0 2) q_1).bind fun q_2 =>
  if q_2.1 = x1 then
    lt (sI q_2.2 a0 2 ((gI q_2.2 a0 2) + 1)) fun h_3 =>
    some (1, h_3)
  else
    (f_X8_foundFault a0 1 (gI q_2.2 a0 2) q_2.2).bind fun q_4 =>
    if q_4.1 = 0 ∨ q_4.1 = 1 then some (q_4.1, q_4.2) else none
set_option maxRecDepth 100000 in
set_option maxHeartbeats 4000000 in
theorem v_X8_takeSign {l : Launch} {G : GE} {B N : Nat} {S : List SHP} {o : Int32 × MH} {a0 : Nat} {x1 : Int32}    (hs0 : S[a0]? = some (.inl 8)) {h : MH} (hf : f_X8_takeSign a0 x1 h = some o) : V l G B N mX8_takeSign (rmm 5 0 0) false 0 0 (QI S o) S 0 0 0 [(0, .ref a0), (1, .int x1)] [] h := by
  unfold f_X8_takeSign at hf
  refine V_aload_n (pc' := 1) dX8_takeSign_0 rfl 0 rfl rfl ?_
  refine V_cvV (pc' := 4) (As := []) (rest := []) dX8_takeSign_1 rfl mok_X8_skipBlanks bm_1056 8 (by decide) rfl hs0 rfl rfl (Nat.le_of_ble_eq_true rfl) (by decide) hf (fun q e => ct_X8_skipBlanks hs0 e) (fun q_1 hf => ?_)
  refine V_aload_n (pc' := 5) dX8_takeSign_4 rfl 0 rfl rfl ?_
  refine V_aload_n (pc' := 6) dX8_takeSign_5 rfl 0 rfl rfl ?_
  refine V_getI (pc' := 9) 8 2 dX8_takeSign_6 rfl (by decide) (Nat.le_of_ble_eq_true rfl) bm_321 hs0 (fun _ _ _ => rfl) ?_
  refine V_cvI (pc' := 12) (As := [.int (gI q_1 a0 2)]) (rest := []) dX8_takeSign_9 rfl mok_X8_byteAt bm_1060 8 (by decide) rfl hs0 rfl rfl (Nat.le_of_ble_eq_true rfl) (by decide) hf (fun q e => ct_X8_byteAt hs0 e) (fun q_2 hf => ?_)
  refine V_iload_n (pc' := 13) dX8_takeSign_12 rfl 1 rfl rfl ?_
  refine V_icmp_eq (tgt := 26) (pc' := 16) dX8_takeSign_13 (by decide) rfl hf (fun hf => ?_) (fun hf => ?_)
  ·
    refine V_aload_n (pc' := 27) dX8_takeSign_26 rfl 0 rfl rfl ?_
    refine V_dup (pc' := 28) dX8_takeSign_27 rfl rfl ?_
    refine V_getI (pc' := 31) 8 2 dX8_takeSign_28 rfl (by decide) (Nat.le_of_ble_eq_true rfl) bm_321 hs0 (fun _ _ _ => rfl) ?_
    refine V_iconst (v := 1) (pc' := 32) dX8_takeSign_31 rfl (by decide) ?_
    refine V_iadd (pc' := 33) dX8_takeSign_32 rfl ?_
    refine V_putI (pc' := 36) 8 2 dX8_takeSign_33 rfl (by decide) (Nat.le_of_ble_eq_true rfl) bm_321 hs0 (Or.inl rfl) rfl ?_
    refine V_nmH hf (fun h_3 hf => ?_)
    refine V_iconst (v := 1) (pc' := 37) dX8_takeSign_36 rfl (by decide) ?_
    obtain rfl := Option.some.inj hf
    exact V_zretL dX8_takeSign_37 rfl rfl rfl (by decide) ⟨rfl, rfl, rfl⟩
  ·
    refine V_aload_n (pc' := 17) dX8_takeSign_16 rfl 0 rfl rfl ?_
    refine V_iconst (v := 1) (pc' := 18) dX8_takeSign_17 rfl (by decide) ?_
    refine V_aload_n (pc' := 19) dX8_takeSign_18 rfl 0 rfl rfl ?_
    refine V_getI (pc' := 22) 8 2 dX8_takeSign_19 rfl (by decide) (Nat.le_of_ble_eq_true rfl) bm_321 hs0 (fun _ _ _ => rfl) ?_
    refine V_cvI (pc' := 25) (As := [.int 1, .int (gI q_2.2 a0 2)]) (rest := []) dX8_takeSign_22 rfl mok_X8_foundFault bm_1125 8 (by decide) rfl hs0 rfl rfl (Nat.le_of_ble_eq_true rfl) (by decide) hf (fun q e => ct_X8_foundFault hs0 e) (fun q_4 hf => ?_)
    refine V_zret dX8_takeSign_25 rfl rfl rfl hf (fun hf => ?_)
    obtain rfl := Option.some.inj hf
    exact ⟨rfl, rfl, rfl⟩
theorem ct_X8_takeSign {l : Launch} {S : List SHP} {h : MH} {a0 : Nat} {x1 : Int32} (hs0 : S[a0]? = some (.inl 8)) {q : Int32 × MH} (hf : f_X8_takeSign a0 x1 h = some q) : CT l mX8_takeSign 5 false 0 0 S [.ref a0, .int x1] h (QI S q) :=
  CT_ofV (by decide) rfl (Nat.le_of_ble_eq_true rfl) (fun G B hT => v_X8_takeSign hs0 hf)
/-! LabelStacks$Tape.readHead()Z -/
theorem dX8_readHead_0 : decode cX8_readHead 0 = .ok (.aload_n 0, 1) := by decide +kernel
theorem dX8_readHead_1 : decode cX8_readHead 1 = .ok (.invokevirtual 39, 3) := by decide +kernel
theorem dX8_readHead_4 : decode cX8_readHead 4 = .ok (.aload_n 0, 1) := by decide +kernel
theorem dX8_readHead_5 : decode cX8_readHead 5 = .ok (.ldc 45, 2) := by decide +kernel
theorem dX8_readHead_7 : decode cX8_readHead 7 = .ok (.invokevirtual 47, 3) := by decide +kernel
theorem dX8_readHead_10 : decode cX8_readHead 10 = .ok (.ifCond .ne 5, 3) := by decide +kernel
theorem dX8_readHead_13 : decode cX8_readHead 13 = .ok (.iconst 0, 1) := by decide +kernel
theorem dX8_readHead_14 : decode cX8_readHead 14 = .ok (.ireturn, 1) := by decide +kernel
theorem dX8_readHead_15 : decode cX8_readHead 15 = .ok (.aload_n 0, 1) := by decide +kernel
theorem dX8_readHead_16 : decode cX8_readHead 16 = .ok (.invokevirtual 39, 3) := by decide +kernel
theorem dX8_readHead_19 : decode cX8_readHead 19 = .ok (.aload_n 0, 1) := by decide +kernel
theorem dX8_readHead_20 : decode cX8_readHead 20 = .ok (.iconst 2, 1) := by decide +kernel
theorem dX8_readHead_21 : decode cX8_readHead 21 = .ok (.bipush 10, 2) := by decide +kernel
theorem dX8_readHead_23 : decode cX8_readHead 23 = .ok (.invokevirtual 51, 3) := by decide +kernel
theorem dX8_readHead_26 : decode cX8_readHead 26 = .ok (.istore_n 1, 1) := by decide +kernel
theorem dX8_readHead_27 : decode cX8_readHead 27 = .ok (.iload_n 1, 1) := by decide +kernel
theorem dX8_readHead_28 : decode cX8_readHead 28 = .ok (.iconst (-1), 1) := by decide +kernel
theorem dX8_readHead_29 : decode cX8_readHead 29 = .ok (.if_icmp .ne 5, 3) := by decide +kernel
theorem dX8_readHead_32 : decode cX8_readHead 32 = .ok (.iconst 0, 1) := by decide +kernel
theorem dX8_readHead_33 : decode cX8_readHead 33 = .ok (.ireturn, 1) := by decide +kernel
theorem dX8_readHead_34 : decode cX8_readHead 34 = .ok (.aload_n 0, 1) := by decide +kernel
theorem dX8_readHead_35 : decode cX8_readHead 35 = .ok (.getfield 22, 3) := by decide +kernel
theorem dX8_readHead_38 : decode cX8_readHead 38 = .ok (.iload_n 1, 1) := by decide +kernel
theorem dX8_readHead_39 : decode cX8_readHead 39 = .ok (.invokevirtual 55, 3) := by decide +kernel
theorem dX8_readHead_42 : decode cX8_readHead 42 = .ok (.aload_n 0, 1) := by decide +kernel
theorem dX8_readHead_43 : decode cX8_readHead 43 = .ok (.bipush 59, 2) := by decide +kernel
theorem dX8_readHead_45 : decode cX8_readHead 45 = .ok (.invokevirtual 59, 3) := by decide +kernel
theorem dX8_readHead_48 : decode cX8_readHead 48 = .ok (.ireturn, 1) := by decide +kernel
abbrev mX8_readHead : MI := (RX8, yX8_readHead, cX8_readHead, 2, (some .boolean))
theorem mok_X8_readHead : MOKv mX8_readHead 0 := ⟨⟨bm_1055, bm_122, ⟨by decide, by decide⟩, by decide +kernel⟩, bm_1054, bm_27⟩
def f_X8_readHead   (a0 : Nat) (h : MH) : Option (Int32 × MH) :=
  (f_X8_skipBlanks a0 h).bind fun q_1 =>
  (f_X8_takeWord a0 0 q_1).bind fun q_2 =>
  if q_2.1 = 0 then
    some (0, q_2.2)
  else
    (f_X8_skipBlanks a0 q_2.2).bind fun q_3 =>
    (f_X8_takeNumber a0 2 10 q_3).bind fun q_4 =>
    if q_4.1 = (-1 : Int32) then
      some (0, q_4.2)
    else
      (gR q_4.2 a0 5).bind fun a_5 =>
      (f_X2_reset a_5 q_4.1 q_4.2).bind fun q_6 =>
      (f_X8_takeSign a0 59 q_6).bind fun q_7 =>
      if q_7.1 = 0 ∨ q_7.1 = 1 then some (q_7.1, q_7.2) else none
set_option maxRecDepth 100000 in
set_option maxHeartbeats 4000000 in
theorem v_X8_readHead {l : Launch} {G : GE} {B N : Nat} {S : List SHP} {o : Int32 × MH} {a0 : Nat}    (hs0 : S[a0]? = some (.inl 8)) {h : MH} (hf : f_X8_readHead a0 h = some o) : V l G B N mX8_readHead (rmm 11 0 0) false 0 0 (QI S o) S 0 0 0 [(0, .ref a0)] [] h := by
  unfold f_X8_readHead at hf
  refine V_aload_n (pc' := 1) dX8_readHead_0 rfl 0 rfl rfl ?_
  refine V_cvV (pc' := 4) (As := []) (rest := []) dX8_readHead_1 rfl mok_X8_skipBlanks bm_1056 8 (by decide) rfl hs0 rfl rfl (Nat.le_of_ble_eq_true rfl) (by decide) hf (fun q e => ct_X8_skipBlanks hs0 e) (fun q_1 hf => ?_)
  refine V_aload_n (pc' := 5) dX8_readHead_4 rfl 0 rfl rfl ?_
  refine V_ldcS (j := 0) (tx := "nodes") (pc' := 7) dX8_readHead_5 rfl (by decide) ?_
  refine V_cvI (pc' := 10) (As := [.retAddr 0]) (rest := []) dX8_readHead_7 rfl mok_X8_takeWord bm_1065 8 (by decide) rfl hs0 rfl rfl (Nat.le_of_ble_eq_true rfl) (by decide) hf (fun q e => ct_X8_takeWord hs0 e) (fun q_2 hf => ?_)
  refine V_if_ne (tgt := 15) (pc' := 13) dX8_readHead_10 (by decide) rfl hf (fun hf => ?_) (fun hf => ?_)
  ·
    refine V_iconst (v := 0) (pc' := 14) dX8_readHead_13 rfl (by decide) ?_
    obtain rfl := Option.some.inj hf
    exact V_zretL dX8_readHead_14 rfl rfl rfl (by decide) ⟨rfl, rfl, rfl⟩
  ·
    refine V_aload_n (pc' := 16) dX8_readHead_15 rfl 0 rfl rfl ?_
    refine V_cvV (pc' := 19) (As := []) (rest := []) dX8_readHead_16 rfl mok_X8_skipBlanks bm_1056 8 (by decide) rfl hs0 rfl rfl (Nat.le_of_ble_eq_true rfl) (by decide) hf (fun q e => ct_X8_skipBlanks hs0 e) (fun q_3 hf => ?_)
    refine V_aload_n (pc' := 20) dX8_readHead_19 rfl 0 rfl rfl ?_
    refine V_iconst (v := 2) (pc' := 21) dX8_readHead_20 rfl (by decide) ?_
    refine V_bipush (v := 10) (pc' := 23) dX8_readHead_21 rfl (by decide) ?_
    refine V_cvI (pc' := 26) (As := [.int 2, .int 10]) (rest := []) dX8_readHead_23 rfl mok_X8_takeNumber bm_1129 8 (by decide) rfl hs0 rfl rfl (Nat.le_of_ble_eq_true rfl) (by decide) hf (fun q e => ct_X8_takeNumber hs0 e) (fun q_4 hf => ?_)
    refine V_istore_n (lv' := [(1, .int q_4.1), (0, .ref a0)]) (pc' := 27) dX8_readHead_26 rfl rfl (Nat.le_of_ble_eq_true rfl) rfl ?_
    refine V_iload_n (pc' := 28) dX8_readHead_27 rfl 0 rfl rfl ?_
    refine V_iconst (v := (-1)) (pc' := 29) dX8_readHead_28 rfl (by decide) ?_
    refine V_icmp_ne (tgt := 34) (pc' := 32) dX8_readHead_29 (by decide) rfl hf (fun hf => ?_) (fun hf => ?_)
    ·
      refine V_iconst (v := 0) (pc' := 33) dX8_readHead_32 rfl (by decide) ?_
      obtain rfl := Option.some.inj hf
      exact V_zretL dX8_readHead_33 rfl rfl rfl (by decide) ⟨rfl, rfl, rfl⟩
    ·
      refine V_aload_n (pc' := 35) dX8_readHead_34 rfl 1 rfl rfl ?_
      refine V_getR (pc' := 38) 8 5 dX8_readHead_35 rfl (by decide) (Nat.le_of_ble_eq_true rfl) bm_326 hs0 (fun _ _ _ => rfl) rfl hf (fun a_5 ha_5 hf => ?_)
      refine V_iload_n (pc' := 39) dX8_readHead_38 rfl 0 rfl rfl ?_
      refine V_cvV (pc' := 42) (As := [.int q_4.1]) (rest := []) dX8_readHead_39 rfl mok_X2_reset bm_1138 2 (by decide) rfl ha_5 rfl rfl (Nat.le_of_ble_eq_true rfl) (by decide) hf (fun q e => ct_X2_reset ha_5 e) (fun q_6 hf => ?_)
      refine V_aload_n (pc' := 43) dX8_readHead_42 rfl 1 rfl rfl ?_
      refine V_bipush (v := 59) (pc' := 45) dX8_readHead_43 rfl (by decide) ?_
      refine V_cvI (pc' := 48) (As := [.int 59]) (rest := []) dX8_readHead_45 rfl mok_X8_takeSign bm_1139 8 (by decide) rfl hs0 rfl rfl (Nat.le_of_ble_eq_true rfl) (by decide) hf (fun q e => ct_X8_takeSign hs0 e) (fun q_7 hf => ?_)
      refine V_zret dX8_readHead_48 rfl rfl rfl hf (fun hf => ?_)
      obtain rfl := Option.some.inj hf
      exact ⟨rfl, rfl, rfl⟩
theorem ct_X8_readHead {l : Launch} {S : List SHP} {h : MH} {a0 : Nat} (hs0 : S[a0]? = some (.inl 8)) {q : Int32 × MH} (hf : f_X8_readHead a0 h = some q) : CT l mX8_readHead 11 false 0 0 S [.ref a0] h (QI S q) :=
  CT_ofV (by decide) rfl (Nat.le_of_ble_eq_true rfl) (fun G B hT => v_X8_readHead hs0 hf)
/-! LabelStacks$Tape.readLink()Z -/
theorem dX8_readLink_0 : decode cX8_readLink 0 = .ok (.aload_n 0, 1) := by decide +kernel
theorem dX8_readLink_1 : decode cX8_readLink 1 = .ok (.getfield 22, 3) := by decide +kernel
theorem dX8_readLink_4 : decode cX8_readLink 4 = .ok (.getfield 80, 3) := by decide +kernel
theorem dX8_readLink_7 : decode cX8_readLink 7 = .ok (.bipush 30, 2) := by decide +kernel
theorem dX8_readLink_9 : decode cX8_readLink 9 = .ok (.if_icmp .lt 13, 3) := by decide +kernel
theorem dX8_readLink_12 : decode cX8_readLink 12 = .ok (.aload_n 0, 1) := by decide +kernel
theorem dX8_readLink_13 : decode cX8_readLink 13 = .ok (.iconst 3, 1) := by decide +kernel
theorem dX8_readLink_14 : decode cX8_readLink 14 = .ok (.aload_n 0, 1) := by decide +kernel
theorem dX8_readLink_15 : decode cX8_readLink 15 = .ok (.getfield 29, 3) := by decide +kernel
theorem dX8_readLink_18 : decode cX8_readLink 18 = .ok (.invokevirtual 76, 3) := by decide +kernel
theorem dX8_readLink_21 : decode cX8_readLink 21 = .ok (.ireturn, 1) := by decide +kernel
theorem dX8_readLink_22 : decode cX8_readLink 22 = .ok (.aload_n 0, 1) := by decide +kernel
theorem dX8_readLink_23 : decode cX8_readLink 23 = .ok (.ldc 63, 2) := by decide +kernel
theorem dX8_readLink_25 : decode cX8_readLink 25 = .ok (.invokevirtual 47, 3) := by decide +kernel
theorem dX8_readLink_28 : decode cX8_readLink 28 = .ok (.pop, 1) := by decide +kernel
theorem dX8_readLink_29 : decode cX8_readLink 29 = .ok (.aload_n 0, 1) := by decide +kernel
theorem dX8_readLink_30 : decode cX8_readLink 30 = .ok (.invokevirtual 39, 3) := by decide +kernel
theorem dX8_readLink_33 : decode cX8_readLink 33 = .ok (.aload_n 0, 1) := by decide +kernel
theorem dX8_readLink_34 : decode cX8_readLink 34 = .ok (.iconst 0, 1) := by decide +kernel
theorem dX8_readLink_35 : decode cX8_readLink 35 = .ok (.aload_n 0, 1) := by decide +kernel
theorem dX8_readLink_36 : decode cX8_readLink 36 = .ok (.getfield 22, 3) := by decide +kernel
theorem dX8_readLink_39 : decode cX8_readLink 39 = .ok (.getfield 83, 3) := by decide +kernel
theorem dX8_readLink_42 : decode cX8_readLink 42 = .ok (.iconst 1, 1) := by decide +kernel
theorem dX8_readLink_43 : decode cX8_readLink 43 = .ok (.isub, 1) := by decide +kernel
theorem dX8_readLink_44 : decode cX8_readLink 44 = .ok (.invokevirtual 51, 3) := by decide +kernel
theorem dX8_readLink_47 : decode cX8_readLink 47 = .ok (.istore_n 1, 1) := by decide +kernel
theorem dX8_readLink_48 : decode cX8_readLink 48 = .ok (.iload_n 1, 1) := by decide +kernel
theorem dX8_readLink_49 : decode cX8_readLink 49 = .ok (.iconst (-1), 1) := by decide +kernel
theorem dX8_readLink_50 : decode cX8_readLink 50 = .ok (.if_icmp .ne 5, 3) := by decide +kernel
theorem dX8_readLink_53 : decode cX8_readLink 53 = .ok (.iconst 0, 1) := by decide +kernel
theorem dX8_readLink_54 : decode cX8_readLink 54 = .ok (.ireturn, 1) := by decide +kernel
theorem dX8_readLink_55 : decode cX8_readLink 55 = .ok (.aload_n 0, 1) := by decide +kernel
theorem dX8_readLink_56 : decode cX8_readLink 56 = .ok (.invokevirtual 39, 3) := by decide +kernel
theorem dX8_readLink_59 : decode cX8_readLink 59 = .ok (.aload_n 0, 1) := by decide +kernel
theorem dX8_readLink_60 : decode cX8_readLink 60 = .ok (.getfield 29, 3) := by decide +kernel
theorem dX8_readLink_63 : decode cX8_readLink 63 = .ok (.istore_n 2, 1) := by decide +kernel
theorem dX8_readLink_64 : decode cX8_readLink 64 = .ok (.aload_n 0, 1) := by decide +kernel
theorem dX8_readLink_65 : decode cX8_readLink 65 = .ok (.iconst 0, 1) := by decide +kernel
theorem dX8_readLink_66 : decode cX8_readLink 66 = .ok (.aload_n 0, 1) := by decide +kernel
theorem dX8_readLink_67 : decode cX8_readLink 67 = .ok (.getfield 22, 3) := by decide +kernel
theorem dX8_readLink_70 : decode cX8_readLink 70 = .ok (.getfield 83, 3) := by decide +kernel
theorem dX8_readLink_73 : decode cX8_readLink 73 = .ok (.iconst 1, 1) := by decide +kernel
theorem dX8_readLink_74 : decode cX8_readLink 74 = .ok (.isub, 1) := by decide +kernel
theorem dX8_readLink_75 : decode cX8_readLink 75 = .ok (.invokevirtual 51, 3) := by decide +kernel
theorem dX8_readLink_78 : decode cX8_readLink 78 = .ok (.istore_n 3, 1) := by decide +kernel
theorem dX8_readLink_79 : decode cX8_readLink 79 = .ok (.iload_n 3, 1) := by decide +kernel
theorem dX8_readLink_80 : decode cX8_readLink 80 = .ok (.iconst (-1), 1) := by decide +kernel
theorem dX8_readLink_81 : decode cX8_readLink 81 = .ok (.if_icmp .ne 5, 3) := by decide +kernel
theorem dX8_readLink_84 : decode cX8_readLink 84 = .ok (.iconst 0, 1) := by decide +kernel
theorem dX8_readLink_85 : decode cX8_readLink 85 = .ok (.ireturn, 1) := by decide +kernel
theorem dX8_readLink_86 : decode cX8_readLink 86 = .ok (.iload_n 3, 1) := by decide +kernel
theorem dX8_readLink_87 : decode cX8_readLink 87 = .ok (.iload_n 1, 1) := by decide +kernel
theorem dX8_readLink_88 : decode cX8_readLink 88 = .ok (.if_icmp .ne 10, 3) := by decide +kernel
theorem dX8_readLink_91 : decode cX8_readLink 91 = .ok (.aload_n 0, 1) := by decide +kernel
theorem dX8_readLink_92 : decode cX8_readLink 92 = .ok (.iconst 2, 1) := by decide +kernel
theorem dX8_readLink_93 : decode cX8_readLink 93 = .ok (.iload_n 2, 1) := by decide +kernel
theorem dX8_readLink_94 : decode cX8_readLink 94 = .ok (.invokevirtual 76, 3) := by decide +kernel
theorem dX8_readLink_97 : decode cX8_readLink 97 = .ok (.ireturn, 1) := by decide +kernel
theorem dX8_readLink_98 : decode cX8_readLink 98 = .ok (.aload_n 0, 1) := by decide +kernel
theorem dX8_readLink_99 : decode cX8_readLink 99 = .ok (.invokevirtual 39, 3) := by decide +kernel
theorem dX8_readLink_102 : decode cX8_readLink 102 = .ok (.aload_n 0, 1) := by decide +kernel
theorem dX8_readLink_103 : decode cX8_readLink 103 = .ok (.iconst 1, 1) := by decide +kernel
theorem dX8_readLink_104 : decode cX8_readLink 104 = .ok (.bipush 99, 2) := by decide +kernel
theorem dX8_readLink_106 : decode cX8_readLink 106 = .ok (.invokevirtual 51, 3) := by decide +kernel
theorem dX8_readLink_109 : decode cX8_readLink 109 = .ok (.istore 4, 2) := by decide +kernel
theorem dX8_readLink_111 : decode cX8_readLink 111 = .ok (.iload 4, 2) := by decide +kernel
theorem dX8_readLink_113 : decode cX8_readLink 113 = .ok (.iconst (-1), 1) := by decide +kernel
theorem dX8_readLink_114 : decode cX8_readLink 114 = .ok (.if_icmp .ne 5, 3) := by decide +kernel
theorem dX8_readLink_117 : decode cX8_readLink 117 = .ok (.iconst 0, 1) := by decide +kernel
theorem dX8_readLink_118 : decode cX8_readLink 118 = .ok (.ireturn, 1) := by decide +kernel
theorem dX8_readLink_119 : decode cX8_readLink 119 = .ok (.aload_n 0, 1) := by decide +kernel
theorem dX8_readLink_120 : decode cX8_readLink 120 = .ok (.invokevirtual 39, 3) := by decide +kernel
theorem dX8_readLink_123 : decode cX8_readLink 123 = .ok (.aload_n 0, 1) := by decide +kernel
theorem dX8_readLink_124 : decode cX8_readLink 124 = .ok (.ldc 86, 2) := by decide +kernel
theorem dX8_readLink_126 : decode cX8_readLink 126 = .ok (.invokevirtual 65, 3) := by decide +kernel
theorem dX8_readLink_129 : decode cX8_readLink 129 = .ok (.istore 5, 2) := by decide +kernel
theorem dX8_readLink_131 : decode cX8_readLink 131 = .ok (.iload 5, 2) := by decide +kernel
theorem dX8_readLink_133 : decode cX8_readLink 133 = .ok (.ifCond .eq 10, 3) := by decide +kernel
theorem dX8_readLink_136 : decode cX8_readLink 136 = .ok (.aload_n 0, 1) := by decide +kernel
theorem dX8_readLink_137 : decode cX8_readLink 137 = .ok (.ldc 86, 2) := by decide +kernel
theorem dX8_readLink_139 : decode cX8_readLink 139 = .ok (.invokevirtual 47, 3) := by decide +kernel
theorem dX8_readLink_142 : decode cX8_readLink 142 = .ok (.pop, 1) := by decide +kernel
theorem dX8_readLink_143 : decode cX8_readLink 143 = .ok (.aload_n 0, 1) := by decide +kernel
theorem dX8_readLink_144 : decode cX8_readLink 144 = .ok (.getfield 22, 3) := by decide +kernel
theorem dX8_readLink_147 : decode cX8_readLink 147 = .ok (.iload_n 1, 1) := by decide +kernel
theorem dX8_readLink_148 : decode cX8_readLink 148 = .ok (.iload_n 3, 1) := by decide +kernel
theorem dX8_readLink_149 : decode cX8_readLink 149 = .ok (.iload 4, 2) := by decide +kernel
theorem dX8_readLink_151 : decode cX8_readLink 151 = .ok (.iload 5, 2) := by decide +kernel
theorem dX8_readLink_153 : decode cX8_readLink 153 = .ok (.ifCond .ne 7, 3) := by decide +kernel
theorem dX8_readLink_156 : decode cX8_readLink 156 = .ok (.iconst 1, 1) := by decide +kernel
theorem dX8_readLink_157 : decode cX8_readLink 157 = .ok (.goto 4, 3) := by decide +kernel
theorem dX8_readLink_160 : decode cX8_readLink 160 = .ok (.iconst 0, 1) := by decide +kernel
theorem dX8_readLink_161 : decode cX8_readLink 161 = .ok (.invokevirtual 88, 3) := by decide +kernel
theorem dX8_readLink_164 : decode cX8_readLink 164 = .ok (.pop, 1) := by decide +kernel
theorem dX8_readLink_165 : decode cX8_readLink 165 = .ok (.aload_n 0, 1) := by decide +kernel
theorem dX8_readLink_166 : decode cX8_readLink 166 = .ok (.bipush 59, 2) := by decide +kernel
theorem dX8_readLink_168 : decode cX8_readLink 168 = .ok (.invokevirtual 59, 3) := by decide +kernel
theorem dX8_readLink_171 : decode cX8_readLink 171 = .ok (.ireturn, 1) := by decide +kernel
abbrev mX8_readLink : MI := (RX8, yX8_readLink, cX8_readLink, 6, (some .boolean))
theorem mok_X8_readLink : MOKv mX8_readLink 0 := ⟨⟨bm_1151, bm_122, ⟨by decide, by decide⟩, by decide +kernel⟩, bm_1150, bm_38⟩
def f_X8_readLink_161   (a0 : Nat) (t0 : Nat) (t1 : Int32) (t2 : Int32) (t3 : Int32) (t4 : Int32) (h : MH) : Option (Int32 × MH) :=
  (f_X2_addLink t0 t1 t2 t3 t4 h).bind fun q_1 =>
  (f_X8_takeSign a0 59 q_1.2).bind fun q_2 =>
  if q_2.1 = 0 ∨ q_2.1 = 1 then some (q_2.1, q_2.2) else none
def f_X8_readLink_143   (a0 : Nat) (x1 : Int32) (x3 : Int32) (x4 : Int32) (x5 : Int32) (h : MH) : Option (Int32 × MH) :=
  (gR h a0 5).bind fun a_1 =>
  if x5 = 0 then
    f_X8_readLink_161 a0 a_1 x1 x3 x4 1 h
  else
    f_X8_readLink_161 a0 a_1 x1 x3 x4 0 h
def f_X8_readLink   (a0 : Nat) (h : MH) : Option (Int32 × MH) :=
  (gR h a0 5).bind fun a_1 =>
  if (gI h a_1 1) < 30 then
    (f_X8_takeWord a0 1 h).bind fun q_2 =>
    (f_X8_skipBlanks a0 q_2.2).bind fun q_3 =>
    (gR q_3 a0 5).bind fun a_4 =>
    (f_X8_takeNumber a0 0 ((gI q_3 a_4 0) - 1) q_3).bind fun q_5 =>
    if q_5.1 = (-1 : Int32) then
      some (0, q_5.2)
    else
      (f_X8_skipBlanks a0 q_5.2).bind fun q_6 =>
      lt (gI q_6 a0 2) fun x_7 =>
      (gR q_6 a0 5).bind fun a_8 =>
      (f_X8_takeNumber a0 0 ((gI q_6 a_8 0) - 1) q_6).bind fun q_9 =>
      if q_9.1 = (-1 : Int32) then
        some (0, q_9.2)
      else
        if q_9.1 = q_5.1 then
          (f_X8_foundFault a0 2 x_7 q_9.2).bind fun q_10 =>
          if q_10.1 = 0 ∨ q_10.1 = 1 then some (q_10.1, q_10.2) else none
        else
          (f_X8_skipBlanks a0 q_9.2).bind fun q_11 =>
          (f_X8_takeNumber a0 1 99 q_11).bind fun q_12 =>
          if q_12.1 = (-1 : Int32) then
            some (0, q_12.2)
          else
            (f_X8_skipBlanks a0 q_12.2).bind fun q_13 =>
            (f_X8_isWord a0 2 q_13).bind fun q_14 =>
            if q_14.1 = 0 then
              f_X8_readLink_143 a0 q_5.1 q_9.1 q_12.1 q_14.1 q_14.2
            else
              (f_X8_takeWord a0 2 q_14.2).bind fun q_15 =>
              f_X8_readLink_143 a0 q_5.1 q_9.1 q_12.1 q_14.1 q_15.2
  else
    (f_X8_foundFault a0 3 (gI h a0 2) h).bind fun q_16 =>
    if q_16.1 = 0 ∨ q_16.1 = 1 then some (q_16.1, q_16.2) else none
set_option maxRecDepth 100000 in
set_option maxHeartbeats 4000000 in
theorem v_X8_readLink_161 {l : Launch} {G : GE} {B N : Nat} {S : List SHP} {o : Int32 × MH} {a0 : Nat} {t0 : Nat} {t1 : Int32} {t2 : Int32} {t3 : Int32} {t4 : Int32}    (hs0 : S[a0]? = some (.inl 8)) (ht0 : S[t0]? = some (.inl 2)) {h : MH} (hf : f_X8_readLink_161 a0 t0 t1 t2 t3 t4 h = some o) : V l G B N mX8_readLink (rmm 11 0 0) false 0 0 (QI S o) S 0 0 161 [(0, .ref a0)] [.int t4, .int t3, .int t2, .int t1, .ref t0] h := by
  unfold f_X8_readLink_161 at hf
  refine V_cvI (pc' := 164) (As := [.int t1, .int t2, .int t3, .int t4]) (rest := []) dX8_readLink_161 rfl mok_X2_addLink bm_1153 2 (by decide) rfl ht0 rfl rfl (Nat.le_of_ble_eq_true rfl) (by decide) hf (fun q e => ct_X2_addLink ht0 e) (fun q_1 hf => ?_)
  refine V_pop (pc' := 165) dX8_readLink_164 rfl rfl ?_
  refine V_aload_n (pc' := 166) dX8_readLink_165 rfl 0 rfl rfl ?_
  refine V_bipush (v := 59) (pc' := 168) dX8_readLink_166 rfl (by decide) ?_
  refine V_cvI (pc' := 171) (As := [.int 59]) (rest := []) dX8_readLink_168 rfl mok_X8_takeSign bm_1139 8 (by decide) rfl hs0 rfl rfl (Nat.le_of_ble_eq_true rfl) (by decide) hf (fun q e => ct_X8_takeSign hs0 e) (fun q_2 hf => ?_)
  refine V_zret dX8_readLink_171 rfl rfl rfl hf (fun hf => ?_)
  obtain rfl := Option.some.inj hf
  exact ⟨rfl, rfl, rfl⟩
set_option maxRecDepth 100000 in
set_option maxHeartbeats 4000000 in
theorem v_X8_readLink_143 {l : Launch} {G : GE} {B N : Nat} {S : List SHP} {o : Int32 × MH} {a0 : Nat} {x1 : Int32} {x3 : Int32} {x4 : Int32} {x5 : Int32}    (hs0 : S[a0]? = some (.inl 8)) {h : MH} (hf : f_X8_readLink_143 a0 x1 x3 x4 x5 h = some o) : V l G B N mX8_readLink (rmm 11 0 0) false 0 0 (QI S o) S 0 0 143 [(0, .ref a0), (1, .int x1), (3, .int x3), (4, .int x4), (5, .int x5)] [] h := by
  unfold f_X8_readLink_143 at hf
  refine V_aload_n (pc' := 144) dX8_readLink_143 rfl 0 rfl rfl ?_
  refine V_getR (pc' := 147) 8 5 dX8_readLink_144 rfl (by decide) (Nat.le_of_ble_eq_true rfl) bm_326 hs0 (fun _ _ _ => rfl) rfl hf (fun a_1 ha_1 hf => ?_)
  refine V_iload_n (pc' := 148) dX8_readLink_147 rfl 1 rfl rfl ?_
  refine V_iload_n (pc' := 149) dX8_readLink_148 rfl 2 rfl rfl ?_
  refine V_iload (pc' := 151) dX8_readLink_149 rfl 3 rfl ?_
  refine V_iload (pc' := 153) dX8_readLink_151 rfl 4 rfl ?_
  refine V_if_ne (tgt := 160) (pc' := 156) dX8_readLink_153 (by decide) rfl hf (fun hf => ?_) (fun hf => ?_)
  ·
    refine V_iconst (v := 1) (pc' := 157) dX8_readLink_156 rfl (by decide) ?_
    refine V_goto (tgt := 161) dX8_readLink_157 (by decide) ?_
    exact V_sub (lv' := [(0, .ref a0)]) [0] rfl (v_X8_readLink_161 hs0 ha_1 hf)
  ·
    refine V_iconst (v := 0) (pc' := 161) dX8_readLink_160 rfl (by decide) ?_
    exact V_sub (lv' := [(0, .ref a0)]) [0] rfl (v_X8_readLink_161 hs0 ha_1 hf)
set_option maxRecDepth 100000 in
set_option maxHeartbeats 4000000 in
theorem v_X8_readLink {l : Launch} {G : GE} {B N : Nat} {S : List SHP} {o : Int32 × MH} {a0 : Nat}    (hs0 : S[a0]? = some (.inl 8)) {h : MH} (hf : f_X8_readLink a0 h = some o) : V l G B N mX8_readLink (rmm 11 0 0) false 0 0 (QI S o) S 0 0 0 [(0, .ref a0)] [] h := by
  unfold f_X8_readLink at hf
  refine V_aload_n (pc' := 1) dX8_readLink_0 rfl 0 rfl rfl ?_
  refine V_getR (pc' := 4) 8 5 dX8_readLink_1 rfl (by decide) (Nat.le_of_ble_eq_true rfl) bm_326 hs0 (fun _ _ _ => rfl) rfl hf (fun a_1 ha_1 hf => ?_)
  refine V_getI (pc' := 7) 2 1 dX8_readLink_4 rfl (by decide) (Nat.le_of_ble_eq_true rfl) bm_191 ha_1 (fun _ _ _ => rfl) ?_
  refine V_bipush (v := 30) (pc' := 9) dX8_readLink_7 rfl (by decide) ?_
  refine V_icmp_lt (tgt := 22) (pc' := 12) dX8_readLink_9 (by decide) rfl hf (fun hf => ?_) (fun hf => ?_)
  ·
    refine V_aload_n (pc' := 23) dX8_readLink_22 rfl 0 rfl rfl ?_
    refine V_ldcS (j := 1) (tx := "link") (pc' := 25) dX8_readLink_23 rfl (by decide) ?_
    refine V_cvI (pc' := 28) (As := [.retAddr 1]) (rest := []) dX8_readLink_25 rfl mok_X8_takeWord bm_1065 8 (by decide) rfl hs0 rfl rfl (Nat.le_of_ble_eq_true rfl) (by decide) hf (fun q e => ct_X8_takeWord hs0 e) (fun q_2 hf => ?_)
    refine V_pop (pc' := 29) dX8_readLink_28 rfl rfl ?_
    refine V_aload_n (pc' := 30) dX8_readLink_29 rfl 0 rfl rfl ?_
    refine V_cvV (pc' := 33) (As := []) (rest := []) dX8_readLink_30 rfl mok_X8_skipBlanks bm_1056 8 (by decide) rfl hs0 rfl rfl (Nat.le_of_ble_eq_true rfl) (by decide) hf (fun q e => ct_X8_skipBlanks hs0 e) (fun q_3 hf => ?_)
    refine V_aload_n (pc' := 34) dX8_readLink_33 rfl 0 rfl rfl ?_
    refine V_iconst (v := 0) (pc' := 35) dX8_readLink_34 rfl (by decide) ?_
    refine V_aload_n (pc' := 36) dX8_readLink_35 rfl 0 rfl rfl ?_
    refine V_getR (pc' := 39) 8 5 dX8_readLink_36 rfl (by decide) (Nat.le_of_ble_eq_true rfl) bm_326 hs0 (fun _ _ _ => rfl) rfl hf (fun a_4 ha_4 hf => ?_)
    refine V_getI (pc' := 42) 2 0 dX8_readLink_39 rfl (by decide) (Nat.le_of_ble_eq_true rfl) bm_185 ha_4 (fun _ _ _ => rfl) ?_
    refine V_iconst (v := 1) (pc' := 43) dX8_readLink_42 rfl (by decide) ?_
    refine V_isub (pc' := 44) dX8_readLink_43 rfl ?_
    refine V_cvI (pc' := 47) (As := [.int 0, .int ((gI q_3 a_4 0) - 1)]) (rest := []) dX8_readLink_44 rfl mok_X8_takeNumber bm_1129 8 (by decide) rfl hs0 rfl rfl (Nat.le_of_ble_eq_true rfl) (by decide) hf (fun q e => ct_X8_takeNumber hs0 e) (fun q_5 hf => ?_)
    refine V_istore_n (lv' := [(1, .int q_5.1), (0, .ref a0)]) (pc' := 48) dX8_readLink_47 rfl rfl (Nat.le_of_ble_eq_true rfl) rfl ?_
    refine V_iload_n (pc' := 49) dX8_readLink_48 rfl 0 rfl rfl ?_
    refine V_iconst (v := (-1)) (pc' := 50) dX8_readLink_49 rfl (by decide) ?_
    refine V_icmp_ne (tgt := 55) (pc' := 53) dX8_readLink_50 (by decide) rfl hf (fun hf => ?_) (fun hf => ?_)
    ·
      refine V_iconst (v := 0) (pc' := 54) dX8_readLink_53 rfl (by decide) ?_
      obtain rfl := Option.some.inj hf
      exact V_zretL dX8_readLink_54 rfl rfl rfl (by decide) ⟨rfl, rfl, rfl⟩
    ·
      refine V_aload_n (pc' := 56) dX8_readLink_55 rfl 1 rfl rfl ?_
      refine V_cvV (pc' := 59) (As := []) (rest := []) dX8_readLink_56 rfl mok_X8_skipBlanks bm_1056 8 (by decide) rfl hs0 rfl rfl (Nat.le_of_ble_eq_true rfl) (by decide) hf (fun q e => ct_X8_skipBlanks hs0 e) (fun q_6 hf => ?_)
      refine V_aload_n (pc' := 60) dX8_readLink_59 rfl 1 rfl rfl ?_
      refine V_getI (pc' := 63) 8 2 dX8_readLink_60 rfl (by decide) (Nat.le_of_ble_eq_true rfl) bm_321 hs0 (fun _ _ _ => rfl) ?_
      refine V_nmI hf (fun x_7 hf => ?_)
      refine V_istore_n (lv' := [(2, .int x_7), (1, .int q_5.1), (0, .ref a0)]) (pc' := 64) dX8_readLink_63 rfl rfl (Nat.le_of_ble_eq_true rfl) rfl ?_
      refine V_aload_n (pc' := 65) dX8_readLink_64 rfl 2 rfl rfl ?_
      refine V_iconst (v := 0) (pc' := 66) dX8_readLink_65 rfl (by decide) ?_
      refine V_aload_n (pc' := 67) dX8_readLink_66 rfl 2 rfl rfl ?_
      refine V_getR (pc' := 70) 8 5 dX8_readLink_67 rfl (by decide) (Nat.le_of_ble_eq_true rfl) bm_326 hs0 (fun _ _ _ => rfl) rfl hf (fun a_8 ha_8 hf => ?_)
      refine V_getI (pc' := 73) 2 0 dX8_readLink_70 rfl (by decide) (Nat.le_of_ble_eq_true rfl) bm_185 ha_8 (fun _ _ _ => rfl) ?_
      refine V_iconst (v := 1) (pc' := 74) dX8_readLink_73 rfl (by decide) ?_
      refine V_isub (pc' := 75) dX8_readLink_74 rfl ?_
      refine V_cvI (pc' := 78) (As := [.int 0, .int ((gI q_6 a_8 0) - 1)]) (rest := []) dX8_readLink_75 rfl mok_X8_takeNumber bm_1129 8 (by decide) rfl hs0 rfl rfl (Nat.le_of_ble_eq_true rfl) (by decide) hf (fun q e => ct_X8_takeNumber hs0 e) (fun q_9 hf => ?_)
      refine V_istore_n (lv' := [(3, .int q_9.1), (2, .int x_7), (1, .int q_5.1), (0, .ref a0)]) (pc' := 79) dX8_readLink_78 rfl rfl (Nat.le_of_ble_eq_true rfl) rfl ?_
      refine V_iload_n (pc' := 80) dX8_readLink_79 rfl 0 rfl rfl ?_
      refine V_iconst (v := (-1)) (pc' := 81) dX8_readLink_80 rfl (by decide) ?_
      refine V_icmp_ne (tgt := 86) (pc' := 84) dX8_readLink_81 (by decide) rfl hf (fun hf => ?_) (fun hf => ?_)
      ·
        refine V_iconst (v := 0) (pc' := 85) dX8_readLink_84 rfl (by decide) ?_
        obtain rfl := Option.some.inj hf
        exact V_zretL dX8_readLink_85 rfl rfl rfl (by decide) ⟨rfl, rfl, rfl⟩
      ·
        refine V_iload_n (pc' := 87) dX8_readLink_86 rfl 0 rfl rfl ?_
        refine V_iload_n (pc' := 88) dX8_readLink_87 rfl 2 rfl rfl ?_
        refine V_icmp_ne (tgt := 98) (pc' := 91) dX8_readLink_88 (by decide) rfl hf (fun hf => ?_) (fun hf => ?_)
        ·
          refine V_aload_n (pc' := 92) dX8_readLink_91 rfl 3 rfl rfl ?_
          refine V_iconst (v := 2) (pc' := 93) dX8_readLink_92 rfl (by decide) ?_
          refine V_iload_n (pc' := 94) dX8_readLink_93 rfl 1 rfl rfl ?_
          refine V_cvI (pc' := 97) (As := [.int 2, .int x_7]) (rest := []) dX8_readLink_94 rfl mok_X8_foundFault bm_1125 8 (by decide) rfl hs0 rfl rfl (Nat.le_of_ble_eq_true rfl) (by decide) hf (fun q e => ct_X8_foundFault hs0 e) (fun q_10 hf => ?_)
          refine V_zret dX8_readLink_97 rfl rfl rfl hf (fun hf => ?_)
          obtain rfl := Option.some.inj hf
          exact ⟨rfl, rfl, rfl⟩
        ·
          refine V_aload_n (pc' := 99) dX8_readLink_98 rfl 3 rfl rfl ?_
          refine V_cvV (pc' := 102) (As := []) (rest := []) dX8_readLink_99 rfl mok_X8_skipBlanks bm_1056 8 (by decide) rfl hs0 rfl rfl (Nat.le_of_ble_eq_true rfl) (by decide) hf (fun q e => ct_X8_skipBlanks hs0 e) (fun q_11 hf => ?_)
          refine V_aload_n (pc' := 103) dX8_readLink_102 rfl 3 rfl rfl ?_
          refine V_iconst (v := 1) (pc' := 104) dX8_readLink_103 rfl (by decide) ?_
          refine V_bipush (v := 99) (pc' := 106) dX8_readLink_104 rfl (by decide) ?_
          refine V_cvI (pc' := 109) (As := [.int 1, .int 99]) (rest := []) dX8_readLink_106 rfl mok_X8_takeNumber bm_1129 8 (by decide) rfl hs0 rfl rfl (Nat.le_of_ble_eq_true rfl) (by decide) hf (fun q e => ct_X8_takeNumber hs0 e) (fun q_12 hf => ?_)
          refine V_istore (lv' := [(4, .int q_12.1), (3, .int q_9.1), (2, .int x_7), (1, .int q_5.1), (0, .ref a0)]) (pc' := 111) dX8_readLink_109 rfl (Nat.le_of_ble_eq_true rfl) rfl ?_
          refine V_iload (pc' := 113) dX8_readLink_111 rfl 0 rfl ?_
          refine V_iconst (v := (-1)) (pc' := 114) dX8_readLink_113 rfl (by decide) ?_
          refine V_icmp_ne (tgt := 119) (pc' := 117) dX8_readLink_114 (by decide) rfl hf (fun hf => ?_) (fun hf => ?_)
          ·
            refine V_iconst (v := 0) (pc' := 118) dX8_readLink_117 rfl (by decide) ?_
            obtain rfl := Option.some.inj hf
            exact V_zretL dX8_readLink_118 rfl rfl rfl (by decide) ⟨rfl, rfl, rfl⟩
          ·
            refine V_aload_n (pc' := 120) dX8_readLink_119 rfl 4 rfl rfl ?_
            refine V_cvV (pc' := 123) (As := []) (rest := []) dX8_readLink_120 rfl mok_X8_skipBlanks bm_1056 8 (by decide) rfl hs0 rfl rfl (Nat.le_of_ble_eq_true rfl) (by decide) hf (fun q e => ct_X8_skipBlanks hs0 e) (fun q_13 hf => ?_)
            refine V_aload_n (pc' := 124) dX8_readLink_123 rfl 4 rfl rfl ?_
            refine V_ldcS (j := 2) (tx := "down") (pc' := 126) dX8_readLink_124 rfl (by decide) ?_
            refine V_cvI (pc' := 129) (As := [.retAddr 2]) (rest := []) dX8_readLink_126 rfl mok_X8_isWord bm_1069 8 (by decide) rfl hs0 rfl rfl (Nat.le_of_ble_eq_true rfl) (by decide) hf (fun q e => ct_X8_isWord hs0 e) (fun q_14 hf => ?_)
            refine V_istore (lv' := [(5, .int q_14.1), (4, .int q_12.1), (3, .int q_9.1), (2, .int x_7), (1, .int q_5.1), (0, .ref a0)]) (pc' := 131) dX8_readLink_129 rfl (Nat.le_of_ble_eq_true rfl) rfl ?_
            refine V_iload (pc' := 133) dX8_readLink_131 rfl 0 rfl ?_
            refine V_if_eq (tgt := 143) (pc' := 136) dX8_readLink_133 (by decide) rfl hf (fun hf => ?_) (fun hf => ?_)
            ·
              exact V_sub (lv' := [(0, .ref a0), (1, .int q_5.1), (3, .int q_9.1), (4, .int q_12.1), (5, .int q_14.1)]) [5, 4, 2, 1, 0] rfl (v_X8_readLink_143 hs0 hf)
            ·
              refine V_aload_n (pc' := 137) dX8_readLink_136 rfl 5 rfl rfl ?_
              refine V_ldcS (j := 2) (tx := "down") (pc' := 139) dX8_readLink_137 rfl (by decide) ?_
              refine V_cvI (pc' := 142) (As := [.retAddr 2]) (rest := []) dX8_readLink_139 rfl mok_X8_takeWord bm_1065 8 (by decide) rfl hs0 rfl rfl (Nat.le_of_ble_eq_true rfl) (by decide) hf (fun q e => ct_X8_takeWord hs0 e) (fun q_15 hf => ?_)
              refine V_pop (pc' := 143) dX8_readLink_142 rfl rfl ?_
              exact V_sub (lv' := [(0, .ref a0), (1, .int q_5.1), (3, .int q_9.1), (4, .int q_12.1), (5, .int q_14.1)]) [5, 4, 2, 1, 0] rfl (v_X8_readLink_143 hs0 hf)
  ·
    refine V_aload_n (pc' := 13) dX8_readLink_12 rfl 0 rfl rfl ?_
    refine V_iconst (v := 3) (pc' := 14) dX8_readLink_13 rfl (by decide) ?_
    refine V_aload_n (pc' := 15) dX8_readLink_14 rfl 0 rfl rfl ?_
    refine V_getI (pc' := 18) 8 2 dX8_readLink_15 rfl (by decide) (Nat.le_of_ble_eq_true rfl) bm_321 hs0 (fun _ _ _ => rfl) ?_
    refine V_cvI (pc' := 21) (As := [.int 3, .int (gI h a0 2)]) (rest := []) dX8_readLink_18 rfl mok_X8_foundFault bm_1125 8 (by decide) rfl hs0 rfl rfl (Nat.le_of_ble_eq_true rfl) (by decide) hf (fun q e => ct_X8_foundFault hs0 e) (fun q_16 hf => ?_)
    refine V_zret dX8_readLink_21 rfl rfl rfl hf (fun hf => ?_)
    obtain rfl := Option.some.inj hf
    exact ⟨rfl, rfl, rfl⟩
theorem ct_X8_readLink {l : Launch} {S : List SHP} {h : MH} {a0 : Nat} (hs0 : S[a0]? = some (.inl 8)) {q : Int32 × MH} (hf : f_X8_readLink a0 h = some q) : CT l mX8_readLink 11 false 0 0 S [.ref a0] h (QI S q) :=
  CT_ofV (by decide) rfl (Nat.le_of_ble_eq_true rfl) (fun G B hT => v_X8_readLink hs0 hf)
/-! LabelStacks$Tape.readOneLabel(II)Z -/
theorem dX8_readOneLabel_0 : decode cX8_readOneLabel 0 = .ok (.aload_n 0, 1) := by decide +kernel
theorem dX8_readOneLabel_1 : decode cX8_readOneLabel 1 = .ok (.ldc 109, 2) := by decide +kernel
theorem dX8_readOneLabel_3 : decode cX8_readOneLabel 3 = .ok (.invokevirtual 65, 3) := by decide +kernel
theorem dX8_readOneLabel_6 : decode cX8_readOneLabel 6 = .ok (.istore_n 3, 1) := by decide +kernel
theorem dX8_readOneLabel_7 : decode cX8_readOneLabel 7 = .ok (.iload_n 3, 1) := by decide +kernel
theorem dX8_readOneLabel_8 : decode cX8_readOneLabel 8 = .ok (.ifCond .ne 22, 3) := by decide +kernel
theorem dX8_readOneLabel_11 : decode cX8_readOneLabel 11 = .ok (.aload_n 0, 1) := by decide +kernel
theorem dX8_readOneLabel_12 : decode cX8_readOneLabel 12 = .ok (.ldc 111, 2) := by decide +kernel
theorem dX8_readOneLabel_14 : decode cX8_readOneLabel 14 = .ok (.invokevirtual 65, 3) := by decide +kernel
theorem dX8_readOneLabel_17 : decode cX8_readOneLabel 17 = .ok (.ifCond .ne 13, 3) := by decide +kernel
theorem dX8_readOneLabel_20 : decode cX8_readOneLabel 20 = .ok (.aload_n 0, 1) := by decide +kernel
theorem dX8_readOneLabel_21 : decode cX8_readOneLabel 21 = .ok (.iconst 1, 1) := by decide +kernel
theorem dX8_readOneLabel_22 : decode cX8_readOneLabel 22 = .ok (.aload_n 0, 1) := by decide +kernel
theorem dX8_readOneLabel_23 : decode cX8_readOneLabel 23 = .ok (.getfield 29, 3) := by decide +kernel
theorem dX8_readOneLabel_26 : decode cX8_readOneLabel 26 = .ok (.invokevirtual 76, 3) := by decide +kernel
theorem dX8_readOneLabel_29 : decode cX8_readOneLabel 29 = .ok (.ireturn, 1) := by decide +kernel
theorem dX8_readOneLabel_30 : decode cX8_readOneLabel 30 = .ok (.iload_n 2, 1) := by decide +kernel
theorem dX8_readOneLabel_31 : decode cX8_readOneLabel 31 = .ok (.bipush 6, 2) := by decide +kernel
theorem dX8_readOneLabel_33 : decode cX8_readOneLabel 33 = .ok (.if_icmp .lt 13, 3) := by decide +kernel
theorem dX8_readOneLabel_36 : decode cX8_readOneLabel 36 = .ok (.aload_n 0, 1) := by decide +kernel
theorem dX8_readOneLabel_37 : decode cX8_readOneLabel 37 = .ok (.iconst 4, 1) := by decide +kernel
theorem dX8_readOneLabel_38 : decode cX8_readOneLabel 38 = .ok (.aload_n 0, 1) := by decide +kernel
theorem dX8_readOneLabel_39 : decode cX8_readOneLabel 39 = .ok (.getfield 29, 3) := by decide +kernel
theorem dX8_readOneLabel_42 : decode cX8_readOneLabel 42 = .ok (.invokevirtual 76, 3) := by decide +kernel
theorem dX8_readOneLabel_45 : decode cX8_readOneLabel 45 = .ok (.ireturn, 1) := by decide +kernel
theorem dX8_readOneLabel_46 : decode cX8_readOneLabel 46 = .ok (.aload_n 0, 1) := by decide +kernel
theorem dX8_readOneLabel_47 : decode cX8_readOneLabel 47 = .ok (.dup, 1) := by decide +kernel
theorem dX8_readOneLabel_48 : decode cX8_readOneLabel 48 = .ok (.getfield 29, 3) := by decide +kernel
theorem dX8_readOneLabel_51 : decode cX8_readOneLabel 51 = .ok (.iconst 1, 1) := by decide +kernel
theorem dX8_readOneLabel_52 : decode cX8_readOneLabel 52 = .ok (.iadd, 1) := by decide +kernel
theorem dX8_readOneLabel_53 : decode cX8_readOneLabel 53 = .ok (.putfield 29, 3) := by decide +kernel
theorem dX8_readOneLabel_56 : decode cX8_readOneLabel 56 = .ok (.aload_n 0, 1) := by decide +kernel
theorem dX8_readOneLabel_57 : decode cX8_readOneLabel 57 = .ok (.iconst 0, 1) := by decide +kernel
theorem dX8_readOneLabel_58 : decode cX8_readOneLabel 58 = .ok (.iload_n 3, 1) := by decide +kernel
theorem dX8_readOneLabel_59 : decode cX8_readOneLabel 59 = .ok (.ifCond .eq 8, 3) := by decide +kernel
theorem dX8_readOneLabel_62 : decode cX8_readOneLabel 62 = .ok (.bipush 9, 2) := by decide +kernel
theorem dX8_readOneLabel_64 : decode cX8_readOneLabel 64 = .ok (.goto 5, 3) := by decide +kernel
theorem dX8_readOneLabel_67 : decode cX8_readOneLabel 67 = .ok (.bipush 29, 2) := by decide +kernel
theorem dX8_readOneLabel_69 : decode cX8_readOneLabel 69 = .ok (.invokevirtual 51, 3) := by decide +kernel
theorem dX8_readOneLabel_72 : decode cX8_readOneLabel 72 = .ok (.istore 4, 2) := by decide +kernel
theorem dX8_readOneLabel_74 : decode cX8_readOneLabel 74 = .ok (.iload 4, 2) := by decide +kernel
theorem dX8_readOneLabel_76 : decode cX8_readOneLabel 76 = .ok (.iconst (-1), 1) := by decide +kernel
theorem dX8_readOneLabel_77 : decode cX8_readOneLabel 77 = .ok (.if_icmp .ne 5, 3) := by decide +kernel
theorem dX8_readOneLabel_80 : decode cX8_readOneLabel 80 = .ok (.iconst 0, 1) := by decide +kernel
theorem dX8_readOneLabel_81 : decode cX8_readOneLabel 81 = .ok (.ireturn, 1) := by decide +kernel
theorem dX8_readOneLabel_82 : decode cX8_readOneLabel 82 = .ok (.aload_n 0, 1) := by decide +kernel
theorem dX8_readOneLabel_83 : decode cX8_readOneLabel 83 = .ok (.getfield 22, 3) := by decide +kernel
theorem dX8_readOneLabel_86 : decode cX8_readOneLabel 86 = .ok (.getfield 113, 3) := by decide +kernel
theorem dX8_readOneLabel_89 : decode cX8_readOneLabel 89 = .ok (.iload_n 1, 1) := by decide +kernel
theorem dX8_readOneLabel_90 : decode cX8_readOneLabel 90 = .ok (.iload_n 3, 1) := by decide +kernel
theorem dX8_readOneLabel_91 : decode cX8_readOneLabel 91 = .ok (.ifCond .eq 8, 3) := by decide +kernel
theorem dX8_readOneLabel_94 : decode cX8_readOneLabel 94 = .ok (.iload 4, 2) := by decide +kernel
theorem dX8_readOneLabel_96 : decode cX8_readOneLabel 96 = .ok (.goto 8, 3) := by decide +kernel
theorem dX8_readOneLabel_99 : decode cX8_readOneLabel 99 = .ok (.bipush 100, 2) := by decide +kernel
theorem dX8_readOneLabel_101 : decode cX8_readOneLabel 101 = .ok (.iload 4, 2) := by decide +kernel
theorem dX8_readOneLabel_103 : decode cX8_readOneLabel 103 = .ok (.iadd, 1) := by decide +kernel
theorem dX8_readOneLabel_104 : decode cX8_readOneLabel 104 = .ok (.invokevirtual 117, 3) := by decide +kernel
theorem dX8_readOneLabel_107 : decode cX8_readOneLabel 107 = .ok (.iconst 1, 1) := by decide +kernel
theorem dX8_readOneLabel_108 : decode cX8_readOneLabel 108 = .ok (.ireturn, 1) := by decide +kernel
abbrev mX8_readOneLabel : MI := (RX8, yX8_readOneLabel, cX8_readOneLabel, 5, (some .boolean))
theorem mok_X8_readOneLabel : MOKv mX8_readOneLabel 2 := ⟨⟨bm_1167, bm_122, ⟨by decide, by decide⟩, by decide +kernel⟩, bm_1166, bm_41⟩
def f_X8_readOneLabel_104   (t0 : Nat) (t1 : Int32) (t2 : Int32) (h : MH) : Option (Int32 × MH) :=
  (f_X6_add t0 t1 t2 h).bind fun q_1 =>
  some (1, q_1)
def f_X8_readOneLabel_69   (a0 : Nat) (x1 : Int32) (x3 : Int32) (t0 : Nat) (t1 : Int32) (t2 : Int32) (h : MH) : Option (Int32 × MH) :=
  (f_X8_takeNumber t0 t1 t2 h).bind fun q_1 =>
  if q_1.1 = (-1 : Int32) then
    some (0, q_1.2)
  else
    (gR q_1.2 a0 5).bind fun a_2 =>
    (gR q_1.2 a_2 7).bind fun a_3 =>
    if x3 = 0 then
      f_X8_readOneLabel_104 a_3 x1 (100 + q_1.1) q_1.2
    else
      f_X8_readOneLabel_104 a_3 x1 q_1.1 q_1.2
def f_X8_readOneLabel_30   (a0 : Nat) (x1 : Int32) (x2 : Int32) (x3 : Int32) (h : MH) : Option (Int32 × MH) :=
  if x2 < 6 then
    lt (sI h a0 2 ((gI h a0 2) + 1)) fun h_1 =>
    if x3 = 0 then
      f_X8_readOneLabel_69 a0 x1 x3 a0 0 29 h_1
    else
      f_X8_readOneLabel_69 a0 x1 x3 a0 0 9 h_1
  else
    (f_X8_foundFault a0 4 (gI h a0 2) h).bind fun q_2 =>
    if q_2.1 = 0 ∨ q_2.1 = 1 then some (q_2.1, q_2.2) else none
def f_X8_readOneLabel   (a0 : Nat) (x1 : Int32) (x2 : Int32) (h : MH) : Option (Int32 × MH) :=
  (f_X8_isWord a0 5 h).bind fun q_1 =>
  if q_1.1 = 0 then
    (f_X8_isWord a0 6 q_1.2).bind fun q_2 =>
    if q_2.1 = 0 then
      (f_X8_foundFault a0 1 (gI q_2.2 a0 2) q_2.2).bind fun q_3 =>
      if q_3.1 = 0 ∨ q_3.1 = 1 then some (q_3.1, q_3.2) else none
    else
      f_X8_readOneLabel_30 a0 x1 x2 q_1.1 q_2.2
  else
    f_X8_readOneLabel_30 a0 x1 x2 q_1.1 q_1.2
set_option maxRecDepth 100000 in
set_option maxHeartbeats 4000000 in
theorem v_X8_readOneLabel_104 {l : Launch} {G : GE} {B N : Nat} {S : List SHP} {o : Int32 × MH} {t0 : Nat} {t1 : Int32} {t2 : Int32}    (ht0 : S[t0]? = some (.inl 6)) {h : MH} (hf : f_X8_readOneLabel_104 t0 t1 t2 h = some o) : V l G B N mX8_readOneLabel (rmm 10 0 0) false 0 0 (QI S o) S 0 0 104 [] [.int t2, .int t1, .ref t0] h := by
  unfold f_X8_readOneLabel_104 at hf
  refine V_cvV (pc' := 107) (As := [.int t1, .int t2]) (rest := []) dX8_readOneLabel_104 rfl mok_X6_add bm_1170 6 (by decide) rfl ht0 rfl rfl (Nat.le_of_ble_eq_true rfl) (by decide) hf (fun q e => ct_X6_add ht0 e) (fun q_1 hf => ?_)
  refine V_iconst (v := 1) (pc' := 108) dX8_readOneLabel_107 rfl (by decide) ?_
  obtain rfl := Option.some.inj hf
  exact V_zretL dX8_readOneLabel_108 rfl rfl rfl (by decide) ⟨rfl, rfl, rfl⟩
set_option maxRecDepth 100000 in
set_option maxHeartbeats 4000000 in
theorem v_X8_readOneLabel_69 {l : Launch} {G : GE} {B N : Nat} {S : List SHP} {o : Int32 × MH} {a0 : Nat} {x1 : Int32} {x3 : Int32} {t0 : Nat} {t1 : Int32} {t2 : Int32}    (hs0 : S[a0]? = some (.inl 8)) (ht0 : S[t0]? = some (.inl 8)) {h : MH} (hf : f_X8_readOneLabel_69 a0 x1 x3 t0 t1 t2 h = some o) : V l G B N mX8_readOneLabel (rmm 10 0 0) false 0 0 (QI S o) S 0 0 69 [(0, .ref a0), (1, .int x1), (3, .int x3)] [.int t2, .int t1, .ref t0] h := by
  unfold f_X8_readOneLabel_69 at hf
  refine V_cvI (pc' := 72) (As := [.int t1, .int t2]) (rest := []) dX8_readOneLabel_69 rfl mok_X8_takeNumber bm_1129 8 (by decide) rfl ht0 rfl rfl (Nat.le_of_ble_eq_true rfl) (by decide) hf (fun q e => ct_X8_takeNumber ht0 e) (fun q_1 hf => ?_)
  refine V_istore (lv' := [(4, .int q_1.1), (0, .ref a0), (1, .int x1), (3, .int x3)]) (pc' := 74) dX8_readOneLabel_72 rfl (Nat.le_of_ble_eq_true rfl) rfl ?_
  refine V_iload (pc' := 76) dX8_readOneLabel_74 rfl 0 rfl ?_
  refine V_iconst (v := (-1)) (pc' := 77) dX8_readOneLabel_76 rfl (by decide) ?_
  refine V_icmp_ne (tgt := 82) (pc' := 80) dX8_readOneLabel_77 (by decide) rfl hf (fun hf => ?_) (fun hf => ?_)
  ·
    refine V_iconst (v := 0) (pc' := 81) dX8_readOneLabel_80 rfl (by decide) ?_
    obtain rfl := Option.some.inj hf
    exact V_zretL dX8_readOneLabel_81 rfl rfl rfl (by decide) ⟨rfl, rfl, rfl⟩
  ·
    refine V_aload_n (pc' := 83) dX8_readOneLabel_82 rfl 1 rfl rfl ?_
    refine V_getR (pc' := 86) 8 5 dX8_readOneLabel_83 rfl (by decide) (Nat.le_of_ble_eq_true rfl) bm_326 hs0 (fun _ _ _ => rfl) rfl hf (fun a_2 ha_2 hf => ?_)
    refine V_getR (pc' := 89) 2 7 dX8_readOneLabel_86 rfl (by decide) (Nat.le_of_ble_eq_true rfl) bm_219 ha_2 (fun _ _ _ => rfl) rfl hf (fun a_3 ha_3 hf => ?_)
    refine V_iload_n (pc' := 90) dX8_readOneLabel_89 rfl 2 rfl rfl ?_
    refine V_iload_n (pc' := 91) dX8_readOneLabel_90 rfl 3 rfl rfl ?_
    refine V_if_eq (tgt := 99) (pc' := 94) dX8_readOneLabel_91 (by decide) rfl hf (fun hf => ?_) (fun hf => ?_)
    ·
      refine V_bipush (v := 100) (pc' := 101) dX8_readOneLabel_99 rfl (by decide) ?_
      refine V_iload (pc' := 103) dX8_readOneLabel_101 rfl 0 rfl ?_
      refine V_iadd (pc' := 104) dX8_readOneLabel_103 rfl ?_
      exact V_sub (lv' := []) [] rfl (v_X8_readOneLabel_104 ha_3 hf)
    ·
      refine V_iload (pc' := 96) dX8_readOneLabel_94 rfl 0 rfl ?_
      refine V_goto (tgt := 104) dX8_readOneLabel_96 (by decide) ?_
      exact V_sub (lv' := []) [] rfl (v_X8_readOneLabel_104 ha_3 hf)
set_option maxRecDepth 100000 in
set_option maxHeartbeats 4000000 in
theorem v_X8_readOneLabel_30 {l : Launch} {G : GE} {B N : Nat} {S : List SHP} {o : Int32 × MH} {a0 : Nat} {x1 : Int32} {x2 : Int32} {x3 : Int32}    (hs0 : S[a0]? = some (.inl 8)) {h : MH} (hf : f_X8_readOneLabel_30 a0 x1 x2 x3 h = some o) : V l G B N mX8_readOneLabel (rmm 10 0 0) false 0 0 (QI S o) S 0 0 30 [(0, .ref a0), (1, .int x1), (2, .int x2), (3, .int x3)] [] h := by
  unfold f_X8_readOneLabel_30 at hf
  refine V_iload_n (pc' := 31) dX8_readOneLabel_30 rfl 2 rfl rfl ?_
  refine V_bipush (v := 6) (pc' := 33) dX8_readOneLabel_31 rfl (by decide) ?_
  refine V_icmp_lt (tgt := 46) (pc' := 36) dX8_readOneLabel_33 (by decide) rfl hf (fun hf => ?_) (fun hf => ?_)
  ·
    refine V_aload_n (pc' := 47) dX8_readOneLabel_46 rfl 0 rfl rfl ?_
    refine V_dup (pc' := 48) dX8_readOneLabel_47 rfl rfl ?_
    refine V_getI (pc' := 51) 8 2 dX8_readOneLabel_48 rfl (by decide) (Nat.le_of_ble_eq_true rfl) bm_321 hs0 (fun _ _ _ => rfl) ?_
    refine V_iconst (v := 1) (pc' := 52) dX8_readOneLabel_51 rfl (by decide) ?_
    refine V_iadd (pc' := 53) dX8_readOneLabel_52 rfl ?_
    refine V_putI (pc' := 56) 8 2 dX8_readOneLabel_53 rfl (by decide) (Nat.le_of_ble_eq_true rfl) bm_321 hs0 (Or.inl rfl) rfl ?_
    refine V_nmH hf (fun h_1 hf => ?_)
    refine V_aload_n (pc' := 57) dX8_readOneLabel_56 rfl 0 rfl rfl ?_
    refine V_iconst (v := 0) (pc' := 58) dX8_readOneLabel_57 rfl (by decide) ?_
    refine V_iload_n (pc' := 59) dX8_readOneLabel_58 rfl 3 rfl rfl ?_
    refine V_if_eq (tgt := 67) (pc' := 62) dX8_readOneLabel_59 (by decide) rfl hf (fun hf => ?_) (fun hf => ?_)
    ·
      refine V_bipush (v := 29) (pc' := 69) dX8_readOneLabel_67 rfl (by decide) ?_
      exact V_sub (lv' := [(0, .ref a0), (1, .int x1), (3, .int x3)]) [0, 1, 3] rfl (v_X8_readOneLabel_69 hs0 hs0 hf)
    ·
      refine V_bipush (v := 9) (pc' := 64) dX8_readOneLabel_62 rfl (by decide) ?_
      refine V_goto (tgt := 69) dX8_readOneLabel_64 (by decide) ?_
      exact V_sub (lv' := [(0, .ref a0), (1, .int x1), (3, .int x3)]) [0, 1, 3] rfl (v_X8_readOneLabel_69 hs0 hs0 hf)
  ·
    refine V_aload_n (pc' := 37) dX8_readOneLabel_36 rfl 0 rfl rfl ?_
    refine V_iconst (v := 4) (pc' := 38) dX8_readOneLabel_37 rfl (by decide) ?_
    refine V_aload_n (pc' := 39) dX8_readOneLabel_38 rfl 0 rfl rfl ?_
    refine V_getI (pc' := 42) 8 2 dX8_readOneLabel_39 rfl (by decide) (Nat.le_of_ble_eq_true rfl) bm_321 hs0 (fun _ _ _ => rfl) ?_
    refine V_cvI (pc' := 45) (As := [.int 4, .int (gI h a0 2)]) (rest := []) dX8_readOneLabel_42 rfl mok_X8_foundFault bm_1125 8 (by decide) rfl hs0 rfl rfl (Nat.le_of_ble_eq_true rfl) (by decide) hf (fun q e => ct_X8_foundFault hs0 e) (fun q_2 hf => ?_)
    refine V_zret dX8_readOneLabel_45 rfl rfl rfl hf (fun hf => ?_)
    obtain rfl := Option.some.inj hf
    exact ⟨rfl, rfl, rfl⟩
set_option maxRecDepth 100000 in
set_option maxHeartbeats 4000000 in
theorem v_X8_readOneLabel {l : Launch} {G : GE} {B N : Nat} {S : List SHP} {o : Int32 × MH} {a0 : Nat} {x1 : Int32} {x2 : Int32}    (hs0 : S[a0]? = some (.inl 8)) {h : MH} (hf : f_X8_readOneLabel a0 x1 x2 h = some o) : V l G B N mX8_readOneLabel (rmm 10 0 0) false 0 0 (QI S o) S 0 0 0 [(0, .ref a0), (1, .int x1), (2, .int x2)] [] h := by
  unfold f_X8_readOneLabel at hf
  refine V_aload_n (pc' := 1) dX8_readOneLabel_0 rfl 0 rfl rfl ?_
  refine V_ldcS (j := 5) (tx := "n") (pc' := 3) dX8_readOneLabel_1 rfl (by decide) ?_
  refine V_cvI (pc' := 6) (As := [.retAddr 5]) (rest := []) dX8_readOneLabel_3 rfl mok_X8_isWord bm_1069 8 (by decide) rfl hs0 rfl rfl (Nat.le_of_ble_eq_true rfl) (by decide) hf (fun q e => ct_X8_isWord hs0 e) (fun q_1 hf => ?_)
  refine V_istore_n (lv' := [(3, .int q_1.1), (0, .ref a0), (1, .int x1), (2, .int x2)]) (pc' := 7) dX8_readOneLabel_6 rfl rfl (Nat.le_of_ble_eq_true rfl) rfl ?_
  refine V_iload_n (pc' := 8) dX8_readOneLabel_7 rfl 0 rfl rfl ?_
  refine V_if_ne (tgt := 30) (pc' := 11) dX8_readOneLabel_8 (by decide) rfl hf (fun hf => ?_) (fun hf => ?_)
  ·
    refine V_aload_n (pc' := 12) dX8_readOneLabel_11 rfl 1 rfl rfl ?_
    refine V_ldcS (j := 6) (tx := "l") (pc' := 14) dX8_readOneLabel_12 rfl (by decide) ?_
    refine V_cvI (pc' := 17) (As := [.retAddr 6]) (rest := []) dX8_readOneLabel_14 rfl mok_X8_isWord bm_1069 8 (by decide) rfl hs0 rfl rfl (Nat.le_of_ble_eq_true rfl) (by decide) hf (fun q e => ct_X8_isWord hs0 e) (fun q_2 hf => ?_)
    refine V_if_ne (tgt := 30) (pc' := 20) dX8_readOneLabel_17 (by decide) rfl hf (fun hf => ?_) (fun hf => ?_)
    ·
      refine V_aload_n (pc' := 21) dX8_readOneLabel_20 rfl 1 rfl rfl ?_
      refine V_iconst (v := 1) (pc' := 22) dX8_readOneLabel_21 rfl (by decide) ?_
      refine V_aload_n (pc' := 23) dX8_readOneLabel_22 rfl 1 rfl rfl ?_
      refine V_getI (pc' := 26) 8 2 dX8_readOneLabel_23 rfl (by decide) (Nat.le_of_ble_eq_true rfl) bm_321 hs0 (fun _ _ _ => rfl) ?_
      refine V_cvI (pc' := 29) (As := [.int 1, .int (gI q_2.2 a0 2)]) (rest := []) dX8_readOneLabel_26 rfl mok_X8_foundFault bm_1125 8 (by decide) rfl hs0 rfl rfl (Nat.le_of_ble_eq_true rfl) (by decide) hf (fun q e => ct_X8_foundFault hs0 e) (fun q_3 hf => ?_)
      refine V_zret dX8_readOneLabel_29 rfl rfl rfl hf (fun hf => ?_)
      obtain rfl := Option.some.inj hf
      exact ⟨rfl, rfl, rfl⟩
    ·
      exact V_sub (lv' := [(0, .ref a0), (1, .int x1), (2, .int x2), (3, .int q_1.1)]) [1, 2, 3, 0] rfl (v_X8_readOneLabel_30 hs0 hf)
  ·
    exact V_sub (lv' := [(0, .ref a0), (1, .int x1), (2, .int x2), (3, .int q_1.1)]) [1, 2, 3, 0] rfl (v_X8_readOneLabel_30 hs0 hf)
theorem ct_X8_readOneLabel {l : Launch} {S : List SHP} {h : MH} {a0 : Nat} {x1 : Int32} {x2 : Int32} (hs0 : S[a0]? = some (.inl 8)) {q : Int32 × MH} (hf : f_X8_readOneLabel a0 x1 x2 h = some q) : CT l mX8_readOneLabel 10 false 0 0 S [.ref a0, .int x1, .int x2] h (QI S q) :=
  CT_ofV (by decide) rfl (Nat.le_of_ble_eq_true rfl) (fun G B hT => v_X8_readOneLabel hs0 hf)
/-! LabelStacks$Tape.readLabels(I)Z -/
theorem dX8_readLabels_0 : decode cX8_readLabels 0 = .ok (.iconst 0, 1) := by decide +kernel
theorem dX8_readLabels_1 : decode cX8_readLabels 1 = .ok (.istore_n 2, 1) := by decide +kernel
theorem dX8_readLabels_2 : decode cX8_readLabels 2 = .ok (.iload_n 2, 1) := by decide +kernel
theorem dX8_readLabels_3 : decode cX8_readLabels 3 = .ok (.bipush 6, 2) := by decide +kernel
theorem dX8_readLabels_5 : decode cX8_readLabels 5 = .ok (.if_icmp .gt 44, 3) := by decide +kernel
theorem dX8_readLabels_8 : decode cX8_readLabels 8 = .ok (.aload_n 0, 1) := by decide +kernel
theorem dX8_readLabels_9 : decode cX8_readLabels 9 = .ok (.invokevirtual 39, 3) := by decide +kernel
theorem dX8_readLabels_12 : decode cX8_readLabels 12 = .ok (.iload_n 2, 1) := by decide +kernel
theorem dX8_readLabels_13 : decode cX8_readLabels 13 = .ok (.ifCond .le 19, 3) := by decide +kernel
theorem dX8_readLabels_16 : decode cX8_readLabels 16 = .ok (.aload_n 0, 1) := by decide +kernel
theorem dX8_readLabels_17 : decode cX8_readLabels 17 = .ok (.aload_n 0, 1) := by decide +kernel
theorem dX8_readLabels_18 : decode cX8_readLabels 18 = .ok (.getfield 29, 3) := by decide +kernel
theorem dX8_readLabels_21 : decode cX8_readLabels 21 = .ok (.invokevirtual 102, 3) := by decide +kernel
theorem dX8_readLabels_24 : decode cX8_readLabels 24 = .ok (.bipush 59, 2) := by decide +kernel
theorem dX8_readLabels_26 : decode cX8_readLabels 26 = .ok (.if_icmp .ne 6, 3) := by decide +kernel
theorem dX8_readLabels_29 : decode cX8_readLabels 29 = .ok (.goto 20, 3) := by decide +kernel
theorem dX8_readLabels_32 : decode cX8_readLabels 32 = .ok (.aload_n 0, 1) := by decide +kernel
theorem dX8_readLabels_33 : decode cX8_readLabels 33 = .ok (.iload_n 1, 1) := by decide +kernel
theorem dX8_readLabels_34 : decode cX8_readLabels 34 = .ok (.iload_n 2, 1) := by decide +kernel
theorem dX8_readLabels_35 : decode cX8_readLabels 35 = .ok (.invokevirtual 106, 3) := by decide +kernel
theorem dX8_readLabels_38 : decode cX8_readLabels 38 = .ok (.ifCond .ne 5, 3) := by decide +kernel
theorem dX8_readLabels_41 : decode cX8_readLabels 41 = .ok (.iconst 0, 1) := by decide +kernel
theorem dX8_readLabels_42 : decode cX8_readLabels 42 = .ok (.ireturn, 1) := by decide +kernel
theorem dX8_readLabels_43 : decode cX8_readLabels 43 = .ok (.iinc 2 1, 3) := by decide +kernel
theorem dX8_readLabels_46 : decode cX8_readLabels 46 = .ok (.goto (-44), 3) := by decide +kernel
theorem dX8_readLabels_49 : decode cX8_readLabels 49 = .ok (.aload_n 0, 1) := by decide +kernel
theorem dX8_readLabels_50 : decode cX8_readLabels 50 = .ok (.bipush 59, 2) := by decide +kernel
theorem dX8_readLabels_52 : decode cX8_readLabels 52 = .ok (.invokevirtual 59, 3) := by decide +kernel
theorem dX8_readLabels_55 : decode cX8_readLabels 55 = .ok (.ireturn, 1) := by decide +kernel
abbrev mX8_readLabels : MI := (RX8, yX8_readLabels, cX8_readLabels, 3, (some .boolean))
theorem mok_X8_readLabels : MOKv mX8_readLabels 1 := ⟨⟨bm_1163, bm_122, ⟨by decide, by decide⟩, by decide +kernel⟩, bm_1162, bm_40⟩
def f_X8_readLabels_49   (a0 : Nat) (h : MH) : Option (Int32 × MH) :=
  (f_X8_takeSign a0 59 h).bind fun q_1 =>
  if q_1.1 = 0 ∨ q_1.1 = 1 then some (q_1.1, q_1.2) else none
def f_X8_readLabels_32  (k2 : Int32 → MH → Option (Int32 × MH)) (a0 : Nat) (x1 : Int32) (x2 : Int32) (h : MH) : Option (Int32 × MH) :=
  (f_X8_readOneLabel a0 x1 x2 h).bind fun q_1 =>
  if q_1.1 = 0 then
    some (0, q_1.2)
  else
    k2 (x2 + 1) q_1.2
def f_X8_readLabels_2b   (a0 : Nat) (x1 : Int32) (k2 : Int32 → MH → Option (Int32 × MH)) (p : Int32) (h : MH) : Option (Int32 × MH) :=
  if 6 < p then
    f_X8_readLabels_49 a0 h
  else
    (f_X8_skipBlanks a0 h).bind fun q_1 =>
    if 0 < p then
      (f_X8_byteAt a0 (gI q_1 a0 2) q_1).bind fun q_2 =>
      if q_2.1 = 59 then
        f_X8_readLabels_49 a0 q_2.2
      else
        f_X8_readLabels_32 k2 a0 x1 p q_2.2
    else
      f_X8_readLabels_32 k2 a0 x1 p q_1
def f_X8_readLabels_2   (a0 : Nat) (x1 : Int32) : Nat → Int32 → MH → Option (Int32 × MH) := lp (f_X8_readLabels_2b a0 x1)
def f_X8_readLabels   (a0 : Nat) (x1 : Int32) (h : MH) : Option (Int32 × MH) :=
  f_X8_readLabels_2 a0 x1 FU 0 h
set_option maxRecDepth 100000 in
set_option maxHeartbeats 4000000 in
theorem v_X8_readLabels_49 {l : Launch} {G : GE} {B N : Nat} {S : List SHP} {o : Int32 × MH} {a0 : Nat}    (hs0 : S[a0]? = some (.inl 8)) {h : MH} (hf : f_X8_readLabels_49 a0 h = some o) : V l G B N mX8_readLabels (rmm 11 0 0) false 0 0 (QI S o) S 0 0 49 [(0, .ref a0)] [] h := by
  unfold f_X8_readLabels_49 at hf
  refine V_aload_n (pc' := 50) dX8_readLabels_49 rfl 0 rfl rfl ?_
  refine V_bipush (v := 59) (pc' := 52) dX8_readLabels_50 rfl (by decide) ?_
  refine V_cvI (pc' := 55) (As := [.int 59]) (rest := []) dX8_readLabels_52 rfl mok_X8_takeSign bm_1139 8 (by decide) rfl hs0 rfl rfl (Nat.le_of_ble_eq_true rfl) (by decide) hf (fun q e => ct_X8_takeSign hs0 e) (fun q_1 hf => ?_)
  refine V_zret dX8_readLabels_55 rfl rfl rfl hf (fun hf => ?_)
  obtain rfl := Option.some.inj hf
  exact ⟨rfl, rfl, rfl⟩
set_option maxRecDepth 100000 in
set_option maxHeartbeats 4000000 in
theorem v_X8_readLabels_32 {l : Launch} {G : GE} {B N : Nat} {S : List SHP} {o : Int32 × MH} {a0 : Nat} {x1 : Int32} {x2 : Int32}  {k2 : Int32 → MH → Option (Int32 × MH)} (hk2 : ∀ (p : Int32) (h : MH), k2 p h = some o → V l G B N mX8_readLabels (rmm 11 0 0) false 0 0 (QI S o) S 0 0 2 [(0, .ref a0), (1, .int x1), (2, .int p)] [] h) (hs0 : S[a0]? = some (.inl 8)) {h : MH} (hf : f_X8_readLabels_32 k2 a0 x1 x2 h = some o) : V l G B N mX8_readLabels (rmm 11 0 0) false 0 0 (QI S o) S 0 0 32 [(0, .ref a0), (1, .int x1), (2, .int x2)] [] h := by
  unfold f_X8_readLabels_32 at hf
  refine V_aload_n (pc' := 33) dX8_readLabels_32 rfl 0 rfl rfl ?_
  refine V_iload_n (pc' := 34) dX8_readLabels_33 rfl 1 rfl rfl ?_
  refine V_iload_n (pc' := 35) dX8_readLabels_34 rfl 2 rfl rfl ?_
  refine V_cvI (pc' := 38) (As := [.int x1, .int x2]) (rest := []) dX8_readLabels_35 rfl mok_X8_readOneLabel bm_1164 8 (by decide) rfl hs0 rfl rfl (Nat.le_of_ble_eq_true rfl) (by decide) hf (fun q e => ct_X8_readOneLabel hs0 e) (fun q_1 hf => ?_)
  refine V_if_ne (tgt := 43) (pc' := 41) dX8_readLabels_38 (by decide) rfl hf (fun hf => ?_) (fun hf => ?_)
  ·
    refine V_iconst (v := 0) (pc' := 42) dX8_readLabels_41 rfl (by decide) ?_
    obtain rfl := Option.some.inj hf
    exact V_zretL dX8_readLabels_42 rfl rfl rfl (by decide) ⟨rfl, rfl, rfl⟩
  ·
    refine V_iinc (v := (x2 + 1)) (lv' := [(2, .int (x2 + 1)), (0, .ref a0), (1, .int x1)]) (pc' := 46) dX8_readLabels_43 rfl 2 rfl rfl (Nat.le_of_ble_eq_true rfl) rfl ?_
    refine V_goto (tgt := 2) dX8_readLabels_46 (by decide) ?_
    exact V_sub (lv' := [(0, .ref a0), (1, .int x1), (2, .int (x2 + 1))]) [1, 2, 0] rfl (hk2 (x2 + 1) q_1.2 hf)
set_option maxRecDepth 100000 in
set_option maxHeartbeats 4000000 in
theorem v_X8_readLabels_2b {l : Launch} {G : GE} {B N : Nat} {S : List SHP} {o : Int32 × MH} {a0 : Nat} {x1 : Int32}    (hs0 : S[a0]? = some (.inl 8)) {k2 : Int32 → MH → Option (Int32 × MH)} (hk2 : ∀ (p : Int32) (h : MH), k2 p h = some o → V l G B N mX8_readLabels (rmm 11 0 0) false 0 0 (QI S o) S 0 0 2 [(0, .ref a0), (1, .int x1), (2, .int p)] [] h) {p : Int32} {h : MH} (hf : f_X8_readLabels_2b a0 x1 k2 p h = some o) : V l G B N mX8_readLabels (rmm 11 0 0) false 0 0 (QI S o) S 0 0 2 [(0, .ref a0), (1, .int x1), (2, .int p)] [] h := by
  unfold f_X8_readLabels_2b at hf
  refine V_iload_n (pc' := 3) dX8_readLabels_2 rfl 2 rfl rfl ?_
  refine V_bipush (v := 6) (pc' := 5) dX8_readLabels_3 rfl (by decide) ?_
  refine V_icmp_gt (tgt := 49) (pc' := 8) dX8_readLabels_5 (by decide) rfl hf (fun hf => ?_) (fun hf => ?_)
  ·
    exact V_sub (lv' := [(0, .ref a0)]) [0] rfl (v_X8_readLabels_49 hs0 hf)
  ·
    refine V_aload_n (pc' := 9) dX8_readLabels_8 rfl 0 rfl rfl ?_
    refine V_cvV (pc' := 12) (As := []) (rest := []) dX8_readLabels_9 rfl mok_X8_skipBlanks bm_1056 8 (by decide) rfl hs0 rfl rfl (Nat.le_of_ble_eq_true rfl) (by decide) hf (fun q e => ct_X8_skipBlanks hs0 e) (fun q_1 hf => ?_)
    refine V_iload_n (pc' := 13) dX8_readLabels_12 rfl 2 rfl rfl ?_
    refine V_if_le (tgt := 32) (pc' := 16) dX8_readLabels_13 (by decide) rfl hf (fun hf => ?_) (fun hf => ?_)
    ·
      refine V_aload_n (pc' := 17) dX8_readLabels_16 rfl 0 rfl rfl ?_
      refine V_aload_n (pc' := 18) dX8_readLabels_17 rfl 0 rfl rfl ?_
      refine V_getI (pc' := 21) 8 2 dX8_readLabels_18 rfl (by decide) (Nat.le_of_ble_eq_true rfl) bm_321 hs0 (fun _ _ _ => rfl) ?_
      refine V_cvI (pc' := 24) (As := [.int (gI q_1 a0 2)]) (rest := []) dX8_readLabels_21 rfl mok_X8_byteAt bm_1060 8 (by decide) rfl hs0 rfl rfl (Nat.le_of_ble_eq_true rfl) (by decide) hf (fun q e => ct_X8_byteAt hs0 e) (fun q_2 hf => ?_)
      refine V_bipush (v := 59) (pc' := 26) dX8_readLabels_24 rfl (by decide) ?_
      refine V_icmp_ne (tgt := 32) (pc' := 29) dX8_readLabels_26 (by decide) rfl hf (fun hf => ?_) (fun hf => ?_)
      ·
        refine V_goto (tgt := 49) dX8_readLabels_29 (by decide) ?_
        exact V_sub (lv' := [(0, .ref a0)]) [0] rfl (v_X8_readLabels_49 hs0 hf)
      ·
        exact V_sub (lv' := [(0, .ref a0), (1, .int x1), (2, .int p)]) [0, 1, 2] rfl (v_X8_readLabels_32 hk2 hs0 hf)
    ·
      exact V_sub (lv' := [(0, .ref a0), (1, .int x1), (2, .int p)]) [0, 1, 2] rfl (v_X8_readLabels_32 hk2 hs0 hf)
theorem v_X8_readLabels_2 {l : Launch} {G : GE} {B N : Nat} {S : List SHP} {o : Int32 × MH} {a0 : Nat} {x1 : Int32}    (hs0 : S[a0]? = some (.inl 8)) {n : Nat} {p : Int32} {h : MH} (hf : f_X8_readLabels_2 a0 x1 n p h = some o) : V l G B N mX8_readLabels (rmm 11 0 0) false 0 0 (QI S o) S 0 0 2 [(0, .ref a0), (1, .int x1), (2, .int p)] [] h :=
  V_lp (VV := fun p h => V l G B N mX8_readLabels (rmm 11 0 0) false 0 0 (QI S o) S 0 0 2 [(0, .ref a0), (1, .int x1), (2, .int p)] [] h) (fun _ hk _ _ hf => v_X8_readLabels_2b hs0 hk hf) n p h hf
set_option maxRecDepth 100000 in
set_option maxHeartbeats 4000000 in
theorem v_X8_readLabels {l : Launch} {G : GE} {B N : Nat} {S : List SHP} {o : Int32 × MH} {a0 : Nat} {x1 : Int32}    (hs0 : S[a0]? = some (.inl 8)) {h : MH} (hf : f_X8_readLabels a0 x1 h = some o) : V l G B N mX8_readLabels (rmm 11 0 0) false 0 0 (QI S o) S 0 0 0 [(0, .ref a0), (1, .int x1)] [] h := by
  unfold f_X8_readLabels at hf
  refine V_iconst (v := 0) (pc' := 1) dX8_readLabels_0 rfl (by decide) ?_
  refine V_istore_n (lv' := [(2, .int 0), (0, .ref a0), (1, .int x1)]) (pc' := 2) dX8_readLabels_1 rfl rfl (Nat.le_of_ble_eq_true rfl) rfl ?_
  exact V_sub (lv' := [(0, .ref a0), (1, .int x1), (2, .int 0)]) [1, 2, 0] rfl (v_X8_readLabels_2 hs0 hf)
theorem ct_X8_readLabels {l : Launch} {S : List SHP} {h : MH} {a0 : Nat} {x1 : Int32} (hs0 : S[a0]? = some (.inl 8)) {q : Int32 × MH} (hf : f_X8_readLabels a0 x1 h = some q) : CT l mX8_readLabels 11 false 0 0 S [.ref a0, .int x1] h (QI S q) :=
  CT_ofV (by decide) rfl (Nat.le_of_ble_eq_true rfl) (fun G B hT => v_X8_readLabels hs0 hf)
/-! LabelStacks$Tape.readBinding()Z -/
theorem dX8_readBinding_0 : decode cX8_readBinding 0 = .ok (.aload_n 0, 1) := by decide +kernel
theorem dX8_readBinding_1 : decode cX8_readBinding 1 = .ok (.ldc 71, 2) := by decide +kernel
theorem dX8_readBinding_3 : decode cX8_readBinding 3 = .ok (.invokevirtual 47, 3) := by decide +kernel
theorem dX8_readBinding_6 : decode cX8_readBinding 6 = .ok (.pop, 1) := by decide +kernel
theorem dX8_readBinding_7 : decode cX8_readBinding 7 = .ok (.aload_n 0, 1) := by decide +kernel
theorem dX8_readBinding_8 : decode cX8_readBinding 8 = .ok (.invokevirtual 39, 3) := by decide +kernel
theorem dX8_readBinding_11 : decode cX8_readBinding 11 = .ok (.aload_n 0, 1) := by decide +kernel
theorem dX8_readBinding_12 : decode cX8_readBinding 12 = .ok (.getfield 29, 3) := by decide +kernel
theorem dX8_readBinding_15 : decode cX8_readBinding 15 = .ok (.istore_n 1, 1) := by decide +kernel
theorem dX8_readBinding_16 : decode cX8_readBinding 16 = .ok (.aload_n 0, 1) := by decide +kernel
theorem dX8_readBinding_17 : decode cX8_readBinding 17 = .ok (.iconst 0, 1) := by decide +kernel
theorem dX8_readBinding_18 : decode cX8_readBinding 18 = .ok (.iconst 5, 1) := by decide +kernel
theorem dX8_readBinding_19 : decode cX8_readBinding 19 = .ok (.invokevirtual 51, 3) := by decide +kernel
theorem dX8_readBinding_22 : decode cX8_readBinding 22 = .ok (.istore_n 2, 1) := by decide +kernel
theorem dX8_readBinding_23 : decode cX8_readBinding 23 = .ok (.iload_n 2, 1) := by decide +kernel
theorem dX8_readBinding_24 : decode cX8_readBinding 24 = .ok (.iconst (-1), 1) := by decide +kernel
theorem dX8_readBinding_25 : decode cX8_readBinding 25 = .ok (.if_icmp .ne 5, 3) := by decide +kernel
theorem dX8_readBinding_28 : decode cX8_readBinding 28 = .ok (.iconst 0, 1) := by decide +kernel
theorem dX8_readBinding_29 : decode cX8_readBinding 29 = .ok (.ireturn, 1) := by decide +kernel
theorem dX8_readBinding_30 : decode cX8_readBinding 30 = .ok (.aload_n 0, 1) := by decide +kernel
theorem dX8_readBinding_31 : decode cX8_readBinding 31 = .ok (.getfield 22, 3) := by decide +kernel
theorem dX8_readBinding_34 : decode cX8_readBinding 34 = .ok (.getfield 92, 3) := by decide +kernel
theorem dX8_readBinding_37 : decode cX8_readBinding 37 = .ok (.iload_n 2, 1) := by decide +kernel
theorem dX8_readBinding_38 : decode cX8_readBinding 38 = .ok (.iaload, 1) := by decide +kernel
theorem dX8_readBinding_39 : decode cX8_readBinding 39 = .ok (.iconst (-1), 1) := by decide +kernel
theorem dX8_readBinding_40 : decode cX8_readBinding 40 = .ok (.if_icmp .eq 10, 3) := by decide +kernel
theorem dX8_readBinding_43 : decode cX8_readBinding 43 = .ok (.aload_n 0, 1) := by decide +kernel
theorem dX8_readBinding_44 : decode cX8_readBinding 44 = .ok (.iconst 3, 1) := by decide +kernel
theorem dX8_readBinding_45 : decode cX8_readBinding 45 = .ok (.iload_n 1, 1) := by decide +kernel
theorem dX8_readBinding_46 : decode cX8_readBinding 46 = .ok (.invokevirtual 76, 3) := by decide +kernel
theorem dX8_readBinding_49 : decode cX8_readBinding 49 = .ok (.ireturn, 1) := by decide +kernel
theorem dX8_readBinding_50 : decode cX8_readBinding 50 = .ok (.aload_n 0, 1) := by decide +kernel
theorem dX8_readBinding_51 : decode cX8_readBinding 51 = .ok (.invokevirtual 39, 3) := by decide +kernel
theorem dX8_readBinding_54 : decode cX8_readBinding 54 = .ok (.aload_n 0, 1) := by decide +kernel
theorem dX8_readBinding_55 : decode cX8_readBinding 55 = .ok (.ldc 96, 2) := by decide +kernel
theorem dX8_readBinding_57 : decode cX8_readBinding 57 = .ok (.invokevirtual 47, 3) := by decide +kernel
theorem dX8_readBinding_60 : decode cX8_readBinding 60 = .ok (.ifCond .ne 5, 3) := by decide +kernel
theorem dX8_readBinding_63 : decode cX8_readBinding 63 = .ok (.iconst 0, 1) := by decide +kernel
theorem dX8_readBinding_64 : decode cX8_readBinding 64 = .ok (.ireturn, 1) := by decide +kernel
theorem dX8_readBinding_65 : decode cX8_readBinding 65 = .ok (.aload_n 0, 1) := by decide +kernel
theorem dX8_readBinding_66 : decode cX8_readBinding 66 = .ok (.invokevirtual 39, 3) := by decide +kernel
theorem dX8_readBinding_69 : decode cX8_readBinding 69 = .ok (.aload_n 0, 1) := by decide +kernel
theorem dX8_readBinding_70 : decode cX8_readBinding 70 = .ok (.iconst 0, 1) := by decide +kernel
theorem dX8_readBinding_71 : decode cX8_readBinding 71 = .ok (.aload_n 0, 1) := by decide +kernel
theorem dX8_readBinding_72 : decode cX8_readBinding 72 = .ok (.getfield 22, 3) := by decide +kernel
theorem dX8_readBinding_75 : decode cX8_readBinding 75 = .ok (.getfield 83, 3) := by decide +kernel
theorem dX8_readBinding_78 : decode cX8_readBinding 78 = .ok (.iconst 1, 1) := by decide +kernel
theorem dX8_readBinding_79 : decode cX8_readBinding 79 = .ok (.isub, 1) := by decide +kernel
theorem dX8_readBinding_80 : decode cX8_readBinding 80 = .ok (.invokevirtual 51, 3) := by decide +kernel
theorem dX8_readBinding_83 : decode cX8_readBinding 83 = .ok (.istore_n 3, 1) := by decide +kernel
theorem dX8_readBinding_84 : decode cX8_readBinding 84 = .ok (.iload_n 3, 1) := by decide +kernel
theorem dX8_readBinding_85 : decode cX8_readBinding 85 = .ok (.iconst (-1), 1) := by decide +kernel
theorem dX8_readBinding_86 : decode cX8_readBinding 86 = .ok (.if_icmp .ne 5, 3) := by decide +kernel
theorem dX8_readBinding_89 : decode cX8_readBinding 89 = .ok (.iconst 0, 1) := by decide +kernel
theorem dX8_readBinding_90 : decode cX8_readBinding 90 = .ok (.ireturn, 1) := by decide +kernel
theorem dX8_readBinding_91 : decode cX8_readBinding 91 = .ok (.aload_n 0, 1) := by decide +kernel
theorem dX8_readBinding_92 : decode cX8_readBinding 92 = .ok (.getfield 22, 3) := by decide +kernel
theorem dX8_readBinding_95 : decode cX8_readBinding 95 = .ok (.getfield 92, 3) := by decide +kernel
theorem dX8_readBinding_98 : decode cX8_readBinding 98 = .ok (.iload_n 2, 1) := by decide +kernel
theorem dX8_readBinding_99 : decode cX8_readBinding 99 = .ok (.iload_n 3, 1) := by decide +kernel
theorem dX8_readBinding_100 : decode cX8_readBinding 100 = .ok (.iastore, 1) := by decide +kernel
theorem dX8_readBinding_101 : decode cX8_readBinding 101 = .ok (.aload_n 0, 1) := by decide +kernel
theorem dX8_readBinding_102 : decode cX8_readBinding 102 = .ok (.bipush 58, 2) := by decide +kernel
theorem dX8_readBinding_104 : decode cX8_readBinding 104 = .ok (.invokevirtual 59, 3) := by decide +kernel
theorem dX8_readBinding_107 : decode cX8_readBinding 107 = .ok (.ifCond .eq 15, 3) := by decide +kernel
theorem dX8_readBinding_110 : decode cX8_readBinding 110 = .ok (.aload_n 0, 1) := by decide +kernel
theorem dX8_readBinding_111 : decode cX8_readBinding 111 = .ok (.iload_n 2, 1) := by decide +kernel
theorem dX8_readBinding_112 : decode cX8_readBinding 112 = .ok (.invokevirtual 98, 3) := by decide +kernel
theorem dX8_readBinding_115 : decode cX8_readBinding 115 = .ok (.ifCond .eq 7, 3) := by decide +kernel
theorem dX8_readBinding_118 : decode cX8_readBinding 118 = .ok (.iconst 1, 1) := by decide +kernel
theorem dX8_readBinding_119 : decode cX8_readBinding 119 = .ok (.goto 4, 3) := by decide +kernel
theorem dX8_readBinding_122 : decode cX8_readBinding 122 = .ok (.iconst 0, 1) := by decide +kernel
theorem dX8_readBinding_123 : decode cX8_readBinding 123 = .ok (.ireturn, 1) := by decide +kernel
abbrev mX8_readBinding : MI := (RX8, yX8_readBinding, cX8_readBinding, 4, (some .boolean))
theorem mok_X8_readBinding : MOKv mX8_readBinding 0 := ⟨⟨bm_1158, bm_122, ⟨by decide, by decide⟩, by decide +kernel⟩, bm_1157, bm_39⟩
def f_X8_readBinding   (a0 : Nat) (h : MH) : Option (Int32 × MH) :=
  (f_X8_takeWord a0 3 h).bind fun q_1 =>
  (f_X8_skipBlanks a0 q_1.2).bind fun q_2 =>
  lt (gI q_2 a0 2) fun x_3 =>
  (f_X8_takeNumber a0 0 5 q_2).bind fun q_4 =>
  if q_4.1 = (-1 : Int32) then
    some (0, q_4.2)
  else
    (gR q_4.2 a0 5).bind fun a_5 =>
    (gR q_4.2 a_5 6).bind fun a_6 =>
    (ldI q_4.2 a_6 q_4.1).bind fun x_7 =>
    if x_7 = (-1 : Int32) then
      (f_X8_skipBlanks a0 q_4.2).bind fun q_8 =>
      (f_X8_takeWord a0 4 q_8).bind fun q_9 =>
      if q_9.1 = 0 then
        some (0, q_9.2)
      else
        (f_X8_skipBlanks a0 q_9.2).bind fun q_10 =>
        (gR q_10 a0 5).bind fun a_11 =>
        (f_X8_takeNumber a0 0 ((gI q_10 a_11 0) - 1) q_10).bind fun q_12 =>
        if q_12.1 = (-1 : Int32) then
          some (0, q_12.2)
        else
          (gR q_12.2 a0 5).bind fun a_13 =>
          (gR q_12.2 a_13 6).bind fun a_14 =>
          (stI q_12.2 a_14 q_4.1 q_12.1).bind fun h_15 =>
          (f_X8_takeSign a0 58 h_15).bind fun q_16 =>
          if q_16.1 = 0 then
            some (0, q_16.2)
          else
            (f_X8_readLabels a0 q_4.1 q_16.2).bind fun q_17 =>
            if q_17.1 = 0 then
              some (0, q_17.2)
            else
              some (1, q_17.2)
    else
      (f_X8_foundFault a0 3 x_3 q_4.2).bind fun q_18 =>
      if q_18.1 = 0 ∨ q_18.1 = 1 then some (q_18.1, q_18.2) else none
set_option maxRecDepth 100000 in
set_option maxHeartbeats 4000000 in
theorem v_X8_readBinding {l : Launch} {G : GE} {B N : Nat} {S : List SHP} {o : Int32 × MH} {a0 : Nat}    (hs0 : S[a0]? = some (.inl 8)) {h : MH} (hf : f_X8_readBinding a0 h = some o) : V l G B N mX8_readBinding (rmm 12 0 0) false 0 0 (QI S o) S 0 0 0 [(0, .ref a0)] [] h := by
  unfold f_X8_readBinding at hf
  refine V_aload_n (pc' := 1) dX8_readBinding_0 rfl 0 rfl rfl ?_
  refine V_ldcS (j := 3) (tx := "bind") (pc' := 3) dX8_readBinding_1 rfl (by decide) ?_
  refine V_cvI (pc' := 6) (As := [.retAddr 3]) (rest := []) dX8_readBinding_3 rfl mok_X8_takeWord bm_1065 8 (by decide) rfl hs0 rfl rfl (Nat.le_of_ble_eq_true rfl) (by decide) hf (fun q e => ct_X8_takeWord hs0 e) (fun q_1 hf => ?_)
  refine V_pop (pc' := 7) dX8_readBinding_6 rfl rfl ?_
  refine V_aload_n (pc' := 8) dX8_readBinding_7 rfl 0 rfl rfl ?_
  refine V_cvV (pc' := 11) (As := []) (rest := []) dX8_readBinding_8 rfl mok_X8_skipBlanks bm_1056 8 (by decide) rfl hs0 rfl rfl (Nat.le_of_ble_eq_true rfl) (by decide) hf (fun q e => ct_X8_skipBlanks hs0 e) (fun q_2 hf => ?_)
  refine V_aload_n (pc' := 12) dX8_readBinding_11 rfl 0 rfl rfl ?_
  refine V_getI (pc' := 15) 8 2 dX8_readBinding_12 rfl (by decide) (Nat.le_of_ble_eq_true rfl) bm_321 hs0 (fun _ _ _ => rfl) ?_
  refine V_nmI hf (fun x_3 hf => ?_)
  refine V_istore_n (lv' := [(1, .int x_3), (0, .ref a0)]) (pc' := 16) dX8_readBinding_15 rfl rfl (Nat.le_of_ble_eq_true rfl) rfl ?_
  refine V_aload_n (pc' := 17) dX8_readBinding_16 rfl 1 rfl rfl ?_
  refine V_iconst (v := 0) (pc' := 18) dX8_readBinding_17 rfl (by decide) ?_
  refine V_iconst (v := 5) (pc' := 19) dX8_readBinding_18 rfl (by decide) ?_
  refine V_cvI (pc' := 22) (As := [.int 0, .int 5]) (rest := []) dX8_readBinding_19 rfl mok_X8_takeNumber bm_1129 8 (by decide) rfl hs0 rfl rfl (Nat.le_of_ble_eq_true rfl) (by decide) hf (fun q e => ct_X8_takeNumber hs0 e) (fun q_4 hf => ?_)
  refine V_istore_n (lv' := [(2, .int q_4.1), (1, .int x_3), (0, .ref a0)]) (pc' := 23) dX8_readBinding_22 rfl rfl (Nat.le_of_ble_eq_true rfl) rfl ?_
  refine V_iload_n (pc' := 24) dX8_readBinding_23 rfl 0 rfl rfl ?_
  refine V_iconst (v := (-1)) (pc' := 25) dX8_readBinding_24 rfl (by decide) ?_
  refine V_icmp_ne (tgt := 30) (pc' := 28) dX8_readBinding_25 (by decide) rfl hf (fun hf => ?_) (fun hf => ?_)
  ·
    refine V_iconst (v := 0) (pc' := 29) dX8_readBinding_28 rfl (by decide) ?_
    obtain rfl := Option.some.inj hf
    exact V_zretL dX8_readBinding_29 rfl rfl rfl (by decide) ⟨rfl, rfl, rfl⟩
  ·
    refine V_aload_n (pc' := 31) dX8_readBinding_30 rfl 2 rfl rfl ?_
    refine V_getR (pc' := 34) 8 5 dX8_readBinding_31 rfl (by decide) (Nat.le_of_ble_eq_true rfl) bm_326 hs0 (fun _ _ _ => rfl) rfl hf (fun a_5 ha_5 hf => ?_)
    refine V_getR (pc' := 37) 2 6 dX8_readBinding_34 rfl (by decide) (Nat.le_of_ble_eq_true rfl) bm_214 ha_5 (fun _ _ _ => rfl) rfl hf (fun a_6 ha_6 hf => ?_)
    refine V_iload_n (pc' := 38) dX8_readBinding_37 rfl 0 rfl rfl ?_
    refine V_iald (pc' := 39) dX8_readBinding_38 rfl ha_6 hf (fun x_7 hf => ?_)
    refine V_iconst (v := (-1)) (pc' := 40) dX8_readBinding_39 rfl (by decide) ?_
    refine V_icmp_eq (tgt := 50) (pc' := 43) dX8_readBinding_40 (by decide) rfl hf (fun hf => ?_) (fun hf => ?_)
    ·
      refine V_aload_n (pc' := 51) dX8_readBinding_50 rfl 2 rfl rfl ?_
      refine V_cvV (pc' := 54) (As := []) (rest := []) dX8_readBinding_51 rfl mok_X8_skipBlanks bm_1056 8 (by decide) rfl hs0 rfl rfl (Nat.le_of_ble_eq_true rfl) (by decide) hf (fun q e => ct_X8_skipBlanks hs0 e) (fun q_8 hf => ?_)
      refine V_aload_n (pc' := 55) dX8_readBinding_54 rfl 2 rfl rfl ?_
      refine V_ldcS (j := 4) (tx := "at") (pc' := 57) dX8_readBinding_55 rfl (by decide) ?_
      refine V_cvI (pc' := 60) (As := [.retAddr 4]) (rest := []) dX8_readBinding_57 rfl mok_X8_takeWord bm_1065 8 (by decide) rfl hs0 rfl rfl (Nat.le_of_ble_eq_true rfl) (by decide) hf (fun q e => ct_X8_takeWord hs0 e) (fun q_9 hf => ?_)
      refine V_if_ne (tgt := 65) (pc' := 63) dX8_readBinding_60 (by decide) rfl hf (fun hf => ?_) (fun hf => ?_)
      ·
        refine V_iconst (v := 0) (pc' := 64) dX8_readBinding_63 rfl (by decide) ?_
        obtain rfl := Option.some.inj hf
        exact V_zretL dX8_readBinding_64 rfl rfl rfl (by decide) ⟨rfl, rfl, rfl⟩
      ·
        refine V_aload_n (pc' := 66) dX8_readBinding_65 rfl 2 rfl rfl ?_
        refine V_cvV (pc' := 69) (As := []) (rest := []) dX8_readBinding_66 rfl mok_X8_skipBlanks bm_1056 8 (by decide) rfl hs0 rfl rfl (Nat.le_of_ble_eq_true rfl) (by decide) hf (fun q e => ct_X8_skipBlanks hs0 e) (fun q_10 hf => ?_)
        refine V_aload_n (pc' := 70) dX8_readBinding_69 rfl 2 rfl rfl ?_
        refine V_iconst (v := 0) (pc' := 71) dX8_readBinding_70 rfl (by decide) ?_
        refine V_aload_n (pc' := 72) dX8_readBinding_71 rfl 2 rfl rfl ?_
        refine V_getR (pc' := 75) 8 5 dX8_readBinding_72 rfl (by decide) (Nat.le_of_ble_eq_true rfl) bm_326 hs0 (fun _ _ _ => rfl) rfl hf (fun a_11 ha_11 hf => ?_)
        refine V_getI (pc' := 78) 2 0 dX8_readBinding_75 rfl (by decide) (Nat.le_of_ble_eq_true rfl) bm_185 ha_11 (fun _ _ _ => rfl) ?_
        refine V_iconst (v := 1) (pc' := 79) dX8_readBinding_78 rfl (by decide) ?_
        refine V_isub (pc' := 80) dX8_readBinding_79 rfl ?_
        refine V_cvI (pc' := 83) (As := [.int 0, .int ((gI q_10 a_11 0) - 1)]) (rest := []) dX8_readBinding_80 rfl mok_X8_takeNumber bm_1129 8 (by decide) rfl hs0 rfl rfl (Nat.le_of_ble_eq_true rfl) (by decide) hf (fun q e => ct_X8_takeNumber hs0 e) (fun q_12 hf => ?_)
        refine V_istore_n (lv' := [(3, .int q_12.1), (2, .int q_4.1), (1, .int x_3), (0, .ref a0)]) (pc' := 84) dX8_readBinding_83 rfl rfl (Nat.le_of_ble_eq_true rfl) rfl ?_
        refine V_iload_n (pc' := 85) dX8_readBinding_84 rfl 0 rfl rfl ?_
        refine V_iconst (v := (-1)) (pc' := 86) dX8_readBinding_85 rfl (by decide) ?_
        refine V_icmp_ne (tgt := 91) (pc' := 89) dX8_readBinding_86 (by decide) rfl hf (fun hf => ?_) (fun hf => ?_)
        ·
          refine V_iconst (v := 0) (pc' := 90) dX8_readBinding_89 rfl (by decide) ?_
          obtain rfl := Option.some.inj hf
          exact V_zretL dX8_readBinding_90 rfl rfl rfl (by decide) ⟨rfl, rfl, rfl⟩
        ·
          refine V_aload_n (pc' := 92) dX8_readBinding_91 rfl 3 rfl rfl ?_
          refine V_getR (pc' := 95) 8 5 dX8_readBinding_92 rfl (by decide) (Nat.le_of_ble_eq_true rfl) bm_326 hs0 (fun _ _ _ => rfl) rfl hf (fun a_13 ha_13 hf => ?_)
          refine V_getR (pc' := 98) 2 6 dX8_readBinding_95 rfl (by decide) (Nat.le_of_ble_eq_true rfl) bm_214 ha_13 (fun _ _ _ => rfl) rfl hf (fun a_14 ha_14 hf => ?_)
          refine V_iload_n (pc' := 99) dX8_readBinding_98 rfl 1 rfl rfl ?_
          refine V_iload_n (pc' := 100) dX8_readBinding_99 rfl 0 rfl rfl ?_
          refine V_iast (pc' := 101) dX8_readBinding_100 rfl ha_14 hf (fun h_15 hf => ?_)
          refine V_aload_n (pc' := 102) dX8_readBinding_101 rfl 3 rfl rfl ?_
          refine V_bipush (v := 58) (pc' := 104) dX8_readBinding_102 rfl (by decide) ?_
          refine V_cvI (pc' := 107) (As := [.int 58]) (rest := []) dX8_readBinding_104 rfl mok_X8_takeSign bm_1139 8 (by decide) rfl hs0 rfl rfl (Nat.le_of_ble_eq_true rfl) (by decide) hf (fun q e => ct_X8_takeSign hs0 e) (fun q_16 hf => ?_)
          refine V_if_eq (tgt := 122) (pc' := 110) dX8_readBinding_107 (by decide) rfl hf (fun hf => ?_) (fun hf => ?_)
          ·
            refine V_iconst (v := 0) (pc' := 123) dX8_readBinding_122 rfl (by decide) ?_
            obtain rfl := Option.some.inj hf
            exact V_zretL dX8_readBinding_123 rfl rfl rfl (by decide) ⟨rfl, rfl, rfl⟩
          ·
            refine V_aload_n (pc' := 111) dX8_readBinding_110 rfl 3 rfl rfl ?_
            refine V_iload_n (pc' := 112) dX8_readBinding_111 rfl 1 rfl rfl ?_
            refine V_cvI (pc' := 115) (As := [.int q_4.1]) (rest := []) dX8_readBinding_112 rfl mok_X8_readLabels bm_1160 8 (by decide) rfl hs0 rfl rfl (Nat.le_of_ble_eq_true rfl) (by decide) hf (fun q e => ct_X8_readLabels hs0 e) (fun q_17 hf => ?_)
            refine V_if_eq (tgt := 122) (pc' := 118) dX8_readBinding_115 (by decide) rfl hf (fun hf => ?_) (fun hf => ?_)
            ·
              refine V_iconst (v := 0) (pc' := 123) dX8_readBinding_122 rfl (by decide) ?_
              obtain rfl := Option.some.inj hf
              exact V_zretL dX8_readBinding_123 rfl rfl rfl (by decide) ⟨rfl, rfl, rfl⟩
            ·
              refine V_iconst (v := 1) (pc' := 119) dX8_readBinding_118 rfl (by decide) ?_
              refine V_goto (tgt := 123) dX8_readBinding_119 (by decide) ?_
              obtain rfl := Option.some.inj hf
              exact V_zretL dX8_readBinding_123 rfl rfl rfl (by decide) ⟨rfl, rfl, rfl⟩
    ·
      refine V_aload_n (pc' := 44) dX8_readBinding_43 rfl 2 rfl rfl ?_
      refine V_iconst (v := 3) (pc' := 45) dX8_readBinding_44 rfl (by decide) ?_
      refine V_iload_n (pc' := 46) dX8_readBinding_45 rfl 1 rfl rfl ?_
      refine V_cvI (pc' := 49) (As := [.int 3, .int x_3]) (rest := []) dX8_readBinding_46 rfl mok_X8_foundFault bm_1125 8 (by decide) rfl hs0 rfl rfl (Nat.le_of_ble_eq_true rfl) (by decide) hf (fun q e => ct_X8_foundFault hs0 e) (fun q_18 hf => ?_)
      refine V_zret dX8_readBinding_49 rfl rfl rfl hf (fun hf => ?_)
      obtain rfl := Option.some.inj hf
      exact ⟨rfl, rfl, rfl⟩
theorem ct_X8_readBinding {l : Launch} {S : List SHP} {h : MH} {a0 : Nat} (hs0 : S[a0]? = some (.inl 8)) {q : Int32 × MH} (hf : f_X8_readBinding a0 h = some q) : CT l mX8_readBinding 12 false 0 0 S [.ref a0] h (QI S q) :=
  CT_ofV (by decide) rfl (Nat.le_of_ble_eq_true rfl) (fun G B hT => v_X8_readBinding hs0 hf)
/-! LabelStacks$Tape.readRow()Z -/
theorem dX8_readRow_0 : decode cX8_readRow 0 = .ok (.aload_n 0, 1) := by decide +kernel
theorem dX8_readRow_1 : decode cX8_readRow 1 = .ok (.ldc 63, 2) := by decide +kernel
theorem dX8_readRow_3 : decode cX8_readRow 3 = .ok (.invokevirtual 65, 3) := by decide +kernel
theorem dX8_readRow_6 : decode cX8_readRow 6 = .ok (.ifCond .eq 8, 3) := by decide +kernel
theorem dX8_readRow_9 : decode cX8_readRow 9 = .ok (.aload_n 0, 1) := by decide +kernel
theorem dX8_readRow_10 : decode cX8_readRow 10 = .ok (.invokevirtual 68, 3) := by decide +kernel
theorem dX8_readRow_13 : decode cX8_readRow 13 = .ok (.ireturn, 1) := by decide +kernel
theorem dX8_readRow_14 : decode cX8_readRow 14 = .ok (.aload_n 0, 1) := by decide +kernel
theorem dX8_readRow_15 : decode cX8_readRow 15 = .ok (.ldc 71, 2) := by decide +kernel
theorem dX8_readRow_17 : decode cX8_readRow 17 = .ok (.invokevirtual 65, 3) := by decide +kernel
theorem dX8_readRow_20 : decode cX8_readRow 20 = .ok (.ifCond .eq 8, 3) := by decide +kernel
theorem dX8_readRow_23 : decode cX8_readRow 23 = .ok (.aload_n 0, 1) := by decide +kernel
theorem dX8_readRow_24 : decode cX8_readRow 24 = .ok (.invokevirtual 73, 3) := by decide +kernel
theorem dX8_readRow_27 : decode cX8_readRow 27 = .ok (.ireturn, 1) := by decide +kernel
theorem dX8_readRow_28 : decode cX8_readRow 28 = .ok (.aload_n 0, 1) := by decide +kernel
theorem dX8_readRow_29 : decode cX8_readRow 29 = .ok (.iconst 1, 1) := by decide +kernel
theorem dX8_readRow_30 : decode cX8_readRow 30 = .ok (.aload_n 0, 1) := by decide +kernel
theorem dX8_readRow_31 : decode cX8_readRow 31 = .ok (.getfield 29, 3) := by decide +kernel
theorem dX8_readRow_34 : decode cX8_readRow 34 = .ok (.invokevirtual 76, 3) := by decide +kernel
theorem dX8_readRow_37 : decode cX8_readRow 37 = .ok (.ireturn, 1) := by decide +kernel
abbrev mX8_readRow : MI := (RX8, yX8_readRow, cX8_readRow, 1, (some .boolean))
theorem mok_X8_readRow : MOKv mX8_readRow 0 := ⟨⟨bm_1146, bm_122, ⟨by decide, by decide⟩, by decide +kernel⟩, bm_1145, bm_37⟩
def f_X8_readRow   (a0 : Nat) (h : MH) : Option (Int32 × MH) :=
  (f_X8_isWord a0 1 h).bind fun q_1 =>
  if q_1.1 = 0 then
    (f_X8_isWord a0 3 q_1.2).bind fun q_2 =>
    if q_2.1 = 0 then
      (f_X8_foundFault a0 1 (gI q_2.2 a0 2) q_2.2).bind fun q_3 =>
      if q_3.1 = 0 ∨ q_3.1 = 1 then some (q_3.1, q_3.2) else none
    else
      (f_X8_readBinding a0 q_2.2).bind fun q_4 =>
      if q_4.1 = 0 ∨ q_4.1 = 1 then some (q_4.1, q_4.2) else none
  else
    (f_X8_readLink a0 q_1.2).bind fun q_5 =>
    if q_5.1 = 0 ∨ q_5.1 = 1 then some (q_5.1, q_5.2) else none
set_option maxRecDepth 100000 in
set_option maxHeartbeats 4000000 in
theorem v_X8_readRow {l : Launch} {G : GE} {B N : Nat} {S : List SHP} {o : Int32 × MH} {a0 : Nat}    (hs0 : S[a0]? = some (.inl 8)) {h : MH} (hf : f_X8_readRow a0 h = some o) : V l G B N mX8_readRow (rmm 13 0 0) false 0 0 (QI S o) S 0 0 0 [(0, .ref a0)] [] h := by
  unfold f_X8_readRow at hf
  refine V_aload_n (pc' := 1) dX8_readRow_0 rfl 0 rfl rfl ?_
  refine V_ldcS (j := 1) (tx := "link") (pc' := 3) dX8_readRow_1 rfl (by decide) ?_
  refine V_cvI (pc' := 6) (As := [.retAddr 1]) (rest := []) dX8_readRow_3 rfl mok_X8_isWord bm_1069 8 (by decide) rfl hs0 rfl rfl (Nat.le_of_ble_eq_true rfl) (by decide) hf (fun q e => ct_X8_isWord hs0 e) (fun q_1 hf => ?_)
  refine V_if_eq (tgt := 14) (pc' := 9) dX8_readRow_6 (by decide) rfl hf (fun hf => ?_) (fun hf => ?_)
  ·
    refine V_aload_n (pc' := 15) dX8_readRow_14 rfl 0 rfl rfl ?_
    refine V_ldcS (j := 3) (tx := "bind") (pc' := 17) dX8_readRow_15 rfl (by decide) ?_
    refine V_cvI (pc' := 20) (As := [.retAddr 3]) (rest := []) dX8_readRow_17 rfl mok_X8_isWord bm_1069 8 (by decide) rfl hs0 rfl rfl (Nat.le_of_ble_eq_true rfl) (by decide) hf (fun q e => ct_X8_isWord hs0 e) (fun q_2 hf => ?_)
    refine V_if_eq (tgt := 28) (pc' := 23) dX8_readRow_20 (by decide) rfl hf (fun hf => ?_) (fun hf => ?_)
    ·
      refine V_aload_n (pc' := 29) dX8_readRow_28 rfl 0 rfl rfl ?_
      refine V_iconst (v := 1) (pc' := 30) dX8_readRow_29 rfl (by decide) ?_
      refine V_aload_n (pc' := 31) dX8_readRow_30 rfl 0 rfl rfl ?_
      refine V_getI (pc' := 34) 8 2 dX8_readRow_31 rfl (by decide) (Nat.le_of_ble_eq_true rfl) bm_321 hs0 (fun _ _ _ => rfl) ?_
      refine V_cvI (pc' := 37) (As := [.int 1, .int (gI q_2.2 a0 2)]) (rest := []) dX8_readRow_34 rfl mok_X8_foundFault bm_1125 8 (by decide) rfl hs0 rfl rfl (Nat.le_of_ble_eq_true rfl) (by decide) hf (fun q e => ct_X8_foundFault hs0 e) (fun q_3 hf => ?_)
      refine V_zret dX8_readRow_37 rfl rfl rfl hf (fun hf => ?_)
      obtain rfl := Option.some.inj hf
      exact ⟨rfl, rfl, rfl⟩
    ·
      refine V_aload_n (pc' := 24) dX8_readRow_23 rfl 0 rfl rfl ?_
      refine V_cvI (pc' := 27) (As := []) (rest := []) dX8_readRow_24 rfl mok_X8_readBinding bm_1155 8 (by decide) rfl hs0 rfl rfl (Nat.le_of_ble_eq_true rfl) (by decide) hf (fun q e => ct_X8_readBinding hs0 e) (fun q_4 hf => ?_)
      refine V_zret dX8_readRow_27 rfl rfl rfl hf (fun hf => ?_)
      obtain rfl := Option.some.inj hf
      exact ⟨rfl, rfl, rfl⟩
  ·
    refine V_aload_n (pc' := 10) dX8_readRow_9 rfl 0 rfl rfl ?_
    refine V_cvI (pc' := 13) (As := []) (rest := []) dX8_readRow_10 rfl mok_X8_readLink bm_1148 8 (by decide) rfl hs0 rfl rfl (Nat.le_of_ble_eq_true rfl) (by decide) hf (fun q e => ct_X8_readLink hs0 e) (fun q_5 hf => ?_)
    refine V_zret dX8_readRow_13 rfl rfl rfl hf (fun hf => ?_)
    obtain rfl := Option.some.inj hf
    exact ⟨rfl, rfl, rfl⟩
theorem ct_X8_readRow {l : Launch} {S : List SHP} {h : MH} {a0 : Nat} (hs0 : S[a0]? = some (.inl 8)) {q : Int32 × MH} (hf : f_X8_readRow a0 h = some q) : CT l mX8_readRow 13 false 0 0 S [.ref a0] h (QI S q) :=
  CT_ofV (by decide) rfl (Nat.le_of_ble_eq_true rfl) (fun G B hT => v_X8_readRow hs0 hf)
/-! LabelStacks$Tape.readAll()Z -/
theorem dX8_readAll_0 : decode cX8_readAll 0 = .ok (.aload_n 0, 1) := by decide +kernel
theorem dX8_readAll_1 : decode cX8_readAll 1 = .ok (.iconst 0, 1) := by decide +kernel
theorem dX8_readAll_2 : decode cX8_readAll 2 = .ok (.putfield 29, 3) := by decide +kernel
theorem dX8_readAll_5 : decode cX8_readAll 5 = .ok (.aload_n 0, 1) := by decide +kernel
theorem dX8_readAll_6 : decode cX8_readAll 6 = .ok (.iconst 0, 1) := by decide +kernel
theorem dX8_readAll_7 : decode cX8_readAll 7 = .ok (.putfield 32, 3) := by decide +kernel
theorem dX8_readAll_10 : decode cX8_readAll 10 = .ok (.aload_n 0, 1) := by decide +kernel
theorem dX8_readAll_11 : decode cX8_readAll 11 = .ok (.iconst (-1), 1) := by decide +kernel
theorem dX8_readAll_12 : decode cX8_readAll 12 = .ok (.putfield 15, 3) := by decide +kernel
theorem dX8_readAll_15 : decode cX8_readAll 15 = .ok (.aload_n 0, 1) := by decide +kernel
theorem dX8_readAll_16 : decode cX8_readAll 16 = .ok (.invokevirtual 35, 3) := by decide +kernel
theorem dX8_readAll_19 : decode cX8_readAll 19 = .ok (.istore_n 1, 1) := by decide +kernel
theorem dX8_readAll_20 : decode cX8_readAll 20 = .ok (.iconst 0, 1) := by decide +kernel
theorem dX8_readAll_21 : decode cX8_readAll 21 = .ok (.istore_n 2, 1) := by decide +kernel
theorem dX8_readAll_22 : decode cX8_readAll 22 = .ok (.iload_n 2, 1) := by decide +kernel
theorem dX8_readAll_23 : decode cX8_readAll 23 = .ok (.sipush 500, 3) := by decide +kernel
theorem dX8_readAll_26 : decode cX8_readAll 26 = .ok (.if_icmp .ge 36, 3) := by decide +kernel
theorem dX8_readAll_29 : decode cX8_readAll 29 = .ok (.iload_n 1, 1) := by decide +kernel
theorem dX8_readAll_30 : decode cX8_readAll 30 = .ok (.ifCond .eq 32, 3) := by decide +kernel
theorem dX8_readAll_33 : decode cX8_readAll 33 = .ok (.aload_n 0, 1) := by decide +kernel
theorem dX8_readAll_34 : decode cX8_readAll 34 = .ok (.invokevirtual 39, 3) := by decide +kernel
theorem dX8_readAll_37 : decode cX8_readAll 37 = .ok (.aload_n 0, 1) := by decide +kernel
theorem dX8_readAll_38 : decode cX8_readAll 38 = .ok (.getfield 29, 3) := by decide +kernel
theorem dX8_readAll_41 : decode cX8_readAll 41 = .ok (.aload_n 0, 1) := by decide +kernel
theorem dX8_readAll_42 : decode cX8_readAll 42 = .ok (.getfield 26, 3) := by decide +kernel
theorem dX8_readAll_45 : decode cX8_readAll 45 = .ok (.if_icmp .lt 6, 3) := by decide +kernel
theorem dX8_readAll_48 : decode cX8_readAll 48 = .ok (.goto 14, 3) := by decide +kernel
theorem dX8_readAll_51 : decode cX8_readAll 51 = .ok (.aload_n 0, 1) := by decide +kernel
theorem dX8_readAll_52 : decode cX8_readAll 52 = .ok (.invokevirtual 42, 3) := by decide +kernel
theorem dX8_readAll_55 : decode cX8_readAll 55 = .ok (.istore_n 1, 1) := by decide +kernel
theorem dX8_readAll_56 : decode cX8_readAll 56 = .ok (.iinc 2 1, 3) := by decide +kernel
theorem dX8_readAll_59 : decode cX8_readAll 59 = .ok (.goto (-37), 3) := by decide +kernel
theorem dX8_readAll_62 : decode cX8_readAll 62 = .ok (.aload_n 0, 1) := by decide +kernel
theorem dX8_readAll_63 : decode cX8_readAll 63 = .ok (.iconst 0, 1) := by decide +kernel
theorem dX8_readAll_64 : decode cX8_readAll 64 = .ok (.putfield 26, 3) := by decide +kernel
theorem dX8_readAll_67 : decode cX8_readAll 67 = .ok (.aload_n 0, 1) := by decide +kernel
theorem dX8_readAll_68 : decode cX8_readAll 68 = .ok (.getfield 32, 3) := by decide +kernel
theorem dX8_readAll_71 : decode cX8_readAll 71 = .ok (.ifCond .ne 7, 3) := by decide +kernel
theorem dX8_readAll_74 : decode cX8_readAll 74 = .ok (.iconst 1, 1) := by decide +kernel
theorem dX8_readAll_75 : decode cX8_readAll 75 = .ok (.goto 4, 3) := by decide +kernel
theorem dX8_readAll_78 : decode cX8_readAll 78 = .ok (.iconst 0, 1) := by decide +kernel
theorem dX8_readAll_79 : decode cX8_readAll 79 = .ok (.ireturn, 1) := by decide +kernel
abbrev mX8_readAll : MI := (RX8, yX8_readAll, cX8_readAll, 3, (some .boolean))
theorem mok_X8_readAll : MOKv mX8_readAll 0 := ⟨⟨bm_1051, bm_122, ⟨by decide, by decide⟩, by decide +kernel⟩, bm_1049, bm_1050⟩
def f_X8_readAll_62   (a0 : Nat) (h : MH) : Option (Int32 × MH) :=
  lt (sI h a0 1 0) fun h_1 =>
  if (gI h_1 a0 3) = 0 then
    some (1, h_1)
  else
    some (0, h_1)
def f_X8_readAll_22b   (a0 : Nat) (k22 : Int32 × Int32 → MH → Option (Int32 × MH)) (p : Int32 × Int32) (h : MH) : Option (Int32 × MH) :=
  if p.2 < 500 then
    if p.1 = 0 then
      f_X8_readAll_62 a0 h
    else
      (f_X8_skipBlanks a0 h).bind fun q_1 =>
      if (gI q_1 a0 2) < (gI q_1 a0 1) then
        (f_X8_readRow a0 q_1).bind fun q_2 =>
        k22 (q_2.1, (p.2 + 1)) q_2.2
      else
        f_X8_readAll_62 a0 q_1
  else
    f_X8_readAll_62 a0 h
def f_X8_readAll_22   (a0 : Nat) : Nat → Int32 × Int32 → MH → Option (Int32 × MH) := lp (f_X8_readAll_22b a0)
def f_X8_readAll   (a0 : Nat) (h : MH) : Option (Int32 × MH) :=
  lt (sI h a0 2 0) fun h_1 =>
  lt (sI h_1 a0 3 0) fun h_2 =>
  lt (sI h_2 a0 4 (-1 : Int32)) fun h_3 =>
  (f_X8_readHead a0 h_3).bind fun q_4 =>
  f_X8_readAll_22 a0 FU (q_4.1, 0) q_4.2
set_option maxRecDepth 100000 in
set_option maxHeartbeats 4000000 in
theorem v_X8_readAll_62 {l : Launch} {G : GE} {B N : Nat} {S : List SHP} {o : Int32 × MH} {a0 : Nat}    (hs0 : S[a0]? = some (.inl 8)) {h : MH} (hf : f_X8_readAll_62 a0 h = some o) : V l G B N mX8_readAll (rmm 14 0 0) false 0 0 (QI S o) S 0 0 62 [(0, .ref a0)] [] h := by
  unfold f_X8_readAll_62 at hf
  refine V_aload_n (pc' := 63) dX8_readAll_62 rfl 0 rfl rfl ?_
  refine V_iconst (v := 0) (pc' := 64) dX8_readAll_63 rfl (by decide) ?_
  refine V_putI (pc' := 67) 8 1 dX8_readAll_64 rfl (by decide) (Nat.le_of_ble_eq_true rfl) bm_319 hs0 (Or.inl rfl) rfl ?_
  refine V_nmH hf (fun h_1 hf => ?_)
  refine V_aload_n (pc' := 68) dX8_readAll_67 rfl 0 rfl rfl ?_
  refine V_getI (pc' := 71) 8 3 dX8_readAll_68 rfl (by decide) (Nat.le_of_ble_eq_true rfl) bm_322 hs0 (fun _ _ _ => rfl) ?_
  refine V_if_ne (tgt := 78) (pc' := 74) dX8_readAll_71 (by decide) rfl hf (fun hf => ?_) (fun hf => ?_)
  ·
    refine V_iconst (v := 1) (pc' := 75) dX8_readAll_74 rfl (by decide) ?_
    refine V_goto (tgt := 79) dX8_readAll_75 (by decide) ?_
    obtain rfl := Option.some.inj hf
    exact V_zretL dX8_readAll_79 rfl rfl rfl (by decide) ⟨rfl, rfl, rfl⟩
  ·
    refine V_iconst (v := 0) (pc' := 79) dX8_readAll_78 rfl (by decide) ?_
    obtain rfl := Option.some.inj hf
    exact V_zretL dX8_readAll_79 rfl rfl rfl (by decide) ⟨rfl, rfl, rfl⟩
set_option maxRecDepth 100000 in
set_option maxHeartbeats 4000000 in
theorem v_X8_readAll_22b {l : Launch} {G : GE} {B N : Nat} {S : List SHP} {o : Int32 × MH} {a0 : Nat}    (hs0 : S[a0]? = some (.inl 8)) {k22 : Int32 × Int32 → MH → Option (Int32 × MH)} (hk22 : ∀ (p : Int32 × Int32) (h : MH), k22 p h = some o → V l G B N mX8_readAll (rmm 14 0 0) false 0 0 (QI S o) S 0 0 22 [(0, .ref a0), (1, .int p.1), (2, .int p.2)] [] h) {p : Int32 × Int32} {h : MH} (hf : f_X8_readAll_22b a0 k22 p h = some o) : V l G B N mX8_readAll (rmm 14 0 0) false 0 0 (QI S o) S 0 0 22 [(0, .ref a0), (1, .int p.1), (2, .int p.2)] [] h := by
  unfold f_X8_readAll_22b at hf
  refine V_iload_n (pc' := 23) dX8_readAll_22 rfl 2 rfl rfl ?_
  refine V_sipush (v := 500) (pc' := 26) dX8_readAll_23 rfl (by decide) ?_
  refine V_icmp_ge (tgt := 62) (pc' := 29) dX8_readAll_26 (by decide) rfl hf (fun hf => ?_) (fun hf => ?_)
  ·
    refine V_iload_n (pc' := 30) dX8_readAll_29 rfl 1 rfl rfl ?_
    refine V_if_eq (tgt := 62) (pc' := 33) dX8_readAll_30 (by decide) rfl hf (fun hf => ?_) (fun hf => ?_)
    ·
      exact V_sub (lv' := [(0, .ref a0)]) [0] rfl (v_X8_readAll_62 hs0 hf)
    ·
      refine V_aload_n (pc' := 34) dX8_readAll_33 rfl 0 rfl rfl ?_
      refine V_cvV (pc' := 37) (As := []) (rest := []) dX8_readAll_34 rfl mok_X8_skipBlanks bm_1056 8 (by decide) rfl hs0 rfl rfl (Nat.le_of_ble_eq_true rfl) (by decide) hf (fun q e => ct_X8_skipBlanks hs0 e) (fun q_1 hf => ?_)
      refine V_aload_n (pc' := 38) dX8_readAll_37 rfl 0 rfl rfl ?_
      refine V_getI (pc' := 41) 8 2 dX8_readAll_38 rfl (by decide) (Nat.le_of_ble_eq_true rfl) bm_321 hs0 (fun _ _ _ => rfl) ?_
      refine V_aload_n (pc' := 42) dX8_readAll_41 rfl 0 rfl rfl ?_
      refine V_getI (pc' := 45) 8 1 dX8_readAll_42 rfl (by decide) (Nat.le_of_ble_eq_true rfl) bm_319 hs0 (fun _ _ _ => rfl) ?_
      refine V_icmp_lt (tgt := 51) (pc' := 48) dX8_readAll_45 (by decide) rfl hf (fun hf => ?_) (fun hf => ?_)
      ·
        refine V_aload_n (pc' := 52) dX8_readAll_51 rfl 0 rfl rfl ?_
        refine V_cvI (pc' := 55) (As := []) (rest := []) dX8_readAll_52 rfl mok_X8_readRow bm_1143 8 (by decide) rfl hs0 rfl rfl (Nat.le_of_ble_eq_true rfl) (by decide) hf (fun q e => ct_X8_readRow hs0 e) (fun q_2 hf => ?_)
        refine V_istore_n (lv' := [(1, .int q_2.1), (0, .ref a0), (2, .int p.2)]) (pc' := 56) dX8_readAll_55 rfl rfl (Nat.le_of_ble_eq_true rfl) rfl ?_
        refine V_iinc (v := (p.2 + 1)) (lv' := [(2, .int (p.2 + 1)), (1, .int q_2.1), (0, .ref a0)]) (pc' := 59) dX8_readAll_56 rfl 2 rfl rfl (Nat.le_of_ble_eq_true rfl) rfl ?_
        refine V_goto (tgt := 22) dX8_readAll_59 (by decide) ?_
        exact V_sub (lv' := [(0, .ref a0), (1, .int q_2.1), (2, .int (p.2 + 1))]) [2, 1, 0] rfl (hk22 (q_2.1, (p.2 + 1)) q_2.2 hf)
      ·
        refine V_goto (tgt := 62) dX8_readAll_48 (by decide) ?_
        exact V_sub (lv' := [(0, .ref a0)]) [0] rfl (v_X8_readAll_62 hs0 hf)
  ·
    exact V_sub (lv' := [(0, .ref a0)]) [0] rfl (v_X8_readAll_62 hs0 hf)
theorem v_X8_readAll_22 {l : Launch} {G : GE} {B N : Nat} {S : List SHP} {o : Int32 × MH} {a0 : Nat}    (hs0 : S[a0]? = some (.inl 8)) {n : Nat} {p : Int32 × Int32} {h : MH} (hf : f_X8_readAll_22 a0 n p h = some o) : V l G B N mX8_readAll (rmm 14 0 0) false 0 0 (QI S o) S 0 0 22 [(0, .ref a0), (1, .int p.1), (2, .int p.2)] [] h :=
  V_lp (VV := fun p h => V l G B N mX8_readAll (rmm 14 0 0) false 0 0 (QI S o) S 0 0 22 [(0, .ref a0), (1, .int p.1), (2, .int p.2)] [] h) (fun _ hk _ _ hf => v_X8_readAll_22b hs0 hk hf) n p h hf
set_option maxRecDepth 100000 in
set_option maxHeartbeats 4000000 in
theorem v_X8_readAll {l : Launch} {G : GE} {B N : Nat} {S : List SHP} {o : Int32 × MH} {a0 : Nat}    (hs0 : S[a0]? = some (.inl 8)) {h : MH} (hf : f_X8_readAll a0 h = some o) : V l G B N mX8_readAll (rmm 14 0 0) false 0 0 (QI S o) S 0 0 0 [(0, .ref a0)] [] h := by
  unfold f_X8_readAll at hf
  refine V_aload_n (pc' := 1) dX8_readAll_0 rfl 0 rfl rfl ?_
  refine V_iconst (v := 0) (pc' := 2) dX8_readAll_1 rfl (by decide) ?_
  refine V_putI (pc' := 5) 8 2 dX8_readAll_2 rfl (by decide) (Nat.le_of_ble_eq_true rfl) bm_321 hs0 (Or.inl rfl) rfl ?_
  refine V_nmH hf (fun h_1 hf => ?_)
  refine V_aload_n (pc' := 6) dX8_readAll_5 rfl 0 rfl rfl ?_
  refine V_iconst (v := 0) (pc' := 7) dX8_readAll_6 rfl (by decide) ?_
  refine V_putI (pc' := 10) 8 3 dX8_readAll_7 rfl (by decide) (Nat.le_of_ble_eq_true rfl) bm_322 hs0 (Or.inl rfl) rfl ?_
  refine V_nmH hf (fun h_2 hf => ?_)
  refine V_aload_n (pc' := 11) dX8_readAll_10 rfl 0 rfl rfl ?_
  refine V_iconst (v := (-1)) (pc' := 12) dX8_readAll_11 rfl (by decide) ?_
  refine V_putI (pc' := 15) 8 4 dX8_readAll_12 rfl (by decide) (Nat.le_of_ble_eq_true rfl) bm_324 hs0 (Or.inl rfl) rfl ?_
  refine V_nmH hf (fun h_3 hf => ?_)
  refine V_aload_n (pc' := 16) dX8_readAll_15 rfl 0 rfl rfl ?_
  refine V_cvI (pc' := 19) (As := []) (rest := []) dX8_readAll_16 rfl mok_X8_readHead bm_1052 8 (by decide) rfl hs0 rfl rfl (Nat.le_of_ble_eq_true rfl) (by decide) hf (fun q e => ct_X8_readHead hs0 e) (fun q_4 hf => ?_)
  refine V_istore_n (lv' := [(1, .int q_4.1), (0, .ref a0)]) (pc' := 20) dX8_readAll_19 rfl rfl (Nat.le_of_ble_eq_true rfl) rfl ?_
  refine V_iconst (v := 0) (pc' := 21) dX8_readAll_20 rfl (by decide) ?_
  refine V_istore_n (lv' := [(2, .int 0), (1, .int q_4.1), (0, .ref a0)]) (pc' := 22) dX8_readAll_21 rfl rfl (Nat.le_of_ble_eq_true rfl) rfl ?_
  exact V_sub (lv' := [(0, .ref a0), (1, .int q_4.1), (2, .int 0)]) [2, 1, 0] rfl (v_X8_readAll_22 hs0 hf)
theorem ct_X8_readAll {l : Launch} {S : List SHP} {h : MH} {a0 : Nat} (hs0 : S[a0]? = some (.inl 8)) {q : Int32 × MH} (hf : f_X8_readAll a0 h = some q) : CT l mX8_readAll 14 false 0 0 S [.ref a0] h (QI S q) :=
  CT_ofV (by decide) rfl (Nat.le_of_ble_eq_true rfl) (fun G B hT => v_X8_readAll hs0 hf)
