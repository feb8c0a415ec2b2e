/-! LabelStacks$Packet.isDropped()Z -/
theorem dX3_isDropped_0 : decode cX3_isDropped 0 = .ok (.aload_n 0, 1) := by decide +kernel
theorem dX3_isDropped_1 : decode cX3_isDropped 1 = .ok (.getfield 41, 3) := by decide +kernel
theorem dX3_isDropped_4 : decode cX3_isDropped 4 = .ok (.iconst (-1), 1) := by decide +kernel
theorem dX3_isDropped_5 : decode cX3_isDropped 5 = .ok (.if_icmp .eq 7, 3) := by decide +kernel
theorem dX3_isDropped_8 : decode cX3_isDropped 8 = .ok (.iconst 1, 1) := by decide +kernel
theorem dX3_isDropped_9 : decode cX3_isDropped 9 = .ok (.goto 4, 3) := by decide +kernel
theorem dX3_isDropped_12 : decode cX3_isDropped 12 = .ok (.iconst 0, 1) := by decide +kernel
theorem dX3_isDropped_13 : decode cX3_isDropped 13 = .ok (.ireturn, 1) := by decide +kernel
abbrev mX3_isDropped : MI := (RX3, yX3_isDropped, cX3_isDropped, 1, (some .boolean))
theorem mok_X3_isDropped : MOKv mX3_isDropped 0 := ⟨⟨bm_955, bm_125, ⟨by decide, by decide⟩, by decide +kernel⟩, bm_953, bm_954⟩
def f_X3_isDropped   (a0 : Nat) (h : MH) : Option (Int32 × MH) :=
  if (gI h a0 10) = (-1 : Int32) then
    some (0, h)
  else
    some (1, h)
set_option maxRecDepth 100000 in
set_option maxHeartbeats 4000000 in
theorem v_X3_isDropped {l : Launch} {G : GE} {B N : Nat} {S : List SHP} {o : Int32 × MH} {a0 : Nat}    (hs0 : S[a0]? = some (.inl 3)) {h : MH} (hf : f_X3_isDropped a0 h = some o) : V l G B N mX3_isDropped (rmm 3 0 0) false 0 0 (QI S o) S 0 0 0 [(0, .ref a0)] [] h := by
  unfold f_X3_isDropped at hf
  refine V_aload_n (pc' := 1) dX3_isDropped_0 rfl 0 rfl rfl ?_
  refine V_getI (pc' := 4) 3 10 dX3_isDropped_1 rfl (by decide) (Nat.le_of_ble_eq_true rfl) bm_428 hs0 (fun _ _ _ => rfl) ?_
  refine V_iconst (v := (-1)) (pc' := 5) dX3_isDropped_4 rfl (by decide) ?_
  refine V_icmp_eq (tgt := 12) (pc' := 8) dX3_isDropped_5 (by decide) rfl hf (fun hf => ?_) (fun hf => ?_)
  ·
    refine V_iconst (v := 0) (pc' := 13) dX3_isDropped_12 rfl (by decide) ?_
    obtain rfl := Option.some.inj hf
    exact V_zretL dX3_isDropped_13 rfl rfl rfl (by decide) ⟨rfl, rfl, rfl⟩
  ·
    refine V_iconst (v := 1) (pc' := 9) dX3_isDropped_8 rfl (by decide) ?_
    refine V_goto (tgt := 13) dX3_isDropped_9 (by decide) ?_
    obtain rfl := Option.some.inj hf
    exact V_zretL dX3_isDropped_13 rfl rfl rfl (by decide) ⟨rfl, rfl, rfl⟩
theorem ct_X3_isDropped {l : Launch} {S : List SHP} {h : MH} {a0 : Nat} (hs0 : S[a0]? = some (.inl 3)) {q : Int32 × MH} (hf : f_X3_isDropped a0 h = some q) : CT l mX3_isDropped 3 false 0 0 S [.ref a0] h (QI S q) :=
  CT_ofV (by decide) rfl (Nat.le_of_ble_eq_true rfl) (fun G B hT => v_X3_isDropped hs0 hf)
/-! LabelStacks$Packet.outcome()I -/
theorem dX3_outcome_0 : decode cX3_outcome 0 = .ok (.aload_n 0, 1) := by decide +kernel
theorem dX3_outcome_1 : decode cX3_outcome 1 = .ok (.getfield 41, 3) := by decide +kernel
theorem dX3_outcome_4 : decode cX3_outcome 4 = .ok (.iconst (-1), 1) := by decide +kernel
theorem dX3_outcome_5 : decode cX3_outcome 5 = .ok (.if_icmp .ne 10, 3) := by decide +kernel
theorem dX3_outcome_8 : decode cX3_outcome 8 = .ok (.aload_n 0, 1) := by decide +kernel
theorem dX3_outcome_9 : decode cX3_outcome 9 = .ok (.getfield 45, 3) := by decide +kernel
theorem dX3_outcome_12 : decode cX3_outcome 12 = .ok (.goto 10, 3) := by decide +kernel
theorem dX3_outcome_15 : decode cX3_outcome 15 = .ok (.bipush (-2), 2) := by decide +kernel
theorem dX3_outcome_17 : decode cX3_outcome 17 = .ok (.aload_n 0, 1) := by decide +kernel
theorem dX3_outcome_18 : decode cX3_outcome 18 = .ok (.getfield 41, 3) := by decide +kernel
theorem dX3_outcome_21 : decode cX3_outcome 21 = .ok (.isub, 1) := by decide +kernel
theorem dX3_outcome_22 : decode cX3_outcome 22 = .ok (.ireturn, 1) := by decide +kernel
abbrev mX3_outcome : MI := (RX3, yX3_outcome, cX3_outcome, 1, (some .int))
theorem mok_X3_outcome : MOKv mX3_outcome 0 := ⟨⟨bm_904, bm_125, ⟨by decide, by decide⟩, by decide +kernel⟩, bm_902, bm_903⟩
def f_X3_outcome   (a0 : Nat) (h : MH) : Option (Int32 × MH) :=
  if (gI h a0 10) = (-1 : Int32) then
    some ((gI h a0 7), h)
  else
    some (((-2 : Int32) - (gI h a0 10)), h)
set_option maxRecDepth 100000 in
set_option maxHeartbeats 4000000 in
theorem v_X3_outcome {l : Launch} {G : GE} {B N : Nat} {S : List SHP} {o : Int32 × MH} {a0 : Nat}    (hs0 : S[a0]? = some (.inl 3)) {h : MH} (hf : f_X3_outcome a0 h = some o) : V l G B N mX3_outcome (rmm 3 0 0) false 0 0 (QI S o) S 0 0 0 [(0, .ref a0)] [] h := by
  unfold f_X3_outcome at hf
  refine V_aload_n (pc' := 1) dX3_outcome_0 rfl 0 rfl rfl ?_
  refine V_getI (pc' := 4) 3 10 dX3_outcome_1 rfl (by decide) (Nat.le_of_ble_eq_true rfl) bm_428 hs0 (fun _ _ _ => rfl) ?_
  refine V_iconst (v := (-1)) (pc' := 5) dX3_outcome_4 rfl (by decide) ?_
  refine V_icmp_ne (tgt := 15) (pc' := 8) dX3_outcome_5 (by decide) rfl hf (fun hf => ?_) (fun hf => ?_)
  ·
    refine V_aload_n (pc' := 9) dX3_outcome_8 rfl 0 rfl rfl ?_
    refine V_getI (pc' := 12) 3 7 dX3_outcome_9 rfl (by decide) (Nat.le_of_ble_eq_true rfl) bm_423 hs0 (fun _ _ _ => rfl) ?_
    refine V_goto (tgt := 22) dX3_outcome_12 (by decide) ?_
    obtain rfl := Option.some.inj hf
    exact V_iret dX3_outcome_22 rfl rfl rfl ⟨rfl, rfl, rfl⟩
  ·
    refine V_bipush (v := (-2)) (pc' := 17) dX3_outcome_15 rfl (by decide) ?_
    refine V_aload_n (pc' := 18) dX3_outcome_17 rfl 0 rfl rfl ?_
    refine V_getI (pc' := 21) 3 10 dX3_outcome_18 rfl (by decide) (Nat.le_of_ble_eq_true rfl) bm_428 hs0 (fun _ _ _ => rfl) ?_
    refine V_isub (pc' := 22) dX3_outcome_21 rfl ?_
    obtain rfl := Option.some.inj hf
    exact V_iret dX3_outcome_22 rfl rfl rfl ⟨rfl, rfl, rfl⟩
theorem ct_X3_outcome {l : Launch} {S : List SHP} {h : MH} {a0 : Nat} (hs0 : S[a0]? = some (.inl 3)) {q : Int32 × MH} (hf : f_X3_outcome a0 h = some q) : CT l mX3_outcome 3 false 0 0 S [.ref a0] h (QI S q) :=
  CT_ofV (by decide) rfl (Nat.le_of_ble_eq_true rfl) (fun G B hT => v_X3_outcome hs0 hf)
/-! LabelStacks$Packet.begin(I)V -/
theorem dX3_begin_0 : decode cX3_begin 0 = .ok (.aload_n 0, 1) := by decide +kernel
theorem dX3_begin_1 : decode cX3_begin 1 = .ok (.iload_n 1, 1) := by decide +kernel
theorem dX3_begin_2 : decode cX3_begin 2 = .ok (.putfield 45, 3) := by decide +kernel
theorem dX3_begin_5 : decode cX3_begin 5 = .ok (.aload_n 0, 1) := by decide +kernel
theorem dX3_begin_6 : decode cX3_begin 6 = .ok (.iconst 0, 1) := by decide +kernel
theorem dX3_begin_7 : decode cX3_begin 7 = .ok (.putfield 78, 3) := by decide +kernel
theorem dX3_begin_10 : decode cX3_begin 10 = .ok (.aload_n 0, 1) := by decide +kernel
theorem dX3_begin_11 : decode cX3_begin 11 = .ok (.aload_n 0, 1) := by decide +kernel
theorem dX3_begin_12 : decode cX3_begin 12 = .ok (.getfield 14, 3) := by decide +kernel
theorem dX3_begin_15 : decode cX3_begin 15 = .ok (.getfield 81, 3) := by decide +kernel
theorem dX3_begin_18 : decode cX3_begin 18 = .ok (.putfield 69, 3) := by decide +kernel
theorem dX3_begin_21 : decode cX3_begin 21 = .ok (.aload_n 0, 1) := by decide +kernel
theorem dX3_begin_22 : decode cX3_begin 22 = .ok (.iconst (-1), 1) := by decide +kernel
theorem dX3_begin_23 : decode cX3_begin 23 = .ok (.putfield 41, 3) := by decide +kernel
theorem dX3_begin_26 : decode cX3_begin 26 = .ok (.aload_n 0, 1) := by decide +kernel
theorem dX3_begin_27 : decode cX3_begin 27 = .ok (.iconst 1, 1) := by decide +kernel
theorem dX3_begin_28 : decode cX3_begin 28 = .ok (.putfield 65, 3) := by decide +kernel
theorem dX3_begin_31 : decode cX3_begin 31 = .ok (.aload_n 0, 1) := by decide +kernel
theorem dX3_begin_32 : decode cX3_begin 32 = .ok (.getfield 20, 3) := by decide +kernel
theorem dX3_begin_35 : decode cX3_begin 35 = .ok (.iconst 0, 1) := by decide +kernel
theorem dX3_begin_36 : decode cX3_begin 36 = .ok (.putfield 81, 3) := by decide +kernel
theorem dX3_begin_39 : decode cX3_begin 39 = .ok (.aload_n 0, 1) := by decide +kernel
theorem dX3_begin_40 : decode cX3_begin 40 = .ok (.getfield 26, 3) := by decide +kernel
theorem dX3_begin_43 : decode cX3_begin 43 = .ok (.invokevirtual 84, 3) := by decide +kernel
theorem dX3_begin_46 : decode cX3_begin 46 = .ok (.aload_n 0, 1) := by decide +kernel
theorem dX3_begin_47 : decode cX3_begin 47 = .ok (.iconst 0, 1) := by decide +kernel
theorem dX3_begin_48 : decode cX3_begin 48 = .ok (.putfield 51, 3) := by decide +kernel
theorem dX3_begin_51 : decode cX3_begin 51 = .ok (.aload_n 0, 1) := by decide +kernel
theorem dX3_begin_52 : decode cX3_begin 52 = .ok (.getfield 14, 3) := by decide +kernel
theorem dX3_begin_55 : decode cX3_begin 55 = .ok (.getfield 81, 3) := by decide +kernel
theorem dX3_begin_58 : decode cX3_begin 58 = .ok (.iconst 1, 1) := by decide +kernel
theorem dX3_begin_59 : decode cX3_begin 59 = .ok (.isub, 1) := by decide +kernel
theorem dX3_begin_60 : decode cX3_begin 60 = .ok (.istore_n 2, 1) := by decide +kernel
theorem dX3_begin_61 : decode cX3_begin 61 = .ok (.iload_n 2, 1) := by decide +kernel
theorem dX3_begin_62 : decode cX3_begin 62 = .ok (.ifCond .lt 37, 3) := by decide +kernel
theorem dX3_begin_65 : decode cX3_begin 65 = .ok (.aload_n 0, 1) := by decide +kernel
theorem dX3_begin_66 : decode cX3_begin 66 = .ok (.getfield 30, 3) := by decide +kernel
theorem dX3_begin_69 : decode cX3_begin 69 = .ok (.aload_n 0, 1) := by decide +kernel
theorem dX3_begin_70 : decode cX3_begin 70 = .ok (.getfield 51, 3) := by decide +kernel
theorem dX3_begin_73 : decode cX3_begin 73 = .ok (.aload_n 0, 1) := by decide +kernel
theorem dX3_begin_74 : decode cX3_begin 74 = .ok (.getfield 14, 3) := by decide +kernel
theorem dX3_begin_77 : decode cX3_begin 77 = .ok (.getfield 87, 3) := by decide +kernel
theorem dX3_begin_80 : decode cX3_begin 80 = .ok (.iload_n 2, 1) := by decide +kernel
theorem dX3_begin_81 : decode cX3_begin 81 = .ok (.iaload, 1) := by decide +kernel
theorem dX3_begin_82 : decode cX3_begin 82 = .ok (.iastore, 1) := by decide +kernel
theorem dX3_begin_83 : decode cX3_begin 83 = .ok (.aload_n 0, 1) := by decide +kernel
theorem dX3_begin_84 : decode cX3_begin 84 = .ok (.dup, 1) := by decide +kernel
theorem dX3_begin_85 : decode cX3_begin 85 = .ok (.getfield 51, 3) := by decide +kernel
theorem dX3_begin_88 : decode cX3_begin 88 = .ok (.iconst 1, 1) := by decide +kernel
theorem dX3_begin_89 : decode cX3_begin 89 = .ok (.iadd, 1) := by decide +kernel
theorem dX3_begin_90 : decode cX3_begin 90 = .ok (.putfield 51, 3) := by decide +kernel
theorem dX3_begin_93 : decode cX3_begin 93 = .ok (.iinc 2 (-1), 3) := by decide +kernel
theorem dX3_begin_96 : decode cX3_begin 96 = .ok (.goto (-35), 3) := by decide +kernel
theorem dX3_begin_99 : decode cX3_begin 99 = .ok (.return_, 1) := by decide +kernel
abbrev mX3_begin : MI := (RX3, yX3_begin, cX3_begin, 3, none)
theorem mok_X3_begin : MOKv mX3_begin 1 := ⟨⟨bm_830, bm_125, ⟨by decide, by decide⟩, by decide +kernel⟩, bm_829, bm_12⟩
def f_X3_begin_61b   (a0 : Nat) (k61 : Int32 → MH → Option (MH)) (p : Int32) (h : MH) : Option (MH) :=
  if p < 0 then
    some h
  else
    (gR h a0 3).bind fun a_1 =>
    (gR h a0 0).bind fun a_2 =>
    (gR h a_2 0).bind fun a_3 =>
    (ldI h a_3 p).bind fun x_4 =>
    (stI h a_1 (gI h a0 4) x_4).bind fun h_5 =>
    lt (sI h_5 a0 4 ((gI h_5 a0 4) + 1)) fun h_6 =>
    k61 (p + (-1)) h_6
def f_X3_begin_61   (a0 : Nat) : Nat → Int32 → MH → Option (MH) := lp (f_X3_begin_61b a0)
def f_X3_begin   (a0 : Nat) (x1 : Int32) (h : MH) : Option (MH) :=
  lt (sI h a0 7 x1) fun h_1 =>
  lt (sI h_1 a0 8 0) fun h_2 =>
  (gR h_2 a0 0).bind fun a_3 =>
  lt (sI h_2 a0 9 (gI h_2 a_3 1)) fun h_4 =>
  lt (sI h_4 a0 10 (-1 : Int32)) fun h_5 =>
  lt (sI h_5 a0 11 1) fun h_6 =>
  (gR h_6 a0 1).bind fun a_7 =>
  lt (sI h_6 a_7 1 0) fun h_8 =>
  (gR h_8 a0 2).bind fun a_9 =>
  (f_X1_clear a_9 h_8).bind fun q_10 =>
  lt (sI q_10 a0 4 0) fun h_11 =>
  (gR h_11 a0 0).bind fun a_12 =>
  lt ((gI h_11 a_12 1) - 1) fun x_13 =>
  f_X3_begin_61 a0 FU x_13 h_11
set_option maxRecDepth 100000 in
set_option maxHeartbeats 4000000 in
theorem v_X3_begin_61b {l : Launch} {G : GE} {B N : Nat} {S : List SHP} {o : MH} {a0 : Nat}    (hs0 : S[a0]? = some (.inl 3)) {k61 : Int32 → MH → Option (MH)} (hk61 : ∀ (p : Int32) (h : MH), k61 p h = some o → V l G B N mX3_begin (rmm 5 0 0) false 0 0 (QV S o) S 0 0 61 [(0, .ref a0), (2, .int p)] [] h) {p : Int32} {h : MH} (hf : f_X3_begin_61b a0 k61 p h = some o) : V l G B N mX3_begin (rmm 5 0 0) false 0 0 (QV S o) S 0 0 61 [(0, .ref a0), (2, .int p)] [] h := by
  unfold f_X3_begin_61b at hf
  refine V_iload_n (pc' := 62) dX3_begin_61 rfl 1 rfl rfl ?_
  refine V_if_lt (tgt := 99) (pc' := 65) dX3_begin_62 (by decide) rfl hf (fun hf => ?_) (fun hf => ?_)
  ·
    obtain rfl := Option.some.inj hf
    exact V_vret dX3_begin_99 rfl rfl rfl ⟨rfl, rfl, rfl⟩
  ·
    refine V_aload_n (pc' := 66) dX3_begin_65 rfl 0 rfl rfl ?_
    refine V_getR (pc' := 69) 3 3 dX3_begin_66 rfl (by decide) (Nat.le_of_ble_eq_true rfl) bm_419 hs0 (fun _ _ _ => rfl) rfl hf (fun a_1 ha_1 hf => ?_)
    refine V_aload_n (pc' := 70) dX3_begin_69 rfl 0 rfl rfl ?_
    refine V_getI (pc' := 73) 3 4 dX3_begin_70 rfl (by decide) (Nat.le_of_ble_eq_true rfl) bm_420 hs0 (fun _ _ _ => rfl) ?_
    refine V_aload_n (pc' := 74) dX3_begin_73 rfl 0 rfl rfl ?_
    refine V_getR (pc' := 77) 3 0 dX3_begin_74 rfl (by decide) (Nat.le_of_ble_eq_true rfl) bm_413 hs0 (fun _ _ _ => rfl) rfl hf (fun a_2 ha_2 hf => ?_)
    refine V_getR (pc' := 80) 5 0 dX3_begin_77 rfl (by decide) (Nat.le_of_ble_eq_true rfl) bm_249 ha_2 (fun _ _ _ => rfl) rfl hf (fun a_3 ha_3 hf => ?_)
    refine V_iload_n (pc' := 81) dX3_begin_80 rfl 1 rfl rfl ?_
    refine V_iald (pc' := 82) dX3_begin_81 rfl ha_3 hf (fun x_4 hf => ?_)
    refine V_iast (pc' := 83) dX3_begin_82 rfl ha_1 hf (fun h_5 hf => ?_)
    refine V_aload_n (pc' := 84) dX3_begin_83 rfl 0 rfl rfl ?_
    refine V_dup (pc' := 85) dX3_begin_84 rfl rfl ?_
    refine V_getI (pc' := 88) 3 4 dX3_begin_85 rfl (by decide) (Nat.le_of_ble_eq_true rfl) bm_420 hs0 (fun _ _ _ => rfl) ?_
    refine V_iconst (v := 1) (pc' := 89) dX3_begin_88 rfl (by decide) ?_
    refine V_iadd (pc' := 90) dX3_begin_89 rfl ?_
    refine V_putI (pc' := 93) 3 4 dX3_begin_90 rfl (by decide) (Nat.le_of_ble_eq_true rfl) bm_420 hs0 (Or.inl rfl) rfl ?_
    refine V_nmH hf (fun h_6 hf => ?_)
    refine V_iinc (v := (p + (-1))) (lv' := [(2, .int (p + (-1))), (0, .ref a0)]) (pc' := 96) dX3_begin_93 rfl 1 rfl rfl (Nat.le_of_ble_eq_true rfl) rfl ?_
    refine V_goto (tgt := 61) dX3_begin_96 (by decide) ?_
    exact V_sub (lv' := [(0, .ref a0), (2, .int (p + (-1)))]) [1, 0] rfl (hk61 (p + (-1)) h_6 hf)
theorem v_X3_begin_61 {l : Launch} {G : GE} {B N : Nat} {S : List SHP} {o : MH} {a0 : Nat}    (hs0 : S[a0]? = some (.inl 3)) {n : Nat} {p : Int32} {h : MH} (hf : f_X3_begin_61 a0 n p h = some o) : V l G B N mX3_begin (rmm 5 0 0) false 0 0 (QV S o) S 0 0 61 [(0, .ref a0), (2, .int p)] [] h :=
  V_lp (VV := fun p h => V l G B N mX3_begin (rmm 5 0 0) false 0 0 (QV S o) S 0 0 61 [(0, .ref a0), (2, .int p)] [] h) (fun _ hk _ _ hf => v_X3_begin_61b hs0 hk hf) n p h hf
set_option maxRecDepth 100000 in
set_option maxHeartbeats 4000000 in
theorem v_X3_begin {l : Launch} {G : GE} {B N : Nat} {S : List SHP} {o : MH} {a0 : Nat} {x1 : Int32}    (hs0 : S[a0]? = some (.inl 3)) {h : MH} (hf : f_X3_begin a0 x1 h = some o) : V l G B N mX3_begin (rmm 5 0 0) false 0 0 (QV S o) S 0 0 0 [(0, .ref a0), (1, .int x1)] [] h := by
  unfold f_X3_begin at hf
  refine V_aload_n (pc' := 1) dX3_begin_0 rfl 0 rfl rfl ?_
  refine V_iload_n (pc' := 2) dX3_begin_1 rfl 1 rfl rfl ?_
  refine V_putI (pc' := 5) 3 7 dX3_begin_2 rfl (by decide) (Nat.le_of_ble_eq_true rfl) bm_423 hs0 (Or.inl rfl) rfl ?_
  refine V_nmH hf (fun h_1 hf => ?_)
  refine V_aload_n (pc' := 6) dX3_begin_5 rfl 0 rfl rfl ?_
  refine V_iconst (v := 0) (pc' := 7) dX3_begin_6 rfl (by decide) ?_
  refine V_putI (pc' := 10) 3 8 dX3_begin_7 rfl (by decide) (Nat.le_of_ble_eq_true rfl) bm_424 hs0 (Or.inl rfl) rfl ?_
  refine V_nmH hf (fun h_2 hf => ?_)
  refine V_aload_n (pc' := 11) dX3_begin_10 rfl 0 rfl rfl ?_
  refine V_aload_n (pc' := 12) dX3_begin_11 rfl 0 rfl rfl ?_
  refine V_getR (pc' := 15) 3 0 dX3_begin_12 rfl (by decide) (Nat.le_of_ble_eq_true rfl) bm_413 hs0 (fun _ _ _ => rfl) rfl hf (fun a_3 ha_3 hf => ?_)
  refine V_getI (pc' := 18) 5 1 dX3_begin_15 rfl (by decide) (Nat.le_of_ble_eq_true rfl) bm_253 ha_3 (fun _ _ _ => rfl) ?_
  refine V_putI (pc' := 21) 3 9 dX3_begin_18 rfl (by decide) (Nat.le_of_ble_eq_true rfl) bm_426 hs0 (Or.inl rfl) rfl ?_
  refine V_nmH hf (fun h_4 hf => ?_)
  refine V_aload_n (pc' := 22) dX3_begin_21 rfl 0 rfl rfl ?_
  refine V_iconst (v := (-1)) (pc' := 23) dX3_begin_22 rfl (by decide) ?_
  refine V_putI (pc' := 26) 3 10 dX3_begin_23 rfl (by decide) (Nat.le_of_ble_eq_true rfl) bm_428 hs0 (Or.inl rfl) rfl ?_
  refine V_nmH hf (fun h_5 hf => ?_)
  refine V_aload_n (pc' := 27) dX3_begin_26 rfl 0 rfl rfl ?_
  refine V_iconst (v := 1) (pc' := 28) dX3_begin_27 rfl (by decide) ?_
  refine V_putZL (pc' := 31) 3 11 dX3_begin_28 rfl (by decide) (Nat.le_of_ble_eq_true rfl) bm_429 hs0 rfl rfl (by decide) ?_
  refine V_nmH hf (fun h_6 hf => ?_)
  refine V_aload_n (pc' := 32) dX3_begin_31 rfl 0 rfl rfl ?_
  refine V_getR (pc' := 35) 3 1 dX3_begin_32 rfl (by decide) (Nat.le_of_ble_eq_true rfl) bm_415 hs0 (fun _ _ _ => rfl) rfl hf (fun a_7 ha_7 hf => ?_)
  refine V_iconst (v := 0) (pc' := 36) dX3_begin_35 rfl (by decide) ?_
  refine V_putI (pc' := 39) 5 1 dX3_begin_36 rfl (by decide) (Nat.le_of_ble_eq_true rfl) bm_253 ha_7 (Or.inl rfl) rfl ?_
  refine V_nmH hf (fun h_8 hf => ?_)
  refine V_aload_n (pc' := 40) dX3_begin_39 rfl 0 rfl rfl ?_
  refine V_getR (pc' := 43) 3 2 dX3_begin_40 rfl (by decide) (Nat.le_of_ble_eq_true rfl) bm_417 hs0 (fun _ _ _ => rfl) rfl hf (fun a_9 ha_9 hf => ?_)
  refine V_cvV (pc' := 46) (As := []) (rest := []) dX3_begin_43 rfl mok_X1_clear bm_831 1 (by decide) rfl ha_9 rfl rfl (Nat.le_of_ble_eq_true rfl) (by decide) hf (fun q e => ct_X1_clear ha_9 e) (fun q_10 hf => ?_)
  refine V_aload_n (pc' := 47) dX3_begin_46 rfl 0 rfl rfl ?_
  refine V_iconst (v := 0) (pc' := 48) dX3_begin_47 rfl (by decide) ?_
  refine V_putI (pc' := 51) 3 4 dX3_begin_48 rfl (by decide) (Nat.le_of_ble_eq_true rfl) bm_420 hs0 (Or.inl rfl) rfl ?_
  refine V_nmH hf (fun h_11 hf => ?_)
  refine V_aload_n (pc' := 52) dX3_begin_51 rfl 0 rfl rfl ?_
  refine V_getR (pc' := 55) 3 0 dX3_begin_52 rfl (by decide) (Nat.le_of_ble_eq_true rfl) bm_413 hs0 (fun _ _ _ => rfl) rfl hf (fun a_12 ha_12 hf => ?_)
  refine V_getI (pc' := 58) 5 1 dX3_begin_55 rfl (by decide) (Nat.le_of_ble_eq_true rfl) bm_253 ha_12 (fun _ _ _ => rfl) ?_
  refine V_iconst (v := 1) (pc' := 59) dX3_begin_58 rfl (by decide) ?_
  refine V_isub (pc' := 60) dX3_begin_59 rfl ?_
  refine V_nmI hf (fun x_13 hf => ?_)
  refine V_istore_n (lv' := [(2, .int x_13), (0, .ref a0), (1, .int x1)]) (pc' := 61) dX3_begin_60 rfl rfl (Nat.le_of_ble_eq_true rfl) rfl ?_
  exact V_sub (lv' := [(0, .ref a0), (2, .int x_13)]) [1, 0] rfl (v_X3_begin_61 hs0 hf)
theorem ct_X3_begin {l : Launch} {S : List SHP} {h : MH} {a0 : Nat} {x1 : Int32} (hs0 : S[a0]? = some (.inl 3)) {q : MH} (hf : f_X3_begin a0 x1 h = some q) : CT l mX3_begin 5 false 0 0 S [.ref a0, .int x1] h (QV S q) :=
  CT_ofV (by decide) rfl (Nat.le_of_ble_eq_true rfl) (fun G B hT => v_X3_begin hs0 hf)
/-! LabelStacks$Packet.unfolds(LLabelStacks$Network;I)Z -/
theorem dX3_unfolds_0 : decode cX3_unfolds 0 = .ok (.iload_n 2, 1) := by decide +kernel
theorem dX3_unfolds_1 : decode cX3_unfolds 1 = .ok (.ifCond .lt 22, 3) := by decide +kernel
theorem dX3_unfolds_4 : decode cX3_unfolds 4 = .ok (.iload_n 2, 1) := by decide +kernel
theorem dX3_unfolds_5 : decode cX3_unfolds 5 = .ok (.bipush 6, 2) := by decide +kernel
theorem dX3_unfolds_7 : decode cX3_unfolds 7 = .ok (.if_icmp .ge 16, 3) := by decide +kernel
theorem dX3_unfolds_10 : decode cX3_unfolds 10 = .ok (.aload_n 1, 1) := by decide +kernel
theorem dX3_unfolds_11 : decode cX3_unfolds 11 = .ok (.getfield 90, 3) := by decide +kernel
theorem dX3_unfolds_14 : decode cX3_unfolds 14 = .ok (.iload_n 2, 1) := by decide +kernel
theorem dX3_unfolds_15 : decode cX3_unfolds 15 = .ok (.iaload, 1) := by decide +kernel
theorem dX3_unfolds_16 : decode cX3_unfolds 16 = .ok (.aload_n 0, 1) := by decide +kernel
theorem dX3_unfolds_17 : decode cX3_unfolds 17 = .ok (.getfield 45, 3) := by decide +kernel
theorem dX3_unfolds_20 : decode cX3_unfolds 20 = .ok (.if_icmp .eq 5, 3) := by decide +kernel
theorem dX3_unfolds_23 : decode cX3_unfolds 23 = .ok (.iconst 0, 1) := by decide +kernel
theorem dX3_unfolds_24 : decode cX3_unfolds 24 = .ok (.ireturn, 1) := by decide +kernel
theorem dX3_unfolds_25 : decode cX3_unfolds 25 = .ok (.aload_n 1, 1) := by decide +kernel
theorem dX3_unfolds_26 : decode cX3_unfolds 26 = .ok (.getfield 95, 3) := by decide +kernel
theorem dX3_unfolds_29 : decode cX3_unfolds 29 = .ok (.getfield 99, 3) := by decide +kernel
theorem dX3_unfolds_32 : decode cX3_unfolds 32 = .ok (.iload_n 2, 1) := by decide +kernel
theorem dX3_unfolds_33 : decode cX3_unfolds 33 = .ok (.iaload, 1) := by decide +kernel
theorem dX3_unfolds_34 : decode cX3_unfolds 34 = .ok (.iconst 1, 1) := by decide +kernel
theorem dX3_unfolds_35 : decode cX3_unfolds 35 = .ok (.isub, 1) := by decide +kernel
theorem dX3_unfolds_36 : decode cX3_unfolds 36 = .ok (.istore_n 3, 1) := by decide +kernel
theorem dX3_unfolds_37 : decode cX3_unfolds 37 = .ok (.iload_n 3, 1) := by decide +kernel
theorem dX3_unfolds_38 : decode cX3_unfolds 38 = .ok (.ifCond .lt 49, 3) := by decide +kernel
theorem dX3_unfolds_41 : decode cX3_unfolds 41 = .ok (.aload_n 0, 1) := by decide +kernel
theorem dX3_unfolds_42 : decode cX3_unfolds 42 = .ok (.getfield 51, 3) := by decide +kernel
theorem dX3_unfolds_45 : decode cX3_unfolds 45 = .ok (.aload_n 0, 1) := by decide +kernel
theorem dX3_unfolds_46 : decode cX3_unfolds 46 = .ok (.getfield 30, 3) := by decide +kernel
theorem dX3_unfolds_49 : decode cX3_unfolds 49 = .ok (.arraylength, 1) := by decide +kernel
theorem dX3_unfolds_50 : decode cX3_unfolds 50 = .ok (.if_icmp .ge 37, 3) := by decide +kernel
theorem dX3_unfolds_53 : decode cX3_unfolds 53 = .ok (.aload_n 0, 1) := by decide +kernel
theorem dX3_unfolds_54 : decode cX3_unfolds 54 = .ok (.getfield 30, 3) := by decide +kernel
theorem dX3_unfolds_57 : decode cX3_unfolds 57 = .ok (.aload_n 0, 1) := by decide +kernel
theorem dX3_unfolds_58 : decode cX3_unfolds 58 = .ok (.getfield 51, 3) := by decide +kernel
theorem dX3_unfolds_61 : decode cX3_unfolds 61 = .ok (.aload_n 1, 1) := by decide +kernel
theorem dX3_unfolds_62 : decode cX3_unfolds 62 = .ok (.getfield 95, 3) := by decide +kernel
theorem dX3_unfolds_65 : decode cX3_unfolds 65 = .ok (.iload_n 2, 1) := by decide +kernel
theorem dX3_unfolds_66 : decode cX3_unfolds 66 = .ok (.iload_n 3, 1) := by decide +kernel
theorem dX3_unfolds_67 : decode cX3_unfolds 67 = .ok (.invokevirtual 104, 3) := by decide +kernel
theorem dX3_unfolds_70 : decode cX3_unfolds 70 = .ok (.iastore, 1) := by decide +kernel
theorem dX3_unfolds_71 : decode cX3_unfolds 71 = .ok (.aload_n 0, 1) := by decide +kernel
theorem dX3_unfolds_72 : decode cX3_unfolds 72 = .ok (.dup, 1) := by decide +kernel
theorem dX3_unfolds_73 : decode cX3_unfolds 73 = .ok (.getfield 51, 3) := by decide +kernel
theorem dX3_unfolds_76 : decode cX3_unfolds 76 = .ok (.iconst 1, 1) := by decide +kernel
theorem dX3_unfolds_77 : decode cX3_unfolds 77 = .ok (.iadd, 1) := by decide +kernel
theorem dX3_unfolds_78 : decode cX3_unfolds 78 = .ok (.putfield 51, 3) := by decide +kernel
theorem dX3_unfolds_81 : decode cX3_unfolds 81 = .ok (.iinc 3 (-1), 3) := by decide +kernel
theorem dX3_unfolds_84 : decode cX3_unfolds 84 = .ok (.goto (-47), 3) := by decide +kernel
theorem dX3_unfolds_87 : decode cX3_unfolds 87 = .ok (.iconst 1, 1) := by decide +kernel
theorem dX3_unfolds_88 : decode cX3_unfolds 88 = .ok (.ireturn, 1) := by decide +kernel
abbrev mX3_unfolds : MI := (RX3, yX3_unfolds, cX3_unfolds, 4, (some .boolean))
theorem mok_X3_unfolds : MOKv mX3_unfolds 2 := ⟨⟨bm_841, bm_125, ⟨by decide, by decide⟩, by decide +kernel⟩, bm_840, bm_13⟩
def f_X3_unfolds_37b   (a0 : Nat) (a1 : Nat) (x2 : Int32) (k37 : Int32 → MH → Option (Int32 × MH)) (p : Int32) (h : MH) : Option (Int32 × MH) :=
  if p < 0 then
    some (1, h)
  else
    (gR h a0 3).bind fun a_1 =>
    if (gI h a0 4) < (Int32.ofNat (gN h a_1)) then
      (gR h a0 3).bind fun a_2 =>
      (gR h a1 7).bind fun a_3 =>
      (f_X6_get a_3 x2 p h).bind fun q_4 =>
      (stI q_4.2 a_2 (gI h a0 4) q_4.1).bind fun h_5 =>
      lt (sI h_5 a0 4 ((gI h_5 a0 4) + 1)) fun h_6 =>
      k37 (p + (-1)) h_6
    else
      some (1, h)
def f_X3_unfolds_37   (a0 : Nat) (a1 : Nat) (x2 : Int32) : Nat → Int32 → MH → Option (Int32 × MH) := lp (f_X3_unfolds_37b a0 a1 x2)
def f_X3_unfolds   (a0 : Nat) (a1 : Nat) (x2 : Int32) (h : MH) : Option (Int32 × MH) :=
  if x2 < 0 then
    some (0, h)
  else
    if x2 < 6 then
      (gR h a1 6).bind fun a_1 =>
      (ldI h a_1 x2).bind fun x_2 =>
      if x_2 = (gI h a0 7) then
        (gR h a1 7).bind fun a_3 =>
        (gR h a_3 1).bind fun a_4 =>
        (ldI h a_4 x2).bind fun x_5 =>
        lt (x_5 - 1) fun x_6 =>
        f_X3_unfolds_37 a0 a1 x2 FU x_6 h
      else
        some (0, h)
    else
      some (0, h)
set_option maxRecDepth 100000 in
set_option maxHeartbeats 4000000 in
theorem v_X3_unfolds_37b {l : Launch} {G : GE} {B N : Nat} {S : List SHP} {o : Int32 × MH} {a0 : Nat} {a1 : Nat} {x2 : Int32}    (hs0 : S[a0]? = some (.inl 3)) (hs1 : S[a1]? = some (.inl 2)) {k37 : Int32 → MH → Option (Int32 × MH)} (hk37 : ∀ (p : Int32) (h : MH), k37 p h = some o → V l G B N mX3_unfolds (rmm 5 0 0) false 0 0 (QI S o) S 0 0 37 [(0, .ref a0), (1, .ref a1), (2, .int x2), (3, .int p)] [] h) {p : Int32} {h : MH} (hf : f_X3_unfolds_37b a0 a1 x2 k37 p h = some o) : V l G B N mX3_unfolds (rmm 5 0 0) false 0 0 (QI S o) S 0 0 37 [(0, .ref a0), (1, .ref a1), (2, .int x2), (3, .int p)] [] h := by
  unfold f_X3_unfolds_37b at hf
  refine V_iload_n (pc' := 38) dX3_unfolds_37 rfl 3 rfl rfl ?_
  refine V_if_lt (tgt := 87) (pc' := 41) dX3_unfolds_38 (by decide) rfl hf (fun hf => ?_) (fun hf => ?_)
  ·
    refine V_iconst (v := 1) (pc' := 88) dX3_unfolds_87 rfl (by decide) ?_
    obtain rfl := Option.some.inj hf
    exact V_zretL dX3_unfolds_88 rfl rfl rfl (by decide) ⟨rfl, rfl, rfl⟩
  ·
    refine V_aload_n (pc' := 42) dX3_unfolds_41 rfl 0 rfl rfl ?_
    refine V_getI (pc' := 45) 3 4 dX3_unfolds_42 rfl (by decide) (Nat.le_of_ble_eq_true rfl) bm_420 hs0 (fun _ _ _ => rfl) ?_
    refine V_aload_n (pc' := 46) dX3_unfolds_45 rfl 0 rfl rfl ?_
    refine V_getR (pc' := 49) 3 3 dX3_unfolds_46 rfl (by decide) (Nat.le_of_ble_eq_true rfl) bm_419 hs0 (fun _ _ _ => rfl) rfl hf (fun a_1 ha_1 hf => ?_)
    refine V_alen (pc' := 50) dX3_unfolds_49 rfl ha_1 (by decide) ?_
    refine V_icmp_ge (tgt := 87) (pc' := 53) dX3_unfolds_50 (by decide) rfl hf (fun hf => ?_) (fun hf => ?_)
    ·
      refine V_aload_n (pc' := 54) dX3_unfolds_53 rfl 0 rfl rfl ?_
      refine V_getR (pc' := 57) 3 3 dX3_unfolds_54 rfl (by decide) (Nat.le_of_ble_eq_true rfl) bm_419 hs0 (fun _ _ _ => rfl) rfl hf (fun a_2 ha_2 hf => ?_)
      refine V_aload_n (pc' := 58) dX3_unfolds_57 rfl 0 rfl rfl ?_
      refine V_getI (pc' := 61) 3 4 dX3_unfolds_58 rfl (by decide) (Nat.le_of_ble_eq_true rfl) bm_420 hs0 (fun _ _ _ => rfl) ?_
      refine V_aload_n (pc' := 62) dX3_unfolds_61 rfl 1 rfl rfl ?_
      refine V_getR (pc' := 65) 2 7 dX3_unfolds_62 rfl (by decide) (Nat.le_of_ble_eq_true rfl) bm_217 hs1 (fun _ _ _ => rfl) rfl hf (fun a_3 ha_3 hf => ?_)
      refine V_iload_n (pc' := 66) dX3_unfolds_65 rfl 2 rfl rfl ?_
      refine V_iload_n (pc' := 67) dX3_unfolds_66 rfl 3 rfl rfl ?_
      refine V_cvI (pc' := 70) (As := [.int x2, .int p]) (rest := [.int (gI h a0 4), .ref a_2]) dX3_unfolds_67 rfl mok_X6_get bm_842 6 (by decide) rfl ha_3 rfl rfl (Nat.le_of_ble_eq_true rfl) (by decide) hf (fun q e => ct_X6_get ha_3 e) (fun q_4 hf => ?_)
      refine V_iast (pc' := 71) dX3_unfolds_70 rfl ha_2 hf (fun h_5 hf => ?_)
      refine V_aload_n (pc' := 72) dX3_unfolds_71 rfl 0 rfl rfl ?_
      refine V_dup (pc' := 73) dX3_unfolds_72 rfl rfl ?_
      refine V_getI (pc' := 76) 3 4 dX3_unfolds_73 rfl (by decide) (Nat.le_of_ble_eq_true rfl) bm_420 hs0 (fun _ _ _ => rfl) ?_
      refine V_iconst (v := 1) (pc' := 77) dX3_unfolds_76 rfl (by decide) ?_
      refine V_iadd (pc' := 78) dX3_unfolds_77 rfl ?_
      refine V_putI (pc' := 81) 3 4 dX3_unfolds_78 rfl (by decide) (Nat.le_of_ble_eq_true rfl) bm_420 hs0 (Or.inl rfl) rfl ?_
      refine V_nmH hf (fun h_6 hf => ?_)
      refine V_iinc (v := (p + (-1))) (lv' := [(3, .int (p + (-1))), (0, .ref a0), (1, .ref a1), (2, .int x2)]) (pc' := 84) dX3_unfolds_81 rfl 3 rfl rfl (Nat.le_of_ble_eq_true rfl) rfl ?_
      refine V_goto (tgt := 37) dX3_unfolds_84 (by decide) ?_
      exact V_sub (lv' := [(0, .ref a0), (1, .ref a1), (2, .int x2), (3, .int (p + (-1)))]) [1, 2, 3, 0] rfl (hk37 (p + (-1)) h_6 hf)
    ·
      refine V_iconst (v := 1) (pc' := 88) dX3_unfolds_87 rfl (by decide) ?_
      obtain rfl := Option.some.inj hf
      exact V_zretL dX3_unfolds_88 rfl rfl rfl (by decide) ⟨rfl, rfl, rfl⟩
theorem v_X3_unfolds_37 {l : Launch} {G : GE} {B N : Nat} {S : List SHP} {o : Int32 × MH} {a0 : Nat} {a1 : Nat} {x2 : Int32}    (hs0 : S[a0]? = some (.inl 3)) (hs1 : S[a1]? = some (.inl 2)) {n : Nat} {p : Int32} {h : MH} (hf : f_X3_unfolds_37 a0 a1 x2 n p h = some o) : V l G B N mX3_unfolds (rmm 5 0 0) false 0 0 (QI S o) S 0 0 37 [(0, .ref a0), (1, .ref a1), (2, .int x2), (3, .int p)] [] h :=
  V_lp (VV := fun p h => V l G B N mX3_unfolds (rmm 5 0 0) false 0 0 (QI S o) S 0 0 37 [(0, .ref a0), (1, .ref a1), (2, .int x2), (3, .int p)] [] h) (fun _ hk _ _ hf => v_X3_unfolds_37b hs0 hs1 hk hf) n p h hf
set_option maxRecDepth 100000 in
set_option maxHeartbeats 4000000 in
theorem v_X3_unfolds {l : Launch} {G : GE} {B N : Nat} {S : List SHP} {o : Int32 × MH} {a0 : Nat} {a1 : Nat} {x2 : Int32}    (hs0 : S[a0]? = some (.inl 3)) (hs1 : S[a1]? = some (.inl 2)) {h : MH} (hf : f_X3_unfolds a0 a1 x2 h = some o) : V l G B N mX3_unfolds (rmm 5 0 0) false 0 0 (QI S o) S 0 0 0 [(0, .ref a0), (1, .ref a1), (2, .int x2)] [] h := by
  unfold f_X3_unfolds at hf
  refine V_iload_n (pc' := 1) dX3_unfolds_0 rfl 2 rfl rfl ?_
  refine V_if_lt (tgt := 23) (pc' := 4) dX3_unfolds_1 (by decide) rfl hf (fun hf => ?_) (fun hf => ?_)
  ·
    refine V_iconst (v := 0) (pc' := 24) dX3_unfolds_23 rfl (by decide) ?_
    obtain rfl := Option.some.inj hf
    exact V_zretL dX3_unfolds_24 rfl rfl rfl (by decide) ⟨rfl, rfl, rfl⟩
  ·
    refine V_iload_n (pc' := 5) dX3_unfolds_4 rfl 2 rfl rfl ?_
    refine V_bipush (v := 6) (pc' := 7) dX3_unfolds_5 rfl (by decide) ?_
    refine V_icmp_ge (tgt := 23) (pc' := 10) dX3_unfolds_7 (by decide) rfl hf (fun hf => ?_) (fun hf => ?_)
    ·
      refine V_aload_n (pc' := 11) dX3_unfolds_10 rfl 1 rfl rfl ?_
      refine V_getR (pc' := 14) 2 6 dX3_unfolds_11 rfl (by decide) (Nat.le_of_ble_eq_true rfl) bm_212 hs1 (fun _ _ _ => rfl) rfl hf (fun a_1 ha_1 hf => ?_)
      refine V_iload_n (pc' := 15) dX3_unfolds_14 rfl 2 rfl rfl ?_
      refine V_iald (pc' := 16) dX3_unfolds_15 rfl ha_1 hf (fun x_2 hf => ?_)
      refine V_aload_n (pc' := 17) dX3_unfolds_16 rfl 0 rfl rfl ?_
      refine V_getI (pc' := 20) 3 7 dX3_unfolds_17 rfl (by decide) (Nat.le_of_ble_eq_true rfl) bm_423 hs0 (fun _ _ _ => rfl) ?_
      refine V_icmp_eq (tgt := 25) (pc' := 23) dX3_unfolds_20 (by decide) rfl hf (fun hf => ?_) (fun hf => ?_)
      ·
        refine V_aload_n (pc' := 26) dX3_unfolds_25 rfl 1 rfl rfl ?_
        refine V_getR (pc' := 29) 2 7 dX3_unfolds_26 rfl (by decide) (Nat.le_of_ble_eq_true rfl) bm_217 hs1 (fun _ _ _ => rfl) rfl hf (fun a_3 ha_3 hf => ?_)
        refine V_getR (pc' := 32) 6 1 dX3_unfolds_29 rfl (by decide) (Nat.le_of_ble_eq_true rfl) bm_173 ha_3 (fun _ _ _ => rfl) rfl hf (fun a_4 ha_4 hf => ?_)
        refine V_iload_n (pc' := 33) dX3_unfolds_32 rfl 2 rfl rfl ?_
        refine V_iald (pc' := 34) dX3_unfolds_33 rfl ha_4 hf (fun x_5 hf => ?_)
        refine V_iconst (v := 1) (pc' := 35) dX3_unfolds_34 rfl (by decide) ?_
        refine V_isub (pc' := 36) dX3_unfolds_35 rfl ?_
        refine V_nmI hf (fun x_6 hf => ?_)
        refine V_istore_n (lv' := [(3, .int x_6), (0, .ref a0), (1, .ref a1), (2, .int x2)]) (pc' := 37) dX3_unfolds_36 rfl rfl (Nat.le_of_ble_eq_true rfl) rfl ?_
        exact V_sub (lv' := [(0, .ref a0), (1, .ref a1), (2, .int x2), (3, .int x_6)]) [1, 2, 3, 0] rfl (v_X3_unfolds_37 hs0 hs1 hf)
      ·
        refine V_iconst (v := 0) (pc' := 24) dX3_unfolds_23 rfl (by decide) ?_
        obtain rfl := Option.some.inj hf
        exact V_zretL dX3_unfolds_24 rfl rfl rfl (by decide) ⟨rfl, rfl, rfl⟩
    ·
      refine V_iconst (v := 0) (pc' := 24) dX3_unfolds_23 rfl (by decide) ?_
      obtain rfl := Option.some.inj hf
      exact V_zretL dX3_unfolds_24 rfl rfl rfl (by decide) ⟨rfl, rfl, rfl⟩
theorem ct_X3_unfolds {l : Launch} {S : List SHP} {h : MH} {a0 : Nat} {a1 : Nat} {x2 : Int32} (hs0 : S[a0]? = some (.inl 3)) (hs1 : S[a1]? = some (.inl 2)) {q : Int32 × MH} (hf : f_X3_unfolds a0 a1 x2 h = some q) : CT l mX3_unfolds 5 false 0 0 S [.ref a0, .ref a1, .int x2] h (QI S q) :=
  CT_ofV (by decide) rfl (Nat.le_of_ble_eq_true rfl) (fun G B hT => v_X3_unfolds hs0 hs1 hf)
/-! LabelStacks$Packet.pass(LLabelStacks$Network;I)V -/
theorem dX3_pass_0 : decode cX3_pass 0 = .ok (.aload_n 0, 1) := by decide +kernel
theorem dX3_pass_1 : decode cX3_pass 1 = .ok (.getfield 26, 3) := by decide +kernel
theorem dX3_pass_4 : decode cX3_pass 4 = .ok (.iload_n 2, 1) := by decide +kernel
theorem dX3_pass_5 : decode cX3_pass 5 = .ok (.invokevirtual 138, 3) := by decide +kernel
theorem dX3_pass_8 : decode cX3_pass 8 = .ok (.aload_n 0, 1) := by decide +kernel
theorem dX3_pass_9 : decode cX3_pass 9 = .ok (.getfield 20, 3) := by decide +kernel
theorem dX3_pass_12 : decode cX3_pass 12 = .ok (.iload_n 2, 1) := by decide +kernel
theorem dX3_pass_13 : decode cX3_pass 13 = .ok (.invokevirtual 141, 3) := by decide +kernel
theorem dX3_pass_16 : decode cX3_pass 16 = .ok (.aload_n 0, 1) := by decide +kernel
theorem dX3_pass_17 : decode cX3_pass 17 = .ok (.dup, 1) := by decide +kernel
theorem dX3_pass_18 : decode cX3_pass 18 = .ok (.getfield 78, 3) := by decide +kernel
theorem dX3_pass_21 : decode cX3_pass 21 = .ok (.iconst 1, 1) := by decide +kernel
theorem dX3_pass_22 : decode cX3_pass 22 = .ok (.iadd, 1) := by decide +kernel
theorem dX3_pass_23 : decode cX3_pass 23 = .ok (.putfield 78, 3) := by decide +kernel
theorem dX3_pass_26 : decode cX3_pass 26 = .ok (.aload_n 0, 1) := by decide +kernel
theorem dX3_pass_27 : decode cX3_pass 27 = .ok (.aload_n 1, 1) := by decide +kernel
theorem dX3_pass_28 : decode cX3_pass 28 = .ok (.getfield 144, 3) := by decide +kernel
theorem dX3_pass_31 : decode cX3_pass 31 = .ok (.iload_n 2, 1) := by decide +kernel
theorem dX3_pass_32 : decode cX3_pass 32 = .ok (.iaload, 1) := by decide +kernel
theorem dX3_pass_33 : decode cX3_pass 33 = .ok (.putfield 45, 3) := by decide +kernel
theorem dX3_pass_36 : decode cX3_pass 36 = .ok (.return_, 1) := by decide +kernel
abbrev mX3_pass : MI := (RX3, yX3_pass, cX3_pass, 3, none)
theorem mok_X3_pass : MOKv mX3_pass 2 := ⟨⟨bm_851, bm_125, ⟨by decide, by decide⟩, by decide +kernel⟩, bm_850, bm_15⟩
def f_X3_pass   (a0 : Nat) (a1 : Nat) (x2 : Int32) (h : MH) : Option (MH) :=
  (gR h a0 2).bind fun a_1 =>
  (f_X1_addOne a_1 x2 h).bind fun q_2 =>
  (gR q_2 a0 1).bind fun a_3 =>
  (f_X5_add a_3 x2 q_2).bind fun q_4 =>
  lt (sI q_4 a0 8 ((gI q_4 a0 8) + 1)) fun h_5 =>
  (gR h_5 a1 4).bind fun a_6 =>
  (ldI h_5 a_6 x2).bind fun x_7 =>
  lt (sI h_5 a0 7 x_7) fun h_8 =>
  some h_8
set_option maxRecDepth 100000 in
set_option maxHeartbeats 4000000 in
theorem v_X3_pass {l : Launch} {G : GE} {B N : Nat} {S : List SHP} {o : MH} {a0 : Nat} {a1 : Nat} {x2 : Int32}    (hs0 : S[a0]? = some (.inl 3)) (hs1 : S[a1]? = some (.inl 2)) {h : MH} (hf : f_X3_pass a0 a1 x2 h = some o) : V l G B N mX3_pass (rmm 4 0 0) false 0 0 (QV S o) S 0 0 0 [(0, .ref a0), (1, .ref a1), (2, .int x2)] [] h := by
  unfold f_X3_pass at hf
  refine V_aload_n (pc' := 1) dX3_pass_0 rfl 0 rfl rfl ?_
  refine V_getR (pc' := 4) 3 2 dX3_pass_1 rfl (by decide) (Nat.le_of_ble_eq_true rfl) bm_417 hs0 (fun _ _ _ => rfl) rfl hf (fun a_1 ha_1 hf => ?_)
  refine V_iload_n (pc' := 5) dX3_pass_4 rfl 2 rfl rfl ?_
  refine V_cvV (pc' := 8) (As := [.int x2]) (rest := []) dX3_pass_5 rfl mok_X1_addOne bm_852 1 (by decide) rfl ha_1 rfl rfl (Nat.le_of_ble_eq_true rfl) (by decide) hf (fun q e => ct_X1_addOne ha_1 e) (fun q_2 hf => ?_)
  refine V_aload_n (pc' := 9) dX3_pass_8 rfl 0 rfl rfl ?_
  refine V_getR (pc' := 12) 3 1 dX3_pass_9 rfl (by decide) (Nat.le_of_ble_eq_true rfl) bm_415 hs0 (fun _ _ _ => rfl) rfl hf (fun a_3 ha_3 hf => ?_)
  refine V_iload_n (pc' := 13) dX3_pass_12 rfl 2 rfl rfl ?_
  refine V_cvV (pc' := 16) (As := [.int x2]) (rest := []) dX3_pass_13 rfl mok_X5_add bm_856 5 (by decide) rfl ha_3 rfl rfl (Nat.le_of_ble_eq_true rfl) (by decide) hf (fun q e => ct_X5_add ha_3 e) (fun q_4 hf => ?_)
  refine V_aload_n (pc' := 17) dX3_pass_16 rfl 0 rfl rfl ?_
  refine V_dup (pc' := 18) dX3_pass_17 rfl rfl ?_
  refine V_getI (pc' := 21) 3 8 dX3_pass_18 rfl (by decide) (Nat.le_of_ble_eq_true rfl) bm_424 hs0 (fun _ _ _ => rfl) ?_
  refine V_iconst (v := 1) (pc' := 22) dX3_pass_21 rfl (by decide) ?_
  refine V_iadd (pc' := 23) dX3_pass_22 rfl ?_
  refine V_putI (pc' := 26) 3 8 dX3_pass_23 rfl (by decide) (Nat.le_of_ble_eq_true rfl) bm_424 hs0 (Or.inl rfl) rfl ?_
  refine V_nmH hf (fun h_5 hf => ?_)
  refine V_aload_n (pc' := 27) dX3_pass_26 rfl 0 rfl rfl ?_
  refine V_aload_n (pc' := 28) dX3_pass_27 rfl 1 rfl rfl ?_
  refine V_getR (pc' := 31) 2 4 dX3_pass_28 rfl (by decide) (Nat.le_of_ble_eq_true rfl) bm_204 hs1 (fun _ _ _ => rfl) rfl hf (fun a_6 ha_6 hf => ?_)
  refine V_iload_n (pc' := 32) dX3_pass_31 rfl 2 rfl rfl ?_
  refine V_iald (pc' := 33) dX3_pass_32 rfl ha_6 hf (fun x_7 hf => ?_)
  refine V_putI (pc' := 36) 3 7 dX3_pass_33 rfl (by decide) (Nat.le_of_ble_eq_true rfl) bm_423 hs0 (Or.inl rfl) rfl ?_
  refine V_nmH hf (fun h_8 hf => ?_)
  obtain rfl := Option.some.inj hf
  exact V_vret dX3_pass_36 rfl rfl rfl ⟨rfl, rfl, rfl⟩
theorem ct_X3_pass {l : Launch} {S : List SHP} {h : MH} {a0 : Nat} {a1 : Nat} {x2 : Int32} (hs0 : S[a0]? = some (.inl 3)) (hs1 : S[a1]? = some (.inl 2)) {q : MH} (hf : f_X3_pass a0 a1 x2 h = some q) : CT l mX3_pass 4 false 0 0 S [.ref a0, .ref a1, .int x2] h (QV S q) :=
  CT_ofV (by decide) rfl (Nat.le_of_ble_eq_true rfl) (fun G B hT => v_X3_pass hs0 hs1 hf)
/-! LabelStacks$Packet.goesAlong(LLabelStacks$Network;I)Z -/
theorem dX3_goesAlong_0 : decode cX3_goesAlong 0 = .ok (.aload_n 1, 1) := by decide +kernel
theorem dX3_goesAlong_1 : decode cX3_goesAlong 1 = .ok (.iload_n 2, 1) := by decide +kernel
theorem dX3_goesAlong_2 : decode cX3_goesAlong 2 = .ok (.invokevirtual 107, 3) := by decide +kernel
theorem dX3_goesAlong_5 : decode cX3_goesAlong 5 = .ok (.ifCond .eq 16, 3) := by decide +kernel
theorem dX3_goesAlong_8 : decode cX3_goesAlong 8 = .ok (.aload_n 1, 1) := by decide +kernel
theorem dX3_goesAlong_9 : decode cX3_goesAlong 9 = .ok (.getfield 111, 3) := by decide +kernel
theorem dX3_goesAlong_12 : decode cX3_goesAlong 12 = .ok (.iload_n 2, 1) := by decide +kernel
theorem dX3_goesAlong_13 : decode cX3_goesAlong 13 = .ok (.iaload, 1) := by decide +kernel
theorem dX3_goesAlong_14 : decode cX3_goesAlong 14 = .ok (.aload_n 0, 1) := by decide +kernel
theorem dX3_goesAlong_15 : decode cX3_goesAlong 15 = .ok (.getfield 45, 3) := by decide +kernel
theorem dX3_goesAlong_18 : decode cX3_goesAlong 18 = .ok (.if_icmp .eq 5, 3) := by decide +kernel
theorem dX3_goesAlong_21 : decode cX3_goesAlong 21 = .ok (.iconst 0, 1) := by decide +kernel
theorem dX3_goesAlong_22 : decode cX3_goesAlong 22 = .ok (.ireturn, 1) := by decide +kernel
theorem dX3_goesAlong_23 : decode cX3_goesAlong 23 = .ok (.aload_n 0, 1) := by decide +kernel
theorem dX3_goesAlong_24 : decode cX3_goesAlong 24 = .ok (.aload_n 1, 1) := by decide +kernel
theorem dX3_goesAlong_25 : decode cX3_goesAlong 25 = .ok (.iload_n 2, 1) := by decide +kernel
theorem dX3_goesAlong_26 : decode cX3_goesAlong 26 = .ok (.invokevirtual 114, 3) := by decide +kernel
theorem dX3_goesAlong_29 : decode cX3_goesAlong 29 = .ok (.iconst 1, 1) := by decide +kernel
theorem dX3_goesAlong_30 : decode cX3_goesAlong 30 = .ok (.ireturn, 1) := by decide +kernel
abbrev mX3_goesAlong : MI := (RX3, yX3_goesAlong, cX3_goesAlong, 3, (some .boolean))
theorem mok_X3_goesAlong : MOKv mX3_goesAlong 2 := ⟨⟨bm_846, bm_125, ⟨by decide, by decide⟩, by decide +kernel⟩, bm_845, bm_14⟩
def f_X3_goesAlong   (a0 : Nat) (a1 : Nat) (x2 : Int32) (h : MH) : Option (Int32 × MH) :=
  (f_X2_isUp a1 x2 h).bind fun q_1 =>
  if q_1.1 = 0 then
    some (0, q_1.2)
  else
    (gR q_1.2 a1 3).bind fun a_2 =>
    (ldI q_1.2 a_2 x2).bind fun x_3 =>
    if x_3 = (gI q_1.2 a0 7) then
      (f_X3_pass a0 a1 x2 q_1.2).bind fun q_4 =>
      some (1, q_4)
    else
      some (0, q_1.2)
set_option maxRecDepth 100000 in
set_option maxHeartbeats 4000000 in
theorem v_X3_goesAlong {l : Launch} {G : GE} {B N : Nat} {S : List SHP} {o : Int32 × MH} {a0 : Nat} {a1 : Nat} {x2 : Int32}    (hs0 : S[a0]? = some (.inl 3)) (hs1 : S[a1]? = some (.inl 2)) {h : MH} (hf : f_X3_goesAlong a0 a1 x2 h = some o) : V l G B N mX3_goesAlong (rmm 5 0 0) false 0 0 (QI S o) S 0 0 0 [(0, .ref a0), (1, .ref a1), (2, .int x2)] [] h := by
  unfold f_X3_goesAlong at hf
  refine V_aload_n (pc' := 1) dX3_goesAlong_0 rfl 1 rfl rfl ?_
  refine V_iload_n (pc' := 2) dX3_goesAlong_1 rfl 2 rfl rfl ?_
  refine V_cvI (pc' := 5) (As := [.int x2]) (rest := []) dX3_goesAlong_2 rfl mok_X2_isUp bm_847 2 (by decide) rfl hs1 rfl rfl (Nat.le_of_ble_eq_true rfl) (by decide) hf (fun q e => ct_X2_isUp hs1 e) (fun q_1 hf => ?_)
  refine V_if_eq (tgt := 21) (pc' := 8) dX3_goesAlong_5 (by decide) rfl hf (fun hf => ?_) (fun hf => ?_)
  ·
    refine V_iconst (v := 0) (pc' := 22) dX3_goesAlong_21 rfl (by decide) ?_
    obtain rfl := Option.some.inj hf
    exact V_zretL dX3_goesAlong_22 rfl rfl rfl (by decide) ⟨rfl, rfl, rfl⟩
  ·
    refine V_aload_n (pc' := 9) dX3_goesAlong_8 rfl 1 rfl rfl ?_
    refine V_getR (pc' := 12) 2 3 dX3_goesAlong_9 rfl (by decide) (Nat.le_of_ble_eq_true rfl) bm_199 hs1 (fun _ _ _ => rfl) rfl hf (fun a_2 ha_2 hf => ?_)
    refine V_iload_n (pc' := 13) dX3_goesAlong_12 rfl 2 rfl rfl ?_
    refine V_iald (pc' := 14) dX3_goesAlong_13 rfl ha_2 hf (fun x_3 hf => ?_)
    refine V_aload_n (pc' := 15) dX3_goesAlong_14 rfl 0 rfl rfl ?_
    refine V_getI (pc' := 18) 3 7 dX3_goesAlong_15 rfl (by decide) (Nat.le_of_ble_eq_true rfl) bm_423 hs0 (fun _ _ _ => rfl) ?_
    refine V_icmp_eq (tgt := 23) (pc' := 21) dX3_goesAlong_18 (by decide) rfl hf (fun hf => ?_) (fun hf => ?_)
    ·
      refine V_aload_n (pc' := 24) dX3_goesAlong_23 rfl 0 rfl rfl ?_
      refine V_aload_n (pc' := 25) dX3_goesAlong_24 rfl 1 rfl rfl ?_
      refine V_iload_n (pc' := 26) dX3_goesAlong_25 rfl 2 rfl rfl ?_
      refine V_cvV (pc' := 29) (As := [.ref a1, .int x2]) (rest := []) dX3_goesAlong_26 rfl mok_X3_pass bm_848 3 (by decide) rfl hs0 rfl rfl (Nat.le_of_ble_eq_true rfl) (by decide) hf (fun q e => ct_X3_pass hs0 hs1 e) (fun q_4 hf => ?_)
      refine V_iconst (v := 1) (pc' := 30) dX3_goesAlong_29 rfl (by decide) ?_
      obtain rfl := Option.some.inj hf
      exact V_zretL dX3_goesAlong_30 rfl rfl rfl (by decide) ⟨rfl, rfl, rfl⟩
    ·
      refine V_iconst (v := 0) (pc' := 22) dX3_goesAlong_21 rfl (by decide) ?_
      obtain rfl := Option.some.inj hf
      exact V_zretL dX3_goesAlong_22 rfl rfl rfl (by decide) ⟨rfl, rfl, rfl⟩
theorem ct_X3_goesAlong {l : Launch} {S : List SHP} {h : MH} {a0 : Nat} {a1 : Nat} {x2 : Int32} (hs0 : S[a0]? = some (.inl 3)) (hs1 : S[a1]? = some (.inl 2)) {q : Int32 × MH} (hf : f_X3_goesAlong a0 a1 x2 h = some q) : CT l mX3_goesAlong 5 false 0 0 S [.ref a0, .ref a1, .int x2] h (QI S q) :=
  CT_ofV (by decide) rfl (Nat.le_of_ble_eq_true rfl) (fun G B hT => v_X3_goesAlong hs0 hs1 hf)
/-! LabelStacks$Packet.walk(LLabelStacks$Network;LLabelStacks$Routes;I)V -/
theorem dX3_walk_0 : decode cX3_walk 0 = .ok (.iconst 0, 1) := by decide +kernel
theorem dX3_walk_1 : decode cX3_walk 1 = .ok (.istore 4, 2) := by decide +kernel
theorem dX3_walk_3 : decode cX3_walk 3 = .ok (.iload 4, 2) := by decide +kernel
theorem dX3_walk_5 : decode cX3_walk 5 = .ok (.bipush 10, 2) := by decide +kernel
theorem dX3_walk_7 : decode cX3_walk 7 = .ok (.if_icmp .ge 46, 3) := by decide +kernel
theorem dX3_walk_10 : decode cX3_walk 10 = .ok (.aload_n 0, 1) := by decide +kernel
theorem dX3_walk_11 : decode cX3_walk 11 = .ok (.getfield 45, 3) := by decide +kernel
theorem dX3_walk_14 : decode cX3_walk 14 = .ok (.iload_n 3, 1) := by decide +kernel
theorem dX3_walk_15 : decode cX3_walk 15 = .ok (.if_icmp .eq 38, 3) := by decide +kernel
theorem dX3_walk_18 : decode cX3_walk 18 = .ok (.aload_n 2, 1) := by decide +kernel
theorem dX3_walk_19 : decode cX3_walk 19 = .ok (.aload_n 1, 1) := by decide +kernel
theorem dX3_walk_20 : decode cX3_walk 20 = .ok (.aload_n 0, 1) := by decide +kernel
theorem dX3_walk_21 : decode cX3_walk 21 = .ok (.getfield 45, 3) := by decide +kernel
theorem dX3_walk_24 : decode cX3_walk 24 = .ok (.iload_n 3, 1) := by decide +kernel
theorem dX3_walk_25 : decode cX3_walk 25 = .ok (.invokevirtual 147, 3) := by decide +kernel
theorem dX3_walk_28 : decode cX3_walk 28 = .ok (.invokestatic 151, 3) := by decide +kernel
theorem dX3_walk_31 : decode cX3_walk 31 = .ok (.istore 5, 2) := by decide +kernel
theorem dX3_walk_33 : decode cX3_walk 33 = .ok (.iload 5, 2) := by decide +kernel
theorem dX3_walk_35 : decode cX3_walk 35 = .ok (.iconst (-1), 1) := by decide +kernel
theorem dX3_walk_36 : decode cX3_walk 36 = .ok (.if_icmp .ne 4, 3) := by decide +kernel
theorem dX3_walk_39 : decode cX3_walk 39 = .ok (.return_, 1) := by decide +kernel
theorem dX3_walk_40 : decode cX3_walk 40 = .ok (.aload_n 0, 1) := by decide +kernel
theorem dX3_walk_41 : decode cX3_walk 41 = .ok (.aload_n 1, 1) := by decide +kernel
theorem dX3_walk_42 : decode cX3_walk 42 = .ok (.iload 5, 2) := by decide +kernel
theorem dX3_walk_44 : decode cX3_walk 44 = .ok (.invokevirtual 114, 3) := by decide +kernel
theorem dX3_walk_47 : decode cX3_walk 47 = .ok (.iinc 4 1, 3) := by decide +kernel
theorem dX3_walk_50 : decode cX3_walk 50 = .ok (.goto (-47), 3) := by decide +kernel
theorem dX3_walk_53 : decode cX3_walk 53 = .ok (.return_, 1) := by decide +kernel
abbrev mX3_walk : MI := (RX3, yX3_walk, cX3_walk, 6, none)
theorem mok_X3_walk : MOKv mX3_walk 3 := ⟨⟨bm_868, bm_125, ⟨by decide, by decide⟩, by decide +kernel⟩, bm_867, bm_17⟩
def f_X3_walk_3b   (a0 : Nat) (a1 : Nat) (a2 : Nat) (x3 : Int32) (k3 : Int32 → MH → Option (MH)) (p : Int32) (h : MH) : Option (MH) :=
  if p < 10 then
    if (gI h a0 7) = x3 then
      some h
    else
      (f_X4_onSet a2 a1 (gI h a0 7) x3 h).bind fun q_1 =>
      (f_X10_leastOf q_1.1 q_1.2).bind fun q_2 =>
      if q_2.1 = (-1 : Int32) then
        some q_2.2
      else
        (f_X3_pass a0 a1 q_2.1 q_2.2).bind fun q_3 =>
        k3 (p + 1) q_3
  else
    some h
def f_X3_walk_3   (a0 : Nat) (a1 : Nat) (a2 : Nat) (x3 : Int32) : Nat → Int32 → MH → Option (MH) := lp (f_X3_walk_3b a0 a1 a2 x3)
def f_X3_walk   (a0 : Nat) (a1 : Nat) (a2 : Nat) (x3 : Int32) (h : MH) : Option (MH) :=
  f_X3_walk_3 a0 a1 a2 x3 FU 0 h
set_option maxRecDepth 100000 in
set_option maxHeartbeats 4000000 in
theorem v_X3_walk_3b {l : Launch} {G : GE} {B N : Nat} {S : List SHP} {o : MH} {a0 : Nat} {a1 : Nat} {a2 : Nat} {x3 : Int32}    (hs0 : S[a0]? = some (.inl 3)) (hs1 : S[a1]? = some (.inl 2)) (hs2 : S[a2]? = some (.inl 4)) {k3 : Int32 → MH → Option (MH)} (hk3 : ∀ (p : Int32) (h : MH), k3 p h = some o → V l G B N mX3_walk (rmm 5 0 0) false 0 0 (QV S o) S 0 0 3 [(0, .ref a0), (1, .ref a1), (2, .ref a2), (3, .int x3), (4, .int p)] [] h) {p : Int32} {h : MH} (hf : f_X3_walk_3b a0 a1 a2 x3 k3 p h = some o) : V l G B N mX3_walk (rmm 5 0 0) false 0 0 (QV S o) S 0 0 3 [(0, .ref a0), (1, .ref a1), (2, .ref a2), (3, .int x3), (4, .int p)] [] h := by
  unfold f_X3_walk_3b at hf
  refine V_iload (pc' := 5) dX3_walk_3 rfl 4 rfl ?_
  refine V_bipush (v := 10) (pc' := 7) dX3_walk_5 rfl (by decide) ?_
  refine V_icmp_ge (tgt := 53) (pc' := 10) dX3_walk_7 (by decide) rfl hf (fun hf => ?_) (fun hf => ?_)
  ·
    refine V_aload_n (pc' := 11) dX3_walk_10 rfl 0 rfl rfl ?_
    refine V_getI (pc' := 14) 3 7 dX3_walk_11 rfl (by decide) (Nat.le_of_ble_eq_true rfl) bm_423 hs0 (fun _ _ _ => rfl) ?_
    refine V_iload_n (pc' := 15) dX3_walk_14 rfl 3 rfl rfl ?_
    refine V_icmp_eq (tgt := 53) (pc' := 18) dX3_walk_15 (by decide) rfl hf (fun hf => ?_) (fun hf => ?_)
    ·
      obtain rfl := Option.some.inj hf
      exact V_vret dX3_walk_53 rfl rfl rfl ⟨rfl, rfl, rfl⟩
    ·
      refine V_aload_n (pc' := 19) dX3_walk_18 rfl 2 rfl rfl ?_
      refine V_aload_n (pc' := 20) dX3_walk_19 rfl 1 rfl rfl ?_
      refine V_aload_n (pc' := 21) dX3_walk_20 rfl 0 rfl rfl ?_
      refine V_getI (pc' := 24) 3 7 dX3_walk_21 rfl (by decide) (Nat.le_of_ble_eq_true rfl) bm_423 hs0 (fun _ _ _ => rfl) ?_
      refine V_iload_n (pc' := 25) dX3_walk_24 rfl 3 rfl rfl ?_
      refine V_cvI (pc' := 28) (As := [.ref a1, .int (gI h a0 7), .int x3]) (rest := []) dX3_walk_25 rfl mok_X4_onSet bm_869 4 (by decide) rfl hs2 rfl rfl (Nat.le_of_ble_eq_true rfl) (by decide) hf (fun q e => ct_X4_onSet hs2 hs1 e) (fun q_1 hf => ?_)
      refine V_cnI (pc' := 31) (As := [.int q_1.1]) (rest := []) dX3_walk_28 rfl mok_X10_leastOf (fun _ _ _ h => h.1.2.2) rfl rfl (Nat.le_of_ble_eq_true rfl) (by decide) hf (fun q e => ct_X10_leastOf  e) (fun q_2 hf => ?_)
      refine V_istore (lv' := [(5, .int q_2.1), (0, .ref a0), (1, .ref a1), (2, .ref a2), (3, .int x3), (4, .int p)]) (pc' := 33) dX3_walk_31 rfl (Nat.le_of_ble_eq_true rfl) rfl ?_
      refine V_iload (pc' := 35) dX3_walk_33 rfl 0 rfl ?_
      refine V_iconst (v := (-1)) (pc' := 36) dX3_walk_35 rfl (by decide) ?_
      refine V_icmp_ne (tgt := 40) (pc' := 39) dX3_walk_36 (by decide) rfl hf (fun hf => ?_) (fun hf => ?_)
      ·
        obtain rfl := Option.some.inj hf
        exact V_vret dX3_walk_39 rfl rfl rfl ⟨rfl, rfl, rfl⟩
      ·
        refine V_aload_n (pc' := 41) dX3_walk_40 rfl 1 rfl rfl ?_
        refine V_aload_n (pc' := 42) dX3_walk_41 rfl 2 rfl rfl ?_
        refine V_iload (pc' := 44) dX3_walk_42 rfl 0 rfl ?_
        refine V_cvV (pc' := 47) (As := [.ref a1, .int q_2.1]) (rest := []) dX3_walk_44 rfl mok_X3_pass bm_848 3 (by decide) rfl hs0 rfl rfl (Nat.le_of_ble_eq_true rfl) (by decide) hf (fun q e => ct_X3_pass hs0 hs1 e) (fun q_3 hf => ?_)
        refine V_iinc (v := (p + 1)) (lv' := [(4, .int (p + 1)), (5, .int q_2.1), (0, .ref a0), (1, .ref a1), (2, .ref a2), (3, .int x3)]) (pc' := 50) dX3_walk_47 rfl 5 rfl rfl (Nat.le_of_ble_eq_true rfl) rfl ?_
        refine V_goto (tgt := 3) dX3_walk_50 (by decide) ?_
        exact V_sub (lv' := [(0, .ref a0), (1, .ref a1), (2, .ref a2), (3, .int x3), (4, .int (p + 1))]) [2, 3, 4, 5, 0] rfl (hk3 (p + 1) q_3 hf)
  ·
    obtain rfl := Option.some.inj hf
    exact V_vret dX3_walk_53 rfl rfl rfl ⟨rfl, rfl, rfl⟩
theorem v_X3_walk_3 {l : Launch} {G : GE} {B N : Nat} {S : List SHP} {o : MH} {a0 : Nat} {a1 : Nat} {a2 : Nat} {x3 : Int32}    (hs0 : S[a0]? = some (.inl 3)) (hs1 : S[a1]? = some (.inl 2)) (hs2 : S[a2]? = some (.inl 4)) {n : Nat} {p : Int32} {h : MH} (hf : f_X3_walk_3 a0 a1 a2 x3 n p h = some o) : V l G B N mX3_walk (rmm 5 0 0) false 0 0 (QV S o) S 0 0 3 [(0, .ref a0), (1, .ref a1), (2, .ref a2), (3, .int x3), (4, .int p)] [] h :=
  V_lp (VV := fun p h => V l G B N mX3_walk (rmm 5 0 0) false 0 0 (QV S o) S 0 0 3 [(0, .ref a0), (1, .ref a1), (2, .ref a2), (3, .int x3), (4, .int p)] [] h) (fun _ hk _ _ hf => v_X3_walk_3b hs0 hs1 hs2 hk hf) n p h hf
set_option maxRecDepth 100000 in
set_option maxHeartbeats 4000000 in
theorem v_X3_walk {l : Launch} {G : GE} {B N : Nat} {S : List SHP} {o : MH} {a0 : Nat} {a1 : Nat} {a2 : Nat} {x3 : Int32}    (hs0 : S[a0]? = some (.inl 3)) (hs1 : S[a1]? = some (.inl 2)) (hs2 : S[a2]? = some (.inl 4)) {h : MH} (hf : f_X3_walk a0 a1 a2 x3 h = some o) : V l G B N mX3_walk (rmm 5 0 0) false 0 0 (QV S o) S 0 0 0 [(0, .ref a0), (1, .ref a1), (2, .ref a2), (3, .int x3)] [] h := by
  unfold f_X3_walk at hf
  refine V_iconst (v := 0) (pc' := 1) dX3_walk_0 rfl (by decide) ?_
  refine V_istore (lv' := [(4, .int 0), (0, .ref a0), (1, .ref a1), (2, .ref a2), (3, .int x3)]) (pc' := 3) dX3_walk_1 rfl (Nat.le_of_ble_eq_true rfl) rfl ?_
  exact V_sub (lv' := [(0, .ref a0), (1, .ref a1), (2, .ref a2), (3, .int x3), (4, .int 0)]) [1, 2, 3, 4, 0] rfl (v_X3_walk_3 hs0 hs1 hs2 hf)
theorem ct_X3_walk {l : Launch} {S : List SHP} {h : MH} {a0 : Nat} {a1 : Nat} {a2 : Nat} {x3 : Int32} (hs0 : S[a0]? = some (.inl 3)) (hs1 : S[a1]? = some (.inl 2)) (hs2 : S[a2]? = some (.inl 4)) {q : MH} (hf : f_X3_walk a0 a1 a2 x3 h = some q) : CT l mX3_walk 5 false 0 0 S [.ref a0, .ref a1, .ref a2, .int x3] h (QV S q) :=
  CT_ofV (by decide) rfl (Nat.le_of_ble_eq_true rfl) (fun G B hT => v_X3_walk hs0 hs1 hs2 hf)
/-! LabelStacks$Packet.farthest(LLabelStacks$Routes;II)I -/
theorem dX3_farthest_0 : decode cX3_farthest 0 = .ok (.iconst (-1), 1) := by decide +kernel
theorem dX3_farthest_1 : decode cX3_farthest 1 = .ok (.istore 4, 2) := by decide +kernel
theorem dX3_farthest_3 : decode cX3_farthest 3 = .ok (.iconst 0, 1) := by decide +kernel
theorem dX3_farthest_4 : decode cX3_farthest 4 = .ok (.istore 5, 2) := by decide +kernel
theorem dX3_farthest_6 : decode cX3_farthest 6 = .ok (.iconst 0, 1) := by decide +kernel
theorem dX3_farthest_7 : decode cX3_farthest 7 = .ok (.istore 6, 2) := by decide +kernel
theorem dX3_farthest_9 : decode cX3_farthest 9 = .ok (.iload 6, 2) := by decide +kernel
theorem dX3_farthest_11 : decode cX3_farthest 11 = .ok (.bipush 10, 2) := by decide +kernel
theorem dX3_farthest_13 : decode cX3_farthest 13 = .ok (.if_icmp .ge 58, 3) := by decide +kernel
theorem dX3_farthest_16 : decode cX3_farthest 16 = .ok (.iload_n 3, 1) := by decide +kernel
theorem dX3_farthest_17 : decode cX3_farthest 17 = .ok (.iload 6, 2) := by decide +kernel
theorem dX3_farthest_19 : decode cX3_farthest 19 = .ok (.iushr, 1) := by decide +kernel
theorem dX3_farthest_20 : decode cX3_farthest 20 = .ok (.iconst 1, 1) := by decide +kernel
theorem dX3_farthest_21 : decode cX3_farthest 21 = .ok (.iand, 1) := by decide +kernel
theorem dX3_farthest_22 : decode cX3_farthest 22 = .ok (.ifCond .eq 43, 3) := by decide +kernel
theorem dX3_farthest_25 : decode cX3_farthest 25 = .ok (.aload_n 0, 1) := by decide +kernel
theorem dX3_farthest_26 : decode cX3_farthest 26 = .ok (.getfield 34, 3) := by decide +kernel
theorem dX3_farthest_29 : decode cX3_farthest 29 = .ok (.iload 6, 2) := by decide +kernel
theorem dX3_farthest_31 : decode cX3_farthest 31 = .ok (.laload, 1) := by decide +kernel
theorem dX3_farthest_32 : decode cX3_farthest 32 = .ok (.lconst 0, 1) := by decide +kernel
theorem dX3_farthest_33 : decode cX3_farthest 33 = .ok (.lcmp, 1) := by decide +kernel
theorem dX3_farthest_34 : decode cX3_farthest 34 = .ok (.ifCond .ne 6, 3) := by decide +kernel
theorem dX3_farthest_37 : decode cX3_farthest 37 = .ok (.goto 28, 3) := by decide +kernel
theorem dX3_farthest_40 : decode cX3_farthest 40 = .ok (.aload_n 1, 1) := by decide +kernel
theorem dX3_farthest_41 : decode cX3_farthest 41 = .ok (.iload 6, 2) := by decide +kernel
theorem dX3_farthest_43 : decode cX3_farthest 43 = .ok (.iload_n 2, 1) := by decide +kernel
theorem dX3_farthest_44 : decode cX3_farthest 44 = .ok (.invokevirtual 121, 3) := by decide +kernel
theorem dX3_farthest_47 : decode cX3_farthest 47 = .ok (.iload 5, 2) := by decide +kernel
theorem dX3_farthest_49 : decode cX3_farthest 49 = .ok (.if_icmp .le 16, 3) := by decide +kernel
theorem dX3_farthest_52 : decode cX3_farthest 52 = .ok (.iload 6, 2) := by decide +kernel
theorem dX3_farthest_54 : decode cX3_farthest 54 = .ok (.istore 4, 2) := by decide +kernel
theorem dX3_farthest_56 : decode cX3_farthest 56 = .ok (.aload_n 1, 1) := by decide +kernel
theorem dX3_farthest_57 : decode cX3_farthest 57 = .ok (.iload 6, 2) := by decide +kernel
theorem dX3_farthest_59 : decode cX3_farthest 59 = .ok (.iload_n 2, 1) := by decide +kernel
theorem dX3_farthest_60 : decode cX3_farthest 60 = .ok (.invokevirtual 121, 3) := by decide +kernel
theorem dX3_farthest_63 : decode cX3_farthest 63 = .ok (.istore 5, 2) := by decide +kernel
theorem dX3_farthest_65 : decode cX3_farthest 65 = .ok (.iinc 6 1, 3) := by decide +kernel
theorem dX3_farthest_68 : decode cX3_farthest 68 = .ok (.goto (-59), 3) := by decide +kernel
theorem dX3_farthest_71 : decode cX3_farthest 71 = .ok (.iload 4, 2) := by decide +kernel
theorem dX3_farthest_73 : decode cX3_farthest 73 = .ok (.ireturn, 1) := by decide +kernel
abbrev mX3_farthest : MI := (RX3, yX3_farthest, cX3_farthest, 7, (some .int))
theorem mok_X3_farthest : MOKv mX3_farthest 3 := ⟨⟨bm_889, bm_125, ⟨by decide, by decide⟩, by decide +kernel⟩, bm_888, bm_19⟩
def f_X3_farthest_65  (k9 : Int32 × Int32 × Int32 → MH → Option (Int32 × MH)) (a0 : Nat) (a1 : Nat) (x2 : Int32) (x3 : Int32) (x4 : Int32) (x5 : Int32) (x6 : Int32) (h : MH) : Option (Int32 × MH) :=
  k9 (x4, x5, (x6 + 1)) h
def f_X3_farthest_9b   (a0 : Nat) (a1 : Nat) (x2 : Int32) (x3 : Int32) (k9 : Int32 × Int32 × Int32 → MH → Option (Int32 × MH)) (p : Int32 × Int32 × Int32) (h : MH) : Option (Int32 × MH) :=
  if p.2.2 < 10 then
    if ((ush x3 p.2.2) &&& 1) = 0 then
      f_X3_farthest_65 k9 a0 a1 x2 x3 p.1 p.2.1 p.2.2 h
    else
      (gR h a0 5).bind fun a_1 =>
      (ldL h a_1 p.2.2).bind fun l_2 =>
      if l_2 = 0 then
        f_X3_farthest_65 k9 a0 a1 x2 x3 p.1 p.2.1 p.2.2 h
      else
        (f_X4_distance a1 p.2.2 x2 h).bind fun q_3 =>
        if p.2.1 < q_3.1 then
          (f_X4_distance a1 p.2.2 x2 q_3.2).bind fun q_4 =>
          f_X3_farthest_65 k9 a0 a1 x2 x3 p.2.2 q_4.1 p.2.2 q_4.2
        else
          f_X3_farthest_65 k9 a0 a1 x2 x3 p.1 p.2.1 p.2.2 q_3.2
  else
    some (p.1, h)
def f_X3_farthest_9   (a0 : Nat) (a1 : Nat) (x2 : Int32) (x3 : Int32) : Nat → Int32 × Int32 × Int32 → MH → Option (Int32 × MH) := lp (f_X3_farthest_9b a0 a1 x2 x3)
def f_X3_farthest   (a0 : Nat) (a1 : Nat) (x2 : Int32) (x3 : Int32) (h : MH) : Option (Int32 × MH) :=
  f_X3_farthest_9 a0 a1 x2 x3 FU ((-1 : Int32), 0, 0) h
set_option maxRecDepth 100000 in
set_option maxHeartbeats 4000000 in
theorem v_X3_farthest_65 {l : Launch} {G : GE} {B N : Nat} {S : List SHP} {o : Int32 × MH} {a0 : Nat} {a1 : Nat} {x2 : Int32} {x3 : Int32} {x4 : Int32} {x5 : Int32} {x6 : Int32}  {k9 : Int32 × Int32 × Int32 → MH → Option (Int32 × MH)} (hk9 : ∀ (p : Int32 × Int32 × Int32) (h : MH), k9 p h = some o → V l G B N mX3_farthest (rmm 4 0 0) false 0 0 (QI S o) S 0 0 9 [(0, .ref a0), (1, .ref a1), (2, .int x2), (3, .int x3), (4, .int p.1), (5, .int p.2.1), (6, .int p.2.2)] [] h) (hs0 : S[a0]? = some (.inl 3)) (hs1 : S[a1]? = some (.inl 4)) {h : MH} (hf : f_X3_farthest_65 k9 a0 a1 x2 x3 x4 x5 x6 h = some o) : V l G B N mX3_farthest (rmm 4 0 0) false 0 0 (QI S o) S 0 0 65 [(0, .ref a0), (1, .ref a1), (2, .int x2), (3, .int x3), (4, .int x4), (5, .int x5), (6, .int x6)] [] h := by
  unfold f_X3_farthest_65 at hf
  refine V_iinc (v := (x6 + 1)) (lv' := [(6, .int (x6 + 1)), (0, .ref a0), (1, .ref a1), (2, .int x2), (3, .int x3), (4, .int x4), (5, .int x5)]) (pc' := 68) dX3_farthest_65 rfl 6 rfl rfl (Nat.le_of_ble_eq_true rfl) rfl ?_
  refine V_goto (tgt := 9) dX3_farthest_68 (by decide) ?_
  exact V_sub (lv' := [(0, .ref a0), (1, .ref a1), (2, .int x2), (3, .int x3), (4, .int x4), (5, .int x5), (6, .int (x6 + 1))]) [1, 2, 3, 4, 5, 6, 0] rfl (hk9 (x4, x5, (x6 + 1)) h hf)
set_option maxRecDepth 100000 in
set_option maxHeartbeats 4000000 in
theorem v_X3_farthest_9b {l : Launch} {G : GE} {B N : Nat} {S : List SHP} {o : Int32 × MH} {a0 : Nat} {a1 : Nat} {x2 : Int32} {x3 : Int32}    (hs0 : S[a0]? = some (.inl 3)) (hs1 : S[a1]? = some (.inl 4)) {k9 : Int32 × Int32 × Int32 → MH → Option (Int32 × MH)} (hk9 : ∀ (p : Int32 × Int32 × Int32) (h : MH), k9 p h = some o → V l G B N mX3_farthest (rmm 4 0 0) false 0 0 (QI S o) S 0 0 9 [(0, .ref a0), (1, .ref a1), (2, .int x2), (3, .int x3), (4, .int p.1), (5, .int p.2.1), (6, .int p.2.2)] [] h) {p : Int32 × Int32 × Int32} {h : MH} (hf : f_X3_farthest_9b a0 a1 x2 x3 k9 p h = some o) : V l G B N mX3_farthest (rmm 4 0 0) false 0 0 (QI S o) S 0 0 9 [(0, .ref a0), (1, .ref a1), (2, .int x2), (3, .int x3), (4, .int p.1), (5, .int p.2.1), (6, .int p.2.2)] [] h := by
  unfold f_X3_farthest_9b at hf
  refine V_iload (pc' := 11) dX3_farthest_9 rfl 6 rfl ?_
  refine V_bipush (v := 10) (pc' := 13) dX3_farthest_11 rfl (by decide) ?_
  refine V_icmp_ge (tgt := 71) (pc' := 16) dX3_farthest_13 (by decide) rfl hf (fun hf => ?_) (fun hf => ?_)
  ·
    refine V_iload_n (pc' := 17) dX3_farthest_16 rfl 3 rfl rfl ?_
    refine V_iload (pc' := 19) dX3_farthest_17 rfl 6 rfl ?_
    refine V_iushr (pc' := 20) dX3_farthest_19 rfl ?_
    refine V_iconst (v := 1) (pc' := 21) dX3_farthest_20 rfl (by decide) ?_
    refine V_iand (pc' := 22) dX3_farthest_21 rfl ?_
    refine V_if_eq (tgt := 65) (pc' := 25) dX3_farthest_22 (by decide) rfl hf (fun hf => ?_) (fun hf => ?_)
    ·
      exact V_sub (lv' := [(0, .ref a0), (1, .ref a1), (2, .int x2), (3, .int x3), (4, .int p.1), (5, .int p.2.1), (6, .int p.2.2)]) [0, 1, 2, 3, 4, 5, 6] rfl (v_X3_farthest_65 hk9 hs0 hs1 hf)
    ·
      refine V_aload_n (pc' := 26) dX3_farthest_25 rfl 0 rfl rfl ?_
      refine V_getR (pc' := 29) 3 5 dX3_farthest_26 rfl (by decide) (Nat.le_of_ble_eq_true rfl) bm_421 hs0 (fun _ _ _ => rfl) rfl hf (fun a_1 ha_1 hf => ?_)
      refine V_iload (pc' := 31) dX3_farthest_29 rfl 6 rfl ?_
      refine V_lald (pc' := 32) dX3_farthest_31 rfl ha_1 hf (fun l_2 hf => ?_)
      refine V_lconst (v := 0) (pc' := 33) dX3_farthest_32 rfl (by decide) ?_
      refine V_lcmp_ne (pc1 := 34) (tgt := 40) (pc' := 37) dX3_farthest_33 rfl dX3_farthest_34 (by decide) rfl hf (fun hf => ?_) (fun hf => ?_)
      ·
        refine V_goto (tgt := 65) dX3_farthest_37 (by decide) ?_
        exact V_sub (lv' := [(0, .ref a0), (1, .ref a1), (2, .int x2), (3, .int x3), (4, .int p.1), (5, .int p.2.1), (6, .int p.2.2)]) [0, 1, 2, 3, 4, 5, 6] rfl (v_X3_farthest_65 hk9 hs0 hs1 hf)
      ·
        refine V_aload_n (pc' := 41) dX3_farthest_40 rfl 1 rfl rfl ?_
        refine V_iload (pc' := 43) dX3_farthest_41 rfl 6 rfl ?_
        refine V_iload_n (pc' := 44) dX3_farthest_43 rfl 2 rfl rfl ?_
        refine V_cvI (pc' := 47) (As := [.int p.2.2, .int x2]) (rest := []) dX3_farthest_44 rfl mok_X4_distance bm_862 4 (by decide) rfl hs1 rfl rfl (Nat.le_of_ble_eq_true rfl) (by decide) hf (fun q e => ct_X4_distance hs1 e) (fun q_3 hf => ?_)
        refine V_iload (pc' := 49) dX3_farthest_47 rfl 5 rfl ?_
        refine V_icmp_le (tgt := 65) (pc' := 52) dX3_farthest_49 (by decide) rfl hf (fun hf => ?_) (fun hf => ?_)
        ·
          refine V_iload (pc' := 54) dX3_farthest_52 rfl 6 rfl ?_
          refine V_istore (lv' := [(4, .int p.2.2), (0, .ref a0), (1, .ref a1), (2, .int x2), (3, .int x3), (5, .int p.2.1), (6, .int p.2.2)]) (pc' := 56) dX3_farthest_54 rfl (Nat.le_of_ble_eq_true rfl) rfl ?_
          refine V_aload_n (pc' := 57) dX3_farthest_56 rfl 2 rfl rfl ?_
          refine V_iload (pc' := 59) dX3_farthest_57 rfl 6 rfl ?_
          refine V_iload_n (pc' := 60) dX3_farthest_59 rfl 3 rfl rfl ?_
          refine V_cvI (pc' := 63) (As := [.int p.2.2, .int x2]) (rest := []) dX3_farthest_60 rfl mok_X4_distance bm_862 4 (by decide) rfl hs1 rfl rfl (Nat.le_of_ble_eq_true rfl) (by decide) hf (fun q e => ct_X4_distance hs1 e) (fun q_4 hf => ?_)
          refine V_istore (lv' := [(5, .int q_4.1), (4, .int p.2.2), (0, .ref a0), (1, .ref a1), (2, .int x2), (3, .int x3), (6, .int p.2.2)]) (pc' := 65) dX3_farthest_63 rfl (Nat.le_of_ble_eq_true rfl) rfl ?_
          exact V_sub (lv' := [(0, .ref a0), (1, .ref a1), (2, .int x2), (3, .int x3), (4, .int p.2.2), (5, .int q_4.1), (6, .int p.2.2)]) [2, 3, 4, 5, 1, 0, 6] rfl (v_X3_farthest_65 hk9 hs0 hs1 hf)
        ·
          exact V_sub (lv' := [(0, .ref a0), (1, .ref a1), (2, .int x2), (3, .int x3), (4, .int p.1), (5, .int p.2.1), (6, .int p.2.2)]) [0, 1, 2, 3, 4, 5, 6] rfl (v_X3_farthest_65 hk9 hs0 hs1 hf)
  ·
    refine V_iload (pc' := 73) dX3_farthest_71 rfl 4 rfl ?_
    obtain rfl := Option.some.inj hf
    exact V_iret dX3_farthest_73 rfl rfl rfl ⟨rfl, rfl, rfl⟩
theorem v_X3_farthest_9 {l : Launch} {G : GE} {B N : Nat} {S : List SHP} {o : Int32 × MH} {a0 : Nat} {a1 : Nat} {x2 : Int32} {x3 : Int32}    (hs0 : S[a0]? = some (.inl 3)) (hs1 : S[a1]? = some (.inl 4)) {n : Nat} {p : Int32 × Int32 × Int32} {h : MH} (hf : f_X3_farthest_9 a0 a1 x2 x3 n p h = some o) : V l G B N mX3_farthest (rmm 4 0 0) false 0 0 (QI S o) S 0 0 9 [(0, .ref a0), (1, .ref a1), (2, .int x2), (3, .int x3), (4, .int p.1), (5, .int p.2.1), (6, .int p.2.2)] [] h :=
  V_lp (VV := fun p h => V l G B N mX3_farthest (rmm 4 0 0) false 0 0 (QI S o) S 0 0 9 [(0, .ref a0), (1, .ref a1), (2, .int x2), (3, .int x3), (4, .int p.1), (5, .int p.2.1), (6, .int p.2.2)] [] h) (fun _ hk _ _ hf => v_X3_farthest_9b hs0 hs1 hk hf) n p h hf
set_option maxRecDepth 100000 in
set_option maxHeartbeats 4000000 in
theorem v_X3_farthest {l : Launch} {G : GE} {B N : Nat} {S : List SHP} {o : Int32 × MH} {a0 : Nat} {a1 : Nat} {x2 : Int32} {x3 : Int32}    (hs0 : S[a0]? = some (.inl 3)) (hs1 : S[a1]? = some (.inl 4)) {h : MH} (hf : f_X3_farthest a0 a1 x2 x3 h = some o) : V l G B N mX3_farthest (rmm 4 0 0) false 0 0 (QI S o) S 0 0 0 [(0, .ref a0), (1, .ref a1), (2, .int x2), (3, .int x3)] [] h := by
  unfold f_X3_farthest at hf
  refine V_iconst (v := (-1)) (pc' := 1) dX3_farthest_0 rfl (by decide) ?_
  refine V_istore (lv' := [(4, .int (-1 : Int32)), (0, .ref a0), (1, .ref a1), (2, .int x2), (3, .int x3)]) (pc' := 3) dX3_farthest_1 rfl (Nat.le_of_ble_eq_true rfl) rfl ?_
  refine V_iconst (v := 0) (pc' := 4) dX3_farthest_3 rfl (by decide) ?_
  refine V_istore (lv' := [(5, .int 0), (4, .int (-1 : Int32)), (0, .ref a0), (1, .ref a1), (2, .int x2), (3, .int x3)]) (pc' := 6) dX3_farthest_4 rfl (Nat.le_of_ble_eq_true rfl) rfl ?_
  refine V_iconst (v := 0) (pc' := 7) dX3_farthest_6 rfl (by decide) ?_
  refine V_istore (lv' := [(6, .int 0), (5, .int 0), (4, .int (-1 : Int32)), (0, .ref a0), (1, .ref a1), (2, .int x2), (3, .int x3)]) (pc' := 9) dX3_farthest_7 rfl (Nat.le_of_ble_eq_true rfl) rfl ?_
  exact V_sub (lv' := [(0, .ref a0), (1, .ref a1), (2, .int x2), (3, .int x3), (4, .int (-1 : Int32)), (5, .int 0), (6, .int 0)]) [3, 4, 5, 6, 2, 1, 0] rfl (v_X3_farthest_9 hs0 hs1 hf)
theorem ct_X3_farthest {l : Launch} {S : List SHP} {h : MH} {a0 : Nat} {a1 : Nat} {x2 : Int32} {x3 : Int32} (hs0 : S[a0]? = some (.inl 3)) (hs1 : S[a1]? = some (.inl 4)) {q : Int32 × MH} (hf : f_X3_farthest a0 a1 x2 x3 h = some q) : CT l mX3_farthest 4 false 0 0 S [.ref a0, .ref a1, .int x2, .int x3] h (QI S q) :=
  CT_ofV (by decide) rfl (Nat.le_of_ble_eq_true rfl) (fun G B hT => v_X3_farthest hs0 hs1 hf)
/-! LabelStacks$Packet.handOn(LLabelStacks$Network;II)V -/
theorem dX3_handOn_0 : decode cX3_handOn 0 = .ok (.aload_n 0, 1) := by decide +kernel
theorem dX3_handOn_1 : decode cX3_handOn 1 = .ok (.getfield 34, 3) := by decide +kernel
theorem dX3_handOn_4 : decode cX3_handOn 4 = .ok (.iload_n 2, 1) := by decide +kernel
theorem dX3_handOn_5 : decode cX3_handOn 5 = .ok (.laload, 1) := by decide +kernel
theorem dX3_handOn_6 : decode cX3_handOn 6 = .ok (.iconst 1, 1) := by decide +kernel
theorem dX3_handOn_7 : decode cX3_handOn 7 = .ok (.iload_n 3, 1) := by decide +kernel
theorem dX3_handOn_8 : decode cX3_handOn 8 = .ok (.invokestatic 164, 3) := by decide +kernel
theorem dX3_handOn_11 : decode cX3_handOn 11 = .ok (.invokestatic 72, 3) := by decide +kernel
theorem dX3_handOn_14 : decode cX3_handOn 14 = .ok (.i2l, 1) := by decide +kernel
theorem dX3_handOn_15 : decode cX3_handOn 15 = .ok (.ldiv, 1) := by decide +kernel
theorem dX3_handOn_16 : decode cX3_handOn 16 = .ok (.lstore 4, 2) := by decide +kernel
theorem dX3_handOn_18 : decode cX3_handOn 18 = .ok (.iconst 0, 1) := by decide +kernel
theorem dX3_handOn_19 : decode cX3_handOn 19 = .ok (.istore 6, 2) := by decide +kernel
theorem dX3_handOn_21 : decode cX3_handOn 21 = .ok (.iload 6, 2) := by decide +kernel
theorem dX3_handOn_23 : decode cX3_handOn 23 = .ok (.aload_n 1, 1) := by decide +kernel
theorem dX3_handOn_24 : decode cX3_handOn 24 = .ok (.getfield 177, 3) := by decide +kernel
theorem dX3_handOn_27 : decode cX3_handOn 27 = .ok (.if_icmp .ge 47, 3) := by decide +kernel
theorem dX3_handOn_30 : decode cX3_handOn 30 = .ok (.iload_n 3, 1) := by decide +kernel
theorem dX3_handOn_31 : decode cX3_handOn 31 = .ok (.iload 6, 2) := by decide +kernel
theorem dX3_handOn_33 : decode cX3_handOn 33 = .ok (.iushr, 1) := by decide +kernel
theorem dX3_handOn_34 : decode cX3_handOn 34 = .ok (.iconst 1, 1) := by decide +kernel
theorem dX3_handOn_35 : decode cX3_handOn 35 = .ok (.iand, 1) := by decide +kernel
theorem dX3_handOn_36 : decode cX3_handOn 36 = .ok (.ifCond .eq 32, 3) := by decide +kernel
theorem dX3_handOn_39 : decode cX3_handOn 39 = .ok (.aload_n 0, 1) := by decide +kernel
theorem dX3_handOn_40 : decode cX3_handOn 40 = .ok (.getfield 38, 3) := by decide +kernel
theorem dX3_handOn_43 : decode cX3_handOn 43 = .ok (.iload 6, 2) := by decide +kernel
theorem dX3_handOn_45 : decode cX3_handOn 45 = .ok (.dup2, 1) := by decide +kernel
theorem dX3_handOn_46 : decode cX3_handOn 46 = .ok (.laload, 1) := by decide +kernel
theorem dX3_handOn_47 : decode cX3_handOn 47 = .ok (.lload 4, 2) := by decide +kernel
theorem dX3_handOn_49 : decode cX3_handOn 49 = .ok (.ladd, 1) := by decide +kernel
theorem dX3_handOn_50 : decode cX3_handOn 50 = .ok (.lastore, 1) := by decide +kernel
theorem dX3_handOn_51 : decode cX3_handOn 51 = .ok (.aload_n 0, 1) := by decide +kernel
theorem dX3_handOn_52 : decode cX3_handOn 52 = .ok (.getfield 34, 3) := by decide +kernel
theorem dX3_handOn_55 : decode cX3_handOn 55 = .ok (.aload_n 1, 1) := by decide +kernel
theorem dX3_handOn_56 : decode cX3_handOn 56 = .ok (.getfield 144, 3) := by decide +kernel
theorem dX3_handOn_59 : decode cX3_handOn 59 = .ok (.iload 6, 2) := by decide +kernel
theorem dX3_handOn_61 : decode cX3_handOn 61 = .ok (.iaload, 1) := by decide +kernel
theorem dX3_handOn_62 : decode cX3_handOn 62 = .ok (.dup2, 1) := by decide +kernel
theorem dX3_handOn_63 : decode cX3_handOn 63 = .ok (.laload, 1) := by decide +kernel
theorem dX3_handOn_64 : decode cX3_handOn 64 = .ok (.lload 4, 2) := by decide +kernel
theorem dX3_handOn_66 : decode cX3_handOn 66 = .ok (.ladd, 1) := by decide +kernel
theorem dX3_handOn_67 : decode cX3_handOn 67 = .ok (.lastore, 1) := by decide +kernel
theorem dX3_handOn_68 : decode cX3_handOn 68 = .ok (.iinc 6 1, 3) := by decide +kernel
theorem dX3_handOn_71 : decode cX3_handOn 71 = .ok (.goto (-50), 3) := by decide +kernel
theorem dX3_handOn_74 : decode cX3_handOn 74 = .ok (.return_, 1) := by decide +kernel
abbrev mX3_handOn : MI := (RX3, yX3_handOn, cX3_handOn, 7, none)
theorem mok_X3_handOn : MOKv mX3_handOn 3 := ⟨⟨bm_893, bm_125, ⟨by decide, by decide⟩, by decide +kernel⟩, bm_892, bm_20⟩
def f_X3_handOn_68  (k21 : Int32 → MH → Option (MH)) (a0 : Nat) (a1 : Nat) (x3 : Int32) (l4 : Int64) (x6 : Int32) (h : MH) : Option (MH) :=
  k21 (x6 + 1) h
def f_X3_handOn_21b   (a0 : Nat) (a1 : Nat) (x3 : Int32) (l4 : Int64) (k21 : Int32 → MH → Option (MH)) (p : Int32) (h : MH) : Option (MH) :=
  if p < (gI h a1 1) then
    if ((ush x3 p) &&& 1) = 0 then
      f_X3_handOn_68 k21 a0 a1 x3 l4 p h
    else
      (gR h a0 6).bind fun a_1 =>
      (ldL h a_1 p).bind fun l_2 =>
      (stL h a_1 p (l_2 + l4)).bind fun h_3 =>
      (gR h_3 a0 5).bind fun a_4 =>
      (gR h_3 a1 4).bind fun a_5 =>
      (ldI h_3 a_5 p).bind fun x_6 =>
      (ldL h_3 a_4 x_6).bind fun l_7 =>
      (stL h_3 a_4 x_6 (l_7 + l4)).bind fun h_8 =>
      f_X3_handOn_68 k21 a0 a1 x3 l4 p h_8
  else
    some h
def f_X3_handOn_21   (a0 : Nat) (a1 : Nat) (x3 : Int32) (l4 : Int64) : Nat → Int32 → MH → Option (MH) := lp (f_X3_handOn_21b a0 a1 x3 l4)
def f_X3_handOn   (a0 : Nat) (a1 : Nat) (x2 : Int32) (x3 : Int32) (h : MH) : Option (MH) :=
  (gR h a0 5).bind fun a_1 =>
  (ldL h a_1 x2).bind fun l_2 =>
  (f_J6_bitCount_0f7a4 x3 h).bind fun q_3 =>
  lt ((if 1 < q_3.1 then q_3.1 else 1) : Int32) fun x_4 =>
  if (Int32.toInt64 x_4) = (0 : Int64) then none else
  lt (l_2 / (Int32.toInt64 x_4)) fun l_5 =>
  f_X3_handOn_21 a0 a1 x3 l_5 FU 0 q_3.2
set_option maxRecDepth 100000 in
set_option maxHeartbeats 4000000 in
theorem v_X3_handOn_68 {l : Launch} {G : GE} {B N : Nat} {S : List SHP} {o : MH} {a0 : Nat} {a1 : Nat} {x3 : Int32} {l4 : Int64} {x6 : Int32}  {k21 : Int32 → MH → Option (MH)} (hk21 : ∀ (p : Int32) (h : MH), k21 p h = some o → V l G B N mX3_handOn (rmm 4 0 0) false 0 0 (QV S o) S 0 0 21 [(0, .ref a0), (1, .ref a1), (3, .int x3), (4, .long l4), (6, .int p)] [] h) (hs0 : S[a0]? = some (.inl 3)) (hs1 : S[a1]? = some (.inl 2)) {h : MH} (hf : f_X3_handOn_68 k21 a0 a1 x3 l4 x6 h = some o) : V l G B N mX3_handOn (rmm 4 0 0) false 0 0 (QV S o) S 0 0 68 [(0, .ref a0), (1, .ref a1), (3, .int x3), (4, .long l4), (6, .int x6)] [] h := by
  unfold f_X3_handOn_68 at hf
  refine V_iinc (v := (x6 + 1)) (lv' := [(6, .int (x6 + 1)), (0, .ref a0), (1, .ref a1), (3, .int x3), (4, .long l4)]) (pc' := 71) dX3_handOn_68 rfl 4 rfl rfl (Nat.le_of_ble_eq_true rfl) rfl ?_
  refine V_goto (tgt := 21) dX3_handOn_71 (by decide) ?_
  exact V_sub (lv' := [(0, .ref a0), (1, .ref a1), (3, .int x3), (4, .long l4), (6, .int (x6 + 1))]) [1, 2, 3, 4, 0] rfl (hk21 (x6 + 1) h hf)
set_option maxRecDepth 100000 in
set_option maxHeartbeats 4000000 in
theorem v_X3_handOn_21b {l : Launch} {G : GE} {B N : Nat} {S : List SHP} {o : MH} {a0 : Nat} {a1 : Nat} {x3 : Int32} {l4 : Int64}    (hs0 : S[a0]? = some (.inl 3)) (hs1 : S[a1]? = some (.inl 2)) {k21 : Int32 → MH → Option (MH)} (hk21 : ∀ (p : Int32) (h : MH), k21 p h = some o → V l G B N mX3_handOn (rmm 4 0 0) false 0 0 (QV S o) S 0 0 21 [(0, .ref a0), (1, .ref a1), (3, .int x3), (4, .long l4), (6, .int p)] [] h) {p : Int32} {h : MH} (hf : f_X3_handOn_21b a0 a1 x3 l4 k21 p h = some o) : V l G B N mX3_handOn (rmm 4 0 0) false 0 0 (QV S o) S 0 0 21 [(0, .ref a0), (1, .ref a1), (3, .int x3), (4, .long l4), (6, .int p)] [] h := by
  unfold f_X3_handOn_21b at hf
  refine V_iload (pc' := 23) dX3_handOn_21 rfl 4 rfl ?_
  refine V_aload_n (pc' := 24) dX3_handOn_23 rfl 1 rfl rfl ?_
  refine V_getI (pc' := 27) 2 1 dX3_handOn_24 rfl (by decide) (Nat.le_of_ble_eq_true rfl) bm_192 hs1 (fun _ _ _ => rfl) ?_
  refine V_icmp_ge (tgt := 74) (pc' := 30) dX3_handOn_27 (by decide) rfl hf (fun hf => ?_) (fun hf => ?_)
  ·
    refine V_iload_n (pc' := 31) dX3_handOn_30 rfl 2 rfl rfl ?_
    refine V_iload (pc' := 33) dX3_handOn_31 rfl 4 rfl ?_
    refine V_iushr (pc' := 34) dX3_handOn_33 rfl ?_
    refine V_iconst (v := 1) (pc' := 35) dX3_handOn_34 rfl (by decide) ?_
    refine V_iand (pc' := 36) dX3_handOn_35 rfl ?_
    refine V_if_eq (tgt := 68) (pc' := 39) dX3_handOn_36 (by decide) rfl hf (fun hf => ?_) (fun hf => ?_)
    ·
      exact V_sub (lv' := [(0, .ref a0), (1, .ref a1), (3, .int x3), (4, .long l4), (6, .int p)]) [0, 1, 2, 3, 4] rfl (v_X3_handOn_68 hk21 hs0 hs1 hf)
    ·
      refine V_aload_n (pc' := 40) dX3_handOn_39 rfl 0 rfl rfl ?_
      refine V_getR (pc' := 43) 3 6 dX3_handOn_40 rfl (by decide) (Nat.le_of_ble_eq_true rfl) bm_422 hs0 (fun _ _ _ => rfl) rfl hf (fun a_1 ha_1 hf => ?_)
      refine V_iload (pc' := 45) dX3_handOn_43 rfl 4 rfl ?_
      refine V_dup2 (pc' := 46) dX3_handOn_45 rfl rfl rfl ?_
      refine V_lald (pc' := 47) dX3_handOn_46 rfl ha_1 hf (fun l_2 hf => ?_)
      refine V_lload (pc' := 49) dX3_handOn_47 rfl 3 rfl ?_
      refine V_ladd (pc' := 50) dX3_handOn_49 rfl ?_
      refine V_last (pc' := 51) dX3_handOn_50 rfl ha_1 hf (fun h_3 hf => ?_)
      refine V_aload_n (pc' := 52) dX3_handOn_51 rfl 0 rfl rfl ?_
      refine V_getR (pc' := 55) 3 5 dX3_handOn_52 rfl (by decide) (Nat.le_of_ble_eq_true rfl) bm_421 hs0 (fun _ _ _ => rfl) rfl hf (fun a_4 ha_4 hf => ?_)
      refine V_aload_n (pc' := 56) dX3_handOn_55 rfl 1 rfl rfl ?_
      refine V_getR (pc' := 59) 2 4 dX3_handOn_56 rfl (by decide) (Nat.le_of_ble_eq_true rfl) bm_204 hs1 (fun _ _ _ => rfl) rfl hf (fun a_5 ha_5 hf => ?_)
      refine V_iload (pc' := 61) dX3_handOn_59 rfl 4 rfl ?_
      refine V_iald (pc' := 62) dX3_handOn_61 rfl ha_5 hf (fun x_6 hf => ?_)
      refine V_dup2 (pc' := 63) dX3_handOn_62 rfl rfl rfl ?_
      refine V_lald (pc' := 64) dX3_handOn_63 rfl ha_4 hf (fun l_7 hf => ?_)
      refine V_lload (pc' := 66) dX3_handOn_64 rfl 3 rfl ?_
      refine V_ladd (pc' := 67) dX3_handOn_66 rfl ?_
      refine V_last (pc' := 68) dX3_handOn_67 rfl ha_4 hf (fun h_8 hf => ?_)
      exact V_sub (lv' := [(0, .ref a0), (1, .ref a1), (3, .int x3), (4, .long l4), (6, .int p)]) [0, 1, 2, 3, 4] rfl (v_X3_handOn_68 hk21 hs0 hs1 hf)
  ·
    obtain rfl := Option.some.inj hf
    exact V_vret dX3_handOn_74 rfl rfl rfl ⟨rfl, rfl, rfl⟩
theorem v_X3_handOn_21 {l : Launch} {G : GE} {B N : Nat} {S : List SHP} {o : MH} {a0 : Nat} {a1 : Nat} {x3 : Int32} {l4 : Int64}    (hs0 : S[a0]? = some (.inl 3)) (hs1 : S[a1]? = some (.inl 2)) {n : Nat} {p : Int32} {h : MH} (hf : f_X3_handOn_21 a0 a1 x3 l4 n p h = some o) : V l G B N mX3_handOn (rmm 4 0 0) false 0 0 (QV S o) S 0 0 21 [(0, .ref a0), (1, .ref a1), (3, .int x3), (4, .long l4), (6, .int p)] [] h :=
  V_lp (VV := fun p h => V l G B N mX3_handOn (rmm 4 0 0) false 0 0 (QV S o) S 0 0 21 [(0, .ref a0), (1, .ref a1), (3, .int x3), (4, .long l4), (6, .int p)] [] h) (fun _ hk _ _ hf => v_X3_handOn_21b hs0 hs1 hk hf) n p h hf
set_option maxRecDepth 100000 in
set_option maxHeartbeats 4000000 in
theorem v_X3_handOn {l : Launch} {G : GE} {B N : Nat} {S : List SHP} {o : MH} {a0 : Nat} {a1 : Nat} {x2 : Int32} {x3 : Int32}    (hs0 : S[a0]? = some (.inl 3)) (hs1 : S[a1]? = some (.inl 2)) {h : MH} (hf : f_X3_handOn a0 a1 x2 x3 h = some o) : V l G B N mX3_handOn (rmm 4 0 0) false 0 0 (QV S o) S 0 0 0 [(0, .ref a0), (1, .ref a1), (2, .int x2), (3, .int x3)] [] h := by
  unfold f_X3_handOn at hf
  refine V_aload_n (pc' := 1) dX3_handOn_0 rfl 0 rfl rfl ?_
  refine V_getR (pc' := 4) 3 5 dX3_handOn_1 rfl (by decide) (Nat.le_of_ble_eq_true rfl) bm_421 hs0 (fun _ _ _ => rfl) rfl hf (fun a_1 ha_1 hf => ?_)
  refine V_iload_n (pc' := 5) dX3_handOn_4 rfl 2 rfl rfl ?_
  refine V_lald (pc' := 6) dX3_handOn_5 rfl ha_1 hf (fun l_2 hf => ?_)
  refine V_iconst (v := 1) (pc' := 7) dX3_handOn_6 rfl (by decide) ?_
  refine V_iload_n (pc' := 8) dX3_handOn_7 rfl 3 rfl rfl ?_
  refine V_csI (pc' := 11) (As := [.int x3]) (rest := [.int 1, .long l_2]) dX3_handOn_8 rfl mok_J6_bitCount_0f7a4 bm_884 rfl rfl (Nat.le_of_ble_eq_true rfl) (by decide) hf (fun q e => ct_J6_bitCount_0f7a4  e) (fun q_3 hf => ?_)
  refine V_max (pc' := 14) dX3_handOn_11 rfl bm_885 (Nat.le_of_ble_eq_true rfl) (by decide) ?_
  refine V_nmI hf (fun x_4 hf => ?_)
  refine V_i2l (pc' := 15) dX3_handOn_14 rfl ?_
  refine V_ldivF (pc' := 16) dX3_handOn_15 rfl hf (fun hf => ?_)
  refine V_nmJ hf (fun l_5 hf => ?_)
  refine V_lstore (lv' := [(4, .long l_5), (0, .ref a0), (1, .ref a1), (2, .int x2), (3, .int x3)]) (pc' := 18) dX3_handOn_16 rfl (Nat.le_of_ble_eq_true rfl) rfl ?_
  refine V_iconst (v := 0) (pc' := 19) dX3_handOn_18 rfl (by decide) ?_
  refine V_istore (lv' := [(6, .int 0), (4, .long l_5), (0, .ref a0), (1, .ref a1), (2, .int x2), (3, .int x3)]) (pc' := 21) dX3_handOn_19 rfl (Nat.le_of_ble_eq_true rfl) rfl ?_
  exact V_sub (lv' := [(0, .ref a0), (1, .ref a1), (3, .int x3), (4, .long l_5), (6, .int 0)]) [2, 3, 5, 1, 0] rfl (v_X3_handOn_21 hs0 hs1 hf)
theorem ct_X3_handOn {l : Launch} {S : List SHP} {h : MH} {a0 : Nat} {a1 : Nat} {x2 : Int32} {x3 : Int32} (hs0 : S[a0]? = some (.inl 3)) (hs1 : S[a1]? = some (.inl 2)) {q : MH} (hf : f_X3_handOn a0 a1 x2 x3 h = some q) : CT l mX3_handOn 4 false 0 0 S [.ref a0, .ref a1, .int x2, .int x3] h (QV S q) :=
  CT_ofV (by decide) rfl (Nat.le_of_ble_eq_true rfl) (fun G B hT => v_X3_handOn hs0 hs1 hf)
/-! LabelStacks$Packet.spread(LLabelStacks$Network;LLabelStacks$Routes;I)V -/
theorem dX3_spread_0 : decode cX3_spread 0 = .ok (.aload_n 0, 1) := by decide +kernel
theorem dX3_spread_1 : decode cX3_spread 1 = .ok (.getfield 34, 3) := by decide +kernel
theorem dX3_spread_4 : decode cX3_spread 4 = .ok (.lconst 0, 1) := by decide +kernel
theorem dX3_spread_5 : decode cX3_spread 5 = .ok (.invokestatic 155, 3) := by decide +kernel
theorem dX3_spread_8 : decode cX3_spread 8 = .ok (.aload_n 0, 1) := by decide +kernel
theorem dX3_spread_9 : decode cX3_spread 9 = .ok (.getfield 38, 3) := by decide +kernel
theorem dX3_spread_12 : decode cX3_spread 12 = .ok (.lconst 0, 1) := by decide +kernel
theorem dX3_spread_13 : decode cX3_spread 13 = .ok (.invokestatic 155, 3) := by decide +kernel
theorem dX3_spread_16 : decode cX3_spread 16 = .ok (.lconst 1, 1) := by decide +kernel
theorem dX3_spread_17 : decode cX3_spread 17 = .ok (.lstore 4, 2) := by decide +kernel
theorem dX3_spread_19 : decode cX3_spread 19 = .ok (.iconst 0, 1) := by decide +kernel
theorem dX3_spread_20 : decode cX3_spread 20 = .ok (.istore 6, 2) := by decide +kernel
theorem dX3_spread_22 : decode cX3_spread 22 = .ok (.iload 6, 2) := by decide +kernel
theorem dX3_spread_24 : decode cX3_spread 24 = .ok (.aload_n 1, 1) := by decide +kernel
theorem dX3_spread_25 : decode cX3_spread 25 = .ok (.getfield 161, 3) := by decide +kernel
theorem dX3_spread_28 : decode cX3_spread 28 = .ok (.if_icmp .ge 30, 3) := by decide +kernel
theorem dX3_spread_31 : decode cX3_spread 31 = .ok (.lload 4, 2) := by decide +kernel
theorem dX3_spread_33 : decode cX3_spread 33 = .ok (.iconst 1, 1) := by decide +kernel
theorem dX3_spread_34 : decode cX3_spread 34 = .ok (.aload_n 2, 1) := by decide +kernel
theorem dX3_spread_35 : decode cX3_spread 35 = .ok (.aload_n 1, 1) := by decide +kernel
theorem dX3_spread_36 : decode cX3_spread 36 = .ok (.iload 6, 2) := by decide +kernel
theorem dX3_spread_38 : decode cX3_spread 38 = .ok (.iload_n 3, 1) := by decide +kernel
theorem dX3_spread_39 : decode cX3_spread 39 = .ok (.invokevirtual 147, 3) := by decide +kernel
theorem dX3_spread_42 : decode cX3_spread 42 = .ok (.invokestatic 164, 3) := by decide +kernel
theorem dX3_spread_45 : decode cX3_spread 45 = .ok (.invokestatic 72, 3) := by decide +kernel
theorem dX3_spread_48 : decode cX3_spread 48 = .ok (.i2l, 1) := by decide +kernel
theorem dX3_spread_49 : decode cX3_spread 49 = .ok (.lmul, 1) := by decide +kernel
theorem dX3_spread_50 : decode cX3_spread 50 = .ok (.lstore 4, 2) := by decide +kernel
theorem dX3_spread_52 : decode cX3_spread 52 = .ok (.iinc 6 1, 3) := by decide +kernel
theorem dX3_spread_55 : decode cX3_spread 55 = .ok (.goto (-33), 3) := by decide +kernel
theorem dX3_spread_58 : decode cX3_spread 58 = .ok (.aload_n 0, 1) := by decide +kernel
theorem dX3_spread_59 : decode cX3_spread 59 = .ok (.getfield 34, 3) := by decide +kernel
theorem dX3_spread_62 : decode cX3_spread 62 = .ok (.aload_n 0, 1) := by decide +kernel
theorem dX3_spread_63 : decode cX3_spread 63 = .ok (.getfield 45, 3) := by decide +kernel
theorem dX3_spread_66 : decode cX3_spread 66 = .ok (.lload 4, 2) := by decide +kernel
theorem dX3_spread_68 : decode cX3_spread 68 = .ok (.lastore, 1) := by decide +kernel
theorem dX3_spread_69 : decode cX3_spread 69 = .ok (.iconst 1, 1) := by decide +kernel
theorem dX3_spread_70 : decode cX3_spread 70 = .ok (.aload_n 1, 1) := by decide +kernel
theorem dX3_spread_71 : decode cX3_spread 71 = .ok (.getfield 161, 3) := by decide +kernel
theorem dX3_spread_74 : decode cX3_spread 74 = .ok (.ishl, 1) := by decide +kernel
theorem dX3_spread_75 : decode cX3_spread 75 = .ok (.iconst 1, 1) := by decide +kernel
theorem dX3_spread_76 : decode cX3_spread 76 = .ok (.isub, 1) := by decide +kernel
theorem dX3_spread_77 : decode cX3_spread 77 = .ok (.iconst 1, 1) := by decide +kernel
theorem dX3_spread_78 : decode cX3_spread 78 = .ok (.iload_n 3, 1) := by decide +kernel
theorem dX3_spread_79 : decode cX3_spread 79 = .ok (.ishl, 1) := by decide +kernel
theorem dX3_spread_80 : decode cX3_spread 80 = .ok (.iconst (-1), 1) := by decide +kernel
theorem dX3_spread_81 : decode cX3_spread 81 = .ok (.ixor, 1) := by decide +kernel
theorem dX3_spread_82 : decode cX3_spread 82 = .ok (.iand, 1) := by decide +kernel
theorem dX3_spread_83 : decode cX3_spread 83 = .ok (.istore 6, 2) := by decide +kernel
theorem dX3_spread_85 : decode cX3_spread 85 = .ok (.iconst 0, 1) := by decide +kernel
theorem dX3_spread_86 : decode cX3_spread 86 = .ok (.istore 7, 2) := by decide +kernel
theorem dX3_spread_88 : decode cX3_spread 88 = .ok (.iload 7, 2) := by decide +kernel
theorem dX3_spread_90 : decode cX3_spread 90 = .ok (.aload_n 1, 1) := by decide +kernel
theorem dX3_spread_91 : decode cX3_spread 91 = .ok (.getfield 161, 3) := by decide +kernel
theorem dX3_spread_94 : decode cX3_spread 94 = .ok (.if_icmp .ge 54, 3) := by decide +kernel
theorem dX3_spread_97 : decode cX3_spread 97 = .ok (.aload_n 0, 1) := by decide +kernel
theorem dX3_spread_98 : decode cX3_spread 98 = .ok (.aload_n 2, 1) := by decide +kernel
theorem dX3_spread_99 : decode cX3_spread 99 = .ok (.iload_n 3, 1) := by decide +kernel
theorem dX3_spread_100 : decode cX3_spread 100 = .ok (.iload 6, 2) := by decide +kernel
theorem dX3_spread_102 : decode cX3_spread 102 = .ok (.invokevirtual 169, 3) := by decide +kernel
theorem dX3_spread_105 : decode cX3_spread 105 = .ok (.istore 8, 2) := by decide +kernel
theorem dX3_spread_107 : decode cX3_spread 107 = .ok (.iload 8, 2) := by decide +kernel
theorem dX3_spread_109 : decode cX3_spread 109 = .ok (.iconst (-1), 1) := by decide +kernel
theorem dX3_spread_110 : decode cX3_spread 110 = .ok (.if_icmp .ne 6, 3) := by decide +kernel
theorem dX3_spread_113 : decode cX3_spread 113 = .ok (.goto 35, 3) := by decide +kernel
theorem dX3_spread_116 : decode cX3_spread 116 = .ok (.iload 6, 2) := by decide +kernel
theorem dX3_spread_118 : decode cX3_spread 118 = .ok (.iconst 1, 1) := by decide +kernel
theorem dX3_spread_119 : decode cX3_spread 119 = .ok (.iload 8, 2) := by decide +kernel
theorem dX3_spread_121 : decode cX3_spread 121 = .ok (.ishl, 1) := by decide +kernel
theorem dX3_spread_122 : decode cX3_spread 122 = .ok (.iconst (-1), 1) := by decide +kernel
theorem dX3_spread_123 : decode cX3_spread 123 = .ok (.ixor, 1) := by decide +kernel
theorem dX3_spread_124 : decode cX3_spread 124 = .ok (.iand, 1) := by decide +kernel
theorem dX3_spread_125 : decode cX3_spread 125 = .ok (.istore 6, 2) := by decide +kernel
theorem dX3_spread_127 : decode cX3_spread 127 = .ok (.aload_n 0, 1) := by decide +kernel
theorem dX3_spread_128 : decode cX3_spread 128 = .ok (.aload_n 1, 1) := by decide +kernel
theorem dX3_spread_129 : decode cX3_spread 129 = .ok (.iload 8, 2) := by decide +kernel
theorem dX3_spread_131 : decode cX3_spread 131 = .ok (.aload_n 2, 1) := by decide +kernel
theorem dX3_spread_132 : decode cX3_spread 132 = .ok (.aload_n 1, 1) := by decide +kernel
theorem dX3_spread_133 : decode cX3_spread 133 = .ok (.iload 8, 2) := by decide +kernel
theorem dX3_spread_135 : decode cX3_spread 135 = .ok (.iload_n 3, 1) := by decide +kernel
theorem dX3_spread_136 : decode cX3_spread 136 = .ok (.invokevirtual 147, 3) := by decide +kernel
theorem dX3_spread_139 : decode cX3_spread 139 = .ok (.invokevirtual 173, 3) := by decide +kernel
theorem dX3_spread_142 : decode cX3_spread 142 = .ok (.iinc 7 1, 3) := by decide +kernel
theorem dX3_spread_145 : decode cX3_spread 145 = .ok (.goto (-57), 3) := by decide +kernel
theorem dX3_spread_148 : decode cX3_spread 148 = .ok (.iconst 0, 1) := by decide +kernel
theorem dX3_spread_149 : decode cX3_spread 149 = .ok (.istore 7, 2) := by decide +kernel
theorem dX3_spread_151 : decode cX3_spread 151 = .ok (.iload 7, 2) := by decide +kernel
theorem dX3_spread_153 : decode cX3_spread 153 = .ok (.aload_n 1, 1) := by decide +kernel
theorem dX3_spread_154 : decode cX3_spread 154 = .ok (.getfield 177, 3) := by decide +kernel
theorem dX3_spread_157 : decode cX3_spread 157 = .ok (.if_icmp .ge 27, 3) := by decide +kernel
theorem dX3_spread_160 : decode cX3_spread 160 = .ok (.aload_n 0, 1) := by decide +kernel
theorem dX3_spread_161 : decode cX3_spread 161 = .ok (.getfield 26, 3) := by decide +kernel
theorem dX3_spread_164 : decode cX3_spread 164 = .ok (.iload 7, 2) := by decide +kernel
theorem dX3_spread_166 : decode cX3_spread 166 = .ok (.aload_n 0, 1) := by decide +kernel
theorem dX3_spread_167 : decode cX3_spread 167 = .ok (.getfield 38, 3) := by decide +kernel
theorem dX3_spread_170 : decode cX3_spread 170 = .ok (.iload 7, 2) := by decide +kernel
theorem dX3_spread_172 : decode cX3_spread 172 = .ok (.laload, 1) := by decide +kernel
theorem dX3_spread_173 : decode cX3_spread 173 = .ok (.lload 4, 2) := by decide +kernel
theorem dX3_spread_175 : decode cX3_spread 175 = .ok (.invokevirtual 180, 3) := by decide +kernel
theorem dX3_spread_178 : decode cX3_spread 178 = .ok (.iinc 7 1, 3) := by decide +kernel
theorem dX3_spread_181 : decode cX3_spread 181 = .ok (.goto (-30), 3) := by decide +kernel
theorem dX3_spread_184 : decode cX3_spread 184 = .ok (.aload_n 0, 1) := by decide +kernel
theorem dX3_spread_185 : decode cX3_spread 185 = .ok (.iload_n 3, 1) := by decide +kernel
theorem dX3_spread_186 : decode cX3_spread 186 = .ok (.putfield 45, 3) := by decide +kernel
theorem dX3_spread_189 : decode cX3_spread 189 = .ok (.return_, 1) := by decide +kernel
abbrev mX3_spread : MI := (RX3, yX3_spread, cX3_spread, 9, none)
theorem mok_X3_spread : MOKv mX3_spread 3 := ⟨⟨bm_882, bm_125, ⟨by decide, by decide⟩, by decide +kernel⟩, bm_881, bm_18⟩
def f_X3_spread_151b   (a0 : Nat) (a1 : Nat) (x3 : Int32) (l4 : Int64) (k151 : Int32 → MH → Option (MH)) (p : Int32) (h : MH) : Option (MH) :=
  if p < (gI h a1 1) then
    (gR h a0 2).bind fun a_1 =>
    (gR h a0 6).bind fun a_2 =>
    (ldL h a_2 p).bind fun l_3 =>
    (f_X1_add a_1 p l_3 l4 h).bind fun q_4 =>
    k151 (p + 1) q_4
  else
    lt (sI h a0 7 x3) fun h_5 =>
    some h_5
def f_X3_spread_151   (a0 : Nat) (a1 : Nat) (x3 : Int32) (l4 : Int64) : Nat → Int32 → MH → Option (MH) := lp (f_X3_spread_151b a0 a1 x3 l4)
def f_X3_spread_148   (a0 : Nat) (a1 : Nat) (x3 : Int32) (l4 : Int64) (h : MH) : Option (MH) :=
  f_X3_spread_151 a0 a1 x3 l4 FU 0 h
def f_X3_spread_88b   (a0 : Nat) (a1 : Nat) (a2 : Nat) (x3 : Int32) (l4 : Int64) (k88 : Int32 × Int32 → MH → Option (MH)) (p : Int32 × Int32) (h : MH) : Option (MH) :=
  if p.2 < (gI h a1 0) then
    (f_X3_farthest a0 a2 x3 p.1 h).bind fun q_1 =>
    if q_1.1 = (-1 : Int32) then
      f_X3_spread_148 a0 a1 x3 l4 q_1.2
    else
      lt (p.1 &&& (((1 : Int32) <<< (q_1.1 &&& 31)) ^^^ (-1 : Int32))) fun x_2 =>
      (f_X4_onSet a2 a1 q_1.1 x3 q_1.2).bind fun q_3 =>
      (f_X3_handOn a0 a1 q_1.1 q_3.1 q_3.2).bind fun q_4 =>
      k88 (x_2, (p.2 + 1)) q_4
  else
    f_X3_spread_148 a0 a1 x3 l4 h
def f_X3_spread_88   (a0 : Nat) (a1 : Nat) (a2 : Nat) (x3 : Int32) (l4 : Int64) : Nat → Int32 × Int32 → MH → Option (MH) := lp (f_X3_spread_88b a0 a1 a2 x3 l4)
def f_X3_spread_22b   (a0 : Nat) (a1 : Nat) (a2 : Nat) (x3 : Int32) (k22 : Int64 × Int32 → MH → Option (MH)) (p : Int64 × Int32) (h : MH) : Option (MH) :=
  if p.2 < (gI h a1 0) then
    (f_X4_onSet a2 a1 p.2 x3 h).bind fun q_1 =>
    (f_J6_bitCount_0f7a4 q_1.1 q_1.2).bind fun q_2 =>
    lt ((if 1 < q_2.1 then q_2.1 else 1) : Int32) fun x_3 =>
    lt (p.1 * (Int32.toInt64 x_3)) fun l_4 =>
    k22 (l_4, (p.2 + 1)) q_2.2
  else
    (gR h a0 5).bind fun a_5 =>
    (stL h a_5 (gI h a0 7) p.1).bind fun h_6 =>
    lt ((((1 : Int32) <<< ((gI h_6 a1 0) &&& 31)) - 1) &&& (((1 : Int32) <<< (x3 &&& 31)) ^^^ (-1 : Int32))) fun x_7 =>
    f_X3_spread_88 a0 a1 a2 x3 p.1 FU (x_7, 0) h_6
def f_X3_spread_22   (a0 : Nat) (a1 : Nat) (a2 : Nat) (x3 : Int32) : Nat → Int64 × Int32 → MH → Option (MH) := lp (f_X3_spread_22b a0 a1 a2 x3)
def f_X3_spread   (a0 : Nat) (a1 : Nat) (a2 : Nat) (x3 : Int32) (h : MH) : Option (MH) :=
  (gR h a0 5).bind fun a_1 =>
  (f_J7_fill_d0a16 a_1 0 h).bind fun q_2 =>
  (gR q_2 a0 6).bind fun a_3 =>
  (f_J7_fill_d0a16 a_3 0 q_2).bind fun q_4 =>
  f_X3_spread_22 a0 a1 a2 x3 FU (1, 0) q_4
set_option maxRecDepth 100000 in
set_option maxHeartbeats 4000000 in
theorem v_X3_spread_151b {l : Launch} {G : GE} {B N : Nat} {S : List SHP} {o : MH} {a0 : Nat} {a1 : Nat} {x3 : Int32} {l4 : Int64}    (hs0 : S[a0]? = some (.inl 3)) (hs1 : S[a1]? = some (.inl 2)) {k151 : Int32 → MH → Option (MH)} (hk151 : ∀ (p : Int32) (h : MH), k151 p h = some o → V l G B N mX3_spread (rmm 5 0 0) false 0 0 (QV S o) S 0 0 151 [(0, .ref a0), (1, .ref a1), (3, .int x3), (4, .long l4), (7, .int p)] [] h) {p : Int32} {h : MH} (hf : f_X3_spread_151b a0 a1 x3 l4 k151 p h = some o) : V l G B N mX3_spread (rmm 5 0 0) false 0 0 (QV S o) S 0 0 151 [(0, .ref a0), (1, .ref a1), (3, .int x3), (4, .long l4), (7, .int p)] [] h := by
  unfold f_X3_spread_151b at hf
  refine V_iload (pc' := 153) dX3_spread_151 rfl 4 rfl ?_
  refine V_aload_n (pc' := 154) dX3_spread_153 rfl 1 rfl rfl ?_
  refine V_getI (pc' := 157) 2 1 dX3_spread_154 rfl (by decide) (Nat.le_of_ble_eq_true rfl) bm_192 hs1 (fun _ _ _ => rfl) ?_
  refine V_icmp_ge (tgt := 184) (pc' := 160) dX3_spread_157 (by decide) rfl hf (fun hf => ?_) (fun hf => ?_)
  ·
    refine V_aload_n (pc' := 161) dX3_spread_160 rfl 0 rfl rfl ?_
    refine V_getR (pc' := 164) 3 2 dX3_spread_161 rfl (by decide) (Nat.le_of_ble_eq_true rfl) bm_417 hs0 (fun _ _ _ => rfl) rfl hf (fun a_1 ha_1 hf => ?_)
    refine V_iload (pc' := 166) dX3_spread_164 rfl 4 rfl ?_
    refine V_aload_n (pc' := 167) dX3_spread_166 rfl 0 rfl rfl ?_
    refine V_getR (pc' := 170) 3 6 dX3_spread_167 rfl (by decide) (Nat.le_of_ble_eq_true rfl) bm_422 hs0 (fun _ _ _ => rfl) rfl hf (fun a_2 ha_2 hf => ?_)
    refine V_iload (pc' := 172) dX3_spread_170 rfl 4 rfl ?_
    refine V_lald (pc' := 173) dX3_spread_172 rfl ha_2 hf (fun l_3 hf => ?_)
    refine V_lload (pc' := 175) dX3_spread_173 rfl 3 rfl ?_
    refine V_cvV (pc' := 178) (As := [.int p, .long l_3, .long l4]) (rest := []) dX3_spread_175 rfl mok_X1_add bm_894 1 (by decide) rfl ha_1 rfl rfl (Nat.le_of_ble_eq_true rfl) (by decide) hf (fun q e => ct_X1_add ha_1 e) (fun q_4 hf => ?_)
    refine V_iinc (v := (p + 1)) (lv' := [(7, .int (p + 1)), (0, .ref a0), (1, .ref a1), (3, .int x3), (4, .long l4)]) (pc' := 181) dX3_spread_178 rfl 4 rfl rfl (Nat.le_of_ble_eq_true rfl) rfl ?_
    refine V_goto (tgt := 151) dX3_spread_181 (by decide) ?_
    exact V_sub (lv' := [(0, .ref a0), (1, .ref a1), (3, .int x3), (4, .long l4), (7, .int (p + 1))]) [1, 2, 3, 4, 0] rfl (hk151 (p + 1) q_4 hf)
  ·
    refine V_aload_n (pc' := 185) dX3_spread_184 rfl 0 rfl rfl ?_
    refine V_iload_n (pc' := 186) dX3_spread_185 rfl 2 rfl rfl ?_
    refine V_putI (pc' := 189) 3 7 dX3_spread_186 rfl (by decide) (Nat.le_of_ble_eq_true rfl) bm_423 hs0 (Or.inl rfl) rfl ?_
    refine V_nmH hf (fun h_5 hf => ?_)
    obtain rfl := Option.some.inj hf
    exact V_vret dX3_spread_189 rfl rfl rfl ⟨rfl, rfl, rfl⟩
theorem v_X3_spread_151 {l : Launch} {G : GE} {B N : Nat} {S : List SHP} {o : MH} {a0 : Nat} {a1 : Nat} {x3 : Int32} {l4 : Int64}    (hs0 : S[a0]? = some (.inl 3)) (hs1 : S[a1]? = some (.inl 2)) {n : Nat} {p : Int32} {h : MH} (hf : f_X3_spread_151 a0 a1 x3 l4 n p h = some o) : V l G B N mX3_spread (rmm 5 0 0) false 0 0 (QV S o) S 0 0 151 [(0, .ref a0), (1, .ref a1), (3, .int x3), (4, .long l4), (7, .int p)] [] h :=
  V_lp (VV := fun p h => V l G B N mX3_spread (rmm 5 0 0) false 0 0 (QV S o) S 0 0 151 [(0, .ref a0), (1, .ref a1), (3, .int x3), (4, .long l4), (7, .int p)] [] h) (fun _ hk _ _ hf => v_X3_spread_151b hs0 hs1 hk hf) n p h hf
set_option maxRecDepth 100000 in
set_option maxHeartbeats 4000000 in
theorem v_X3_spread_148 {l : Launch} {G : GE} {B N : Nat} {S : List SHP} {o : MH} {a0 : Nat} {a1 : Nat} {x3 : Int32} {l4 : Int64}    (hs0 : S[a0]? = some (.inl 3)) (hs1 : S[a1]? = some (.inl 2)) {h : MH} (hf : f_X3_spread_148 a0 a1 x3 l4 h = some o) : V l G B N mX3_spread (rmm 5 0 0) false 0 0 (QV S o) S 0 0 148 [(0, .ref a0), (1, .ref a1), (3, .int x3), (4, .long l4)] [] h := by
  unfold f_X3_spread_148 at hf
  refine V_iconst (v := 0) (pc' := 149) dX3_spread_148 rfl (by decide) ?_
  refine V_istore (lv' := [(7, .int 0), (0, .ref a0), (1, .ref a1), (3, .int x3), (4, .long l4)]) (pc' := 151) dX3_spread_149 rfl (Nat.le_of_ble_eq_true rfl) rfl ?_
  exact V_sub (lv' := [(0, .ref a0), (1, .ref a1), (3, .int x3), (4, .long l4), (7, .int 0)]) [1, 2, 3, 4, 0] rfl (v_X3_spread_151 hs0 hs1 hf)
set_option maxRecDepth 100000 in
set_option maxHeartbeats 4000000 in
theorem v_X3_spread_88b {l : Launch} {G : GE} {B N : Nat} {S : List SHP} {o : MH} {a0 : Nat} {a1 : Nat} {a2 : Nat} {x3 : Int32} {l4 : Int64}    (hs0 : S[a0]? = some (.inl 3)) (hs1 : S[a1]? = some (.inl 2)) (hs2 : S[a2]? = some (.inl 4)) {k88 : Int32 × Int32 → MH → Option (MH)} (hk88 : ∀ (p : Int32 × Int32) (h : MH), k88 p h = some o → V l G B N mX3_spread (rmm 5 0 0) false 0 0 (QV S o) S 0 0 88 [(0, .ref a0), (1, .ref a1), (2, .ref a2), (3, .int x3), (4, .long l4), (6, .int p.1), (7, .int p.2)] [] h) {p : Int32 × Int32} {h : MH} (hf : f_X3_spread_88b a0 a1 a2 x3 l4 k88 p h = some o) : V l G B N mX3_spread (rmm 5 0 0) false 0 0 (QV S o) S 0 0 88 [(0, .ref a0), (1, .ref a1), (2, .ref a2), (3, .int x3), (4, .long l4), (6, .int p.1), (7, .int p.2)] [] h := by
  unfold f_X3_spread_88b at hf
  refine V_iload (pc' := 90) dX3_spread_88 rfl 6 rfl ?_
  refine V_aload_n (pc' := 91) dX3_spread_90 rfl 1 rfl rfl ?_
  refine V_getI (pc' := 94) 2 0 dX3_spread_91 rfl (by decide) (Nat.le_of_ble_eq_true rfl) bm_186 hs1 (fun _ _ _ => rfl) ?_
  refine V_icmp_ge (tgt := 148) (pc' := 97) dX3_spread_94 (by decide) rfl hf (fun hf => ?_) (fun hf => ?_)
  ·
    refine V_aload_n (pc' := 98) dX3_spread_97 rfl 0 rfl rfl ?_
    refine V_aload_n (pc' := 99) dX3_spread_98 rfl 2 rfl rfl ?_
    refine V_iload_n (pc' := 100) dX3_spread_99 rfl 3 rfl rfl ?_
    refine V_iload (pc' := 102) dX3_spread_100 rfl 5 rfl ?_
    refine V_cvI (pc' := 105) (As := [.ref a2, .int x3, .int p.1]) (rest := []) dX3_spread_102 rfl mok_X3_farthest bm_886 3 (by decide) rfl hs0 rfl rfl (Nat.le_of_ble_eq_true rfl) (by decide) hf (fun q e => ct_X3_farthest hs0 hs2 e) (fun q_1 hf => ?_)
    refine V_istore (lv' := [(8, .int q_1.1), (0, .ref a0), (1, .ref a1), (2, .ref a2), (3, .int x3), (4, .long l4), (6, .int p.1), (7, .int p.2)]) (pc' := 107) dX3_spread_105 rfl (Nat.le_of_ble_eq_true rfl) rfl ?_
    refine V_iload (pc' := 109) dX3_spread_107 rfl 0 rfl ?_
    refine V_iconst (v := (-1)) (pc' := 110) dX3_spread_109 rfl (by decide) ?_
    refine V_icmp_ne (tgt := 116) (pc' := 113) dX3_spread_110 (by decide) rfl hf (fun hf => ?_) (fun hf => ?_)
    ·
      refine V_goto (tgt := 148) dX3_spread_113 (by decide) ?_
      exact V_sub (lv' := [(0, .ref a0), (1, .ref a1), (3, .int x3), (4, .long l4)]) [1, 2, 4, 5] rfl (v_X3_spread_148 hs0 hs1 hf)
    ·
      refine V_iload (pc' := 118) dX3_spread_116 rfl 6 rfl ?_
      refine V_iconst (v := 1) (pc' := 119) dX3_spread_118 rfl (by decide) ?_
      refine V_iload (pc' := 121) dX3_spread_119 rfl 0 rfl ?_
      refine V_ishl (pc' := 122) dX3_spread_121 rfl ?_
      refine V_iconst (v := (-1)) (pc' := 123) dX3_spread_122 rfl (by decide) ?_
      refine V_ixor (pc' := 124) dX3_spread_123 rfl ?_
      refine V_iand (pc' := 125) dX3_spread_124 rfl ?_
      refine V_nmI hf (fun x_2 hf => ?_)
      refine V_istore (lv' := [(6, .int x_2), (8, .int q_1.1), (0, .ref a0), (1, .ref a1), (2, .ref a2), (3, .int x3), (4, .long l4), (7, .int p.2)]) (pc' := 127) dX3_spread_125 rfl (Nat.le_of_ble_eq_true rfl) rfl ?_
      refine V_aload_n (pc' := 128) dX3_spread_127 rfl 2 rfl rfl ?_
      refine V_aload_n (pc' := 129) dX3_spread_128 rfl 3 rfl rfl ?_
      refine V_iload (pc' := 131) dX3_spread_129 rfl 1 rfl ?_
      refine V_aload_n (pc' := 132) dX3_spread_131 rfl 4 rfl rfl ?_
      refine V_aload_n (pc' := 133) dX3_spread_132 rfl 3 rfl rfl ?_
      refine V_iload (pc' := 135) dX3_spread_133 rfl 1 rfl ?_
      refine V_iload_n (pc' := 136) dX3_spread_135 rfl 5 rfl rfl ?_
      refine V_cvI (pc' := 139) (As := [.ref a1, .int q_1.1, .int x3]) (rest := [.int q_1.1, .ref a1, .ref a0]) dX3_spread_136 rfl mok_X4_onSet bm_869 4 (by decide) rfl hs2 rfl rfl (Nat.le_of_ble_eq_true rfl) (by decide) hf (fun q e => ct_X4_onSet hs2 hs1 e) (fun q_3 hf => ?_)
      refine V_cvV (pc' := 142) (As := [.ref a1, .int q_1.1, .int q_3.1]) (rest := []) dX3_spread_139 rfl mok_X3_handOn bm_890 3 (by decide) rfl hs0 rfl rfl (Nat.le_of_ble_eq_true rfl) (by decide) hf (fun q e => ct_X3_handOn hs0 hs1 e) (fun q_4 hf => ?_)
      refine V_iinc (v := (p.2 + 1)) (lv' := [(7, .int (p.2 + 1)), (6, .int x_2), (8, .int q_1.1), (0, .ref a0), (1, .ref a1), (2, .ref a2), (3, .int x3), (4, .long l4)]) (pc' := 145) dX3_spread_142 rfl 7 rfl rfl (Nat.le_of_ble_eq_true rfl) rfl ?_
      refine V_goto (tgt := 88) dX3_spread_145 (by decide) ?_
      exact V_sub (lv' := [(0, .ref a0), (1, .ref a1), (2, .ref a2), (3, .int x3), (4, .long l4), (6, .int x_2), (7, .int (p.2 + 1))]) [3, 4, 5, 6, 7, 1, 0] rfl (hk88 (x_2, (p.2 + 1)) q_4 hf)
  ·
    exact V_sub (lv' := [(0, .ref a0), (1, .ref a1), (3, .int x3), (4, .long l4)]) [0, 1, 3, 4] rfl (v_X3_spread_148 hs0 hs1 hf)
theorem v_X3_spread_88 {l : Launch} {G : GE} {B N : Nat} {S : List SHP} {o : MH} {a0 : Nat} {a1 : Nat} {a2 : Nat} {x3 : Int32} {l4 : Int64}    (hs0 : S[a0]? = some (.inl 3)) (hs1 : S[a1]? = some (.inl 2)) (hs2 : S[a2]? = some (.inl 4)) {n : Nat} {p : Int32 × Int32} {h : MH} (hf : f_X3_spread_88 a0 a1 a2 x3 l4 n p h = some o) : V l G B N mX3_spread (rmm 5 0 0) false 0 0 (QV S o) S 0 0 88 [(0, .ref a0), (1, .ref a1), (2, .ref a2), (3, .int x3), (4, .long l4), (6, .int p.1), (7, .int p.2)] [] h :=
  V_lp (VV := fun p h => V l G B N mX3_spread (rmm 5 0 0) false 0 0 (QV S o) S 0 0 88 [(0, .ref a0), (1, .ref a1), (2, .ref a2), (3, .int x3), (4, .long l4), (6, .int p.1), (7, .int p.2)] [] h) (fun _ hk _ _ hf => v_X3_spread_88b hs0 hs1 hs2 hk hf) n p h hf
set_option maxRecDepth 100000 in
set_option maxHeartbeats 4000000 in
theorem v_X3_spread_22b {l : Launch} {G : GE} {B N : Nat} {S : List SHP} {o : MH} {a0 : Nat} {a1 : Nat} {a2 : Nat} {x3 : Int32}    (hs0 : S[a0]? = some (.inl 3)) (hs1 : S[a1]? = some (.inl 2)) (hs2 : S[a2]? = some (.inl 4)) {k22 : Int64 × Int32 → MH → Option (MH)} (hk22 : ∀ (p : Int64 × Int32) (h : MH), k22 p h = some o → V l G B N mX3_spread (rmm 5 0 0) false 0 0 (QV S o) S 0 0 22 [(0, .ref a0), (1, .ref a1), (2, .ref a2), (3, .int x3), (4, .long p.1), (6, .int p.2)] [] h) {p : Int64 × Int32} {h : MH} (hf : f_X3_spread_22b a0 a1 a2 x3 k22 p h = some o) : V l G B N mX3_spread (rmm 5 0 0) false 0 0 (QV S o) S 0 0 22 [(0, .ref a0), (1, .ref a1), (2, .ref a2), (3, .int x3), (4, .long p.1), (6, .int p.2)] [] h := by
  unfold f_X3_spread_22b at hf
  refine V_iload (pc' := 24) dX3_spread_22 rfl 5 rfl ?_
  refine V_aload_n (pc' := 25) dX3_spread_24 rfl 1 rfl rfl ?_
  refine V_getI (pc' := 28) 2 0 dX3_spread_25 rfl (by decide) (Nat.le_of_ble_eq_true rfl) bm_186 hs1 (fun _ _ _ => rfl) ?_
  refine V_icmp_ge (tgt := 58) (pc' := 31) dX3_spread_28 (by decide) rfl hf (fun hf => ?_) (fun hf => ?_)
  ·
    refine V_lload (pc' := 33) dX3_spread_31 rfl 4 rfl ?_
    refine V_iconst (v := 1) (pc' := 34) dX3_spread_33 rfl (by decide) ?_
    refine V_aload_n (pc' := 35) dX3_spread_34 rfl 2 rfl rfl ?_
    refine V_aload_n (pc' := 36) dX3_spread_35 rfl 1 rfl rfl ?_
    refine V_iload (pc' := 38) dX3_spread_36 rfl 5 rfl ?_
    refine V_iload_n (pc' := 39) dX3_spread_38 rfl 3 rfl rfl ?_
    refine V_cvI (pc' := 42) (As := [.ref a1, .int p.2, .int x3]) (rest := [.int 1, .long p.1]) dX3_spread_39 rfl mok_X4_onSet bm_869 4 (by decide) rfl hs2 rfl rfl (Nat.le_of_ble_eq_true rfl) (by decide) hf (fun q e => ct_X4_onSet hs2 hs1 e) (fun q_1 hf => ?_)
    refine V_csI (pc' := 45) (As := [.int q_1.1]) (rest := [.int 1, .long p.1]) dX3_spread_42 rfl mok_J6_bitCount_0f7a4 bm_884 rfl rfl (Nat.le_of_ble_eq_true rfl) (by decide) hf (fun q e => ct_J6_bitCount_0f7a4  e) (fun q_2 hf => ?_)
    refine V_max (pc' := 48) dX3_spread_45 rfl bm_885 (Nat.le_of_ble_eq_true rfl) (by decide) ?_
    refine V_nmI hf (fun x_3 hf => ?_)
    refine V_i2l (pc' := 49) dX3_spread_48 rfl ?_
    refine V_lmul (pc' := 50) dX3_spread_49 rfl ?_
    refine V_nmJ hf (fun l_4 hf => ?_)
    refine V_lstore (lv' := [(4, .long l_4), (0, .ref a0), (1, .ref a1), (2, .ref a2), (3, .int x3), (6, .int p.2)]) (pc' := 52) dX3_spread_50 rfl (Nat.le_of_ble_eq_true rfl) rfl ?_
    refine V_iinc (v := (p.2 + 1)) (lv' := [(6, .int (p.2 + 1)), (4, .long l_4), (0, .ref a0), (1, .ref a1), (2, .ref a2), (3, .int x3)]) (pc' := 55) dX3_spread_52 rfl 5 rfl rfl (Nat.le_of_ble_eq_true rfl) rfl ?_
    refine V_goto (tgt := 22) dX3_spread_55 (by decide) ?_
    exact V_sub (lv' := [(0, .ref a0), (1, .ref a1), (2, .ref a2), (3, .int x3), (4, .long l_4), (6, .int (p.2 + 1))]) [2, 3, 4, 5, 1, 0] rfl (hk22 (l_4, (p.2 + 1)) q_2.2 hf)
  ·
    refine V_aload_n (pc' := 59) dX3_spread_58 rfl 0 rfl rfl ?_
    refine V_getR (pc' := 62) 3 5 dX3_spread_59 rfl (by decide) (Nat.le_of_ble_eq_true rfl) bm_421 hs0 (fun _ _ _ => rfl) rfl hf (fun a_5 ha_5 hf => ?_)
    refine V_aload_n (pc' := 63) dX3_spread_62 rfl 0 rfl rfl ?_
    refine V_getI (pc' := 66) 3 7 dX3_spread_63 rfl (by decide) (Nat.le_of_ble_eq_true rfl) bm_423 hs0 (fun _ _ _ => rfl) ?_
    refine V_lload (pc' := 68) dX3_spread_66 rfl 4 rfl ?_
    refine V_last (pc' := 69) dX3_spread_68 rfl ha_5 hf (fun h_6 hf => ?_)
    refine V_iconst (v := 1) (pc' := 70) dX3_spread_69 rfl (by decide) ?_
    refine V_aload_n (pc' := 71) dX3_spread_70 rfl 1 rfl rfl ?_
    refine V_getI (pc' := 74) 2 0 dX3_spread_71 rfl (by decide) (Nat.le_of_ble_eq_true rfl) bm_186 hs1 (fun _ _ _ => rfl) ?_
    refine V_ishl (pc' := 75) dX3_spread_74 rfl ?_
    refine V_iconst (v := 1) (pc' := 76) dX3_spread_75 rfl (by decide) ?_
    refine V_isub (pc' := 77) dX3_spread_76 rfl ?_
    refine V_iconst (v := 1) (pc' := 78) dX3_spread_77 rfl (by decide) ?_
    refine V_iload_n (pc' := 79) dX3_spread_78 rfl 3 rfl rfl ?_
    refine V_ishl (pc' := 80) dX3_spread_79 rfl ?_
    refine V_iconst (v := (-1)) (pc' := 81) dX3_spread_80 rfl (by decide) ?_
    refine V_ixor (pc' := 82) dX3_spread_81 rfl ?_
    refine V_iand (pc' := 83) dX3_spread_82 rfl ?_
    refine V_nmI hf (fun x_7 hf => ?_)
    refine V_istore (lv' := [(6, .int x_7), (0, .ref a0), (1, .ref a1), (2, .ref a2), (3, .int x3), (4, .long p.1)]) (pc' := 85) dX3_spread_83 rfl (Nat.le_of_ble_eq_true rfl) rfl ?_
    refine V_iconst (v := 0) (pc' := 86) dX3_spread_85 rfl (by decide) ?_
    refine V_istore (lv' := [(7, .int 0), (6, .int x_7), (0, .ref a0), (1, .ref a1), (2, .ref a2), (3, .int x3), (4, .long p.1)]) (pc' := 88) dX3_spread_86 rfl (Nat.le_of_ble_eq_true rfl) rfl ?_
    exact V_sub (lv' := [(0, .ref a0), (1, .ref a1), (2, .ref a2), (3, .int x3), (4, .long p.1), (6, .int x_7), (7, .int 0)]) [2, 3, 4, 5, 6, 1, 0] rfl (v_X3_spread_88 hs0 hs1 hs2 hf)
theorem v_X3_spread_22 {l : Launch} {G : GE} {B N : Nat} {S : List SHP} {o : MH} {a0 : Nat} {a1 : Nat} {a2 : Nat} {x3 : Int32}    (hs0 : S[a0]? = some (.inl 3)) (hs1 : S[a1]? = some (.inl 2)) (hs2 : S[a2]? = some (.inl 4)) {n : Nat} {p : Int64 × Int32} {h : MH} (hf : f_X3_spread_22 a0 a1 a2 x3 n p h = some o) : V l G B N mX3_spread (rmm 5 0 0) false 0 0 (QV S o) S 0 0 22 [(0, .ref a0), (1, .ref a1), (2, .ref a2), (3, .int x3), (4, .long p.1), (6, .int p.2)] [] h :=
  V_lp (VV := fun p h => V l G B N mX3_spread (rmm 5 0 0) false 0 0 (QV S o) S 0 0 22 [(0, .ref a0), (1, .ref a1), (2, .ref a2), (3, .int x3), (4, .long p.1), (6, .int p.2)] [] h) (fun _ hk _ _ hf => v_X3_spread_22b hs0 hs1 hs2 hk hf) n p h hf
set_option maxRecDepth 100000 in
set_option maxHeartbeats 4000000 in
theorem v_X3_spread {l : Launch} {G : GE} {B N : Nat} {S : List SHP} {o : MH} {a0 : Nat} {a1 : Nat} {a2 : Nat} {x3 : Int32}    (hs0 : S[a0]? = some (.inl 3)) (hs1 : S[a1]? = some (.inl 2)) (hs2 : S[a2]? = some (.inl 4)) {h : MH} (hf : f_X3_spread a0 a1 a2 x3 h = some o) : V l G B N mX3_spread (rmm 5 0 0) false 0 0 (QV S o) S 0 0 0 [(0, .ref a0), (1, .ref a1), (2, .ref a2), (3, .int x3)] [] h := by
  unfold f_X3_spread at hf
  refine V_aload_n (pc' := 1) dX3_spread_0 rfl 0 rfl rfl ?_
  refine V_getR (pc' := 4) 3 5 dX3_spread_1 rfl (by decide) (Nat.le_of_ble_eq_true rfl) bm_421 hs0 (fun _ _ _ => rfl) rfl hf (fun a_1 ha_1 hf => ?_)
  refine V_lconst (v := 0) (pc' := 5) dX3_spread_4 rfl (by decide) ?_
  refine V_csV (pc' := 8) (As := [.ref a_1, .long 0]) (rest := []) dX3_spread_5 rfl mok_J7_fill_d0a16 bm_883 rfl rfl (Nat.le_of_ble_eq_true rfl) (by decide) hf (fun q e => ct_J7_fill_d0a16 ha_1 e) (fun q_2 hf => ?_)
  refine V_aload_n (pc' := 9) dX3_spread_8 rfl 0 rfl rfl ?_
  refine V_getR (pc' := 12) 3 6 dX3_spread_9 rfl (by decide) (Nat.le_of_ble_eq_true rfl) bm_422 hs0 (fun _ _ _ => rfl) rfl hf (fun a_3 ha_3 hf => ?_)
  refine V_lconst (v := 0) (pc' := 13) dX3_spread_12 rfl (by decide) ?_
  refine V_csV (pc' := 16) (As := [.ref a_3, .long 0]) (rest := []) dX3_spread_13 rfl mok_J7_fill_d0a16 bm_883 rfl rfl (Nat.le_of_ble_eq_true rfl) (by decide) hf (fun q e => ct_J7_fill_d0a16 ha_3 e) (fun q_4 hf => ?_)
  refine V_lconst (v := 1) (pc' := 17) dX3_spread_16 rfl (by decide) ?_
  refine V_lstore (lv' := [(4, .long 1), (0, .ref a0), (1, .ref a1), (2, .ref a2), (3, .int x3)]) (pc' := 19) dX3_spread_17 rfl (Nat.le_of_ble_eq_true rfl) rfl ?_
  refine V_iconst (v := 0) (pc' := 20) dX3_spread_19 rfl (by decide) ?_
  refine V_istore (lv' := [(6, .int 0), (4, .long 1), (0, .ref a0), (1, .ref a1), (2, .ref a2), (3, .int x3)]) (pc' := 22) dX3_spread_20 rfl (Nat.le_of_ble_eq_true rfl) rfl ?_
  exact V_sub (lv' := [(0, .ref a0), (1, .ref a1), (2, .ref a2), (3, .int x3), (4, .long 1), (6, .int 0)]) [2, 3, 4, 5, 1, 0] rfl (v_X3_spread_22 hs0 hs1 hs2 hf)
theorem ct_X3_spread {l : Launch} {S : List SHP} {h : MH} {a0 : Nat} {a1 : Nat} {a2 : Nat} {x3 : Int32} (hs0 : S[a0]? = some (.inl 3)) (hs1 : S[a1]? = some (.inl 2)) (hs2 : S[a2]? = some (.inl 4)) {q : MH} (hf : f_X3_spread a0 a1 a2 x3 h = some q) : CT l mX3_spread 5 false 0 0 S [.ref a0, .ref a1, .ref a2, .int x3] h (QV S q) :=
  CT_ofV (by decide) rfl (Nat.le_of_ble_eq_true rfl) (fun G B hT => v_X3_spread hs0 hs1 hs2 hf)
/-! LabelStacks$Packet.goesTo(LLabelStacks$Network;LLabelStacks$Routes;I)Z -/
theorem dX3_goesTo_0 : decode cX3_goesTo 0 = .ok (.aload_n 1, 1) := by decide +kernel
theorem dX3_goesTo_1 : decode cX3_goesTo 1 = .ok (.iload_n 3, 1) := by decide +kernel
theorem dX3_goesTo_2 : decode cX3_goesTo 2 = .ok (.invokevirtual 118, 3) := by decide +kernel
theorem dX3_goesTo_5 : decode cX3_goesTo 5 = .ok (.ifCond .eq 17, 3) := by decide +kernel
theorem dX3_goesTo_8 : decode cX3_goesTo 8 = .ok (.aload_n 2, 1) := by decide +kernel
theorem dX3_goesTo_9 : decode cX3_goesTo 9 = .ok (.aload_n 0, 1) := by decide +kernel
theorem dX3_goesTo_10 : decode cX3_goesTo 10 = .ok (.getfield 45, 3) := by decide +kernel
theorem dX3_goesTo_13 : decode cX3_goesTo 13 = .ok (.iload_n 3, 1) := by decide +kernel
theorem dX3_goesTo_14 : decode cX3_goesTo 14 = .ok (.invokevirtual 121, 3) := by decide +kernel
theorem dX3_goesTo_17 : decode cX3_goesTo 17 = .ok (.ldc 126, 2) := by decide +kernel
theorem dX3_goesTo_19 : decode cX3_goesTo 19 = .ok (.if_icmp .lt 5, 3) := by decide +kernel
theorem dX3_goesTo_22 : decode cX3_goesTo 22 = .ok (.iconst 0, 1) := by decide +kernel
theorem dX3_goesTo_23 : decode cX3_goesTo 23 = .ok (.ireturn, 1) := by decide +kernel
theorem dX3_goesTo_24 : decode cX3_goesTo 24 = .ok (.aload_n 2, 1) := by decide +kernel
theorem dX3_goesTo_25 : decode cX3_goesTo 25 = .ok (.aload_n 0, 1) := by decide +kernel
theorem dX3_goesTo_26 : decode cX3_goesTo 26 = .ok (.getfield 45, 3) := by decide +kernel
theorem dX3_goesTo_29 : decode cX3_goesTo 29 = .ok (.iload_n 3, 1) := by decide +kernel
theorem dX3_goesTo_30 : decode cX3_goesTo 30 = .ok (.invokevirtual 127, 3) := by decide +kernel
theorem dX3_goesTo_33 : decode cX3_goesTo 33 = .ok (.lconst 1, 1) := by decide +kernel
theorem dX3_goesTo_34 : decode cX3_goesTo 34 = .ok (.lcmp, 1) := by decide +kernel
theorem dX3_goesTo_35 : decode cX3_goesTo 35 = .ok (.ifCond .ne 13, 3) := by decide +kernel
theorem dX3_goesTo_38 : decode cX3_goesTo 38 = .ok (.aload_n 0, 1) := by decide +kernel
theorem dX3_goesTo_39 : decode cX3_goesTo 39 = .ok (.aload_n 1, 1) := by decide +kernel
theorem dX3_goesTo_40 : decode cX3_goesTo 40 = .ok (.aload_n 2, 1) := by decide +kernel
theorem dX3_goesTo_41 : decode cX3_goesTo 41 = .ok (.iload_n 3, 1) := by decide +kernel
theorem dX3_goesTo_42 : decode cX3_goesTo 42 = .ok (.invokevirtual 131, 3) := by decide +kernel
theorem dX3_goesTo_45 : decode cX3_goesTo 45 = .ok (.goto 15, 3) := by decide +kernel
theorem dX3_goesTo_48 : decode cX3_goesTo 48 = .ok (.aload_n 0, 1) := by decide +kernel
theorem dX3_goesTo_49 : decode cX3_goesTo 49 = .ok (.iconst 0, 1) := by decide +kernel
theorem dX3_goesTo_50 : decode cX3_goesTo 50 = .ok (.putfield 65, 3) := by decide +kernel
theorem dX3_goesTo_53 : decode cX3_goesTo 53 = .ok (.aload_n 0, 1) := by decide +kernel
theorem dX3_goesTo_54 : decode cX3_goesTo 54 = .ok (.aload_n 1, 1) := by decide +kernel
theorem dX3_goesTo_55 : decode cX3_goesTo 55 = .ok (.aload_n 2, 1) := by decide +kernel
theorem dX3_goesTo_56 : decode cX3_goesTo 56 = .ok (.iload_n 3, 1) := by decide +kernel
theorem dX3_goesTo_57 : decode cX3_goesTo 57 = .ok (.invokevirtual 135, 3) := by decide +kernel
theorem dX3_goesTo_60 : decode cX3_goesTo 60 = .ok (.iconst 1, 1) := by decide +kernel
theorem dX3_goesTo_61 : decode cX3_goesTo 61 = .ok (.ireturn, 1) := by decide +kernel
abbrev mX3_goesTo : MI := (RX3, yX3_goesTo, cX3_goesTo, 4, (some .boolean))
theorem mok_X3_goesTo : MOKv mX3_goesTo 3 := ⟨⟨bm_860, bm_125, ⟨by decide, by decide⟩, by decide +kernel⟩, bm_859, bm_16⟩
def f_X3_goesTo   (a0 : Nat) (a1 : Nat) (a2 : Nat) (x3 : Int32) (h : MH) : Option (Int32 × MH) :=
  (f_X2_hasNode a1 x3 h).bind fun q_1 =>
  if q_1.1 = 0 then
    some (0, q_1.2)
  else
    (f_X4_distance a2 (gI q_1.2 a0 7) x3 q_1.2).bind fun q_2 =>
    if q_2.1 < 1000000 then
      (f_X4_countOf a2 (gI q_2.2 a0 7) x3 q_2.2).bind fun q_3 =>
      if q_3.1 = 1 then
        (f_X3_walk a0 a1 a2 x3 q_3.2).bind fun q_4 =>
        some (1, q_4)
      else
        lt (sI q_3.2 a0 11 0) fun h_5 =>
        (f_X3_spread a0 a1 a2 x3 h_5).bind fun q_6 =>
        some (1, q_6)
    else
      some (0, q_2.2)
set_option maxRecDepth 100000 in
set_option maxHeartbeats 4000000 in
theorem v_X3_goesTo {l : Launch} {G : GE} {B N : Nat} {S : List SHP} {o : Int32 × MH} {a0 : Nat} {a1 : Nat} {a2 : Nat} {x3 : Int32}    (hs0 : S[a0]? = some (.inl 3)) (hs1 : S[a1]? = some (.inl 2)) (hs2 : S[a2]? = some (.inl 4)) {h : MH} (hf : f_X3_goesTo a0 a1 a2 x3 h = some o) : V l G B N mX3_goesTo (rmm 6 0 0) false 0 0 (QI S o) S 0 0 0 [(0, .ref a0), (1, .ref a1), (2, .ref a2), (3, .int x3)] [] h := by
  unfold f_X3_goesTo at hf
  refine V_aload_n (pc' := 1) dX3_goesTo_0 rfl 1 rfl rfl ?_
  refine V_iload_n (pc' := 2) dX3_goesTo_1 rfl 3 rfl rfl ?_
  refine V_cvI (pc' := 5) (As := [.int x3]) (rest := []) dX3_goesTo_2 rfl mok_X2_hasNode bm_861 2 (by decide) rfl hs1 rfl rfl (Nat.le_of_ble_eq_true rfl) (by decide) hf (fun q e => ct_X2_hasNode hs1 e) (fun q_1 hf => ?_)
  refine V_if_eq (tgt := 22) (pc' := 8) dX3_goesTo_5 (by decide) rfl hf (fun hf => ?_) (fun hf => ?_)
  ·
    refine V_iconst (v := 0) (pc' := 23) dX3_goesTo_22 rfl (by decide) ?_
    obtain rfl := Option.some.inj hf
    exact V_zretL dX3_goesTo_23 rfl rfl rfl (by decide) ⟨rfl, rfl, rfl⟩
  ·
    refine V_aload_n (pc' := 9) dX3_goesTo_8 rfl 2 rfl rfl ?_
    refine V_aload_n (pc' := 10) dX3_goesTo_9 rfl 0 rfl rfl ?_
    refine V_getI (pc' := 13) 3 7 dX3_goesTo_10 rfl (by decide) (Nat.le_of_ble_eq_true rfl) bm_423 hs0 (fun _ _ _ => rfl) ?_
    refine V_iload_n (pc' := 14) dX3_goesTo_13 rfl 3 rfl rfl ?_
    refine V_cvI (pc' := 17) (As := [.int (gI q_1.2 a0 7), .int x3]) (rest := []) dX3_goesTo_14 rfl mok_X4_distance bm_862 4 (by decide) rfl hs2 rfl rfl (Nat.le_of_ble_eq_true rfl) (by decide) hf (fun q e => ct_X4_distance hs2 e) (fun q_2 hf => ?_)
    refine V_ldc (v := 1000000) (pc' := 19) dX3_goesTo_17 rfl bm_863 ?_
    refine V_icmp_lt (tgt := 24) (pc' := 22) dX3_goesTo_19 (by decide) rfl hf (fun hf => ?_) (fun hf => ?_)
    ·
      refine V_aload_n (pc' := 25) dX3_goesTo_24 rfl 2 rfl rfl ?_
      refine V_aload_n (pc' := 26) dX3_goesTo_25 rfl 0 rfl rfl ?_
      refine V_getI (pc' := 29) 3 7 dX3_goesTo_26 rfl (by decide) (Nat.le_of_ble_eq_true rfl) bm_423 hs0 (fun _ _ _ => rfl) ?_
      refine V_iload_n (pc' := 30) dX3_goesTo_29 rfl 3 rfl rfl ?_
      refine V_cvL (pc' := 33) (As := [.int (gI q_2.2 a0 7), .int x3]) (rest := []) dX3_goesTo_30 rfl mok_X4_countOf bm_864 4 (by decide) rfl hs2 rfl rfl (Nat.le_of_ble_eq_true rfl) (by decide) hf (fun q e => ct_X4_countOf hs2 e) (fun q_3 hf => ?_)
      refine V_lconst (v := 1) (pc' := 34) dX3_goesTo_33 rfl (by decide) ?_
      refine V_lcmp_ne (pc1 := 35) (tgt := 48) (pc' := 38) dX3_goesTo_34 rfl dX3_goesTo_35 (by decide) rfl hf (fun hf => ?_) (fun hf => ?_)
      ·
        refine V_aload_n (pc' := 39) dX3_goesTo_38 rfl 0 rfl rfl ?_
        refine V_aload_n (pc' := 40) dX3_goesTo_39 rfl 1 rfl rfl ?_
        refine V_aload_n (pc' := 41) dX3_goesTo_40 rfl 2 rfl rfl ?_
        refine V_iload_n (pc' := 42) dX3_goesTo_41 rfl 3 rfl rfl ?_
        refine V_cvV (pc' := 45) (As := [.ref a1, .ref a2, .int x3]) (rest := []) dX3_goesTo_42 rfl mok_X3_walk bm_865 3 (by decide) rfl hs0 rfl rfl (Nat.le_of_ble_eq_true rfl) (by decide) hf (fun q e => ct_X3_walk hs0 hs1 hs2 e) (fun q_4 hf => ?_)
        refine V_goto (tgt := 60) dX3_goesTo_45 (by decide) ?_
        refine V_iconst (v := 1) (pc' := 61) dX3_goesTo_60 rfl (by decide) ?_
        obtain rfl := Option.some.inj hf
        exact V_zretL dX3_goesTo_61 rfl rfl rfl (by decide) ⟨rfl, rfl, rfl⟩
      ·
        refine V_aload_n (pc' := 49) dX3_goesTo_48 rfl 0 rfl rfl ?_
        refine V_iconst (v := 0) (pc' := 50) dX3_goesTo_49 rfl (by decide) ?_
        refine V_putZL (pc' := 53) 3 11 dX3_goesTo_50 rfl (by decide) (Nat.le_of_ble_eq_true rfl) bm_429 hs0 rfl rfl (by decide) ?_
        refine V_nmH hf (fun h_5 hf => ?_)
        refine V_aload_n (pc' := 54) dX3_goesTo_53 rfl 0 rfl rfl ?_
        refine V_aload_n (pc' := 55) dX3_goesTo_54 rfl 1 rfl rfl ?_
        refine V_aload_n (pc' := 56) dX3_goesTo_55 rfl 2 rfl rfl ?_
        refine V_iload_n (pc' := 57) dX3_goesTo_56 rfl 3 rfl rfl ?_
        refine V_cvV (pc' := 60) (As := [.ref a1, .ref a2, .int x3]) (rest := []) dX3_goesTo_57 rfl mok_X3_spread bm_879 3 (by decide) rfl hs0 rfl rfl (Nat.le_of_ble_eq_true rfl) (by decide) hf (fun q e => ct_X3_spread hs0 hs1 hs2 e) (fun q_6 hf => ?_)
        refine V_iconst (v := 1) (pc' := 61) dX3_goesTo_60 rfl (by decide) ?_
        obtain rfl := Option.some.inj hf
        exact V_zretL dX3_goesTo_61 rfl rfl rfl (by decide) ⟨rfl, rfl, rfl⟩
    ·
      refine V_iconst (v := 0) (pc' := 23) dX3_goesTo_22 rfl (by decide) ?_
      obtain rfl := Option.some.inj hf
      exact V_zretL dX3_goesTo_23 rfl rfl rfl (by decide) ⟨rfl, rfl, rfl⟩
theorem ct_X3_goesTo {l : Launch} {S : List SHP} {h : MH} {a0 : Nat} {a1 : Nat} {a2 : Nat} {x3 : Int32} (hs0 : S[a0]? = some (.inl 3)) (hs1 : S[a1]? = some (.inl 2)) (hs2 : S[a2]? = some (.inl 4)) {q : Int32 × MH} (hf : f_X3_goesTo a0 a1 a2 x3 h = some q) : CT l mX3_goesTo 6 false 0 0 S [.ref a0, .ref a1, .ref a2, .int x3] h (QI S q) :=
  CT_ofV (by decide) rfl (Nat.le_of_ble_eq_true rfl) (fun G B hT => v_X3_goesTo hs0 hs1 hs2 hf)
/-! LabelStacks$Packet.run(LLabelStacks$Network;LLabelStacks$Routes;I)V -/
theorem dX3_run_0 : decode cX3_run 0 = .ok (.aload_n 0, 1) := by decide +kernel
theorem dX3_run_1 : decode cX3_run 1 = .ok (.iload_n 3, 1) := by decide +kernel
theorem dX3_run_2 : decode cX3_run 2 = .ok (.invokevirtual 48, 3) := by decide +kernel
theorem dX3_run_5 : decode cX3_run 5 = .ok (.iconst 0, 1) := by decide +kernel
theorem dX3_run_6 : decode cX3_run 6 = .ok (.istore 4, 2) := by decide +kernel
theorem dX3_run_8 : decode cX3_run 8 = .ok (.iload 4, 2) := by decide +kernel
theorem dX3_run_10 : decode cX3_run 10 = .ok (.bipush 84, 2) := by decide +kernel
theorem dX3_run_12 : decode cX3_run 12 = .ok (.if_icmp .ge 121, 3) := by decide +kernel
theorem dX3_run_15 : decode cX3_run 15 = .ok (.aload_n 0, 1) := by decide +kernel
theorem dX3_run_16 : decode cX3_run 16 = .ok (.getfield 51, 3) := by decide +kernel
theorem dX3_run_19 : decode cX3_run 19 = .ok (.ifCond .le 114, 3) := by decide +kernel
theorem dX3_run_22 : decode cX3_run 22 = .ok (.aload_n 0, 1) := by decide +kernel
theorem dX3_run_23 : decode cX3_run 23 = .ok (.dup, 1) := by decide +kernel
theorem dX3_run_24 : decode cX3_run 24 = .ok (.getfield 51, 3) := by decide +kernel
theorem dX3_run_27 : decode cX3_run 27 = .ok (.iconst 1, 1) := by decide +kernel
theorem dX3_run_28 : decode cX3_run 28 = .ok (.isub, 1) := by decide +kernel
theorem dX3_run_29 : decode cX3_run 29 = .ok (.putfield 51, 3) := by decide +kernel
theorem dX3_run_32 : decode cX3_run 32 = .ok (.aload_n 0, 1) := by decide +kernel
theorem dX3_run_33 : decode cX3_run 33 = .ok (.getfield 30, 3) := by decide +kernel
theorem dX3_run_36 : decode cX3_run 36 = .ok (.aload_n 0, 1) := by decide +kernel
theorem dX3_run_37 : decode cX3_run 37 = .ok (.getfield 51, 3) := by decide +kernel
theorem dX3_run_40 : decode cX3_run 40 = .ok (.iaload, 1) := by decide +kernel
theorem dX3_run_41 : decode cX3_run 41 = .ok (.istore 5, 2) := by decide +kernel
theorem dX3_run_43 : decode cX3_run 43 = .ok (.iload 5, 2) := by decide +kernel
theorem dX3_run_45 : decode cX3_run 45 = .ok (.sipush 200, 3) := by decide +kernel
theorem dX3_run_48 : decode cX3_run 48 = .ok (.if_icmp .lt 17, 3) := by decide +kernel
theorem dX3_run_51 : decode cX3_run 51 = .ok (.aload_n 0, 1) := by decide +kernel
theorem dX3_run_52 : decode cX3_run 52 = .ok (.aload_n 1, 1) := by decide +kernel
theorem dX3_run_53 : decode cX3_run 53 = .ok (.iload 5, 2) := by decide +kernel
theorem dX3_run_55 : decode cX3_run 55 = .ok (.sipush 200, 3) := by decide +kernel
theorem dX3_run_58 : decode cX3_run 58 = .ok (.isub, 1) := by decide +kernel
theorem dX3_run_59 : decode cX3_run 59 = .ok (.invokevirtual 54, 3) := by decide +kernel
theorem dX3_run_62 : decode cX3_run 62 = .ok (.goto 31, 3) := by decide +kernel
theorem dX3_run_65 : decode cX3_run 65 = .ok (.iload 5, 2) := by decide +kernel
theorem dX3_run_67 : decode cX3_run 67 = .ok (.bipush 100, 2) := by decide +kernel
theorem dX3_run_69 : decode cX3_run 69 = .ok (.if_icmp .lt 16, 3) := by decide +kernel
theorem dX3_run_72 : decode cX3_run 72 = .ok (.aload_n 0, 1) := by decide +kernel
theorem dX3_run_73 : decode cX3_run 73 = .ok (.aload_n 1, 1) := by decide +kernel
theorem dX3_run_74 : decode cX3_run 74 = .ok (.iload 5, 2) := by decide +kernel
theorem dX3_run_76 : decode cX3_run 76 = .ok (.bipush 100, 2) := by decide +kernel
theorem dX3_run_78 : decode cX3_run 78 = .ok (.isub, 1) := by decide +kernel
theorem dX3_run_79 : decode cX3_run 79 = .ok (.invokevirtual 58, 3) := by decide +kernel
theorem dX3_run_82 : decode cX3_run 82 = .ok (.goto 11, 3) := by decide +kernel
theorem dX3_run_85 : decode cX3_run 85 = .ok (.aload_n 0, 1) := by decide +kernel
theorem dX3_run_86 : decode cX3_run 86 = .ok (.aload_n 1, 1) := by decide +kernel
theorem dX3_run_87 : decode cX3_run 87 = .ok (.aload_n 2, 1) := by decide +kernel
theorem dX3_run_88 : decode cX3_run 88 = .ok (.iload 5, 2) := by decide +kernel
theorem dX3_run_90 : decode cX3_run 90 = .ok (.invokevirtual 61, 3) := by decide +kernel
theorem dX3_run_93 : decode cX3_run 93 = .ok (.istore 6, 2) := by decide +kernel
theorem dX3_run_95 : decode cX3_run 95 = .ok (.iload 6, 2) := by decide +kernel
theorem dX3_run_97 : decode cX3_run 97 = .ok (.ifCond .ne 15, 3) := by decide +kernel
theorem dX3_run_100 : decode cX3_run 100 = .ok (.aload_n 0, 1) := by decide +kernel
theorem dX3_run_101 : decode cX3_run 101 = .ok (.iload 4, 2) := by decide +kernel
theorem dX3_run_103 : decode cX3_run 103 = .ok (.putfield 41, 3) := by decide +kernel
theorem dX3_run_106 : decode cX3_run 106 = .ok (.aload_n 0, 1) := by decide +kernel
theorem dX3_run_107 : decode cX3_run 107 = .ok (.iconst 0, 1) := by decide +kernel
theorem dX3_run_108 : decode cX3_run 108 = .ok (.putfield 65, 3) := by decide +kernel
theorem dX3_run_111 : decode cX3_run 111 = .ok (.return_, 1) := by decide +kernel
theorem dX3_run_112 : decode cX3_run 112 = .ok (.aload_n 0, 1) := by decide +kernel
theorem dX3_run_113 : decode cX3_run 113 = .ok (.aload_n 0, 1) := by decide +kernel
theorem dX3_run_114 : decode cX3_run 114 = .ok (.getfield 69, 3) := by decide +kernel
theorem dX3_run_117 : decode cX3_run 117 = .ok (.aload_n 0, 1) := by decide +kernel
theorem dX3_run_118 : decode cX3_run 118 = .ok (.getfield 51, 3) := by decide +kernel
theorem dX3_run_121 : decode cX3_run 121 = .ok (.invokestatic 72, 3) := by decide +kernel
theorem dX3_run_124 : decode cX3_run 124 = .ok (.putfield 69, 3) := by decide +kernel
theorem dX3_run_127 : decode cX3_run 127 = .ok (.iinc 4 1, 3) := by decide +kernel
theorem dX3_run_130 : decode cX3_run 130 = .ok (.goto (-122), 3) := by decide +kernel
theorem dX3_run_133 : decode cX3_run 133 = .ok (.return_, 1) := by decide +kernel
abbrev mX3_run : MI := (RX3, yX3_run, cX3_run, 7, none)
theorem mok_X3_run : MOKv mX3_run 3 := ⟨⟨bm_826, bm_125, ⟨by decide, by decide⟩, by decide +kernel⟩, bm_824, bm_825⟩
def f_X3_run_93  (k8 : Int32 → MH → Option (MH)) (a0 : Nat) (a1 : Nat) (a2 : Nat) (x4 : Int32) (t0 : Int32) (h : MH) : Option (MH) :=
  if t0 = 0 then
    lt (sI h a0 10 x4) fun h_1 =>
    lt (sI h_1 a0 11 0) fun h_2 =>
    some h_2
  else
    lt ((if (gI h a0 9) < (gI h a0 4) then (gI h a0 4) else (gI h a0 9)) : Int32) fun x_3 =>
    lt (sI h a0 9 x_3) fun h_4 =>
    k8 (x4 + 1) h_4
def f_X3_run_8b   (a0 : Nat) (a1 : Nat) (a2 : Nat) (k8 : Int32 → MH → Option (MH)) (p : Int32) (h : MH) : Option (MH) :=
  if p < 84 then
    if 0 < (gI h a0 4) then
      lt (sI h a0 4 ((gI h a0 4) - 1)) fun h_1 =>
      (gR h_1 a0 3).bind fun a_2 =>
      (ldI h_1 a_2 (gI h_1 a0 4)).bind fun x_3 =>
      if x_3 < 200 then
        if x_3 < 100 then
          (f_X3_goesTo a0 a1 a2 x_3 h_1).bind fun q_4 =>
          f_X3_run_93 k8 a0 a1 a2 p q_4.1 q_4.2
        else
          (f_X3_goesAlong a0 a1 (x_3 - 100) h_1).bind fun q_5 =>
          f_X3_run_93 k8 a0 a1 a2 p q_5.1 q_5.2
      else
        (f_X3_unfolds a0 a1 (x_3 - 200) h_1).bind fun q_6 =>
        f_X3_run_93 k8 a0 a1 a2 p q_6.1 q_6.2
    else
      some h
  else
    some h
def f_X3_run_8   (a0 : Nat) (a1 : Nat) (a2 : Nat) : Nat → Int32 → MH → Option (MH) := lp (f_X3_run_8b a0 a1 a2)
def f_X3_run   (a0 : Nat) (a1 : Nat) (a2 : Nat) (x3 : Int32) (h : MH) : Option (MH) :=
  (f_X3_begin a0 x3 h).bind fun q_1 =>
  f_X3_run_8 a0 a1 a2 FU 0 q_1
set_option maxRecDepth 100000 in
set_option maxHeartbeats 4000000 in
theorem v_X3_run_93 {l : Launch} {G : GE} {B N : Nat} {S : List SHP} {o : MH} {a0 : Nat} {a1 : Nat} {a2 : Nat} {x4 : Int32} {t0 : Int32}  {k8 : Int32 → MH → Option (MH)} (hk8 : ∀ (p : Int32) (h : MH), k8 p h = some o → V l G B N mX3_run (rmm 7 0 0) false 0 0 (QV S o) S 0 0 8 [(0, .ref a0), (1, .ref a1), (2, .ref a2), (4, .int p)] [] h) (hs0 : S[a0]? = some (.inl 3)) (hs1 : S[a1]? = some (.inl 2)) (hs2 : S[a2]? = some (.inl 4)) {h : MH} (hf : f_X3_run_93 k8 a0 a1 a2 x4 t0 h = some o) : V l G B N mX3_run (rmm 7 0 0) false 0 0 (QV S o) S 0 0 93 [(0, .ref a0), (1, .ref a1), (2, .ref a2), (4, .int x4)] [.int t0] h := by
  unfold f_X3_run_93 at hf
  refine V_istore (lv' := [(6, .int t0), (0, .ref a0), (1, .ref a1), (2, .ref a2), (4, .int x4)]) (pc' := 95) dX3_run_93 rfl (Nat.le_of_ble_eq_true rfl) rfl ?_
  refine V_iload (pc' := 97) dX3_run_95 rfl 0 rfl ?_
  refine V_if_ne (tgt := 112) (pc' := 100) dX3_run_97 (by decide) rfl hf (fun hf => ?_) (fun hf => ?_)
  ·
    refine V_aload_n (pc' := 101) dX3_run_100 rfl 1 rfl rfl ?_
    refine V_iload (pc' := 103) dX3_run_101 rfl 4 rfl ?_
    refine V_putI (pc' := 106) 3 10 dX3_run_103 rfl (by decide) (Nat.le_of_ble_eq_true rfl) bm_428 hs0 (Or.inl rfl) rfl ?_
    refine V_nmH hf (fun h_1 hf => ?_)
    refine V_aload_n (pc' := 107) dX3_run_106 rfl 1 rfl rfl ?_
    refine V_iconst (v := 0) (pc' := 108) dX3_run_107 rfl (by decide) ?_
    refine V_putZL (pc' := 111) 3 11 dX3_run_108 rfl (by decide) (Nat.le_of_ble_eq_true rfl) bm_429 hs0 rfl rfl (by decide) ?_
    refine V_nmH hf (fun h_2 hf => ?_)
    obtain rfl := Option.some.inj hf
    exact V_vret dX3_run_111 rfl rfl rfl ⟨rfl, rfl, rfl⟩
  ·
    refine V_aload_n (pc' := 113) dX3_run_112 rfl 1 rfl rfl ?_
    refine V_aload_n (pc' := 114) dX3_run_113 rfl 1 rfl rfl ?_
    refine V_getI (pc' := 117) 3 9 dX3_run_114 rfl (by decide) (Nat.le_of_ble_eq_true rfl) bm_426 hs0 (fun _ _ _ => rfl) ?_
    refine V_aload_n (pc' := 118) dX3_run_117 rfl 1 rfl rfl ?_
    refine V_getI (pc' := 121) 3 4 dX3_run_118 rfl (by decide) (Nat.le_of_ble_eq_true rfl) bm_420 hs0 (fun _ _ _ => rfl) ?_
    refine V_max (pc' := 124) dX3_run_121 rfl bm_885 (Nat.le_of_ble_eq_true rfl) (by decide) ?_
    refine V_nmI hf (fun x_3 hf => ?_)
    refine V_putI (pc' := 127) 3 9 dX3_run_124 rfl (by decide) (Nat.le_of_ble_eq_true rfl) bm_426 hs0 (Or.inl rfl) rfl ?_
    refine V_nmH hf (fun h_4 hf => ?_)
    refine V_iinc (v := (x4 + 1)) (lv' := [(4, .int (x4 + 1)), (6, .int t0), (0, .ref a0), (1, .ref a1), (2, .ref a2)]) (pc' := 130) dX3_run_127 rfl 4 rfl rfl (Nat.le_of_ble_eq_true rfl) rfl ?_
    refine V_goto (tgt := 8) dX3_run_130 (by decide) ?_
    exact V_sub (lv' := [(0, .ref a0), (1, .ref a1), (2, .ref a2), (4, .int (x4 + 1))]) [2, 3, 4, 0] rfl (hk8 (x4 + 1) h_4 hf)
set_option maxRecDepth 100000 in
set_option maxHeartbeats 4000000 in
theorem v_X3_run_8b {l : Launch} {G : GE} {B N : Nat} {S : List SHP} {o : MH} {a0 : Nat} {a1 : Nat} {a2 : Nat}    (hs0 : S[a0]? = some (.inl 3)) (hs1 : S[a1]? = some (.inl 2)) (hs2 : S[a2]? = some (.inl 4)) {k8 : Int32 → MH → Option (MH)} (hk8 : ∀ (p : Int32) (h : MH), k8 p h = some o → V l G B N mX3_run (rmm 7 0 0) false 0 0 (QV S o) S 0 0 8 [(0, .ref a0), (1, .ref a1), (2, .ref a2), (4, .int p)] [] h) {p : Int32} {h : MH} (hf : f_X3_run_8b a0 a1 a2 k8 p h = some o) : V l G B N mX3_run (rmm 7 0 0) false 0 0 (QV S o) S 0 0 8 [(0, .ref a0), (1, .ref a1), (2, .ref a2), (4, .int p)] [] h := by
  unfold f_X3_run_8b at hf
  refine V_iload (pc' := 10) dX3_run_8 rfl 3 rfl ?_
  refine V_bipush (v := 84) (pc' := 12) dX3_run_10 rfl (by decide) ?_
  refine V_icmp_ge (tgt := 133) (pc' := 15) dX3_run_12 (by decide) rfl hf (fun hf => ?_) (fun hf => ?_)
  ·
    refine V_aload_n (pc' := 16) dX3_run_15 rfl 0 rfl rfl ?_
    refine V_getI (pc' := 19) 3 4 dX3_run_16 rfl (by decide) (Nat.le_of_ble_eq_true rfl) bm_420 hs0 (fun _ _ _ => rfl) ?_
    refine V_if_le (tgt := 133) (pc' := 22) dX3_run_19 (by decide) rfl hf (fun hf => ?_) (fun hf => ?_)
    ·
      refine V_aload_n (pc' := 23) dX3_run_22 rfl 0 rfl rfl ?_
      refine V_dup (pc' := 24) dX3_run_23 rfl rfl ?_
      refine V_getI (pc' := 27) 3 4 dX3_run_24 rfl (by decide) (Nat.le_of_ble_eq_true rfl) bm_420 hs0 (fun _ _ _ => rfl) ?_
      refine V_iconst (v := 1) (pc' := 28) dX3_run_27 rfl (by decide) ?_
      refine V_isub (pc' := 29) dX3_run_28 rfl ?_
      refine V_putI (pc' := 32) 3 4 dX3_run_29 rfl (by decide) (Nat.le_of_ble_eq_true rfl) bm_420 hs0 (Or.inl rfl) rfl ?_
      refine V_nmH hf (fun h_1 hf => ?_)
      refine V_aload_n (pc' := 33) dX3_run_32 rfl 0 rfl rfl ?_
      refine V_getR (pc' := 36) 3 3 dX3_run_33 rfl (by decide) (Nat.le_of_ble_eq_true rfl) bm_419 hs0 (fun _ _ _ => rfl) rfl hf (fun a_2 ha_2 hf => ?_)
      refine V_aload_n (pc' := 37) dX3_run_36 rfl 0 rfl rfl ?_
      refine V_getI (pc' := 40) 3 4 dX3_run_37 rfl (by decide) (Nat.le_of_ble_eq_true rfl) bm_420 hs0 (fun _ _ _ => rfl) ?_
      refine V_iald (pc' := 41) dX3_run_40 rfl ha_2 hf (fun x_3 hf => ?_)
      refine V_istore (lv' := [(5, .int x_3), (0, .ref a0), (1, .ref a1), (2, .ref a2), (4, .int p)]) (pc' := 43) dX3_run_41 rfl (Nat.le_of_ble_eq_true rfl) rfl ?_
      refine V_iload (pc' := 45) dX3_run_43 rfl 0 rfl ?_
      refine V_sipush (v := 200) (pc' := 48) dX3_run_45 rfl (by decide) ?_
      refine V_icmp_lt (tgt := 65) (pc' := 51) dX3_run_48 (by decide) rfl hf (fun hf => ?_) (fun hf => ?_)
      ·
        refine V_iload (pc' := 67) dX3_run_65 rfl 0 rfl ?_
        refine V_bipush (v := 100) (pc' := 69) dX3_run_67 rfl (by decide) ?_
        refine V_icmp_lt (tgt := 85) (pc' := 72) dX3_run_69 (by decide) rfl hf (fun hf => ?_) (fun hf => ?_)
        ·
          refine V_aload_n (pc' := 86) dX3_run_85 rfl 1 rfl rfl ?_
          refine V_aload_n (pc' := 87) dX3_run_86 rfl 2 rfl rfl ?_
          refine V_aload_n (pc' := 88) dX3_run_87 rfl 3 rfl rfl ?_
          refine V_iload (pc' := 90) dX3_run_88 rfl 0 rfl ?_
          refine V_cvI (pc' := 93) (As := [.ref a1, .ref a2, .int x_3]) (rest := []) dX3_run_90 rfl mok_X3_goesTo bm_857 3 (by decide) rfl hs0 rfl rfl (Nat.le_of_ble_eq_true rfl) (by decide) hf (fun q e => ct_X3_goesTo hs0 hs1 hs2 e) (fun q_4 hf => ?_)
          exact V_sub (lv' := [(0, .ref a0), (1, .ref a1), (2, .ref a2), (4, .int p)]) [1, 2, 3, 4] rfl (v_X3_run_93 hk8 hs0 hs1 hs2 hf)
        ·
          refine V_aload_n (pc' := 73) dX3_run_72 rfl 1 rfl rfl ?_
          refine V_aload_n (pc' := 74) dX3_run_73 rfl 2 rfl rfl ?_
          refine V_iload (pc' := 76) dX3_run_74 rfl 0 rfl ?_
          refine V_bipush (v := 100) (pc' := 78) dX3_run_76 rfl (by decide) ?_
          refine V_isub (pc' := 79) dX3_run_78 rfl ?_
          refine V_cvI (pc' := 82) (As := [.ref a1, .int (x_3 - 100)]) (rest := []) dX3_run_79 rfl mok_X3_goesAlong bm_843 3 (by decide) rfl hs0 rfl rfl (Nat.le_of_ble_eq_true rfl) (by decide) hf (fun q e => ct_X3_goesAlong hs0 hs1 e) (fun q_5 hf => ?_)
          refine V_goto (tgt := 93) dX3_run_82 (by decide) ?_
          exact V_sub (lv' := [(0, .ref a0), (1, .ref a1), (2, .ref a2), (4, .int p)]) [1, 2, 3, 4] rfl (v_X3_run_93 hk8 hs0 hs1 hs2 hf)
      ·
        refine V_aload_n (pc' := 52) dX3_run_51 rfl 1 rfl rfl ?_
        refine V_aload_n (pc' := 53) dX3_run_52 rfl 2 rfl rfl ?_
        refine V_iload (pc' := 55) dX3_run_53 rfl 0 rfl ?_
        refine V_sipush (v := 200) (pc' := 58) dX3_run_55 rfl (by decide) ?_
        refine V_isub (pc' := 59) dX3_run_58 rfl ?_
        refine V_cvI (pc' := 62) (As := [.ref a1, .int (x_3 - 200)]) (rest := []) dX3_run_59 rfl mok_X3_unfolds bm_838 3 (by decide) rfl hs0 rfl rfl (Nat.le_of_ble_eq_true rfl) (by decide) hf (fun q e => ct_X3_unfolds hs0 hs1 e) (fun q_6 hf => ?_)
        refine V_goto (tgt := 93) dX3_run_62 (by decide) ?_
        exact V_sub (lv' := [(0, .ref a0), (1, .ref a1), (2, .ref a2), (4, .int p)]) [1, 2, 3, 4] rfl (v_X3_run_93 hk8 hs0 hs1 hs2 hf)
    ·
      obtain rfl := Option.some.inj hf
      exact V_vret dX3_run_133 rfl rfl rfl ⟨rfl, rfl, rfl⟩
  ·
    obtain rfl := Option.some.inj hf
    exact V_vret dX3_run_133 rfl rfl rfl ⟨rfl, rfl, rfl⟩
theorem v_X3_run_8 {l : Launch} {G : GE} {B N : Nat} {S : List SHP} {o : MH} {a0 : Nat} {a1 : Nat} {a2 : Nat}    (hs0 : S[a0]? = some (.inl 3)) (hs1 : S[a1]? = some (.inl 2)) (hs2 : S[a2]? = some (.inl 4)) {n : Nat} {p : Int32} {h : MH} (hf : f_X3_run_8 a0 a1 a2 n p h = some o) : V l G B N mX3_run (rmm 7 0 0) false 0 0 (QV S o) S 0 0 8 [(0, .ref a0), (1, .ref a1), (2, .ref a2), (4, .int p)] [] h :=
  V_lp (VV := fun p h => V l G B N mX3_run (rmm 7 0 0) false 0 0 (QV S o) S 0 0 8 [(0, .ref a0), (1, .ref a1), (2, .ref a2), (4, .int p)] [] h) (fun _ hk _ _ hf => v_X3_run_8b hs0 hs1 hs2 hk hf) n p h hf
set_option maxRecDepth 100000 in
set_option maxHeartbeats 4000000 in
theorem v_X3_run {l : Launch} {G : GE} {B N : Nat} {S : List SHP} {o : MH} {a0 : Nat} {a1 : Nat} {a2 : Nat} {x3 : Int32}    (hs0 : S[a0]? = some (.inl 3)) (hs1 : S[a1]? = some (.inl 2)) (hs2 : S[a2]? = some (.inl 4)) {h : MH} (hf : f_X3_run a0 a1 a2 x3 h = some o) : V l G B N mX3_run (rmm 7 0 0) false 0 0 (QV S o) S 0 0 0 [(0, .ref a0), (1, .ref a1), (2, .ref a2), (3, .int x3)] [] h := by
  unfold f_X3_run at hf
  refine V_aload_n (pc' := 1) dX3_run_0 rfl 0 rfl rfl ?_
  refine V_iload_n (pc' := 2) dX3_run_1 rfl 3 rfl rfl ?_
  refine V_cvV (pc' := 5) (As := [.int x3]) (rest := []) dX3_run_2 rfl mok_X3_begin bm_827 3 (by decide) rfl hs0 rfl rfl (Nat.le_of_ble_eq_true rfl) (by decide) hf (fun q e => ct_X3_begin hs0 e) (fun q_1 hf => ?_)
  refine V_iconst (v := 0) (pc' := 6) dX3_run_5 rfl (by decide) ?_
  refine V_istore (lv' := [(4, .int 0), (0, .ref a0), (1, .ref a1), (2, .ref a2), (3, .int x3)]) (pc' := 8) dX3_run_6 rfl (Nat.le_of_ble_eq_true rfl) rfl ?_
  exact V_sub (lv' := [(0, .ref a0), (1, .ref a1), (2, .ref a2), (4, .int 0)]) [1, 2, 3, 0] rfl (v_X3_run_8 hs0 hs1 hs2 hf)
theorem ct_X3_run {l : Launch} {S : List SHP} {h : MH} {a0 : Nat} {a1 : Nat} {a2 : Nat} {x3 : Int32} (hs0 : S[a0]? = some (.inl 3)) (hs1 : S[a1]? = some (.inl 2)) (hs2 : S[a2]? = some (.inl 4)) {q : MH} (hf : f_X3_run a0 a1 a2 x3 h = some q) : CT l mX3_run 7 false 0 0 S [.ref a0, .ref a1, .ref a2, .int x3] h (QV S q) :=
  CT_ofV (by decide) rfl (Nat.le_of_ble_eq_true rfl) (fun G B hT => v_X3_run hs0 hs1 hs2 hf)
