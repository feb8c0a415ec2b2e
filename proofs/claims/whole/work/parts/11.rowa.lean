/-! LabelStacks$Rows.copyFrom(LLabelStacks$Rows;)V -/
theorem dX6_copyFrom_0 : decode cX6_copyFrom 0 = .ok (.aload_n 1, 1) := by decide +kernel
theorem dX6_copyFrom_1 : decode cX6_copyFrom 1 = .ok (.getfield 21, 3) := by decide +kernel
theorem dX6_copyFrom_4 : decode cX6_copyFrom 4 = .ok (.iconst 0, 1) := by decide +kernel
theorem dX6_copyFrom_5 : decode cX6_copyFrom 5 = .ok (.aload_n 0, 1) := by decide +kernel
theorem dX6_copyFrom_6 : decode cX6_copyFrom 6 = .ok (.getfield 21, 3) := by decide +kernel
theorem dX6_copyFrom_9 : decode cX6_copyFrom 9 = .ok (.iconst 0, 1) := by decide +kernel
theorem dX6_copyFrom_10 : decode cX6_copyFrom 10 = .ok (.aload_n 0, 1) := by decide +kernel
theorem dX6_copyFrom_11 : decode cX6_copyFrom 11 = .ok (.getfield 21, 3) := by decide +kernel
theorem dX6_copyFrom_14 : decode cX6_copyFrom 14 = .ok (.arraylength, 1) := by decide +kernel
theorem dX6_copyFrom_15 : decode cX6_copyFrom 15 = .ok (.aload_n 1, 1) := by decide +kernel
theorem dX6_copyFrom_16 : decode cX6_copyFrom 16 = .ok (.getfield 21, 3) := by decide +kernel
theorem dX6_copyFrom_19 : decode cX6_copyFrom 19 = .ok (.arraylength, 1) := by decide +kernel
theorem dX6_copyFrom_20 : decode cX6_copyFrom 20 = .ok (.invokestatic 58, 3) := by decide +kernel
theorem dX6_copyFrom_23 : decode cX6_copyFrom 23 = .ok (.invokestatic 61, 3) := by decide +kernel
theorem dX6_copyFrom_26 : decode cX6_copyFrom 26 = .ok (.aload_n 1, 1) := by decide +kernel
theorem dX6_copyFrom_27 : decode cX6_copyFrom 27 = .ok (.getfield 25, 3) := by decide +kernel
theorem dX6_copyFrom_30 : decode cX6_copyFrom 30 = .ok (.iconst 0, 1) := by decide +kernel
theorem dX6_copyFrom_31 : decode cX6_copyFrom 31 = .ok (.aload_n 0, 1) := by decide +kernel
theorem dX6_copyFrom_32 : decode cX6_copyFrom 32 = .ok (.getfield 25, 3) := by decide +kernel
theorem dX6_copyFrom_35 : decode cX6_copyFrom 35 = .ok (.iconst 0, 1) := by decide +kernel
theorem dX6_copyFrom_36 : decode cX6_copyFrom 36 = .ok (.aload_n 0, 1) := by decide +kernel
theorem dX6_copyFrom_37 : decode cX6_copyFrom 37 = .ok (.getfield 25, 3) := by decide +kernel
theorem dX6_copyFrom_40 : decode cX6_copyFrom 40 = .ok (.arraylength, 1) := by decide +kernel
theorem dX6_copyFrom_41 : decode cX6_copyFrom 41 = .ok (.aload_n 1, 1) := by decide +kernel
theorem dX6_copyFrom_42 : decode cX6_copyFrom 42 = .ok (.getfield 25, 3) := by decide +kernel
theorem dX6_copyFrom_45 : decode cX6_copyFrom 45 = .ok (.arraylength, 1) := by decide +kernel
theorem dX6_copyFrom_46 : decode cX6_copyFrom 46 = .ok (.invokestatic 58, 3) := by decide +kernel
theorem dX6_copyFrom_49 : decode cX6_copyFrom 49 = .ok (.invokestatic 61, 3) := by decide +kernel
theorem dX6_copyFrom_52 : decode cX6_copyFrom 52 = .ok (.return_, 1) := by decide +kernel
abbrev mX6_copyFrom : MI := (RX6, yX6_copyFrom, cX6_copyFrom, 2, none)
theorem mok_X6_copyFrom : MOKv mX6_copyFrom 1 := ⟨⟨bm_536, bm_119, ⟨by decide, by decide⟩, by decide +kernel⟩, bm_534, bm_535⟩
def f_X6_copyFrom   (a0 : Nat) (a1 : Nat) (h : MH) : Option (MH) :=
  (gR h a1 1).bind fun a_1 =>
  (gR h a0 1).bind fun a_2 =>
  (gR h a0 1).bind fun a_3 =>
  (gR h a1 1).bind fun a_4 =>
  lt ((if (Int32.ofNat (gN h a_4)) < (Int32.ofNat (gN h a_3)) then (Int32.ofNat (gN h a_4)) else (Int32.ofNat (gN h a_3))) : Int32) fun x_5 =>
  (cpI h a_1 0 a_2 0 x_5).bind fun h_6 =>
  (gR h_6 a1 2).bind fun a_7 =>
  (gR h_6 a0 2).bind fun a_8 =>
  (gR h_6 a0 2).bind fun a_9 =>
  (gR h_6 a1 2).bind fun a_10 =>
  lt ((if (Int32.ofNat (gN h_6 a_10)) < (Int32.ofNat (gN h_6 a_9)) then (Int32.ofNat (gN h_6 a_10)) else (Int32.ofNat (gN h_6 a_9))) : Int32) fun x_11 =>
  (cpI h_6 a_7 0 a_8 0 x_11).bind fun h_12 =>
  some h_12
set_option maxRecDepth 100000 in
set_option maxHeartbeats 4000000 in
theorem v_X6_copyFrom {l : Launch} {G : GE} {B N : Nat} {S : List SHP} {o : MH} {a0 : Nat} {a1 : Nat}    (hs0 : S[a0]? = some (.inl 6)) (hs1 : S[a1]? = some (.inl 6)) {h : MH} (hf : f_X6_copyFrom a0 a1 h = some o) : V l G B N mX6_copyFrom (rmm 3 0 0) false 0 0 (QV S o) S 0 0 0 [(0, .ref a0), (1, .ref a1)] [] h := by
  unfold f_X6_copyFrom at hf
  refine V_aload_n (pc' := 1) dX6_copyFrom_0 rfl 1 rfl rfl ?_
  refine V_getR (pc' := 4) 6 1 dX6_copyFrom_1 rfl (by decide) (Nat.le_of_ble_eq_true rfl) bm_171 hs1 (fun _ _ _ => rfl) rfl hf (fun a_1 ha_1 hf => ?_)
  refine V_iconst (v := 0) (pc' := 5) dX6_copyFrom_4 rfl (by decide) ?_
  refine V_aload_n (pc' := 6) dX6_copyFrom_5 rfl 0 rfl rfl ?_
  refine V_getR (pc' := 9) 6 1 dX6_copyFrom_6 rfl (by decide) (Nat.le_of_ble_eq_true rfl) bm_171 hs0 (fun _ _ _ => rfl) rfl hf (fun a_2 ha_2 hf => ?_)
  refine V_iconst (v := 0) (pc' := 10) dX6_copyFrom_9 rfl (by decide) ?_
  refine V_aload_n (pc' := 11) dX6_copyFrom_10 rfl 0 rfl rfl ?_
  refine V_getR (pc' := 14) 6 1 dX6_copyFrom_11 rfl (by decide) (Nat.le_of_ble_eq_true rfl) bm_171 hs0 (fun _ _ _ => rfl) rfl hf (fun a_3 ha_3 hf => ?_)
  refine V_alen (pc' := 15) dX6_copyFrom_14 rfl ha_3 (by decide) ?_
  refine V_aload_n (pc' := 16) dX6_copyFrom_15 rfl 1 rfl rfl ?_
  refine V_getR (pc' := 19) 6 1 dX6_copyFrom_16 rfl (by decide) (Nat.le_of_ble_eq_true rfl) bm_171 hs1 (fun _ _ _ => rfl) rfl hf (fun a_4 ha_4 hf => ?_)
  refine V_alen (pc' := 20) dX6_copyFrom_19 rfl ha_4 (by decide) ?_
  refine V_min (pc' := 23) dX6_copyFrom_20 rfl bm_537 (Nat.le_of_ble_eq_true rfl) (by decide) ?_
  refine V_nmI hf (fun x_5 hf => ?_)
  refine V_cpI (pc' := 26) dX6_copyFrom_23 rfl bm_540 ha_1 ha_2 (Nat.le_of_ble_eq_true rfl) (by decide) hf (fun h_6 hf => ?_)
  refine V_aload_n (pc' := 27) dX6_copyFrom_26 rfl 1 rfl rfl ?_
  refine V_getR (pc' := 30) 6 2 dX6_copyFrom_27 rfl (by decide) (Nat.le_of_ble_eq_true rfl) bm_174 hs1 (fun _ _ _ => rfl) rfl hf (fun a_7 ha_7 hf => ?_)
  refine V_iconst (v := 0) (pc' := 31) dX6_copyFrom_30 rfl (by decide) ?_
  refine V_aload_n (pc' := 32) dX6_copyFrom_31 rfl 0 rfl rfl ?_
  refine V_getR (pc' := 35) 6 2 dX6_copyFrom_32 rfl (by decide) (Nat.le_of_ble_eq_true rfl) bm_174 hs0 (fun _ _ _ => rfl) rfl hf (fun a_8 ha_8 hf => ?_)
  refine V_iconst (v := 0) (pc' := 36) dX6_copyFrom_35 rfl (by decide) ?_
  refine V_aload_n (pc' := 37) dX6_copyFrom_36 rfl 0 rfl rfl ?_
  refine V_getR (pc' := 40) 6 2 dX6_copyFrom_37 rfl (by decide) (Nat.le_of_ble_eq_true rfl) bm_174 hs0 (fun _ _ _ => rfl) rfl hf (fun a_9 ha_9 hf => ?_)
  refine V_alen (pc' := 41) dX6_copyFrom_40 rfl ha_9 (by decide) ?_
  refine V_aload_n (pc' := 42) dX6_copyFrom_41 rfl 1 rfl rfl ?_
  refine V_getR (pc' := 45) 6 2 dX6_copyFrom_42 rfl (by decide) (Nat.le_of_ble_eq_true rfl) bm_174 hs1 (fun _ _ _ => rfl) rfl hf (fun a_10 ha_10 hf => ?_)
  refine V_alen (pc' := 46) dX6_copyFrom_45 rfl ha_10 (by decide) ?_
  refine V_min (pc' := 49) dX6_copyFrom_46 rfl bm_537 (Nat.le_of_ble_eq_true rfl) (by decide) ?_
  refine V_nmI hf (fun x_11 hf => ?_)
  refine V_cpI (pc' := 52) dX6_copyFrom_49 rfl bm_540 ha_7 ha_8 (Nat.le_of_ble_eq_true rfl) (by decide) hf (fun h_12 hf => ?_)
  obtain rfl := Option.some.inj hf
  exact V_vret dX6_copyFrom_52 rfl rfl rfl ⟨rfl, rfl, rfl⟩
theorem ct_X6_copyFrom {l : Launch} {S : List SHP} {h : MH} {a0 : Nat} {a1 : Nat} (hs0 : S[a0]? = some (.inl 6)) (hs1 : S[a1]? = some (.inl 6)) {q : MH} (hf : f_X6_copyFrom a0 a1 h = some q) : CT l mX6_copyFrom 3 false 0 0 S [.ref a0, .ref a1] h (QV S q) :=
  CT_ofV (by decide) rfl (Nat.le_of_ble_eq_true rfl) (fun G B hT => v_X6_copyFrom hs0 hs1 hf)
/-! LabelStacks$Row.copyFrom(LLabelStacks$Row;)V -/
theorem dX5_copyFrom_0 : decode cX5_copyFrom 0 = .ok (.aload_n 0, 1) := by decide +kernel
theorem dX5_copyFrom_1 : decode cX5_copyFrom 1 = .ok (.aload_n 1, 1) := by decide +kernel
theorem dX5_copyFrom_2 : decode cX5_copyFrom 2 = .ok (.getfield 21, 3) := by decide +kernel
theorem dX5_copyFrom_5 : decode cX5_copyFrom 5 = .ok (.aload_n 0, 1) := by decide +kernel
theorem dX5_copyFrom_6 : decode cX5_copyFrom 6 = .ok (.getfield 15, 3) := by decide +kernel
theorem dX5_copyFrom_9 : decode cX5_copyFrom 9 = .ok (.arraylength, 1) := by decide +kernel
theorem dX5_copyFrom_10 : decode cX5_copyFrom 10 = .ok (.invokestatic 31, 3) := by decide +kernel
theorem dX5_copyFrom_13 : decode cX5_copyFrom 13 = .ok (.putfield 21, 3) := by decide +kernel
theorem dX5_copyFrom_16 : decode cX5_copyFrom 16 = .ok (.aload_n 1, 1) := by decide +kernel
theorem dX5_copyFrom_17 : decode cX5_copyFrom 17 = .ok (.getfield 15, 3) := by decide +kernel
theorem dX5_copyFrom_20 : decode cX5_copyFrom 20 = .ok (.iconst 0, 1) := by decide +kernel
theorem dX5_copyFrom_21 : decode cX5_copyFrom 21 = .ok (.aload_n 0, 1) := by decide +kernel
theorem dX5_copyFrom_22 : decode cX5_copyFrom 22 = .ok (.getfield 15, 3) := by decide +kernel
theorem dX5_copyFrom_25 : decode cX5_copyFrom 25 = .ok (.iconst 0, 1) := by decide +kernel
theorem dX5_copyFrom_26 : decode cX5_copyFrom 26 = .ok (.aload_n 0, 1) := by decide +kernel
theorem dX5_copyFrom_27 : decode cX5_copyFrom 27 = .ok (.getfield 21, 3) := by decide +kernel
theorem dX5_copyFrom_30 : decode cX5_copyFrom 30 = .ok (.invokestatic 25, 3) := by decide +kernel
theorem dX5_copyFrom_33 : decode cX5_copyFrom 33 = .ok (.return_, 1) := by decide +kernel
abbrev mX5_copyFrom : MI := (RX5, yX5_copyFrom, cX5_copyFrom, 2, none)
theorem mok_X5_copyFrom : MOKv mX5_copyFrom 1 := ⟨⟨bm_546, bm_120, ⟨by decide, by decide⟩, by decide +kernel⟩, bm_544, bm_545⟩
def f_X5_copyFrom   (a0 : Nat) (a1 : Nat) (h : MH) : Option (MH) :=
  (gR h a0 0).bind fun a_1 =>
  lt ((if (Int32.ofNat (gN h a_1)) < (gI h a1 1) then (Int32.ofNat (gN h a_1)) else (gI h a1 1)) : Int32) fun x_2 =>
  lt (sI h a0 1 x_2) fun h_3 =>
  (gR h_3 a1 0).bind fun a_4 =>
  (gR h_3 a0 0).bind fun a_5 =>
  (cpI h_3 a_4 0 a_5 0 (gI h_3 a0 1)).bind fun h_6 =>
  some h_6
set_option maxRecDepth 100000 in
set_option maxHeartbeats 4000000 in
theorem v_X5_copyFrom {l : Launch} {G : GE} {B N : Nat} {S : List SHP} {o : MH} {a0 : Nat} {a1 : Nat}    (hs0 : S[a0]? = some (.inl 5)) (hs1 : S[a1]? = some (.inl 5)) {h : MH} (hf : f_X5_copyFrom a0 a1 h = some o) : V l G B N mX5_copyFrom (rmm 3 0 0) false 0 0 (QV S o) S 0 0 0 [(0, .ref a0), (1, .ref a1)] [] h := by
  unfold f_X5_copyFrom at hf
  refine V_aload_n (pc' := 1) dX5_copyFrom_0 rfl 0 rfl rfl ?_
  refine V_aload_n (pc' := 2) dX5_copyFrom_1 rfl 1 rfl rfl ?_
  refine V_getI (pc' := 5) 5 1 dX5_copyFrom_2 rfl (by decide) (Nat.le_of_ble_eq_true rfl) bm_250 hs1 (fun _ _ _ => rfl) ?_
  refine V_aload_n (pc' := 6) dX5_copyFrom_5 rfl 0 rfl rfl ?_
  refine V_getR (pc' := 9) 5 0 dX5_copyFrom_6 rfl (by decide) (Nat.le_of_ble_eq_true rfl) bm_247 hs0 (fun _ _ _ => rfl) rfl hf (fun a_1 ha_1 hf => ?_)
  refine V_alen (pc' := 10) dX5_copyFrom_9 rfl ha_1 (by decide) ?_
  refine V_min (pc' := 13) dX5_copyFrom_10 rfl bm_547 (Nat.le_of_ble_eq_true rfl) (by decide) ?_
  refine V_nmI hf (fun x_2 hf => ?_)
  refine V_putI (pc' := 16) 5 1 dX5_copyFrom_13 rfl (by decide) (Nat.le_of_ble_eq_true rfl) bm_250 hs0 (Or.inl rfl) rfl ?_
  refine V_nmH hf (fun h_3 hf => ?_)
  refine V_aload_n (pc' := 17) dX5_copyFrom_16 rfl 1 rfl rfl ?_
  refine V_getR (pc' := 20) 5 0 dX5_copyFrom_17 rfl (by decide) (Nat.le_of_ble_eq_true rfl) bm_247 hs1 (fun _ _ _ => rfl) rfl hf (fun a_4 ha_4 hf => ?_)
  refine V_iconst (v := 0) (pc' := 21) dX5_copyFrom_20 rfl (by decide) ?_
  refine V_aload_n (pc' := 22) dX5_copyFrom_21 rfl 0 rfl rfl ?_
  refine V_getR (pc' := 25) 5 0 dX5_copyFrom_22 rfl (by decide) (Nat.le_of_ble_eq_true rfl) bm_247 hs0 (fun _ _ _ => rfl) rfl hf (fun a_5 ha_5 hf => ?_)
  refine V_iconst (v := 0) (pc' := 26) dX5_copyFrom_25 rfl (by decide) ?_
  refine V_aload_n (pc' := 27) dX5_copyFrom_26 rfl 0 rfl rfl ?_
  refine V_getI (pc' := 30) 5 1 dX5_copyFrom_27 rfl (by decide) (Nat.le_of_ble_eq_true rfl) bm_250 hs0 (fun _ _ _ => rfl) ?_
  refine V_cpI (pc' := 33) dX5_copyFrom_30 rfl bm_548 ha_4 ha_5 (Nat.le_of_ble_eq_true rfl) (by decide) hf (fun h_6 hf => ?_)
  obtain rfl := Option.some.inj hf
  exact V_vret dX5_copyFrom_33 rfl rfl rfl ⟨rfl, rfl, rfl⟩
theorem ct_X5_copyFrom {l : Launch} {S : List SHP} {h : MH} {a0 : Nat} {a1 : Nat} (hs0 : S[a0]? = some (.inl 5)) (hs1 : S[a1]? = some (.inl 5)) {q : MH} (hf : f_X5_copyFrom a0 a1 h = some q) : CT l mX5_copyFrom 3 false 0 0 S [.ref a0, .ref a1] h (QV S q) :=
  CT_ofV (by decide) rfl (Nat.le_of_ble_eq_true rfl) (fun G B hT => v_X5_copyFrom hs0 hs1 hf)
/-! LabelStacks$Row.get(I)I -/
theorem dX5_get_0 : decode cX5_get 0 = .ok (.iload_n 1, 1) := by decide +kernel
theorem dX5_get_1 : decode cX5_get 1 = .ok (.ifCond .lt 20, 3) := by decide +kernel
theorem dX5_get_4 : decode cX5_get 4 = .ok (.iload_n 1, 1) := by decide +kernel
theorem dX5_get_5 : decode cX5_get 5 = .ok (.aload_n 0, 1) := by decide +kernel
theorem dX5_get_6 : decode cX5_get 6 = .ok (.getfield 21, 3) := by decide +kernel
theorem dX5_get_9 : decode cX5_get 9 = .ok (.if_icmp .ge 12, 3) := by decide +kernel
theorem dX5_get_12 : decode cX5_get 12 = .ok (.aload_n 0, 1) := by decide +kernel
theorem dX5_get_13 : decode cX5_get 13 = .ok (.getfield 15, 3) := by decide +kernel
theorem dX5_get_16 : decode cX5_get 16 = .ok (.iload_n 1, 1) := by decide +kernel
theorem dX5_get_17 : decode cX5_get 17 = .ok (.iaload, 1) := by decide +kernel
theorem dX5_get_18 : decode cX5_get 18 = .ok (.goto 4, 3) := by decide +kernel
theorem dX5_get_21 : decode cX5_get 21 = .ok (.iconst (-1), 1) := by decide +kernel
theorem dX5_get_22 : decode cX5_get 22 = .ok (.ireturn, 1) := by decide +kernel
abbrev mX5_get : MI := (RX5, yX5_get, cX5_get, 2, (some .int))
theorem mok_X5_get : MOKv mX5_get 1 := ⟨⟨bm_616, bm_120, ⟨by decide, by decide⟩, by decide +kernel⟩, bm_614, bm_615⟩
def f_X5_get   (a0 : Nat) (x1 : Int32) (h : MH) : Option (Int32 × MH) :=
  if x1 < 0 then
    some ((-1 : Int32), h)
  else
    if x1 < (gI h a0 1) then
      (gR h a0 0).bind fun a_1 =>
      (ldI h a_1 x1).bind fun x_2 =>
      some (x_2, h)
    else
      some ((-1 : Int32), h)
set_option maxRecDepth 100000 in
set_option maxHeartbeats 4000000 in
theorem v_X5_get {l : Launch} {G : GE} {B N : Nat} {S : List SHP} {o : Int32 × MH} {a0 : Nat} {x1 : Int32}    (hs0 : S[a0]? = some (.inl 5)) {h : MH} (hf : f_X5_get a0 x1 h = some o) : V l G B N mX5_get (rmm 3 0 0) false 0 0 (QI S o) S 0 0 0 [(0, .ref a0), (1, .int x1)] [] h := by
  unfold f_X5_get at hf
  refine V_iload_n (pc' := 1) dX5_get_0 rfl 1 rfl rfl ?_
  refine V_if_lt (tgt := 21) (pc' := 4) dX5_get_1 (by decide) rfl hf (fun hf => ?_) (fun hf => ?_)
  ·
    refine V_iconst (v := (-1)) (pc' := 22) dX5_get_21 rfl (by decide) ?_
    obtain rfl := Option.some.inj hf
    exact V_iret dX5_get_22 rfl rfl rfl ⟨rfl, rfl, rfl⟩
  ·
    refine V_iload_n (pc' := 5) dX5_get_4 rfl 1 rfl rfl ?_
    refine V_aload_n (pc' := 6) dX5_get_5 rfl 0 rfl rfl ?_
    refine V_getI (pc' := 9) 5 1 dX5_get_6 rfl (by decide) (Nat.le_of_ble_eq_true rfl) bm_250 hs0 (fun _ _ _ => rfl) ?_
    refine V_icmp_ge (tgt := 21) (pc' := 12) dX5_get_9 (by decide) rfl hf (fun hf => ?_) (fun hf => ?_)
    ·
      refine V_aload_n (pc' := 13) dX5_get_12 rfl 0 rfl rfl ?_
      refine V_getR (pc' := 16) 5 0 dX5_get_13 rfl (by decide) (Nat.le_of_ble_eq_true rfl) bm_247 hs0 (fun _ _ _ => rfl) rfl hf (fun a_1 ha_1 hf => ?_)
      refine V_iload_n (pc' := 17) dX5_get_16 rfl 1 rfl rfl ?_
      refine V_iald (pc' := 18) dX5_get_17 rfl ha_1 hf (fun x_2 hf => ?_)
      refine V_goto (tgt := 22) dX5_get_18 (by decide) ?_
      obtain rfl := Option.some.inj hf
      exact V_iret dX5_get_22 rfl rfl rfl ⟨rfl, rfl, rfl⟩
    ·
      refine V_iconst (v := (-1)) (pc' := 22) dX5_get_21 rfl (by decide) ?_
      obtain rfl := Option.some.inj hf
      exact V_iret dX5_get_22 rfl rfl rfl ⟨rfl, rfl, rfl⟩
theorem ct_X5_get {l : Launch} {S : List SHP} {h : MH} {a0 : Nat} {x1 : Int32} (hs0 : S[a0]? = some (.inl 5)) {q : Int32 × MH} (hf : f_X5_get a0 x1 h = some q) : CT l mX5_get 3 false 0 0 S [.ref a0, .int x1] h (QI S q) :=
  CT_ofV (by decide) rfl (Nat.le_of_ble_eq_true rfl) (fun G B hT => v_X5_get hs0 hf)
/-! LabelStacks$Rows.emptyAll()V -/
theorem dX6_emptyAll_0 : decode cX6_emptyAll 0 = .ok (.aload_n 0, 1) := by decide +kernel
theorem dX6_emptyAll_1 : decode cX6_emptyAll 1 = .ok (.getfield 21, 3) := by decide +kernel
theorem dX6_emptyAll_4 : decode cX6_emptyAll 4 = .ok (.iconst 0, 1) := by decide +kernel
theorem dX6_emptyAll_5 : decode cX6_emptyAll 5 = .ok (.invokestatic 52, 3) := by decide +kernel
theorem dX6_emptyAll_8 : decode cX6_emptyAll 8 = .ok (.return_, 1) := by decide +kernel
abbrev mX6_emptyAll : MI := (RX6, yX6_emptyAll, cX6_emptyAll, 1, none)
theorem mok_X6_emptyAll : MOKv mX6_emptyAll 0 := ⟨⟨bm_557, bm_119, ⟨by decide, by decide⟩, by decide +kernel⟩, bm_555, bm_556⟩
def f_X6_emptyAll   (a0 : Nat) (h : MH) : Option (MH) :=
  (gR h a0 1).bind fun a_1 =>
  (f_J7_fill_53178 a_1 0 h).bind fun q_2 =>
  some q_2
set_option maxRecDepth 100000 in
set_option maxHeartbeats 4000000 in
theorem v_X6_emptyAll {l : Launch} {G : GE} {B N : Nat} {S : List SHP} {o : MH} {a0 : Nat}    (hs0 : S[a0]? = some (.inl 6)) {h : MH} (hf : f_X6_emptyAll a0 h = some o) : V l G B N mX6_emptyAll (rmm 4 0 0) false 0 0 (QV S o) S 0 0 0 [(0, .ref a0)] [] h := by
  unfold f_X6_emptyAll at hf
  refine V_aload_n (pc' := 1) dX6_emptyAll_0 rfl 0 rfl rfl ?_
  refine V_getR (pc' := 4) 6 1 dX6_emptyAll_1 rfl (by decide) (Nat.le_of_ble_eq_true rfl) bm_171 hs0 (fun _ _ _ => rfl) rfl hf (fun a_1 ha_1 hf => ?_)
  refine V_iconst (v := 0) (pc' := 5) dX6_emptyAll_4 rfl (by decide) ?_
  refine V_csV (pc' := 8) (As := [.ref a_1, .int 0]) (rest := []) dX6_emptyAll_5 rfl mok_J7_fill_53178 bm_558 rfl rfl (Nat.le_of_ble_eq_true rfl) (by decide) hf (fun q e => ct_J7_fill_53178 ha_1 e) (fun q_2 hf => ?_)
  obtain rfl := Option.some.inj hf
  exact V_vret dX6_emptyAll_8 rfl rfl rfl ⟨rfl, rfl, rfl⟩
theorem ct_X6_emptyAll {l : Launch} {S : List SHP} {h : MH} {a0 : Nat} (hs0 : S[a0]? = some (.inl 6)) {q : MH} (hf : f_X6_emptyAll a0 h = some q) : CT l mX6_emptyAll 4 false 0 0 S [.ref a0] h (QV S q) :=
  CT_ofV (by decide) rfl (Nat.le_of_ble_eq_true rfl) (fun G B hT => v_X6_emptyAll hs0 hf)
/-! LabelStacks$Rows.sizeOf(I)I -/
theorem dX6_sizeOf_0 : decode cX6_sizeOf 0 = .ok (.iload_n 1, 1) := by decide +kernel
theorem dX6_sizeOf_1 : decode cX6_sizeOf 1 = .ok (.ifCond .lt 21, 3) := by decide +kernel
theorem dX6_sizeOf_4 : decode cX6_sizeOf 4 = .ok (.iload_n 1, 1) := by decide +kernel
theorem dX6_sizeOf_5 : decode cX6_sizeOf 5 = .ok (.aload_n 0, 1) := by decide +kernel
theorem dX6_sizeOf_6 : decode cX6_sizeOf 6 = .ok (.getfield 21, 3) := by decide +kernel
theorem dX6_sizeOf_9 : decode cX6_sizeOf 9 = .ok (.arraylength, 1) := by decide +kernel
theorem dX6_sizeOf_10 : decode cX6_sizeOf 10 = .ok (.if_icmp .ge 12, 3) := by decide +kernel
theorem dX6_sizeOf_13 : decode cX6_sizeOf 13 = .ok (.aload_n 0, 1) := by decide +kernel
theorem dX6_sizeOf_14 : decode cX6_sizeOf 14 = .ok (.getfield 21, 3) := by decide +kernel
theorem dX6_sizeOf_17 : decode cX6_sizeOf 17 = .ok (.iload_n 1, 1) := by decide +kernel
theorem dX6_sizeOf_18 : decode cX6_sizeOf 18 = .ok (.iaload, 1) := by decide +kernel
theorem dX6_sizeOf_19 : decode cX6_sizeOf 19 = .ok (.goto 4, 3) := by decide +kernel
theorem dX6_sizeOf_22 : decode cX6_sizeOf 22 = .ok (.iconst 0, 1) := by decide +kernel
theorem dX6_sizeOf_23 : decode cX6_sizeOf 23 = .ok (.ireturn, 1) := by decide +kernel
abbrev mX6_sizeOf : MI := (RX6, yX6_sizeOf, cX6_sizeOf, 2, (some .int))
theorem mok_X6_sizeOf : MOKv mX6_sizeOf 1 := ⟨⟨bm_759, bm_119, ⟨by decide, by decide⟩, by decide +kernel⟩, bm_757, bm_758⟩
def f_X6_sizeOf   (a0 : Nat) (x1 : Int32) (h : MH) : Option (Int32 × MH) :=
  if x1 < 0 then
    some (0, h)
  else
    (gR h a0 1).bind fun a_1 =>
    if x1 < (Int32.ofNat (gN h a_1)) then
      (gR h a0 1).bind fun a_2 =>
      (ldI h a_2 x1).bind fun x_3 =>
      some (x_3, h)
    else
      some (0, h)
set_option maxRecDepth 100000 in
set_option maxHeartbeats 4000000 in
theorem v_X6_sizeOf {l : Launch} {G : GE} {B N : Nat} {S : List SHP} {o : Int32 × MH} {a0 : Nat} {x1 : Int32}    (hs0 : S[a0]? = some (.inl 6)) {h : MH} (hf : f_X6_sizeOf a0 x1 h = some o) : V l G B N mX6_sizeOf (rmm 3 0 0) false 0 0 (QI S o) S 0 0 0 [(0, .ref a0), (1, .int x1)] [] h := by
  unfold f_X6_sizeOf at hf
  refine V_iload_n (pc' := 1) dX6_sizeOf_0 rfl 1 rfl rfl ?_
  refine V_if_lt (tgt := 22) (pc' := 4) dX6_sizeOf_1 (by decide) rfl hf (fun hf => ?_) (fun hf => ?_)
  ·
    refine V_iconst (v := 0) (pc' := 23) dX6_sizeOf_22 rfl (by decide) ?_
    obtain rfl := Option.some.inj hf
    exact V_iret dX6_sizeOf_23 rfl rfl rfl ⟨rfl, rfl, rfl⟩
  ·
    refine V_iload_n (pc' := 5) dX6_sizeOf_4 rfl 1 rfl rfl ?_
    refine V_aload_n (pc' := 6) dX6_sizeOf_5 rfl 0 rfl rfl ?_
    refine V_getR (pc' := 9) 6 1 dX6_sizeOf_6 rfl (by decide) (Nat.le_of_ble_eq_true rfl) bm_171 hs0 (fun _ _ _ => rfl) rfl hf (fun a_1 ha_1 hf => ?_)
    refine V_alen (pc' := 10) dX6_sizeOf_9 rfl ha_1 (by decide) ?_
    refine V_icmp_ge (tgt := 22) (pc' := 13) dX6_sizeOf_10 (by decide) rfl hf (fun hf => ?_) (fun hf => ?_)
    ·
      refine V_aload_n (pc' := 14) dX6_sizeOf_13 rfl 0 rfl rfl ?_
      refine V_getR (pc' := 17) 6 1 dX6_sizeOf_14 rfl (by decide) (Nat.le_of_ble_eq_true rfl) bm_171 hs0 (fun _ _ _ => rfl) rfl hf (fun a_2 ha_2 hf => ?_)
      refine V_iload_n (pc' := 18) dX6_sizeOf_17 rfl 1 rfl rfl ?_
      refine V_iald (pc' := 19) dX6_sizeOf_18 rfl ha_2 hf (fun x_3 hf => ?_)
      refine V_goto (tgt := 23) dX6_sizeOf_19 (by decide) ?_
      obtain rfl := Option.some.inj hf
      exact V_iret dX6_sizeOf_23 rfl rfl rfl ⟨rfl, rfl, rfl⟩
    ·
      refine V_iconst (v := 0) (pc' := 23) dX6_sizeOf_22 rfl (by decide) ?_
      obtain rfl := Option.some.inj hf
      exact V_iret dX6_sizeOf_23 rfl rfl rfl ⟨rfl, rfl, rfl⟩
theorem ct_X6_sizeOf {l : Launch} {S : List SHP} {h : MH} {a0 : Nat} {x1 : Int32} (hs0 : S[a0]? = some (.inl 6)) {q : Int32 × MH} (hf : f_X6_sizeOf a0 x1 h = some q) : CT l mX6_sizeOf 3 false 0 0 S [.ref a0, .int x1] h (QI S q) :=
  CT_ofV (by decide) rfl (Nat.le_of_ble_eq_true rfl) (fun G B hT => v_X6_sizeOf hs0 hf)
/-! LabelStacks$Rows.get(II)I -/
theorem dX6_get_0 : decode cX6_get 0 = .ok (.iload_n 2, 1) := by decide +kernel
theorem dX6_get_1 : decode cX6_get 1 = .ok (.ifCond .lt 28, 3) := by decide +kernel
theorem dX6_get_4 : decode cX6_get 4 = .ok (.iload_n 2, 1) := by decide +kernel
theorem dX6_get_5 : decode cX6_get 5 = .ok (.aload_n 0, 1) := by decide +kernel
theorem dX6_get_6 : decode cX6_get 6 = .ok (.iload_n 1, 1) := by decide +kernel
theorem dX6_get_7 : decode cX6_get 7 = .ok (.invokevirtual 28, 3) := by decide +kernel
theorem dX6_get_10 : decode cX6_get 10 = .ok (.if_icmp .ge 19, 3) := by decide +kernel
theorem dX6_get_13 : decode cX6_get 13 = .ok (.aload_n 0, 1) := by decide +kernel
theorem dX6_get_14 : decode cX6_get 14 = .ok (.getfield 25, 3) := by decide +kernel
theorem dX6_get_17 : decode cX6_get 17 = .ok (.iload_n 1, 1) := by decide +kernel
theorem dX6_get_18 : decode cX6_get 18 = .ok (.aload_n 0, 1) := by decide +kernel
theorem dX6_get_19 : decode cX6_get 19 = .ok (.getfield 15, 3) := by decide +kernel
theorem dX6_get_22 : decode cX6_get 22 = .ok (.imul, 1) := by decide +kernel
theorem dX6_get_23 : decode cX6_get 23 = .ok (.iload_n 2, 1) := by decide +kernel
theorem dX6_get_24 : decode cX6_get 24 = .ok (.iadd, 1) := by decide +kernel
theorem dX6_get_25 : decode cX6_get 25 = .ok (.iaload, 1) := by decide +kernel
theorem dX6_get_26 : decode cX6_get 26 = .ok (.goto 4, 3) := by decide +kernel
theorem dX6_get_29 : decode cX6_get 29 = .ok (.iconst (-1), 1) := by decide +kernel
theorem dX6_get_30 : decode cX6_get 30 = .ok (.ireturn, 1) := by decide +kernel
abbrev mX6_get : MI := (RX6, yX6_get, cX6_get, 3, (some .int))
theorem mok_X6_get : MOKv mX6_get 2 := ⟨⟨bm_755, bm_119, ⟨by decide, by decide⟩, by decide +kernel⟩, bm_753, bm_754⟩
def f_X6_get   (a0 : Nat) (x1 : Int32) (x2 : Int32) (h : MH) : Option (Int32 × MH) :=
  if x2 < 0 then
    some ((-1 : Int32), h)
  else
    (f_X6_sizeOf a0 x1 h).bind fun q_1 =>
    if x2 < q_1.1 then
      (gR q_1.2 a0 2).bind fun a_2 =>
      (ldI q_1.2 a_2 ((x1 * (gI q_1.2 a0 0)) + x2)).bind fun x_3 =>
      some (x_3, q_1.2)
    else
      some ((-1 : Int32), q_1.2)
set_option maxRecDepth 100000 in
set_option maxHeartbeats 4000000 in
theorem v_X6_get {l : Launch} {G : GE} {B N : Nat} {S : List SHP} {o : Int32 × MH} {a0 : Nat} {x1 : Int32} {x2 : Int32}    (hs0 : S[a0]? = some (.inl 6)) {h : MH} (hf : f_X6_get a0 x1 x2 h = some o) : V l G B N mX6_get (rmm 4 0 0) false 0 0 (QI S o) S 0 0 0 [(0, .ref a0), (1, .int x1), (2, .int x2)] [] h := by
  unfold f_X6_get at hf
  refine V_iload_n (pc' := 1) dX6_get_0 rfl 2 rfl rfl ?_
  refine V_if_lt (tgt := 29) (pc' := 4) dX6_get_1 (by decide) rfl hf (fun hf => ?_) (fun hf => ?_)
  ·
    refine V_iconst (v := (-1)) (pc' := 30) dX6_get_29 rfl (by decide) ?_
    obtain rfl := Option.some.inj hf
    exact V_iret dX6_get_30 rfl rfl rfl ⟨rfl, rfl, rfl⟩
  ·
    refine V_iload_n (pc' := 5) dX6_get_4 rfl 2 rfl rfl ?_
    refine V_aload_n (pc' := 6) dX6_get_5 rfl 0 rfl rfl ?_
    refine V_iload_n (pc' := 7) dX6_get_6 rfl 1 rfl rfl ?_
    refine V_cvI (pc' := 10) (As := [.int x1]) (rest := [.int x2]) dX6_get_7 rfl mok_X6_sizeOf bm_756 6 (by decide) rfl hs0 rfl rfl (Nat.le_of_ble_eq_true rfl) (by decide) hf (fun q e => ct_X6_sizeOf hs0 e) (fun q_1 hf => ?_)
    refine V_icmp_ge (tgt := 29) (pc' := 13) dX6_get_10 (by decide) rfl hf (fun hf => ?_) (fun hf => ?_)
    ·
      refine V_aload_n (pc' := 14) dX6_get_13 rfl 0 rfl rfl ?_
      refine V_getR (pc' := 17) 6 2 dX6_get_14 rfl (by decide) (Nat.le_of_ble_eq_true rfl) bm_174 hs0 (fun _ _ _ => rfl) rfl hf (fun a_2 ha_2 hf => ?_)
      refine V_iload_n (pc' := 18) dX6_get_17 rfl 1 rfl rfl ?_
      refine V_aload_n (pc' := 19) dX6_get_18 rfl 0 rfl rfl ?_
      refine V_getI (pc' := 22) 6 0 dX6_get_19 rfl (by decide) (Nat.le_of_ble_eq_true rfl) bm_170 hs0 (fun _ _ _ => rfl) ?_
      refine V_imul (pc' := 23) dX6_get_22 rfl ?_
      refine V_iload_n (pc' := 24) dX6_get_23 rfl 2 rfl rfl ?_
      refine V_iadd (pc' := 25) dX6_get_24 rfl ?_
      refine V_iald (pc' := 26) dX6_get_25 rfl ha_2 hf (fun x_3 hf => ?_)
      refine V_goto (tgt := 30) dX6_get_26 (by decide) ?_
      obtain rfl := Option.some.inj hf
      exact V_iret dX6_get_30 rfl rfl rfl ⟨rfl, rfl, rfl⟩
    ·
      refine V_iconst (v := (-1)) (pc' := 30) dX6_get_29 rfl (by decide) ?_
      obtain rfl := Option.some.inj hf
      exact V_iret dX6_get_30 rfl rfl rfl ⟨rfl, rfl, rfl⟩
theorem ct_X6_get {l : Launch} {S : List SHP} {h : MH} {a0 : Nat} {x1 : Int32} {x2 : Int32} (hs0 : S[a0]? = some (.inl 6)) {q : Int32 × MH} (hf : f_X6_get a0 x1 x2 h = some q) : CT l mX6_get 4 false 0 0 S [.ref a0, .int x1, .int x2] h (QI S q) :=
  CT_ofV (by decide) rfl (Nat.le_of_ble_eq_true rfl) (fun G B hT => v_X6_get hs0 hf)
/-! LabelStacks$Row.add(I)V -/
theorem dX5_add_0 : decode cX5_add 0 = .ok (.aload_n 0, 1) := by decide +kernel
theorem dX5_add_1 : decode cX5_add 1 = .ok (.getfield 21, 3) := by decide +kernel
theorem dX5_add_4 : decode cX5_add 4 = .ok (.aload_n 0, 1) := by decide +kernel
theorem dX5_add_5 : decode cX5_add 5 = .ok (.getfield 15, 3) := by decide +kernel
theorem dX5_add_8 : decode cX5_add 8 = .ok (.arraylength, 1) := by decide +kernel
theorem dX5_add_9 : decode cX5_add 9 = .ok (.if_icmp .ge 23, 3) := by decide +kernel
theorem dX5_add_12 : decode cX5_add 12 = .ok (.aload_n 0, 1) := by decide +kernel
theorem dX5_add_13 : decode cX5_add 13 = .ok (.getfield 15, 3) := by decide +kernel
theorem dX5_add_16 : decode cX5_add 16 = .ok (.aload_n 0, 1) := by decide +kernel
theorem dX5_add_17 : decode cX5_add 17 = .ok (.getfield 21, 3) := by decide +kernel
theorem dX5_add_20 : decode cX5_add 20 = .ok (.iload_n 1, 1) := by decide +kernel
theorem dX5_add_21 : decode cX5_add 21 = .ok (.iastore, 1) := by decide +kernel
theorem dX5_add_22 : decode cX5_add 22 = .ok (.aload_n 0, 1) := by decide +kernel
theorem dX5_add_23 : decode cX5_add 23 = .ok (.dup, 1) := by decide +kernel
theorem dX5_add_24 : decode cX5_add 24 = .ok (.getfield 21, 3) := by decide +kernel
theorem dX5_add_27 : decode cX5_add 27 = .ok (.iconst 1, 1) := by decide +kernel
theorem dX5_add_28 : decode cX5_add 28 = .ok (.iadd, 1) := by decide +kernel
theorem dX5_add_29 : decode cX5_add 29 = .ok (.putfield 21, 3) := by decide +kernel
theorem dX5_add_32 : decode cX5_add 32 = .ok (.return_, 1) := by decide +kernel
abbrev mX5_add : MI := (RX5, yX5_add, cX5_add, 2, none)
theorem mok_X5_add : MOKv mX5_add 1 := ⟨⟨bm_658, bm_120, ⟨by decide, by decide⟩, by decide +kernel⟩, bm_656, bm_657⟩
def f_X5_add   (a0 : Nat) (x1 : Int32) (h : MH) : Option (MH) :=
  (gR h a0 0).bind fun a_1 =>
  if (gI h a0 1) < (Int32.ofNat (gN h a_1)) then
    (gR h a0 0).bind fun a_2 =>
    (stI h a_2 (gI h a0 1) x1).bind fun h_3 =>
    lt (sI h_3 a0 1 ((gI h_3 a0 1) + 1)) fun h_4 =>
    some h_4
  else
    some h
set_option maxRecDepth 100000 in
set_option maxHeartbeats 4000000 in
theorem v_X5_add {l : Launch} {G : GE} {B N : Nat} {S : List SHP} {o : MH} {a0 : Nat} {x1 : Int32}    (hs0 : S[a0]? = some (.inl 5)) {h : MH} (hf : f_X5_add a0 x1 h = some o) : V l G B N mX5_add (rmm 3 0 0) false 0 0 (QV S o) S 0 0 0 [(0, .ref a0), (1, .int x1)] [] h := by
  unfold f_X5_add at hf
  refine V_aload_n (pc' := 1) dX5_add_0 rfl 0 rfl rfl ?_
  refine V_getI (pc' := 4) 5 1 dX5_add_1 rfl (by decide) (Nat.le_of_ble_eq_true rfl) bm_250 hs0 (fun _ _ _ => rfl) ?_
  refine V_aload_n (pc' := 5) dX5_add_4 rfl 0 rfl rfl ?_
  refine V_getR (pc' := 8) 5 0 dX5_add_5 rfl (by decide) (Nat.le_of_ble_eq_true rfl) bm_247 hs0 (fun _ _ _ => rfl) rfl hf (fun a_1 ha_1 hf => ?_)
  refine V_alen (pc' := 9) dX5_add_8 rfl ha_1 (by decide) ?_
  refine V_icmp_ge (tgt := 32) (pc' := 12) dX5_add_9 (by decide) rfl hf (fun hf => ?_) (fun hf => ?_)
  ·
    refine V_aload_n (pc' := 13) dX5_add_12 rfl 0 rfl rfl ?_
    refine V_getR (pc' := 16) 5 0 dX5_add_13 rfl (by decide) (Nat.le_of_ble_eq_true rfl) bm_247 hs0 (fun _ _ _ => rfl) rfl hf (fun a_2 ha_2 hf => ?_)
    refine V_aload_n (pc' := 17) dX5_add_16 rfl 0 rfl rfl ?_
    refine V_getI (pc' := 20) 5 1 dX5_add_17 rfl (by decide) (Nat.le_of_ble_eq_true rfl) bm_250 hs0 (fun _ _ _ => rfl) ?_
    refine V_iload_n (pc' := 21) dX5_add_20 rfl 1 rfl rfl ?_
    refine V_iast (pc' := 22) dX5_add_21 rfl ha_2 hf (fun h_3 hf => ?_)
    refine V_aload_n (pc' := 23) dX5_add_22 rfl 0 rfl rfl ?_
    refine V_dup (pc' := 24) dX5_add_23 rfl rfl ?_
    refine V_getI (pc' := 27) 5 1 dX5_add_24 rfl (by decide) (Nat.le_of_ble_eq_true rfl) bm_250 hs0 (fun _ _ _ => rfl) ?_
    refine V_iconst (v := 1) (pc' := 28) dX5_add_27 rfl (by decide) ?_
    refine V_iadd (pc' := 29) dX5_add_28 rfl ?_
    refine V_putI (pc' := 32) 5 1 dX5_add_29 rfl (by decide) (Nat.le_of_ble_eq_true rfl) bm_250 hs0 (Or.inl rfl) rfl ?_
    refine V_nmH hf (fun h_4 hf => ?_)
    obtain rfl := Option.some.inj hf
    exact V_vret dX5_add_32 rfl rfl rfl ⟨rfl, rfl, rfl⟩
  ·
    obtain rfl := Option.some.inj hf
    exact V_vret dX5_add_32 rfl rfl rfl ⟨rfl, rfl, rfl⟩
theorem ct_X5_add {l : Launch} {S : List SHP} {h : MH} {a0 : Nat} {x1 : Int32} (hs0 : S[a0]? = some (.inl 5)) {q : MH} (hf : f_X5_add a0 x1 h = some q) : CT l mX5_add 3 false 0 0 S [.ref a0, .int x1] h (QV S q) :=
  CT_ofV (by decide) rfl (Nat.le_of_ble_eq_true rfl) (fun G B hT => v_X5_add hs0 hf)
/-! LabelStacks$Row.isFull()Z -/
theorem dX5_isFull_0 : decode cX5_isFull 0 = .ok (.aload_n 0, 1) := by decide +kernel
theorem dX5_isFull_1 : decode cX5_isFull 1 = .ok (.getfield 21, 3) := by decide +kernel
theorem dX5_isFull_4 : decode cX5_isFull 4 = .ok (.aload_n 0, 1) := by decide +kernel
theorem dX5_isFull_5 : decode cX5_isFull 5 = .ok (.getfield 15, 3) := by decide +kernel
theorem dX5_isFull_8 : decode cX5_isFull 8 = .ok (.arraylength, 1) := by decide +kernel
theorem dX5_isFull_9 : decode cX5_isFull 9 = .ok (.if_icmp .lt 7, 3) := by decide +kernel
theorem dX5_isFull_12 : decode cX5_isFull 12 = .ok (.iconst 1, 1) := by decide +kernel
theorem dX5_isFull_13 : decode cX5_isFull 13 = .ok (.goto 4, 3) := by decide +kernel
theorem dX5_isFull_16 : decode cX5_isFull 16 = .ok (.iconst 0, 1) := by decide +kernel
theorem dX5_isFull_17 : decode cX5_isFull 17 = .ok (.ireturn, 1) := by decide +kernel
abbrev mX5_isFull : MI := (RX5, yX5_isFull, cX5_isFull, 1, (some .boolean))
theorem mok_X5_isFull : MOKv mX5_isFull 0 := ⟨⟨bm_646, bm_120, ⟨by decide, by decide⟩, by decide +kernel⟩, bm_644, bm_645⟩
def f_X5_isFull   (a0 : Nat) (h : MH) : Option (Int32 × MH) :=
  (gR h a0 0).bind fun a_1 =>
  if (gI h a0 1) < (Int32.ofNat (gN h a_1)) then
    some (0, h)
  else
    some (1, h)
set_option maxRecDepth 100000 in
set_option maxHeartbeats 4000000 in
theorem v_X5_isFull {l : Launch} {G : GE} {B N : Nat} {S : List SHP} {o : Int32 × MH} {a0 : Nat}    (hs0 : S[a0]? = some (.inl 5)) {h : MH} (hf : f_X5_isFull a0 h = some o) : V l G B N mX5_isFull (rmm 3 0 0) false 0 0 (QI S o) S 0 0 0 [(0, .ref a0)] [] h := by
  unfold f_X5_isFull at hf
  refine V_aload_n (pc' := 1) dX5_isFull_0 rfl 0 rfl rfl ?_
  refine V_getI (pc' := 4) 5 1 dX5_isFull_1 rfl (by decide) (Nat.le_of_ble_eq_true rfl) bm_250 hs0 (fun _ _ _ => rfl) ?_
  refine V_aload_n (pc' := 5) dX5_isFull_4 rfl 0 rfl rfl ?_
  refine V_getR (pc' := 8) 5 0 dX5_isFull_5 rfl (by decide) (Nat.le_of_ble_eq_true rfl) bm_247 hs0 (fun _ _ _ => rfl) rfl hf (fun a_1 ha_1 hf => ?_)
  refine V_alen (pc' := 9) dX5_isFull_8 rfl ha_1 (by decide) ?_
  refine V_icmp_lt (tgt := 16) (pc' := 12) dX5_isFull_9 (by decide) rfl hf (fun hf => ?_) (fun hf => ?_)
  ·
    refine V_iconst (v := 0) (pc' := 17) dX5_isFull_16 rfl (by decide) ?_
    obtain rfl := Option.some.inj hf
    exact V_zretL dX5_isFull_17 rfl rfl rfl (by decide) ⟨rfl, rfl, rfl⟩
  ·
    refine V_iconst (v := 1) (pc' := 13) dX5_isFull_12 rfl (by decide) ?_
    refine V_goto (tgt := 17) dX5_isFull_13 (by decide) ?_
    obtain rfl := Option.some.inj hf
    exact V_zretL dX5_isFull_17 rfl rfl rfl (by decide) ⟨rfl, rfl, rfl⟩
theorem ct_X5_isFull {l : Launch} {S : List SHP} {h : MH} {a0 : Nat} (hs0 : S[a0]? = some (.inl 5)) {q : Int32 × MH} (hf : f_X5_isFull a0 h = some q) : CT l mX5_isFull 3 false 0 0 S [.ref a0] h (QI S q) :=
  CT_ofV (by decide) rfl (Nat.le_of_ble_eq_true rfl) (fun G B hT => v_X5_isFull hs0 hf)
/-! LabelStacks$Row.dropFirst(I)V -/
theorem dX5_dropFirst_0 : decode cX5_dropFirst 0 = .ok (.aload_n 0, 1) := by decide +kernel
theorem dX5_dropFirst_1 : decode cX5_dropFirst 1 = .ok (.getfield 21, 3) := by decide +kernel
theorem dX5_dropFirst_4 : decode cX5_dropFirst 4 = .ok (.iload_n 1, 1) := by decide +kernel
theorem dX5_dropFirst_5 : decode cX5_dropFirst 5 = .ok (.isub, 1) := by decide +kernel
theorem dX5_dropFirst_6 : decode cX5_dropFirst 6 = .ok (.istore_n 2, 1) := by decide +kernel
theorem dX5_dropFirst_7 : decode cX5_dropFirst 7 = .ok (.iload_n 1, 1) := by decide +kernel
theorem dX5_dropFirst_8 : decode cX5_dropFirst 8 = .ok (.ifCond .lt 7, 3) := by decide +kernel
theorem dX5_dropFirst_11 : decode cX5_dropFirst 11 = .ok (.iload_n 2, 1) := by decide +kernel
theorem dX5_dropFirst_12 : decode cX5_dropFirst 12 = .ok (.ifCond .ge 4, 3) := by decide +kernel
theorem dX5_dropFirst_15 : decode cX5_dropFirst 15 = .ok (.return_, 1) := by decide +kernel
theorem dX5_dropFirst_16 : decode cX5_dropFirst 16 = .ok (.aload_n 0, 1) := by decide +kernel
theorem dX5_dropFirst_17 : decode cX5_dropFirst 17 = .ok (.getfield 15, 3) := by decide +kernel
theorem dX5_dropFirst_20 : decode cX5_dropFirst 20 = .ok (.iload_n 1, 1) := by decide +kernel
theorem dX5_dropFirst_21 : decode cX5_dropFirst 21 = .ok (.aload_n 0, 1) := by decide +kernel
theorem dX5_dropFirst_22 : decode cX5_dropFirst 22 = .ok (.getfield 15, 3) := by decide +kernel
theorem dX5_dropFirst_25 : decode cX5_dropFirst 25 = .ok (.iconst 0, 1) := by decide +kernel
theorem dX5_dropFirst_26 : decode cX5_dropFirst 26 = .ok (.iload_n 2, 1) := by decide +kernel
theorem dX5_dropFirst_27 : decode cX5_dropFirst 27 = .ok (.invokestatic 25, 3) := by decide +kernel
theorem dX5_dropFirst_30 : decode cX5_dropFirst 30 = .ok (.aload_n 0, 1) := by decide +kernel
theorem dX5_dropFirst_31 : decode cX5_dropFirst 31 = .ok (.iload_n 2, 1) := by decide +kernel
theorem dX5_dropFirst_32 : decode cX5_dropFirst 32 = .ok (.putfield 21, 3) := by decide +kernel
theorem dX5_dropFirst_35 : decode cX5_dropFirst 35 = .ok (.return_, 1) := by decide +kernel
abbrev mX5_dropFirst : MI := (RX5, yX5_dropFirst, cX5_dropFirst, 3, none)
theorem mok_X5_dropFirst : MOKv mX5_dropFirst 1 := ⟨⟨bm_677, bm_120, ⟨by decide, by decide⟩, by decide +kernel⟩, bm_675, bm_676⟩
def f_X5_dropFirst   (a0 : Nat) (x1 : Int32) (h : MH) : Option (MH) :=
  lt ((gI h a0 1) - x1) fun x_1 =>
  if x1 < 0 then
    some h
  else
    if x_1 < 0 then
      some h
    else
      (gR h a0 0).bind fun a_2 =>
      (gR h a0 0).bind fun a_3 =>
      (cpI h a_2 x1 a_3 0 x_1).bind fun h_4 =>
      lt (sI h_4 a0 1 x_1) fun h_5 =>
      some h_5
set_option maxRecDepth 100000 in
set_option maxHeartbeats 4000000 in
theorem v_X5_dropFirst {l : Launch} {G : GE} {B N : Nat} {S : List SHP} {o : MH} {a0 : Nat} {x1 : Int32}    (hs0 : S[a0]? = some (.inl 5)) {h : MH} (hf : f_X5_dropFirst a0 x1 h = some o) : V l G B N mX5_dropFirst (rmm 3 0 0) false 0 0 (QV S o) S 0 0 0 [(0, .ref a0), (1, .int x1)] [] h := by
  unfold f_X5_dropFirst at hf
  refine V_aload_n (pc' := 1) dX5_dropFirst_0 rfl 0 rfl rfl ?_
  refine V_getI (pc' := 4) 5 1 dX5_dropFirst_1 rfl (by decide) (Nat.le_of_ble_eq_true rfl) bm_250 hs0 (fun _ _ _ => rfl) ?_
  refine V_iload_n (pc' := 5) dX5_dropFirst_4 rfl 1 rfl rfl ?_
  refine V_isub (pc' := 6) dX5_dropFirst_5 rfl ?_
  refine V_nmI hf (fun x_1 hf => ?_)
  refine V_istore_n (lv' := [(2, .int x_1), (0, .ref a0), (1, .int x1)]) (pc' := 7) dX5_dropFirst_6 rfl rfl (Nat.le_of_ble_eq_true rfl) rfl ?_
  refine V_iload_n (pc' := 8) dX5_dropFirst_7 rfl 2 rfl rfl ?_
  refine V_if_lt (tgt := 15) (pc' := 11) dX5_dropFirst_8 (by decide) rfl hf (fun hf => ?_) (fun hf => ?_)
  ·
    obtain rfl := Option.some.inj hf
    exact V_vret dX5_dropFirst_15 rfl rfl rfl ⟨rfl, rfl, rfl⟩
  ·
    refine V_iload_n (pc' := 12) dX5_dropFirst_11 rfl 0 rfl rfl ?_
    refine V_if_ge (tgt := 16) (pc' := 15) dX5_dropFirst_12 (by decide) rfl hf (fun hf => ?_) (fun hf => ?_)
    ·
      obtain rfl := Option.some.inj hf
      exact V_vret dX5_dropFirst_15 rfl rfl rfl ⟨rfl, rfl, rfl⟩
    ·
      refine V_aload_n (pc' := 17) dX5_dropFirst_16 rfl 1 rfl rfl ?_
      refine V_getR (pc' := 20) 5 0 dX5_dropFirst_17 rfl (by decide) (Nat.le_of_ble_eq_true rfl) bm_247 hs0 (fun _ _ _ => rfl) rfl hf (fun a_2 ha_2 hf => ?_)
      refine V_iload_n (pc' := 21) dX5_dropFirst_20 rfl 2 rfl rfl ?_
      refine V_aload_n (pc' := 22) dX5_dropFirst_21 rfl 1 rfl rfl ?_
      refine V_getR (pc' := 25) 5 0 dX5_dropFirst_22 rfl (by decide) (Nat.le_of_ble_eq_true rfl) bm_247 hs0 (fun _ _ _ => rfl) rfl hf (fun a_3 ha_3 hf => ?_)
      refine V_iconst (v := 0) (pc' := 26) dX5_dropFirst_25 rfl (by decide) ?_
      refine V_iload_n (pc' := 27) dX5_dropFirst_26 rfl 0 rfl rfl ?_
      refine V_cpI (pc' := 30) dX5_dropFirst_27 rfl bm_548 ha_2 ha_3 (Nat.le_of_ble_eq_true rfl) (by decide) hf (fun h_4 hf => ?_)
      refine V_aload_n (pc' := 31) dX5_dropFirst_30 rfl 1 rfl rfl ?_
      refine V_iload_n (pc' := 32) dX5_dropFirst_31 rfl 0 rfl rfl ?_
      refine V_putI (pc' := 35) 5 1 dX5_dropFirst_32 rfl (by decide) (Nat.le_of_ble_eq_true rfl) bm_250 hs0 (Or.inl rfl) rfl ?_
      refine V_nmH hf (fun h_5 hf => ?_)
      obtain rfl := Option.some.inj hf
      exact V_vret dX5_dropFirst_35 rfl rfl rfl ⟨rfl, rfl, rfl⟩
theorem ct_X5_dropFirst {l : Launch} {S : List SHP} {h : MH} {a0 : Nat} {x1 : Int32} (hs0 : S[a0]? = some (.inl 5)) {q : MH} (hf : f_X5_dropFirst a0 x1 h = some q) : CT l mX5_dropFirst 3 false 0 0 S [.ref a0, .int x1] h (QV S q) :=
  CT_ofV (by decide) rfl (Nat.le_of_ble_eq_true rfl) (fun G B hT => v_X5_dropFirst hs0 hf)
/-! LabelStacks$Rows.empty(I)V -/
theorem dX6_empty_0 : decode cX6_empty 0 = .ok (.iload_n 1, 1) := by decide +kernel
theorem dX6_empty_1 : decode cX6_empty 1 = .ok (.ifCond .lt 19, 3) := by decide +kernel
theorem dX6_empty_4 : decode cX6_empty 4 = .ok (.iload_n 1, 1) := by decide +kernel
theorem dX6_empty_5 : decode cX6_empty 5 = .ok (.aload_n 0, 1) := by decide +kernel
theorem dX6_empty_6 : decode cX6_empty 6 = .ok (.getfield 21, 3) := by decide +kernel
theorem dX6_empty_9 : decode cX6_empty 9 = .ok (.arraylength, 1) := by decide +kernel
theorem dX6_empty_10 : decode cX6_empty 10 = .ok (.if_icmp .ge 10, 3) := by decide +kernel
theorem dX6_empty_13 : decode cX6_empty 13 = .ok (.aload_n 0, 1) := by decide +kernel
theorem dX6_empty_14 : decode cX6_empty 14 = .ok (.getfield 21, 3) := by decide +kernel
theorem dX6_empty_17 : decode cX6_empty 17 = .ok (.iload_n 1, 1) := by decide +kernel
theorem dX6_empty_18 : decode cX6_empty 18 = .ok (.iconst 0, 1) := by decide +kernel
theorem dX6_empty_19 : decode cX6_empty 19 = .ok (.iastore, 1) := by decide +kernel
theorem dX6_empty_20 : decode cX6_empty 20 = .ok (.return_, 1) := by decide +kernel
abbrev mX6_empty : MI := (RX6, yX6_empty, cX6_empty, 2, none)
theorem mok_X6_empty : MOKv mX6_empty 1 := ⟨⟨bm_624, bm_119, ⟨by decide, by decide⟩, by decide +kernel⟩, bm_622, bm_623⟩
def f_X6_empty   (a0 : Nat) (x1 : Int32) (h : MH) : Option (MH) :=
  if x1 < 0 then
    some h
  else
    (gR h a0 1).bind fun a_1 =>
    if x1 < (Int32.ofNat (gN h a_1)) then
      (gR h a0 1).bind fun a_2 =>
      (stI h a_2 x1 0).bind fun h_3 =>
      some h_3
    else
      some h
set_option maxRecDepth 100000 in
set_option maxHeartbeats 4000000 in
theorem v_X6_empty {l : Launch} {G : GE} {B N : Nat} {S : List SHP} {o : MH} {a0 : Nat} {x1 : Int32}    (hs0 : S[a0]? = some (.inl 6)) {h : MH} (hf : f_X6_empty a0 x1 h = some o) : V l G B N mX6_empty (rmm 3 0 0) false 0 0 (QV S o) S 0 0 0 [(0, .ref a0), (1, .int x1)] [] h := by
  unfold f_X6_empty at hf
  refine V_iload_n (pc' := 1) dX6_empty_0 rfl 1 rfl rfl ?_
  refine V_if_lt (tgt := 20) (pc' := 4) dX6_empty_1 (by decide) rfl hf (fun hf => ?_) (fun hf => ?_)
  ·
    obtain rfl := Option.some.inj hf
    exact V_vret dX6_empty_20 rfl rfl rfl ⟨rfl, rfl, rfl⟩
  ·
    refine V_iload_n (pc' := 5) dX6_empty_4 rfl 1 rfl rfl ?_
    refine V_aload_n (pc' := 6) dX6_empty_5 rfl 0 rfl rfl ?_
    refine V_getR (pc' := 9) 6 1 dX6_empty_6 rfl (by decide) (Nat.le_of_ble_eq_true rfl) bm_171 hs0 (fun _ _ _ => rfl) rfl hf (fun a_1 ha_1 hf => ?_)
    refine V_alen (pc' := 10) dX6_empty_9 rfl ha_1 (by decide) ?_
    refine V_icmp_ge (tgt := 20) (pc' := 13) dX6_empty_10 (by decide) rfl hf (fun hf => ?_) (fun hf => ?_)
    ·
      refine V_aload_n (pc' := 14) dX6_empty_13 rfl 0 rfl rfl ?_
      refine V_getR (pc' := 17) 6 1 dX6_empty_14 rfl (by decide) (Nat.le_of_ble_eq_true rfl) bm_171 hs0 (fun _ _ _ => rfl) rfl hf (fun a_2 ha_2 hf => ?_)
      refine V_iload_n (pc' := 18) dX6_empty_17 rfl 1 rfl rfl ?_
      refine V_iconst (v := 0) (pc' := 19) dX6_empty_18 rfl (by decide) ?_
      refine V_iast (pc' := 20) dX6_empty_19 rfl ha_2 hf (fun h_3 hf => ?_)
      obtain rfl := Option.some.inj hf
      exact V_vret dX6_empty_20 rfl rfl rfl ⟨rfl, rfl, rfl⟩
    ·
      obtain rfl := Option.some.inj hf
      exact V_vret dX6_empty_20 rfl rfl rfl ⟨rfl, rfl, rfl⟩
theorem ct_X6_empty {l : Launch} {S : List SHP} {h : MH} {a0 : Nat} {x1 : Int32} (hs0 : S[a0]? = some (.inl 6)) {q : MH} (hf : f_X6_empty a0 x1 h = some q) : CT l mX6_empty 3 false 0 0 S [.ref a0, .int x1] h (QV S q) :=
  CT_ofV (by decide) rfl (Nat.le_of_ble_eq_true rfl) (fun G B hT => v_X6_empty hs0 hf)
/-! LabelStacks$Rows.add(II)V -/
theorem dX6_add_0 : decode cX6_add 0 = .ok (.iload_n 1, 1) := by decide +kernel
theorem dX6_add_1 : decode cX6_add 1 = .ok (.ifCond .lt 54, 3) := by decide +kernel
theorem dX6_add_4 : decode cX6_add 4 = .ok (.iload_n 1, 1) := by decide +kernel
theorem dX6_add_5 : decode cX6_add 5 = .ok (.aload_n 0, 1) := by decide +kernel
theorem dX6_add_6 : decode cX6_add 6 = .ok (.getfield 21, 3) := by decide +kernel
theorem dX6_add_9 : decode cX6_add 9 = .ok (.arraylength, 1) := by decide +kernel
theorem dX6_add_10 : decode cX6_add 10 = .ok (.if_icmp .ge 45, 3) := by decide +kernel
theorem dX6_add_13 : decode cX6_add 13 = .ok (.aload_n 0, 1) := by decide +kernel
theorem dX6_add_14 : decode cX6_add 14 = .ok (.getfield 21, 3) := by decide +kernel
theorem dX6_add_17 : decode cX6_add 17 = .ok (.iload_n 1, 1) := by decide +kernel
theorem dX6_add_18 : decode cX6_add 18 = .ok (.iaload, 1) := by decide +kernel
theorem dX6_add_19 : decode cX6_add 19 = .ok (.aload_n 0, 1) := by decide +kernel
theorem dX6_add_20 : decode cX6_add 20 = .ok (.getfield 15, 3) := by decide +kernel
theorem dX6_add_23 : decode cX6_add 23 = .ok (.if_icmp .ge 32, 3) := by decide +kernel
theorem dX6_add_26 : decode cX6_add 26 = .ok (.aload_n 0, 1) := by decide +kernel
theorem dX6_add_27 : decode cX6_add 27 = .ok (.getfield 25, 3) := by decide +kernel
theorem dX6_add_30 : decode cX6_add 30 = .ok (.iload_n 1, 1) := by decide +kernel
theorem dX6_add_31 : decode cX6_add 31 = .ok (.aload_n 0, 1) := by decide +kernel
theorem dX6_add_32 : decode cX6_add 32 = .ok (.getfield 15, 3) := by decide +kernel
theorem dX6_add_35 : decode cX6_add 35 = .ok (.imul, 1) := by decide +kernel
theorem dX6_add_36 : decode cX6_add 36 = .ok (.aload_n 0, 1) := by decide +kernel
theorem dX6_add_37 : decode cX6_add 37 = .ok (.getfield 21, 3) := by decide +kernel
theorem dX6_add_40 : decode cX6_add 40 = .ok (.iload_n 1, 1) := by decide +kernel
theorem dX6_add_41 : decode cX6_add 41 = .ok (.iaload, 1) := by decide +kernel
theorem dX6_add_42 : decode cX6_add 42 = .ok (.iadd, 1) := by decide +kernel
theorem dX6_add_43 : decode cX6_add 43 = .ok (.iload_n 2, 1) := by decide +kernel
theorem dX6_add_44 : decode cX6_add 44 = .ok (.iastore, 1) := by decide +kernel
theorem dX6_add_45 : decode cX6_add 45 = .ok (.aload_n 0, 1) := by decide +kernel
theorem dX6_add_46 : decode cX6_add 46 = .ok (.getfield 21, 3) := by decide +kernel
theorem dX6_add_49 : decode cX6_add 49 = .ok (.iload_n 1, 1) := by decide +kernel
theorem dX6_add_50 : decode cX6_add 50 = .ok (.dup2, 1) := by decide +kernel
theorem dX6_add_51 : decode cX6_add 51 = .ok (.iaload, 1) := by decide +kernel
theorem dX6_add_52 : decode cX6_add 52 = .ok (.iconst 1, 1) := by decide +kernel
theorem dX6_add_53 : decode cX6_add 53 = .ok (.iadd, 1) := by decide +kernel
theorem dX6_add_54 : decode cX6_add 54 = .ok (.iastore, 1) := by decide +kernel
theorem dX6_add_55 : decode cX6_add 55 = .ok (.return_, 1) := by decide +kernel
abbrev mX6_add : MI := (RX6, yX6_add, cX6_add, 3, none)
theorem mok_X6_add : MOKv mX6_add 2 := ⟨⟨bm_629, bm_119, ⟨by decide, by decide⟩, by decide +kernel⟩, bm_627, bm_628⟩
def f_X6_add   (a0 : Nat) (x1 : Int32) (x2 : Int32) (h : MH) : Option (MH) :=
  if x1 < 0 then
    some h
  else
    (gR h a0 1).bind fun a_1 =>
    if x1 < (Int32.ofNat (gN h a_1)) then
      (gR h a0 1).bind fun a_2 =>
      (ldI h a_2 x1).bind fun x_3 =>
      if x_3 < (gI h a0 0) then
        (gR h a0 2).bind fun a_4 =>
        (gR h a0 1).bind fun a_5 =>
        (ldI h a_5 x1).bind fun x_6 =>
        (stI h a_4 ((x1 * (gI h a0 0)) + x_6) x2).bind fun h_7 =>
        (gR h_7 a0 1).bind fun a_8 =>
        (ldI h_7 a_8 x1).bind fun x_9 =>
        (stI h_7 a_8 x1 (x_9 + 1)).bind fun h_10 =>
        some h_10
      else
        some h
    else
      some h
set_option maxRecDepth 100000 in
set_option maxHeartbeats 4000000 in
theorem v_X6_add {l : Launch} {G : GE} {B N : Nat} {S : List SHP} {o : MH} {a0 : Nat} {x1 : Int32} {x2 : Int32}    (hs0 : S[a0]? = some (.inl 6)) {h : MH} (hf : f_X6_add a0 x1 x2 h = some o) : V l G B N mX6_add (rmm 3 0 0) false 0 0 (QV S o) S 0 0 0 [(0, .ref a0), (1, .int x1), (2, .int x2)] [] h := by
  unfold f_X6_add at hf
  refine V_iload_n (pc' := 1) dX6_add_0 rfl 1 rfl rfl ?_
  refine V_if_lt (tgt := 55) (pc' := 4) dX6_add_1 (by decide) rfl hf (fun hf => ?_) (fun hf => ?_)
  ·
    obtain rfl := Option.some.inj hf
    exact V_vret dX6_add_55 rfl rfl rfl ⟨rfl, rfl, rfl⟩
  ·
    refine V_iload_n (pc' := 5) dX6_add_4 rfl 1 rfl rfl ?_
    refine V_aload_n (pc' := 6) dX6_add_5 rfl 0 rfl rfl ?_
    refine V_getR (pc' := 9) 6 1 dX6_add_6 rfl (by decide) (Nat.le_of_ble_eq_true rfl) bm_171 hs0 (fun _ _ _ => rfl) rfl hf (fun a_1 ha_1 hf => ?_)
    refine V_alen (pc' := 10) dX6_add_9 rfl ha_1 (by decide) ?_
    refine V_icmp_ge (tgt := 55) (pc' := 13) dX6_add_10 (by decide) rfl hf (fun hf => ?_) (fun hf => ?_)
    ·
      refine V_aload_n (pc' := 14) dX6_add_13 rfl 0 rfl rfl ?_
      refine V_getR (pc' := 17) 6 1 dX6_add_14 rfl (by decide) (Nat.le_of_ble_eq_true rfl) bm_171 hs0 (fun _ _ _ => rfl) rfl hf (fun a_2 ha_2 hf => ?_)
      refine V_iload_n (pc' := 18) dX6_add_17 rfl 1 rfl rfl ?_
      refine V_iald (pc' := 19) dX6_add_18 rfl ha_2 hf (fun x_3 hf => ?_)
      refine V_aload_n (pc' := 20) dX6_add_19 rfl 0 rfl rfl ?_
      refine V_getI (pc' := 23) 6 0 dX6_add_20 rfl (by decide) (Nat.le_of_ble_eq_true rfl) bm_170 hs0 (fun _ _ _ => rfl) ?_
      refine V_icmp_ge (tgt := 55) (pc' := 26) dX6_add_23 (by decide) rfl hf (fun hf => ?_) (fun hf => ?_)
      ·
        refine V_aload_n (pc' := 27) dX6_add_26 rfl 0 rfl rfl ?_
        refine V_getR (pc' := 30) 6 2 dX6_add_27 rfl (by decide) (Nat.le_of_ble_eq_true rfl) bm_174 hs0 (fun _ _ _ => rfl) rfl hf (fun a_4 ha_4 hf => ?_)
        refine V_iload_n (pc' := 31) dX6_add_30 rfl 1 rfl rfl ?_
        refine V_aload_n (pc' := 32) dX6_add_31 rfl 0 rfl rfl ?_
        refine V_getI (pc' := 35) 6 0 dX6_add_32 rfl (by decide) (Nat.le_of_ble_eq_true rfl) bm_170 hs0 (fun _ _ _ => rfl) ?_
        refine V_imul (pc' := 36) dX6_add_35 rfl ?_
        refine V_aload_n (pc' := 37) dX6_add_36 rfl 0 rfl rfl ?_
        refine V_getR (pc' := 40) 6 1 dX6_add_37 rfl (by decide) (Nat.le_of_ble_eq_true rfl) bm_171 hs0 (fun _ _ _ => rfl) rfl hf (fun a_5 ha_5 hf => ?_)
        refine V_iload_n (pc' := 41) dX6_add_40 rfl 1 rfl rfl ?_
        refine V_iald (pc' := 42) dX6_add_41 rfl ha_5 hf (fun x_6 hf => ?_)
        refine V_iadd (pc' := 43) dX6_add_42 rfl ?_
        refine V_iload_n (pc' := 44) dX6_add_43 rfl 2 rfl rfl ?_
        refine V_iast (pc' := 45) dX6_add_44 rfl ha_4 hf (fun h_7 hf => ?_)
        refine V_aload_n (pc' := 46) dX6_add_45 rfl 0 rfl rfl ?_
        refine V_getR (pc' := 49) 6 1 dX6_add_46 rfl (by decide) (Nat.le_of_ble_eq_true rfl) bm_171 hs0 (fun _ _ _ => rfl) rfl hf (fun a_8 ha_8 hf => ?_)
        refine V_iload_n (pc' := 50) dX6_add_49 rfl 1 rfl rfl ?_
        refine V_dup2 (pc' := 51) dX6_add_50 rfl rfl rfl ?_
        refine V_iald (pc' := 52) dX6_add_51 rfl ha_8 hf (fun x_9 hf => ?_)
        refine V_iconst (v := 1) (pc' := 53) dX6_add_52 rfl (by decide) ?_
        refine V_iadd (pc' := 54) dX6_add_53 rfl ?_
        refine V_iast (pc' := 55) dX6_add_54 rfl ha_8 hf (fun h_10 hf => ?_)
        obtain rfl := Option.some.inj hf
        exact V_vret dX6_add_55 rfl rfl rfl ⟨rfl, rfl, rfl⟩
      ·
        obtain rfl := Option.some.inj hf
        exact V_vret dX6_add_55 rfl rfl rfl ⟨rfl, rfl, rfl⟩
    ·
      obtain rfl := Option.some.inj hf
      exact V_vret dX6_add_55 rfl rfl rfl ⟨rfl, rfl, rfl⟩
theorem ct_X6_add {l : Launch} {S : List SHP} {h : MH} {a0 : Nat} {x1 : Int32} {x2 : Int32} (hs0 : S[a0]? = some (.inl 6)) {q : MH} (hf : f_X6_add a0 x1 x2 h = some q) : CT l mX6_add 3 false 0 0 S [.ref a0, .int x1, .int x2] h (QV S q) :=
  CT_ofV (by decide) rfl (Nat.le_of_ble_eq_true rfl) (fun G B hT => v_X6_add hs0 hf)
/-! LabelStacks$Rows.put(ILLabelStacks$Row;)V -/
theorem dX6_put_0 : decode cX6_put 0 = .ok (.aload_n 0, 1) := by decide +kernel
theorem dX6_put_1 : decode cX6_put 1 = .ok (.iload_n 1, 1) := by decide +kernel
theorem dX6_put_2 : decode cX6_put 2 = .ok (.invokevirtual 32, 3) := by decide +kernel
theorem dX6_put_5 : decode cX6_put 5 = .ok (.iconst 0, 1) := by decide +kernel
theorem dX6_put_6 : decode cX6_put 6 = .ok (.istore_n 3, 1) := by decide +kernel
theorem dX6_put_7 : decode cX6_put 7 = .ok (.iload_n 3, 1) := by decide +kernel
theorem dX6_put_8 : decode cX6_put 8 = .ok (.aload_n 2, 1) := by decide +kernel
theorem dX6_put_9 : decode cX6_put 9 = .ok (.getfield 36, 3) := by decide +kernel
theorem dX6_put_12 : decode cX6_put 12 = .ok (.if_icmp .ge 19, 3) := by decide +kernel
theorem dX6_put_15 : decode cX6_put 15 = .ok (.aload_n 0, 1) := by decide +kernel
theorem dX6_put_16 : decode cX6_put 16 = .ok (.iload_n 1, 1) := by decide +kernel
theorem dX6_put_17 : decode cX6_put 17 = .ok (.aload_n 2, 1) := by decide +kernel
theorem dX6_put_18 : decode cX6_put 18 = .ok (.iload_n 3, 1) := by decide +kernel
theorem dX6_put_19 : decode cX6_put 19 = .ok (.invokevirtual 41, 3) := by decide +kernel
theorem dX6_put_22 : decode cX6_put 22 = .ok (.invokevirtual 44, 3) := by decide +kernel
theorem dX6_put_25 : decode cX6_put 25 = .ok (.iinc 3 1, 3) := by decide +kernel
theorem dX6_put_28 : decode cX6_put 28 = .ok (.goto (-21), 3) := by decide +kernel
theorem dX6_put_31 : decode cX6_put 31 = .ok (.return_, 1) := by decide +kernel
abbrev mX6_put : MI := (RX6, yX6_put, cX6_put, 4, none)
theorem mok_X6_put : MOKv mX6_put 2 := ⟨⟨bm_620, bm_119, ⟨by decide, by decide⟩, by decide +kernel⟩, bm_618, bm_619⟩
def f_X6_put_7b   (a0 : Nat) (x1 : Int32) (a2 : Nat) (k7 : Int32 → MH → Option (MH)) (p : Int32) (h : MH) : Option (MH) :=
  if p < (gI h a2 1) then
    (f_X5_get a2 p h).bind fun q_1 =>
    (f_X6_add a0 x1 q_1.1 q_1.2).bind fun q_2 =>
    k7 (p + 1) q_2
  else
    some h
def f_X6_put_7   (a0 : Nat) (x1 : Int32) (a2 : Nat) : Nat → Int32 → MH → Option (MH) := lp (f_X6_put_7b a0 x1 a2)
def f_X6_put   (a0 : Nat) (x1 : Int32) (a2 : Nat) (h : MH) : Option (MH) :=
  (f_X6_empty a0 x1 h).bind fun q_1 =>
  f_X6_put_7 a0 x1 a2 FU 0 q_1
set_option maxRecDepth 100000 in
set_option maxHeartbeats 4000000 in
theorem v_X6_put_7b {l : Launch} {G : GE} {B N : Nat} {S : List SHP} {o : MH} {a0 : Nat} {x1 : Int32} {a2 : Nat}    (hs0 : S[a0]? = some (.inl 6)) (hs2 : S[a2]? = some (.inl 5)) {k7 : Int32 → MH → Option (MH)} (hk7 : ∀ (p : Int32) (h : MH), k7 p h = some o → V l G B N mX6_put (rmm 4 0 0) false 0 0 (QV S o) S 0 0 7 [(0, .ref a0), (1, .int x1), (2, .ref a2), (3, .int p)] [] h) {p : Int32} {h : MH} (hf : f_X6_put_7b a0 x1 a2 k7 p h = some o) : V l G B N mX6_put (rmm 4 0 0) false 0 0 (QV S o) S 0 0 7 [(0, .ref a0), (1, .int x1), (2, .ref a2), (3, .int p)] [] h := by
  unfold f_X6_put_7b at hf
  refine V_iload_n (pc' := 8) dX6_put_7 rfl 3 rfl rfl ?_
  refine V_aload_n (pc' := 9) dX6_put_8 rfl 2 rfl rfl ?_
  refine V_getI (pc' := 12) 5 1 dX6_put_9 rfl (by decide) (Nat.le_of_ble_eq_true rfl) bm_254 hs2 (fun _ _ _ => rfl) ?_
  refine V_icmp_ge (tgt := 31) (pc' := 15) dX6_put_12 (by decide) rfl hf (fun hf => ?_) (fun hf => ?_)
  ·
    refine V_aload_n (pc' := 16) dX6_put_15 rfl 0 rfl rfl ?_
    refine V_iload_n (pc' := 17) dX6_put_16 rfl 1 rfl rfl ?_
    refine V_aload_n (pc' := 18) dX6_put_17 rfl 2 rfl rfl ?_
    refine V_iload_n (pc' := 19) dX6_put_18 rfl 3 rfl rfl ?_
    refine V_cvI (pc' := 22) (As := [.int p]) (rest := [.int x1, .ref a0]) dX6_put_19 rfl mok_X5_get bm_625 5 (by decide) rfl hs2 rfl rfl (Nat.le_of_ble_eq_true rfl) (by decide) hf (fun q e => ct_X5_get hs2 e) (fun q_1 hf => ?_)
    refine V_cvV (pc' := 25) (As := [.int x1, .int q_1.1]) (rest := []) dX6_put_22 rfl mok_X6_add bm_626 6 (by decide) rfl hs0 rfl rfl (Nat.le_of_ble_eq_true rfl) (by decide) hf (fun q e => ct_X6_add hs0 e) (fun q_2 hf => ?_)
    refine V_iinc (v := (p + 1)) (lv' := [(3, .int (p + 1)), (0, .ref a0), (1, .int x1), (2, .ref a2)]) (pc' := 28) dX6_put_25 rfl 3 rfl rfl (Nat.le_of_ble_eq_true rfl) rfl ?_
    refine V_goto (tgt := 7) dX6_put_28 (by decide) ?_
    exact V_sub (lv' := [(0, .ref a0), (1, .int x1), (2, .ref a2), (3, .int (p + 1))]) [1, 2, 3, 0] rfl (hk7 (p + 1) q_2 hf)
  ·
    obtain rfl := Option.some.inj hf
    exact V_vret dX6_put_31 rfl rfl rfl ⟨rfl, rfl, rfl⟩
theorem v_X6_put_7 {l : Launch} {G : GE} {B N : Nat} {S : List SHP} {o : MH} {a0 : Nat} {x1 : Int32} {a2 : Nat}    (hs0 : S[a0]? = some (.inl 6)) (hs2 : S[a2]? = some (.inl 5)) {n : Nat} {p : Int32} {h : MH} (hf : f_X6_put_7 a0 x1 a2 n p h = some o) : V l G B N mX6_put (rmm 4 0 0) false 0 0 (QV S o) S 0 0 7 [(0, .ref a0), (1, .int x1), (2, .ref a2), (3, .int p)] [] h :=
  V_lp (VV := fun p h => V l G B N mX6_put (rmm 4 0 0) false 0 0 (QV S o) S 0 0 7 [(0, .ref a0), (1, .int x1), (2, .ref a2), (3, .int p)] [] h) (fun _ hk _ _ hf => v_X6_put_7b hs0 hs2 hk hf) n p h hf
set_option maxRecDepth 100000 in
set_option maxHeartbeats 4000000 in
theorem v_X6_put {l : Launch} {G : GE} {B N : Nat} {S : List SHP} {o : MH} {a0 : Nat} {x1 : Int32} {a2 : Nat}    (hs0 : S[a0]? = some (.inl 6)) (hs2 : S[a2]? = some (.inl 5)) {h : MH} (hf : f_X6_put a0 x1 a2 h = some o) : V l G B N mX6_put (rmm 4 0 0) false 0 0 (QV S o) S 0 0 0 [(0, .ref a0), (1, .int x1), (2, .ref a2)] [] h := by
  unfold f_X6_put at hf
  refine V_aload_n (pc' := 1) dX6_put_0 rfl 0 rfl rfl ?_
  refine V_iload_n (pc' := 2) dX6_put_1 rfl 1 rfl rfl ?_
  refine V_cvV (pc' := 5) (As := [.int x1]) (rest := []) dX6_put_2 rfl mok_X6_empty bm_621 6 (by decide) rfl hs0 rfl rfl (Nat.le_of_ble_eq_true rfl) (by decide) hf (fun q e => ct_X6_empty hs0 e) (fun q_1 hf => ?_)
  refine V_iconst (v := 0) (pc' := 6) dX6_put_5 rfl (by decide) ?_
  refine V_istore_n (lv' := [(3, .int 0), (0, .ref a0), (1, .int x1), (2, .ref a2)]) (pc' := 7) dX6_put_6 rfl rfl (Nat.le_of_ble_eq_true rfl) rfl ?_
  exact V_sub (lv' := [(0, .ref a0), (1, .int x1), (2, .ref a2), (3, .int 0)]) [1, 2, 3, 0] rfl (v_X6_put_7 hs0 hs2 hf)
theorem ct_X6_put {l : Launch} {S : List SHP} {h : MH} {a0 : Nat} {x1 : Int32} {a2 : Nat} (hs0 : S[a0]? = some (.inl 6)) (hs2 : S[a2]? = some (.inl 5)) {q : MH} (hf : f_X6_put a0 x1 a2 h = some q) : CT l mX6_put 4 false 0 0 S [.ref a0, .int x1, .ref a2] h (QV S q) :=
  CT_ofV (by decide) rfl (Nat.le_of_ble_eq_true rfl) (fun G B hT => v_X6_put hs0 hs2 hf)
/-! LabelStacks$Rows.copyTo(ILLabelStacks$Row;)V -/
theorem dX6_copyTo_0 : decode cX6_copyTo 0 = .ok (.aload_n 2, 1) := by decide +kernel
theorem dX6_copyTo_1 : decode cX6_copyTo 1 = .ok (.iconst 0, 1) := by decide +kernel
theorem dX6_copyTo_2 : decode cX6_copyTo 2 = .ok (.putfield 36, 3) := by decide +kernel
theorem dX6_copyTo_5 : decode cX6_copyTo 5 = .ok (.iconst 0, 1) := by decide +kernel
theorem dX6_copyTo_6 : decode cX6_copyTo 6 = .ok (.istore_n 3, 1) := by decide +kernel
theorem dX6_copyTo_7 : decode cX6_copyTo 7 = .ok (.iload_n 3, 1) := by decide +kernel
theorem dX6_copyTo_8 : decode cX6_copyTo 8 = .ok (.aload_n 0, 1) := by decide +kernel
theorem dX6_copyTo_9 : decode cX6_copyTo 9 = .ok (.iload_n 1, 1) := by decide +kernel
theorem dX6_copyTo_10 : decode cX6_copyTo 10 = .ok (.invokevirtual 28, 3) := by decide +kernel
theorem dX6_copyTo_13 : decode cX6_copyTo 13 = .ok (.if_icmp .ge 19, 3) := by decide +kernel
theorem dX6_copyTo_16 : decode cX6_copyTo 16 = .ok (.aload_n 2, 1) := by decide +kernel
theorem dX6_copyTo_17 : decode cX6_copyTo 17 = .ok (.aload_n 0, 1) := by decide +kernel
theorem dX6_copyTo_18 : decode cX6_copyTo 18 = .ok (.iload_n 1, 1) := by decide +kernel
theorem dX6_copyTo_19 : decode cX6_copyTo 19 = .ok (.iload_n 3, 1) := by decide +kernel
theorem dX6_copyTo_20 : decode cX6_copyTo 20 = .ok (.invokevirtual 48, 3) := by decide +kernel
theorem dX6_copyTo_23 : decode cX6_copyTo 23 = .ok (.invokevirtual 50, 3) := by decide +kernel
theorem dX6_copyTo_26 : decode cX6_copyTo 26 = .ok (.iinc 3 1, 3) := by decide +kernel
theorem dX6_copyTo_29 : decode cX6_copyTo 29 = .ok (.goto (-22), 3) := by decide +kernel
theorem dX6_copyTo_32 : decode cX6_copyTo 32 = .ok (.return_, 1) := by decide +kernel
abbrev mX6_copyTo : MI := (RX6, yX6_copyTo, cX6_copyTo, 4, none)
theorem mok_X6_copyTo : MOKv mX6_copyTo 2 := ⟨⟨bm_949, bm_119, ⟨by decide, by decide⟩, by decide +kernel⟩, bm_947, bm_948⟩
def f_X6_copyTo_7b   (a0 : Nat) (x1 : Int32) (a2 : Nat) (k7 : Int32 → MH → Option (MH)) (p : Int32) (h : MH) : Option (MH) :=
  (f_X6_sizeOf a0 x1 h).bind fun q_1 =>
  if p < q_1.1 then
    (f_X6_get a0 x1 p q_1.2).bind fun q_2 =>
    (f_X5_add a2 q_2.1 q_2.2).bind fun q_3 =>
    k7 (p + 1) q_3
  else
    some q_1.2
def f_X6_copyTo_7   (a0 : Nat) (x1 : Int32) (a2 : Nat) : Nat → Int32 → MH → Option (MH) := lp (f_X6_copyTo_7b a0 x1 a2)
def f_X6_copyTo   (a0 : Nat) (x1 : Int32) (a2 : Nat) (h : MH) : Option (MH) :=
  lt (sI h a2 1 0) fun h_1 =>
  f_X6_copyTo_7 a0 x1 a2 FU 0 h_1
set_option maxRecDepth 100000 in
set_option maxHeartbeats 4000000 in
theorem v_X6_copyTo_7b {l : Launch} {G : GE} {B N : Nat} {S : List SHP} {o : MH} {a0 : Nat} {x1 : Int32} {a2 : Nat}    (hs0 : S[a0]? = some (.inl 6)) (hs2 : S[a2]? = some (.inl 5)) {k7 : Int32 → MH → Option (MH)} (hk7 : ∀ (p : Int32) (h : MH), k7 p h = some o → V l G B N mX6_copyTo (rmm 5 0 0) false 0 0 (QV S o) S 0 0 7 [(0, .ref a0), (1, .int x1), (2, .ref a2), (3, .int p)] [] h) {p : Int32} {h : MH} (hf : f_X6_copyTo_7b a0 x1 a2 k7 p h = some o) : V l G B N mX6_copyTo (rmm 5 0 0) false 0 0 (QV S o) S 0 0 7 [(0, .ref a0), (1, .int x1), (2, .ref a2), (3, .int p)] [] h := by
  unfold f_X6_copyTo_7b at hf
  refine V_iload_n (pc' := 8) dX6_copyTo_7 rfl 3 rfl rfl ?_
  refine V_aload_n (pc' := 9) dX6_copyTo_8 rfl 0 rfl rfl ?_
  refine V_iload_n (pc' := 10) dX6_copyTo_9 rfl 1 rfl rfl ?_
  refine V_cvI (pc' := 13) (As := [.int x1]) (rest := [.int p]) dX6_copyTo_10 rfl mok_X6_sizeOf bm_756 6 (by decide) rfl hs0 rfl rfl (Nat.le_of_ble_eq_true rfl) (by decide) hf (fun q e => ct_X6_sizeOf hs0 e) (fun q_1 hf => ?_)
  refine V_icmp_ge (tgt := 32) (pc' := 16) dX6_copyTo_13 (by decide) rfl hf (fun hf => ?_) (fun hf => ?_)
  ·
    refine V_aload_n (pc' := 17) dX6_copyTo_16 rfl 2 rfl rfl ?_
    refine V_aload_n (pc' := 18) dX6_copyTo_17 rfl 0 rfl rfl ?_
    refine V_iload_n (pc' := 19) dX6_copyTo_18 rfl 1 rfl rfl ?_
    refine V_iload_n (pc' := 20) dX6_copyTo_19 rfl 3 rfl rfl ?_
    refine V_cvI (pc' := 23) (As := [.int x1, .int p]) (rest := [.ref a2]) dX6_copyTo_20 rfl mok_X6_get bm_950 6 (by decide) rfl hs0 rfl rfl (Nat.le_of_ble_eq_true rfl) (by decide) hf (fun q e => ct_X6_get hs0 e) (fun q_2 hf => ?_)
    refine V_cvV (pc' := 26) (As := [.int q_2.1]) (rest := []) dX6_copyTo_23 rfl mok_X5_add bm_951 5 (by decide) rfl hs2 rfl rfl (Nat.le_of_ble_eq_true rfl) (by decide) hf (fun q e => ct_X5_add hs2 e) (fun q_3 hf => ?_)
    refine V_iinc (v := (p + 1)) (lv' := [(3, .int (p + 1)), (0, .ref a0), (1, .int x1), (2, .ref a2)]) (pc' := 29) dX6_copyTo_26 rfl 3 rfl rfl (Nat.le_of_ble_eq_true rfl) rfl ?_
    refine V_goto (tgt := 7) dX6_copyTo_29 (by decide) ?_
    exact V_sub (lv' := [(0, .ref a0), (1, .int x1), (2, .ref a2), (3, .int (p + 1))]) [1, 2, 3, 0] rfl (hk7 (p + 1) q_3 hf)
  ·
    obtain rfl := Option.some.inj hf
    exact V_vret dX6_copyTo_32 rfl rfl rfl ⟨rfl, rfl, rfl⟩
theorem v_X6_copyTo_7 {l : Launch} {G : GE} {B N : Nat} {S : List SHP} {o : MH} {a0 : Nat} {x1 : Int32} {a2 : Nat}    (hs0 : S[a0]? = some (.inl 6)) (hs2 : S[a2]? = some (.inl 5)) {n : Nat} {p : Int32} {h : MH} (hf : f_X6_copyTo_7 a0 x1 a2 n p h = some o) : V l G B N mX6_copyTo (rmm 5 0 0) false 0 0 (QV S o) S 0 0 7 [(0, .ref a0), (1, .int x1), (2, .ref a2), (3, .int p)] [] h :=
  V_lp (VV := fun p h => V l G B N mX6_copyTo (rmm 5 0 0) false 0 0 (QV S o) S 0 0 7 [(0, .ref a0), (1, .int x1), (2, .ref a2), (3, .int p)] [] h) (fun _ hk _ _ hf => v_X6_copyTo_7b hs0 hs2 hk hf) n p h hf
set_option maxRecDepth 100000 in
set_option maxHeartbeats 4000000 in
theorem v_X6_copyTo {l : Launch} {G : GE} {B N : Nat} {S : List SHP} {o : MH} {a0 : Nat} {x1 : Int32} {a2 : Nat}    (hs0 : S[a0]? = some (.inl 6)) (hs2 : S[a2]? = some (.inl 5)) {h : MH} (hf : f_X6_copyTo a0 x1 a2 h = some o) : V l G B N mX6_copyTo (rmm 5 0 0) false 0 0 (QV S o) S 0 0 0 [(0, .ref a0), (1, .int x1), (2, .ref a2)] [] h := by
  unfold f_X6_copyTo at hf
  refine V_aload_n (pc' := 1) dX6_copyTo_0 rfl 2 rfl rfl ?_
  refine V_iconst (v := 0) (pc' := 2) dX6_copyTo_1 rfl (by decide) ?_
  refine V_putI (pc' := 5) 5 1 dX6_copyTo_2 rfl (by decide) (Nat.le_of_ble_eq_true rfl) bm_254 hs2 (Or.inl rfl) rfl ?_
  refine V_nmH hf (fun h_1 hf => ?_)
  refine V_iconst (v := 0) (pc' := 6) dX6_copyTo_5 rfl (by decide) ?_
  refine V_istore_n (lv' := [(3, .int 0), (0, .ref a0), (1, .int x1), (2, .ref a2)]) (pc' := 7) dX6_copyTo_6 rfl rfl (Nat.le_of_ble_eq_true rfl) rfl ?_
  exact V_sub (lv' := [(0, .ref a0), (1, .int x1), (2, .ref a2), (3, .int 0)]) [1, 2, 3, 0] rfl (v_X6_copyTo_7 hs0 hs2 hf)
theorem ct_X6_copyTo {l : Launch} {S : List SHP} {h : MH} {a0 : Nat} {x1 : Int32} {a2 : Nat} (hs0 : S[a0]? = some (.inl 6)) (hs2 : S[a2]? = some (.inl 5)) {q : MH} (hf : f_X6_copyTo a0 x1 a2 h = some q) : CT l mX6_copyTo 5 false 0 0 S [.ref a0, .int x1, .ref a2] h (QV S q) :=
  CT_ofV (by decide) rfl (Nat.le_of_ble_eq_true rfl) (fun G B hT => v_X6_copyTo hs0 hs2 hf)
/-! LabelStacks$Rows.isSame(ILLabelStacks$Row;)Z -/
theorem dX6_isSame_0 : decode cX6_isSame 0 = .ok (.aload_n 0, 1) := by decide +kernel
theorem dX6_isSame_1 : decode cX6_isSame 1 = .ok (.iload_n 1, 1) := by decide +kernel
theorem dX6_isSame_2 : decode cX6_isSame 2 = .ok (.invokevirtual 28, 3) := by decide +kernel
theorem dX6_isSame_5 : decode cX6_isSame 5 = .ok (.aload_n 2, 1) := by decide +kernel
theorem dX6_isSame_6 : decode cX6_isSame 6 = .ok (.getfield 36, 3) := by decide +kernel
theorem dX6_isSame_9 : decode cX6_isSame 9 = .ok (.if_icmp .eq 5, 3) := by decide +kernel
theorem dX6_isSame_12 : decode cX6_isSame 12 = .ok (.iconst 0, 1) := by decide +kernel
theorem dX6_isSame_13 : decode cX6_isSame 13 = .ok (.ireturn, 1) := by decide +kernel
theorem dX6_isSame_14 : decode cX6_isSame 14 = .ok (.iconst 0, 1) := by decide +kernel
theorem dX6_isSame_15 : decode cX6_isSame 15 = .ok (.istore_n 3, 1) := by decide +kernel
theorem dX6_isSame_16 : decode cX6_isSame 16 = .ok (.iload_n 3, 1) := by decide +kernel
theorem dX6_isSame_17 : decode cX6_isSame 17 = .ok (.aload_n 2, 1) := by decide +kernel
theorem dX6_isSame_18 : decode cX6_isSame 18 = .ok (.getfield 36, 3) := by decide +kernel
theorem dX6_isSame_21 : decode cX6_isSame 21 = .ok (.if_icmp .ge 25, 3) := by decide +kernel
theorem dX6_isSame_24 : decode cX6_isSame 24 = .ok (.aload_n 0, 1) := by decide +kernel
theorem dX6_isSame_25 : decode cX6_isSame 25 = .ok (.iload_n 1, 1) := by decide +kernel
theorem dX6_isSame_26 : decode cX6_isSame 26 = .ok (.iload_n 3, 1) := by decide +kernel
theorem dX6_isSame_27 : decode cX6_isSame 27 = .ok (.invokevirtual 48, 3) := by decide +kernel
theorem dX6_isSame_30 : decode cX6_isSame 30 = .ok (.aload_n 2, 1) := by decide +kernel
theorem dX6_isSame_31 : decode cX6_isSame 31 = .ok (.iload_n 3, 1) := by decide +kernel
theorem dX6_isSame_32 : decode cX6_isSame 32 = .ok (.invokevirtual 41, 3) := by decide +kernel
theorem dX6_isSame_35 : decode cX6_isSame 35 = .ok (.if_icmp .eq 5, 3) := by decide +kernel
theorem dX6_isSame_38 : decode cX6_isSame 38 = .ok (.iconst 0, 1) := by decide +kernel
theorem dX6_isSame_39 : decode cX6_isSame 39 = .ok (.ireturn, 1) := by decide +kernel
theorem dX6_isSame_40 : decode cX6_isSame 40 = .ok (.iinc 3 1, 3) := by decide +kernel
theorem dX6_isSame_43 : decode cX6_isSame 43 = .ok (.goto (-27), 3) := by decide +kernel
theorem dX6_isSame_46 : decode cX6_isSame 46 = .ok (.iconst 1, 1) := by decide +kernel
theorem dX6_isSame_47 : decode cX6_isSame 47 = .ok (.ireturn, 1) := by decide +kernel
abbrev mX6_isSame : MI := (RX6, yX6_isSame, cX6_isSame, 4, (some .boolean))
theorem mok_X6_isSame : MOKv mX6_isSame 2 := ⟨⟨bm_1027, bm_119, ⟨by decide, by decide⟩, by decide +kernel⟩, bm_1025, bm_1026⟩
def f_X6_isSame_16b   (a0 : Nat) (x1 : Int32) (a2 : Nat) (k16 : Int32 → MH → Option (Int32 × MH)) (p : Int32) (h : MH) : Option (Int32 × MH) :=
  if p < (gI h a2 1) then
    (f_X6_get a0 x1 p h).bind fun q_1 =>
    (f_X5_get a2 p q_1.2).bind fun q_2 =>
    if q_1.1 = q_2.1 then
      k16 (p + 1) q_2.2
    else
      some (0, q_2.2)
  else
    some (1, h)
def f_X6_isSame_16   (a0 : Nat) (x1 : Int32) (a2 : Nat) : Nat → Int32 → MH → Option (Int32 × MH) := lp (f_X6_isSame_16b a0 x1 a2)
def f_X6_isSame   (a0 : Nat) (x1 : Int32) (a2 : Nat) (h : MH) : Option (Int32 × MH) :=
  (f_X6_sizeOf a0 x1 h).bind fun q_1 =>
  if q_1.1 = (gI q_1.2 a2 1) then
    f_X6_isSame_16 a0 x1 a2 FU 0 q_1.2
  else
    some (0, q_1.2)
set_option maxRecDepth 100000 in
set_option maxHeartbeats 4000000 in
theorem v_X6_isSame_16b {l : Launch} {G : GE} {B N : Nat} {S : List SHP} {o : Int32 × MH} {a0 : Nat} {x1 : Int32} {a2 : Nat}    (hs0 : S[a0]? = some (.inl 6)) (hs2 : S[a2]? = some (.inl 5)) {k16 : Int32 → MH → Option (Int32 × MH)} (hk16 : ∀ (p : Int32) (h : MH), k16 p h = some o → V l G B N mX6_isSame (rmm 5 0 0) false 0 0 (QI S o) S 0 0 16 [(0, .ref a0), (1, .int x1), (2, .ref a2), (3, .int p)] [] h) {p : Int32} {h : MH} (hf : f_X6_isSame_16b a0 x1 a2 k16 p h = some o) : V l G B N mX6_isSame (rmm 5 0 0) false 0 0 (QI S o) S 0 0 16 [(0, .ref a0), (1, .int x1), (2, .ref a2), (3, .int p)] [] h := by
  unfold f_X6_isSame_16b at hf
  refine V_iload_n (pc' := 17) dX6_isSame_16 rfl 3 rfl rfl ?_
  refine V_aload_n (pc' := 18) dX6_isSame_17 rfl 2 rfl rfl ?_
  refine V_getI (pc' := 21) 5 1 dX6_isSame_18 rfl (by decide) (Nat.le_of_ble_eq_true rfl) bm_254 hs2 (fun _ _ _ => rfl) ?_
  refine V_icmp_ge (tgt := 46) (pc' := 24) dX6_isSame_21 (by decide) rfl hf (fun hf => ?_) (fun hf => ?_)
  ·
    refine V_aload_n (pc' := 25) dX6_isSame_24 rfl 0 rfl rfl ?_
    refine V_iload_n (pc' := 26) dX6_isSame_25 rfl 1 rfl rfl ?_
    refine V_iload_n (pc' := 27) dX6_isSame_26 rfl 3 rfl rfl ?_
    refine V_cvI (pc' := 30) (As := [.int x1, .int p]) (rest := []) dX6_isSame_27 rfl mok_X6_get bm_950 6 (by decide) rfl hs0 rfl rfl (Nat.le_of_ble_eq_true rfl) (by decide) hf (fun q e => ct_X6_get hs0 e) (fun q_1 hf => ?_)
    refine V_aload_n (pc' := 31) dX6_isSame_30 rfl 2 rfl rfl ?_
    refine V_iload_n (pc' := 32) dX6_isSame_31 rfl 3 rfl rfl ?_
    refine V_cvI (pc' := 35) (As := [.int p]) (rest := [.int q_1.1]) dX6_isSame_32 rfl mok_X5_get bm_625 5 (by decide) rfl hs2 rfl rfl (Nat.le_of_ble_eq_true rfl) (by decide) hf (fun q e => ct_X5_get hs2 e) (fun q_2 hf => ?_)
    refine V_icmp_eq (tgt := 40) (pc' := 38) dX6_isSame_35 (by decide) rfl hf (fun hf => ?_) (fun hf => ?_)
    ·
      refine V_iinc (v := (p + 1)) (lv' := [(3, .int (p + 1)), (0, .ref a0), (1, .int x1), (2, .ref a2)]) (pc' := 43) dX6_isSame_40 rfl 3 rfl rfl (Nat.le_of_ble_eq_true rfl) rfl ?_
      refine V_goto (tgt := 16) dX6_isSame_43 (by decide) ?_
      exact V_sub (lv' := [(0, .ref a0), (1, .int x1), (2, .ref a2), (3, .int (p + 1))]) [1, 2, 3, 0] rfl (hk16 (p + 1) q_2.2 hf)
    ·
      refine V_iconst (v := 0) (pc' := 39) dX6_isSame_38 rfl (by decide) ?_
      obtain rfl := Option.some.inj hf
      exact V_zretL dX6_isSame_39 rfl rfl rfl (by decide) ⟨rfl, rfl, rfl⟩
  ·
    refine V_iconst (v := 1) (pc' := 47) dX6_isSame_46 rfl (by decide) ?_
    obtain rfl := Option.some.inj hf
    exact V_zretL dX6_isSame_47 rfl rfl rfl (by decide) ⟨rfl, rfl, rfl⟩
theorem v_X6_isSame_16 {l : Launch} {G : GE} {B N : Nat} {S : List SHP} {o : Int32 × MH} {a0 : Nat} {x1 : Int32} {a2 : Nat}    (hs0 : S[a0]? = some (.inl 6)) (hs2 : S[a2]? = some (.inl 5)) {n : Nat} {p : Int32} {h : MH} (hf : f_X6_isSame_16 a0 x1 a2 n p h = some o) : V l G B N mX6_isSame (rmm 5 0 0) false 0 0 (QI S o) S 0 0 16 [(0, .ref a0), (1, .int x1), (2, .ref a2), (3, .int p)] [] h :=
  V_lp (VV := fun p h => V l G B N mX6_isSame (rmm 5 0 0) false 0 0 (QI S o) S 0 0 16 [(0, .ref a0), (1, .int x1), (2, .ref a2), (3, .int p)] [] h) (fun _ hk _ _ hf => v_X6_isSame_16b hs0 hs2 hk hf) n p h hf
set_option maxRecDepth 100000 in
set_option maxHeartbeats 4000000 in
theorem v_X6_isSame {l : Launch} {G : GE} {B N : Nat} {S : List SHP} {o : Int32 × MH} {a0 : Nat} {x1 : Int32} {a2 : Nat}    (hs0 : S[a0]? = some (.inl 6)) (hs2 : S[a2]? = some (.inl 5)) {h : MH} (hf : f_X6_isSame a0 x1 a2 h = some o) : V l G B N mX6_isSame (rmm 5 0 0) false 0 0 (QI S o) S 0 0 0 [(0, .ref a0), (1, .int x1), (2, .ref a2)] [] h := by
  unfold f_X6_isSame at hf
  refine V_aload_n (pc' := 1) dX6_isSame_0 rfl 0 rfl rfl ?_
  refine V_iload_n (pc' := 2) dX6_isSame_1 rfl 1 rfl rfl ?_
  refine V_cvI (pc' := 5) (As := [.int x1]) (rest := []) dX6_isSame_2 rfl mok_X6_sizeOf bm_756 6 (by decide) rfl hs0 rfl rfl (Nat.le_of_ble_eq_true rfl) (by decide) hf (fun q e => ct_X6_sizeOf hs0 e) (fun q_1 hf => ?_)
  refine V_aload_n (pc' := 6) dX6_isSame_5 rfl 2 rfl rfl ?_
  refine V_getI (pc' := 9) 5 1 dX6_isSame_6 rfl (by decide) (Nat.le_of_ble_eq_true rfl) bm_254 hs2 (fun _ _ _ => rfl) ?_
  refine V_icmp_eq (tgt := 14) (pc' := 12) dX6_isSame_9 (by decide) rfl hf (fun hf => ?_) (fun hf => ?_)
  ·
    refine V_iconst (v := 0) (pc' := 15) dX6_isSame_14 rfl (by decide) ?_
    refine V_istore_n (lv' := [(3, .int 0), (0, .ref a0), (1, .int x1), (2, .ref a2)]) (pc' := 16) dX6_isSame_15 rfl rfl (Nat.le_of_ble_eq_true rfl) rfl ?_
    exact V_sub (lv' := [(0, .ref a0), (1, .int x1), (2, .ref a2), (3, .int 0)]) [1, 2, 3, 0] rfl (v_X6_isSame_16 hs0 hs2 hf)
  ·
    refine V_iconst (v := 0) (pc' := 13) dX6_isSame_12 rfl (by decide) ?_
    obtain rfl := Option.some.inj hf
    exact V_zretL dX6_isSame_13 rfl rfl rfl (by decide) ⟨rfl, rfl, rfl⟩
theorem ct_X6_isSame {l : Launch} {S : List SHP} {h : MH} {a0 : Nat} {x1 : Int32} {a2 : Nat} (hs0 : S[a0]? = some (.inl 6)) (hs2 : S[a2]? = some (.inl 5)) {q : Int32 × MH} (hf : f_X6_isSame a0 x1 a2 h = some q) : CT l mX6_isSame 5 false 0 0 S [.ref a0, .int x1, .ref a2] h (QI S q) :=
  CT_ofV (by decide) rfl (Nat.le_of_ble_eq_true rfl) (fun G B hT => v_X6_isSame hs0 hs2 hf)
