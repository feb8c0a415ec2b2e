/-! LabelStacks.demand(III)Z -/
theorem dX10_demand_0 : decode cX10_demand 0 = .ok (.iload_n 1, 1) := by decide +kernel
theorem dX10_demand_1 : decode cX10_demand 1 = .ok (.invokestatic 255, 3) := by decide +kernel
theorem dX10_demand_4 : decode cX10_demand 4 = .ok (.ifCond .eq 24, 3) := by decide +kernel
theorem dX10_demand_7 : decode cX10_demand 7 = .ok (.aload_n 0, 1) := by decide +kernel
theorem dX10_demand_8 : decode cX10_demand 8 = .ok (.getfield 12, 3) := by decide +kernel
theorem dX10_demand_11 : decode cX10_demand 11 = .ok (.getfield 99, 3) := by decide +kernel
theorem dX10_demand_14 : decode cX10_demand 14 = .ok (.iload_n 2, 1) := by decide +kernel
theorem dX10_demand_15 : decode cX10_demand 15 = .ok (.invokevirtual 111, 3) := by decide +kernel
theorem dX10_demand_18 : decode cX10_demand 18 = .ok (.ifCond .eq 10, 3) := by decide +kernel
theorem dX10_demand_21 : decode cX10_demand 21 = .ok (.iload_n 3, 1) := by decide +kernel
theorem dX10_demand_22 : decode cX10_demand 22 = .ok (.invokestatic 115, 3) := by decide +kernel
theorem dX10_demand_25 : decode cX10_demand 25 = .ok (.ifCond .ne 5, 3) := by decide +kernel
theorem dX10_demand_28 : decode cX10_demand 28 = .ok (.iconst 0, 1) := by decide +kernel
theorem dX10_demand_29 : decode cX10_demand 29 = .ok (.ireturn, 1) := by decide +kernel
theorem dX10_demand_30 : decode cX10_demand 30 = .ok (.aload_n 0, 1) := by decide +kernel
theorem dX10_demand_31 : decode cX10_demand 31 = .ok (.invokevirtual 96, 3) := by decide +kernel
theorem dX10_demand_34 : decode cX10_demand 34 = .ok (.aload_n 0, 1) := by decide +kernel
theorem dX10_demand_35 : decode cX10_demand 35 = .ok (.getfield 12, 3) := by decide +kernel
theorem dX10_demand_38 : decode cX10_demand 38 = .ok (.getfield 258, 3) := by decide +kernel
theorem dX10_demand_41 : decode cX10_demand 41 = .ok (.iload_n 1, 1) := by decide +kernel
theorem dX10_demand_42 : decode cX10_demand 42 = .ok (.iload_n 2, 1) := by decide +kernel
theorem dX10_demand_43 : decode cX10_demand 43 = .ok (.iastore, 1) := by decide +kernel
theorem dX10_demand_44 : decode cX10_demand 44 = .ok (.aload_n 0, 1) := by decide +kernel
theorem dX10_demand_45 : decode cX10_demand 45 = .ok (.getfield 12, 3) := by decide +kernel
theorem dX10_demand_48 : decode cX10_demand 48 = .ok (.getfield 261, 3) := by decide +kernel
theorem dX10_demand_51 : decode cX10_demand 51 = .ok (.iload_n 1, 1) := by decide +kernel
theorem dX10_demand_52 : decode cX10_demand 52 = .ok (.iload_n 3, 1) := by decide +kernel
theorem dX10_demand_53 : decode cX10_demand 53 = .ok (.iastore, 1) := by decide +kernel
theorem dX10_demand_54 : decode cX10_demand 54 = .ok (.aload_n 0, 1) := by decide +kernel
theorem dX10_demand_55 : decode cX10_demand 55 = .ok (.getfield 12, 3) := by decide +kernel
theorem dX10_demand_58 : decode cX10_demand 58 = .ok (.getfield 264, 3) := by decide +kernel
theorem dX10_demand_61 : decode cX10_demand 61 = .ok (.iload_n 1, 1) := by decide +kernel
theorem dX10_demand_62 : decode cX10_demand 62 = .ok (.aload_n 0, 1) := by decide +kernel
theorem dX10_demand_63 : decode cX10_demand 63 = .ok (.getfield 21, 3) := by decide +kernel
theorem dX10_demand_66 : decode cX10_demand 66 = .ok (.invokevirtual 153, 3) := by decide +kernel
theorem dX10_demand_69 : decode cX10_demand 69 = .ok (.iconst 1, 1) := by decide +kernel
theorem dX10_demand_70 : decode cX10_demand 70 = .ok (.ireturn, 1) := by decide +kernel
abbrev mX10_demand : MI := (RX10, yX10_demand, cX10_demand, 4, (some .boolean))
theorem mok_X10_demand : MOKv mX10_demand 3 := ⟨⟨bm_929, bm_114, ⟨by decide, by decide⟩, by decide +kernel⟩, bm_927, bm_928⟩
def f_X10_demand   (a0 : Nat) (x1 : Int32) (x2 : Int32) (x3 : Int32) (h : MH) : Option (Int32 × MH) :=
  (f_X10_isDemand x1 h).bind fun q_1 =>
  if q_1.1 = 0 then
    some (0, q_1.2)
  else
    (gR q_1.2 a0 0).bind fun a_2 =>
    (gR q_1.2 a_2 0).bind fun a_3 =>
    (f_X2_hasNode a_3 x2 q_1.2).bind fun q_4 =>
    if q_4.1 = 0 then
      some (0, q_4.2)
    else
      (f_X10_isAmount x3 q_4.2).bind fun q_5 =>
      if q_5.1 = 0 then
        some (0, q_5.2)
      else
        (f_X10_beginAct a0 q_5.2).bind fun q_6 =>
        (gR q_6 a0 0).bind fun a_7 =>
        (gR q_6 a_7 1).bind fun a_8 =>
        (stI q_6 a_8 x1 x2).bind fun h_9 =>
        (gR h_9 a0 0).bind fun a_10 =>
        (gR h_9 a_10 2).bind fun a_11 =>
        (stI h_9 a_11 x1 x3).bind fun h_12 =>
        (gR h_12 a0 0).bind fun a_13 =>
        (gR h_12 a_13 3).bind fun a_14 =>
        (gR h_12 a0 1).bind fun a_15 =>
        (f_X6_put a_14 x1 a_15 h_12).bind fun q_16 =>
        some (1, q_16)
set_option maxRecDepth 100000 in
set_option maxHeartbeats 4000000 in
theorem v_X10_demand {l : Launch} {G : GE} {B N : Nat} {S : List SHP} {o : Int32 × MH} {a0 : Nat} {x1 : Int32} {x2 : Int32} {x3 : Int32}    (hs0 : S[a0]? = some (.inl 10)) {h : MH} (hf : f_X10_demand a0 x1 x2 x3 h = some o) : V l G B N mX10_demand (rmm 8 0 0) false 0 0 (QI S o) S 0 0 0 [(0, .ref a0), (1, .int x1), (2, .int x2), (3, .int x3)] [] h := by
  unfold f_X10_demand at hf
  refine V_iload_n (pc' := 1) dX10_demand_0 rfl 1 rfl rfl ?_
  refine V_csI (pc' := 4) (As := [.int x1]) (rest := []) dX10_demand_1 rfl mok_X10_isDemand bm_930 rfl rfl (Nat.le_of_ble_eq_true rfl) (by decide) hf (fun q e => ct_X10_isDemand  e) (fun q_1 hf => ?_)
  refine V_if_eq (tgt := 28) (pc' := 7) dX10_demand_4 (by decide) rfl hf (fun hf => ?_) (fun hf => ?_)
  ·
    refine V_iconst (v := 0) (pc' := 29) dX10_demand_28 rfl (by decide) ?_
    obtain rfl := Option.some.inj hf
    exact V_zretL dX10_demand_29 rfl rfl rfl (by decide) ⟨rfl, rfl, rfl⟩
  ·
    refine V_aload_n (pc' := 8) dX10_demand_7 rfl 0 rfl rfl ?_
    refine V_getR (pc' := 11) 10 0 dX10_demand_8 rfl (by decide) (Nat.le_of_ble_eq_true rfl) bm_458 hs0 (fun _ _ _ => rfl) rfl hf (fun a_2 ha_2 hf => ?_)
    refine V_getR (pc' := 14) 7 0 dX10_demand_11 rfl (by decide) (Nat.le_of_ble_eq_true rfl) bm_263 ha_2 (fun _ _ _ => rfl) rfl hf (fun a_3 ha_3 hf => ?_)
    refine V_iload_n (pc' := 15) dX10_demand_14 rfl 2 rfl rfl ?_
    refine V_cvI (pc' := 18) (As := [.int x2]) (rest := []) dX10_demand_15 rfl mok_X2_hasNode bm_569 2 (by decide) rfl ha_3 rfl rfl (Nat.le_of_ble_eq_true rfl) (by decide) hf (fun q e => ct_X2_hasNode ha_3 e) (fun q_4 hf => ?_)
    refine V_if_eq (tgt := 28) (pc' := 21) dX10_demand_18 (by decide) rfl hf (fun hf => ?_) (fun hf => ?_)
    ·
      refine V_iconst (v := 0) (pc' := 29) dX10_demand_28 rfl (by decide) ?_
      obtain rfl := Option.some.inj hf
      exact V_zretL dX10_demand_29 rfl rfl rfl (by decide) ⟨rfl, rfl, rfl⟩
    ·
      refine V_iload_n (pc' := 22) dX10_demand_21 rfl 3 rfl rfl ?_
      refine V_csI (pc' := 25) (As := [.int x3]) (rest := []) dX10_demand_22 rfl mok_X10_isAmount bm_573 rfl rfl (Nat.le_of_ble_eq_true rfl) (by decide) hf (fun q e => ct_X10_isAmount  e) (fun q_5 hf => ?_)
      refine V_if_ne (tgt := 30) (pc' := 28) dX10_demand_25 (by decide) rfl hf (fun hf => ?_) (fun hf => ?_)
      ·
        refine V_iconst (v := 0) (pc' := 29) dX10_demand_28 rfl (by decide) ?_
        obtain rfl := Option.some.inj hf
        exact V_zretL dX10_demand_29 rfl rfl rfl (by decide) ⟨rfl, rfl, rfl⟩
      ·
        refine V_aload_n (pc' := 31) dX10_demand_30 rfl 0 rfl rfl ?_
        refine V_cvV (pc' := 34) (As := []) (rest := []) dX10_demand_31 rfl mok_X10_beginAct bm_514 10 (by decide) rfl hs0 rfl rfl (Nat.le_of_ble_eq_true rfl) (by decide) hf (fun q e => ct_X10_beginAct hs0 e) (fun q_6 hf => ?_)
        refine V_aload_n (pc' := 35) dX10_demand_34 rfl 0 rfl rfl ?_
        refine V_getR (pc' := 38) 10 0 dX10_demand_35 rfl (by decide) (Nat.le_of_ble_eq_true rfl) bm_458 hs0 (fun _ _ _ => rfl) rfl hf (fun a_7 ha_7 hf => ?_)
        refine V_getR (pc' := 41) 7 1 dX10_demand_38 rfl (by decide) (Nat.le_of_ble_eq_true rfl) bm_265 ha_7 (fun _ _ _ => rfl) rfl hf (fun a_8 ha_8 hf => ?_)
        refine V_iload_n (pc' := 42) dX10_demand_41 rfl 1 rfl rfl ?_
        refine V_iload_n (pc' := 43) dX10_demand_42 rfl 2 rfl rfl ?_
        refine V_iast (pc' := 44) dX10_demand_43 rfl ha_8 hf (fun h_9 hf => ?_)
        refine V_aload_n (pc' := 45) dX10_demand_44 rfl 0 rfl rfl ?_
        refine V_getR (pc' := 48) 10 0 dX10_demand_45 rfl (by decide) (Nat.le_of_ble_eq_true rfl) bm_458 hs0 (fun _ _ _ => rfl) rfl hf (fun a_10 ha_10 hf => ?_)
        refine V_getR (pc' := 51) 7 2 dX10_demand_48 rfl (by decide) (Nat.le_of_ble_eq_true rfl) bm_267 ha_10 (fun _ _ _ => rfl) rfl hf (fun a_11 ha_11 hf => ?_)
        refine V_iload_n (pc' := 52) dX10_demand_51 rfl 1 rfl rfl ?_
        refine V_iload_n (pc' := 53) dX10_demand_52 rfl 3 rfl rfl ?_
        refine V_iast (pc' := 54) dX10_demand_53 rfl ha_11 hf (fun h_12 hf => ?_)
        refine V_aload_n (pc' := 55) dX10_demand_54 rfl 0 rfl rfl ?_
        refine V_getR (pc' := 58) 10 0 dX10_demand_55 rfl (by decide) (Nat.le_of_ble_eq_true rfl) bm_458 hs0 (fun _ _ _ => rfl) rfl hf (fun a_13 ha_13 hf => ?_)
        refine V_getR (pc' := 61) 7 3 dX10_demand_58 rfl (by decide) (Nat.le_of_ble_eq_true rfl) bm_269 ha_13 (fun _ _ _ => rfl) rfl hf (fun a_14 ha_14 hf => ?_)
        refine V_iload_n (pc' := 62) dX10_demand_61 rfl 1 rfl rfl ?_
        refine V_aload_n (pc' := 63) dX10_demand_62 rfl 0 rfl rfl ?_
        refine V_getR (pc' := 66) 10 1 dX10_demand_63 rfl (by decide) (Nat.le_of_ble_eq_true rfl) bm_459 hs0 (fun _ _ _ => rfl) rfl hf (fun a_15 ha_15 hf => ?_)
        refine V_cvV (pc' := 69) (As := [.int x1, .ref a_15]) (rest := []) dX10_demand_66 rfl mok_X6_put bm_617 6 (by decide) rfl ha_14 rfl rfl (Nat.le_of_ble_eq_true rfl) (by decide) hf (fun q e => ct_X6_put ha_14 ha_15 e) (fun q_16 hf => ?_)
        refine V_iconst (v := 1) (pc' := 70) dX10_demand_69 rfl (by decide) ?_
        obtain rfl := Option.some.inj hf
        exact V_zretL dX10_demand_70 rfl rfl rfl (by decide) ⟨rfl, rfl, rfl⟩
theorem ct_X10_demand {l : Launch} {S : List SHP} {h : MH} {a0 : Nat} {x1 : Int32} {x2 : Int32} {x3 : Int32} (hs0 : S[a0]? = some (.inl 10)) {q : Int32 × MH} (hf : f_X10_demand a0 x1 x2 x3 h = some q) : CT l mX10_demand 8 false 0 0 S [.ref a0, .int x1, .int x2, .int x3] h (QI S q) :=
  CT_ofV (by decide) rfl (Nat.le_of_ble_eq_true rfl) (fun G B hT => v_X10_demand hs0 hf)
/-! LabelStacks.sendDemand(I)V -/
theorem dX10_sendDemand_0 : decode cX10_sendDemand 0 = .ok (.aload_n 0, 1) := by decide +kernel
theorem dX10_sendDemand_1 : decode cX10_sendDemand 1 = .ok (.getfield 12, 3) := by decide +kernel
theorem dX10_sendDemand_4 : decode cX10_sendDemand 4 = .ok (.getfield 264, 3) := by decide +kernel
theorem dX10_sendDemand_7 : decode cX10_sendDemand 7 = .ok (.iload_n 1, 1) := by decide +kernel
theorem dX10_sendDemand_8 : decode cX10_sendDemand 8 = .ok (.aload_n 0, 1) := by decide +kernel
theorem dX10_sendDemand_9 : decode cX10_sendDemand 9 = .ok (.getfield 82, 3) := by decide +kernel
theorem dX10_sendDemand_12 : decode cX10_sendDemand 12 = .ok (.getfield 396, 3) := by decide +kernel
theorem dX10_sendDemand_15 : decode cX10_sendDemand 15 = .ok (.invokevirtual 312, 3) := by decide +kernel
theorem dX10_sendDemand_18 : decode cX10_sendDemand 18 = .ok (.aload_n 0, 1) := by decide +kernel
theorem dX10_sendDemand_19 : decode cX10_sendDemand 19 = .ok (.getfield 82, 3) := by decide +kernel
theorem dX10_sendDemand_22 : decode cX10_sendDemand 22 = .ok (.aload_n 0, 1) := by decide +kernel
theorem dX10_sendDemand_23 : decode cX10_sendDemand 23 = .ok (.getfield 12, 3) := by decide +kernel
theorem dX10_sendDemand_26 : decode cX10_sendDemand 26 = .ok (.getfield 99, 3) := by decide +kernel
theorem dX10_sendDemand_29 : decode cX10_sendDemand 29 = .ok (.aload_n 0, 1) := by decide +kernel
theorem dX10_sendDemand_30 : decode cX10_sendDemand 30 = .ok (.invokevirtual 201, 3) := by decide +kernel
theorem dX10_sendDemand_33 : decode cX10_sendDemand 33 = .ok (.aload_n 0, 1) := by decide +kernel
theorem dX10_sendDemand_34 : decode cX10_sendDemand 34 = .ok (.getfield 12, 3) := by decide +kernel
theorem dX10_sendDemand_37 : decode cX10_sendDemand 37 = .ok (.getfield 258, 3) := by decide +kernel
theorem dX10_sendDemand_40 : decode cX10_sendDemand 40 = .ok (.iload_n 1, 1) := by decide +kernel
theorem dX10_sendDemand_41 : decode cX10_sendDemand 41 = .ok (.iaload, 1) := by decide +kernel
theorem dX10_sendDemand_42 : decode cX10_sendDemand 42 = .ok (.invokevirtual 397, 3) := by decide +kernel
theorem dX10_sendDemand_45 : decode cX10_sendDemand 45 = .ok (.return_, 1) := by decide +kernel
abbrev mX10_sendDemand : MI := (RX10, yX10_sendDemand, cX10_sendDemand, 2, none)
theorem mok_X10_sendDemand : MOKv mX10_sendDemand 1 := ⟨⟨bm_945, bm_114, ⟨by decide, by decide⟩, by decide +kernel⟩, bm_944, bm_22⟩
def f_X10_sendDemand   (a0 : Nat) (x1 : Int32) (h : MH) : Option (MH) :=
  (gR h a0 0).bind fun a_1 =>
  (gR h a_1 3).bind fun a_2 =>
  (gR h a0 14).bind fun a_3 =>
  (gR h a_3 0).bind fun a_4 =>
  (f_X6_copyTo a_2 x1 a_4 h).bind fun q_5 =>
  (gR q_5 a0 14).bind fun a_6 =>
  (gR q_5 a0 0).bind fun a_7 =>
  (gR q_5 a_7 0).bind fun a_8 =>
  (f_X10_freshRoutes a0 q_5).bind fun q_9 =>
  (gR q_9.2 a0 0).bind fun a_10 =>
  (gR q_9.2 a_10 1).bind fun a_11 =>
  (ldI q_9.2 a_11 x1).bind fun x_12 =>
  (f_X3_run a_6 a_8 q_9.1 x_12 q_9.2).bind fun q_13 =>
  some q_13
set_option maxRecDepth 100000 in
set_option maxHeartbeats 4000000 in
theorem v_X10_sendDemand {l : Launch} {G : GE} {B N : Nat} {S : List SHP} {o : MH} {a0 : Nat} {x1 : Int32}    (hs0 : S[a0]? = some (.inl 10)) {h : MH} (hf : f_X10_sendDemand a0 x1 h = some o) : V l G B N mX10_sendDemand (rmm 8 0 0) false 0 0 (QV S o) S 0 0 0 [(0, .ref a0), (1, .int x1)] [] h := by
  unfold f_X10_sendDemand at hf
  refine V_aload_n (pc' := 1) dX10_sendDemand_0 rfl 0 rfl rfl ?_
  refine V_getR (pc' := 4) 10 0 dX10_sendDemand_1 rfl (by decide) (Nat.le_of_ble_eq_true rfl) bm_458 hs0 (fun _ _ _ => rfl) rfl hf (fun a_1 ha_1 hf => ?_)
  refine V_getR (pc' := 7) 7 3 dX10_sendDemand_4 rfl (by decide) (Nat.le_of_ble_eq_true rfl) bm_269 ha_1 (fun _ _ _ => rfl) rfl hf (fun a_2 ha_2 hf => ?_)
  refine V_iload_n (pc' := 8) dX10_sendDemand_7 rfl 1 rfl rfl ?_
  refine V_aload_n (pc' := 9) dX10_sendDemand_8 rfl 0 rfl rfl ?_
  refine V_getR (pc' := 12) 10 14 dX10_sendDemand_9 rfl (by decide) (Nat.le_of_ble_eq_true rfl) bm_472 hs0 (fun _ _ _ => rfl) rfl hf (fun a_3 ha_3 hf => ?_)
  refine V_getR (pc' := 15) 3 0 dX10_sendDemand_12 rfl (by decide) (Nat.le_of_ble_eq_true rfl) bm_414 ha_3 (fun _ _ _ => rfl) rfl hf (fun a_4 ha_4 hf => ?_)
  refine V_cvV (pc' := 18) (As := [.int x1, .ref a_4]) (rest := []) dX10_sendDemand_15 rfl mok_X6_copyTo bm_946 6 (by decide) rfl ha_2 rfl rfl (Nat.le_of_ble_eq_true rfl) (by decide) hf (fun q e => ct_X6_copyTo ha_2 ha_4 e) (fun q_5 hf => ?_)
  refine V_aload_n (pc' := 19) dX10_sendDemand_18 rfl 0 rfl rfl ?_
  refine V_getR (pc' := 22) 10 14 dX10_sendDemand_19 rfl (by decide) (Nat.le_of_ble_eq_true rfl) bm_472 hs0 (fun _ _ _ => rfl) rfl hf (fun a_6 ha_6 hf => ?_)
  refine V_aload_n (pc' := 23) dX10_sendDemand_22 rfl 0 rfl rfl ?_
  refine V_getR (pc' := 26) 10 0 dX10_sendDemand_23 rfl (by decide) (Nat.le_of_ble_eq_true rfl) bm_458 hs0 (fun _ _ _ => rfl) rfl hf (fun a_7 ha_7 hf => ?_)
  refine V_getR (pc' := 29) 7 0 dX10_sendDemand_26 rfl (by decide) (Nat.le_of_ble_eq_true rfl) bm_263 ha_7 (fun _ _ _ => rfl) rfl hf (fun a_8 ha_8 hf => ?_)
  refine V_aload_n (pc' := 30) dX10_sendDemand_29 rfl 0 rfl rfl ?_
  refine V_cvR (pc' := 33) (As := []) (rest := [.ref a_8, .ref a_6]) dX10_sendDemand_30 rfl mok_X10_freshRoutes bm_686 10 (by decide) rfl hs0 rfl rfl (Nat.le_of_ble_eq_true rfl) (by decide) hf (fun q e => ct_X10_freshRoutes hs0 e) (fun q_9 hq_9 hf => ?_)
  refine V_aload_n (pc' := 34) dX10_sendDemand_33 rfl 0 rfl rfl ?_
  refine V_getR (pc' := 37) 10 0 dX10_sendDemand_34 rfl (by decide) (Nat.le_of_ble_eq_true rfl) bm_458 hs0 (fun _ _ _ => rfl) rfl hf (fun a_10 ha_10 hf => ?_)
  refine V_getR (pc' := 40) 7 1 dX10_sendDemand_37 rfl (by decide) (Nat.le_of_ble_eq_true rfl) bm_265 ha_10 (fun _ _ _ => rfl) rfl hf (fun a_11 ha_11 hf => ?_)
  refine V_iload_n (pc' := 41) dX10_sendDemand_40 rfl 1 rfl rfl ?_
  refine V_iald (pc' := 42) dX10_sendDemand_41 rfl ha_11 hf (fun x_12 hf => ?_)
  refine V_cvV (pc' := 45) (As := [.ref a_8, .ref q_9.1, .int x_12]) (rest := []) dX10_sendDemand_42 rfl mok_X3_run bm_823 3 (by decide) rfl ha_6 rfl rfl (Nat.le_of_ble_eq_true rfl) (by decide) hf (fun q e => ct_X3_run ha_6 ha_8 hq_9 e) (fun q_13 hf => ?_)
  obtain rfl := Option.some.inj hf
  exact V_vret dX10_sendDemand_45 rfl rfl rfl ⟨rfl, rfl, rfl⟩
theorem ct_X10_sendDemand {l : Launch} {S : List SHP} {h : MH} {a0 : Nat} {x1 : Int32} (hs0 : S[a0]? = some (.inl 10)) {q : MH} (hf : f_X10_sendDemand a0 x1 h = some q) : CT l mX10_sendDemand 8 false 0 0 S [.ref a0, .int x1] h (QV S q) :=
  CT_ofV (by decide) rfl (Nat.le_of_ble_eq_true rfl) (fun G B hT => v_X10_sendDemand hs0 hf)
/-! LabelStacks.layLoads()V -/
theorem dX10_layLoads_0 : decode cX10_layLoads 0 = .ok (.aload_n 0, 1) := by decide +kernel
theorem dX10_layLoads_1 : decode cX10_layLoads 1 = .ok (.getfield 89, 3) := by decide +kernel
theorem dX10_layLoads_4 : decode cX10_layLoads 4 = .ok (.invokevirtual 401, 3) := by decide +kernel
theorem dX10_layLoads_7 : decode cX10_layLoads 7 = .ok (.iconst 0, 1) := by decide +kernel
theorem dX10_layLoads_8 : decode cX10_layLoads 8 = .ok (.istore_n 1, 1) := by decide +kernel
theorem dX10_layLoads_9 : decode cX10_layLoads 9 = .ok (.iload_n 1, 1) := by decide +kernel
theorem dX10_layLoads_10 : decode cX10_layLoads 10 = .ok (.bipush 8, 2) := by decide +kernel
theorem dX10_layLoads_12 : decode cX10_layLoads 12 = .ok (.if_icmp .ge 63, 3) := by decide +kernel
theorem dX10_layLoads_15 : decode cX10_layLoads 15 = .ok (.aload_n 0, 1) := by decide +kernel
theorem dX10_layLoads_16 : decode cX10_layLoads 16 = .ok (.getfield 12, 3) := by decide +kernel
theorem dX10_layLoads_19 : decode cX10_layLoads 19 = .ok (.getfield 258, 3) := by decide +kernel
theorem dX10_layLoads_22 : decode cX10_layLoads 22 = .ok (.iload_n 1, 1) := by decide +kernel
theorem dX10_layLoads_23 : decode cX10_layLoads 23 = .ok (.iaload, 1) := by decide +kernel
theorem dX10_layLoads_24 : decode cX10_layLoads 24 = .ok (.iconst (-1), 1) := by decide +kernel
theorem dX10_layLoads_25 : decode cX10_layLoads 25 = .ok (.if_icmp .ne 6, 3) := by decide +kernel
theorem dX10_layLoads_28 : decode cX10_layLoads 28 = .ok (.goto 41, 3) := by decide +kernel
theorem dX10_layLoads_31 : decode cX10_layLoads 31 = .ok (.aload_n 0, 1) := by decide +kernel
theorem dX10_layLoads_32 : decode cX10_layLoads 32 = .ok (.iload_n 1, 1) := by decide +kernel
theorem dX10_layLoads_33 : decode cX10_layLoads 33 = .ok (.invokevirtual 349, 3) := by decide +kernel
theorem dX10_layLoads_36 : decode cX10_layLoads 36 = .ok (.aload_n 0, 1) := by decide +kernel
theorem dX10_layLoads_37 : decode cX10_layLoads 37 = .ok (.getfield 82, 3) := by decide +kernel
theorem dX10_layLoads_40 : decode cX10_layLoads 40 = .ok (.invokevirtual 404, 3) := by decide +kernel
theorem dX10_layLoads_43 : decode cX10_layLoads 43 = .ok (.ifCond .ne 26, 3) := by decide +kernel
theorem dX10_layLoads_46 : decode cX10_layLoads 46 = .ok (.aload_n 0, 1) := by decide +kernel
theorem dX10_layLoads_47 : decode cX10_layLoads 47 = .ok (.getfield 89, 3) := by decide +kernel
theorem dX10_layLoads_50 : decode cX10_layLoads 50 = .ok (.aload_n 0, 1) := by decide +kernel
theorem dX10_layLoads_51 : decode cX10_layLoads 51 = .ok (.getfield 82, 3) := by decide +kernel
theorem dX10_layLoads_54 : decode cX10_layLoads 54 = .ok (.getfield 249, 3) := by decide +kernel
theorem dX10_layLoads_57 : decode cX10_layLoads 57 = .ok (.aload_n 0, 1) := by decide +kernel
theorem dX10_layLoads_58 : decode cX10_layLoads 58 = .ok (.getfield 12, 3) := by decide +kernel
theorem dX10_layLoads_61 : decode cX10_layLoads 61 = .ok (.getfield 261, 3) := by decide +kernel
theorem dX10_layLoads_64 : decode cX10_layLoads 64 = .ok (.iload_n 1, 1) := by decide +kernel
theorem dX10_layLoads_65 : decode cX10_layLoads 65 = .ok (.iaload, 1) := by decide +kernel
theorem dX10_layLoads_66 : decode cX10_layLoads 66 = .ok (.invokevirtual 407, 3) := by decide +kernel
theorem dX10_layLoads_69 : decode cX10_layLoads 69 = .ok (.iinc 1 1, 3) := by decide +kernel
theorem dX10_layLoads_72 : decode cX10_layLoads 72 = .ok (.goto (-63), 3) := by decide +kernel
theorem dX10_layLoads_75 : decode cX10_layLoads 75 = .ok (.return_, 1) := by decide +kernel
abbrev mX10_layLoads : MI := (RX10, yX10_layLoads, cX10_layLoads, 2, none)
theorem mok_X10_layLoads : MOKv mX10_layLoads 0 := ⟨⟨bm_940, bm_114, ⟨by decide, by decide⟩, by decide +kernel⟩, bm_939, bm_21⟩
def f_X10_layLoads_69  (k9 : Int32 → MH → Option (MH)) (a0 : Nat) (x1 : Int32) (h : MH) : Option (MH) :=
  k9 (x1 + 1) h
def f_X10_layLoads_9b   (a0 : Nat) (k9 : Int32 → MH → Option (MH)) (p : Int32) (h : MH) : Option (MH) :=
  if p < 8 then
    (gR h a0 0).bind fun a_1 =>
    (gR h a_1 1).bind fun a_2 =>
    (ldI h a_2 p).bind fun x_3 =>
    if x_3 = (-1 : Int32) then
      f_X10_layLoads_69 k9 a0 p h
    else
      (f_X10_sendDemand a0 p h).bind fun q_4 =>
      (gR q_4 a0 14).bind fun a_5 =>
      (f_X3_isDropped a_5 q_4).bind fun q_6 =>
      if q_6.1 = 0 then
        (gR q_6.2 a0 15).bind fun a_7 =>
        (gR q_6.2 a0 14).bind fun a_8 =>
        (gR q_6.2 a_8 2).bind fun a_9 =>
        (gR q_6.2 a0 0).bind fun a_10 =>
        (gR q_6.2 a_10 2).bind fun a_11 =>
        (ldI q_6.2 a_11 p).bind fun x_12 =>
        (f_X1_addAll a_7 a_9 x_12 q_6.2).bind fun q_13 =>
        f_X10_layLoads_69 k9 a0 p q_13
      else
        f_X10_layLoads_69 k9 a0 p q_6.2
  else
    some h
def f_X10_layLoads_9   (a0 : Nat) : Nat → Int32 → MH → Option (MH) := lp (f_X10_layLoads_9b a0)
def f_X10_layLoads   (a0 : Nat) (h : MH) : Option (MH) :=
  (gR h a0 15).bind fun a_1 =>
  (f_X1_clear a_1 h).bind fun q_2 =>
  f_X10_layLoads_9 a0 FU 0 q_2
set_option maxRecDepth 100000 in
set_option maxHeartbeats 4000000 in
theorem v_X10_layLoads_69 {l : Launch} {G : GE} {B N : Nat} {S : List SHP} {o : MH} {a0 : Nat} {x1 : Int32}  {k9 : Int32 → MH → Option (MH)} (hk9 : ∀ (p : Int32) (h : MH), k9 p h = some o → V l G B N mX10_layLoads (rmm 9 0 0) false 0 0 (QV S o) S 0 0 9 [(0, .ref a0), (1, .int p)] [] h) (hs0 : S[a0]? = some (.inl 10)) {h : MH} (hf : f_X10_layLoads_69 k9 a0 x1 h = some o) : V l G B N mX10_layLoads (rmm 9 0 0) false 0 0 (QV S o) S 0 0 69 [(0, .ref a0), (1, .int x1)] [] h := by
  unfold f_X10_layLoads_69 at hf
  refine V_iinc (v := (x1 + 1)) (lv' := [(1, .int (x1 + 1)), (0, .ref a0)]) (pc' := 72) dX10_layLoads_69 rfl 1 rfl rfl (Nat.le_of_ble_eq_true rfl) rfl ?_
  refine V_goto (tgt := 9) dX10_layLoads_72 (by decide) ?_
  exact V_sub (lv' := [(0, .ref a0), (1, .int (x1 + 1))]) [1, 0] rfl (hk9 (x1 + 1) h hf)
set_option maxRecDepth 100000 in
set_option maxHeartbeats 4000000 in
theorem v_X10_layLoads_9b {l : Launch} {G : GE} {B N : Nat} {S : List SHP} {o : MH} {a0 : Nat}    (hs0 : S[a0]? = some (.inl 10)) {k9 : Int32 → MH → Option (MH)} (hk9 : ∀ (p : Int32) (h : MH), k9 p h = some o → V l G B N mX10_layLoads (rmm 9 0 0) false 0 0 (QV S o) S 0 0 9 [(0, .ref a0), (1, .int p)] [] h) {p : Int32} {h : MH} (hf : f_X10_layLoads_9b a0 k9 p h = some o) : V l G B N mX10_layLoads (rmm 9 0 0) false 0 0 (QV S o) S 0 0 9 [(0, .ref a0), (1, .int p)] [] h := by
  unfold f_X10_layLoads_9b at hf
  refine V_iload_n (pc' := 10) dX10_layLoads_9 rfl 1 rfl rfl ?_
  refine V_bipush (v := 8) (pc' := 12) dX10_layLoads_10 rfl (by decide) ?_
  refine V_icmp_ge (tgt := 75) (pc' := 15) dX10_layLoads_12 (by decide) rfl hf (fun hf => ?_) (fun hf => ?_)
  ·
    refine V_aload_n (pc' := 16) dX10_layLoads_15 rfl 0 rfl rfl ?_
    refine V_getR (pc' := 19) 10 0 dX10_layLoads_16 rfl (by decide) (Nat.le_of_ble_eq_true rfl) bm_458 hs0 (fun _ _ _ => rfl) rfl hf (fun a_1 ha_1 hf => ?_)
    refine V_getR (pc' := 22) 7 1 dX10_layLoads_19 rfl (by decide) (Nat.le_of_ble_eq_true rfl) bm_265 ha_1 (fun _ _ _ => rfl) rfl hf (fun a_2 ha_2 hf => ?_)
    refine V_iload_n (pc' := 23) dX10_layLoads_22 rfl 1 rfl rfl ?_
    refine V_iald (pc' := 24) dX10_layLoads_23 rfl ha_2 hf (fun x_3 hf => ?_)
    refine V_iconst (v := (-1)) (pc' := 25) dX10_layLoads_24 rfl (by decide) ?_
    refine V_icmp_ne (tgt := 31) (pc' := 28) dX10_layLoads_25 (by decide) rfl hf (fun hf => ?_) (fun hf => ?_)
    ·
      refine V_goto (tgt := 69) dX10_layLoads_28 (by decide) ?_
      exact V_sub (lv' := [(0, .ref a0), (1, .int p)]) [0, 1] rfl (v_X10_layLoads_69 hk9 hs0 hf)
    ·
      refine V_aload_n (pc' := 32) dX10_layLoads_31 rfl 0 rfl rfl ?_
      refine V_iload_n (pc' := 33) dX10_layLoads_32 rfl 1 rfl rfl ?_
      refine V_cvV (pc' := 36) (As := [.int p]) (rest := []) dX10_layLoads_33 rfl mok_X10_sendDemand bm_942 10 (by decide) rfl hs0 rfl rfl (Nat.le_of_ble_eq_true rfl) (by decide) hf (fun q e => ct_X10_sendDemand hs0 e) (fun q_4 hf => ?_)
      refine V_aload_n (pc' := 37) dX10_layLoads_36 rfl 0 rfl rfl ?_
      refine V_getR (pc' := 40) 10 14 dX10_layLoads_37 rfl (by decide) (Nat.le_of_ble_eq_true rfl) bm_472 hs0 (fun _ _ _ => rfl) rfl hf (fun a_5 ha_5 hf => ?_)
      refine V_cvI (pc' := 43) (As := []) (rest := []) dX10_layLoads_40 rfl mok_X3_isDropped bm_952 3 (by decide) rfl ha_5 rfl rfl (Nat.le_of_ble_eq_true rfl) (by decide) hf (fun q e => ct_X3_isDropped ha_5 e) (fun q_6 hf => ?_)
      refine V_if_ne (tgt := 69) (pc' := 46) dX10_layLoads_43 (by decide) rfl hf (fun hf => ?_) (fun hf => ?_)
      ·
        refine V_aload_n (pc' := 47) dX10_layLoads_46 rfl 0 rfl rfl ?_
        refine V_getR (pc' := 50) 10 15 dX10_layLoads_47 rfl (by decide) (Nat.le_of_ble_eq_true rfl) bm_473 hs0 (fun _ _ _ => rfl) rfl hf (fun a_7 ha_7 hf => ?_)
        refine V_aload_n (pc' := 51) dX10_layLoads_50 rfl 0 rfl rfl ?_
        refine V_getR (pc' := 54) 10 14 dX10_layLoads_51 rfl (by decide) (Nat.le_of_ble_eq_true rfl) bm_472 hs0 (fun _ _ _ => rfl) rfl hf (fun a_8 ha_8 hf => ?_)
        refine V_getR (pc' := 57) 3 2 dX10_layLoads_54 rfl (by decide) (Nat.le_of_ble_eq_true rfl) bm_418 ha_8 (fun _ _ _ => rfl) rfl hf (fun a_9 ha_9 hf => ?_)
        refine V_aload_n (pc' := 58) dX10_layLoads_57 rfl 0 rfl rfl ?_
        refine V_getR (pc' := 61) 10 0 dX10_layLoads_58 rfl (by decide) (Nat.le_of_ble_eq_true rfl) bm_458 hs0 (fun _ _ _ => rfl) rfl hf (fun a_10 ha_10 hf => ?_)
        refine V_getR (pc' := 64) 7 2 dX10_layLoads_61 rfl (by decide) (Nat.le_of_ble_eq_true rfl) bm_267 ha_10 (fun _ _ _ => rfl) rfl hf (fun a_11 ha_11 hf => ?_)
        refine V_iload_n (pc' := 65) dX10_layLoads_64 rfl 1 rfl rfl ?_
        refine V_iald (pc' := 66) dX10_layLoads_65 rfl ha_11 hf (fun x_12 hf => ?_)
        refine V_cvV (pc' := 69) (As := [.ref a_9, .int x_12]) (rest := []) dX10_layLoads_66 rfl mok_X1_addAll bm_956 1 (by decide) rfl ha_7 rfl rfl (Nat.le_of_ble_eq_true rfl) (by decide) hf (fun q e => ct_X1_addAll ha_7 ha_9 e) (fun q_13 hf => ?_)
        exact V_sub (lv' := [(0, .ref a0), (1, .int p)]) [0, 1] rfl (v_X10_layLoads_69 hk9 hs0 hf)
      ·
        exact V_sub (lv' := [(0, .ref a0), (1, .int p)]) [0, 1] rfl (v_X10_layLoads_69 hk9 hs0 hf)
  ·
    obtain rfl := Option.some.inj hf
    exact V_vret dX10_layLoads_75 rfl rfl rfl ⟨rfl, rfl, rfl⟩
theorem v_X10_layLoads_9 {l : Launch} {G : GE} {B N : Nat} {S : List SHP} {o : MH} {a0 : Nat}    (hs0 : S[a0]? = some (.inl 10)) {n : Nat} {p : Int32} {h : MH} (hf : f_X10_layLoads_9 a0 n p h = some o) : V l G B N mX10_layLoads (rmm 9 0 0) false 0 0 (QV S o) S 0 0 9 [(0, .ref a0), (1, .int p)] [] h :=
  V_lp (VV := fun p h => V l G B N mX10_layLoads (rmm 9 0 0) false 0 0 (QV S o) S 0 0 9 [(0, .ref a0), (1, .int p)] [] h) (fun _ hk _ _ hf => v_X10_layLoads_9b hs0 hk hf) n p h hf
set_option maxRecDepth 100000 in
set_option maxHeartbeats 4000000 in
theorem v_X10_layLoads {l : Launch} {G : GE} {B N : Nat} {S : List SHP} {o : MH} {a0 : Nat}    (hs0 : S[a0]? = some (.inl 10)) {h : MH} (hf : f_X10_layLoads a0 h = some o) : V l G B N mX10_layLoads (rmm 9 0 0) false 0 0 (QV S o) S 0 0 0 [(0, .ref a0)] [] h := by
  unfold f_X10_layLoads at hf
  refine V_aload_n (pc' := 1) dX10_layLoads_0 rfl 0 rfl rfl ?_
  refine V_getR (pc' := 4) 10 15 dX10_layLoads_1 rfl (by decide) (Nat.le_of_ble_eq_true rfl) bm_473 hs0 (fun _ _ _ => rfl) rfl hf (fun a_1 ha_1 hf => ?_)
  refine V_cvV (pc' := 7) (As := []) (rest := []) dX10_layLoads_4 rfl mok_X1_clear bm_941 1 (by decide) rfl ha_1 rfl rfl (Nat.le_of_ble_eq_true rfl) (by decide) hf (fun q e => ct_X1_clear ha_1 e) (fun q_2 hf => ?_)
  refine V_iconst (v := 0) (pc' := 8) dX10_layLoads_7 rfl (by decide) ?_
  refine V_istore_n (lv' := [(1, .int 0), (0, .ref a0)]) (pc' := 9) dX10_layLoads_8 rfl rfl (Nat.le_of_ble_eq_true rfl) rfl ?_
  exact V_sub (lv' := [(0, .ref a0), (1, .int 0)]) [1, 0] rfl (v_X10_layLoads_9 hs0 hf)
theorem ct_X10_layLoads {l : Launch} {S : List SHP} {h : MH} {a0 : Nat} (hs0 : S[a0]? = some (.inl 10)) {q : MH} (hf : f_X10_layLoads a0 h = some q) : CT l mX10_layLoads 9 false 0 0 S [.ref a0] h (QV S q) :=
  CT_ofV (by decide) rfl (Nat.le_of_ble_eq_true rfl) (fun G B hT => v_X10_layLoads hs0 hf)
/-! LabelStacks.load(II)J -/
theorem dX10_load_0 : decode cX10_load 0 = .ok (.aload_n 0, 1) := by decide +kernel
theorem dX10_load_1 : decode cX10_load 1 = .ok (.getfield 12, 3) := by decide +kernel
theorem dX10_load_4 : decode cX10_load 4 = .ok (.getfield 99, 3) := by decide +kernel
theorem dX10_load_7 : decode cX10_load 7 = .ok (.iload_n 1, 1) := by decide +kernel
theorem dX10_load_8 : decode cX10_load 8 = .ok (.invokevirtual 125, 3) := by decide +kernel
theorem dX10_load_11 : decode cX10_load 11 = .ok (.ifCond .eq 12, 3) := by decide +kernel
theorem dX10_load_14 : decode cX10_load 14 = .ok (.iload_n 2, 1) := by decide +kernel
theorem dX10_load_15 : decode cX10_load 15 = .ok (.ifCond .lt 8, 3) := by decide +kernel
theorem dX10_load_18 : decode cX10_load 18 = .ok (.iload_n 2, 1) := by decide +kernel
theorem dX10_load_19 : decode cX10_load 19 = .ok (.iconst 1, 1) := by decide +kernel
theorem dX10_load_20 : decode cX10_load 20 = .ok (.if_icmp .le 7, 3) := by decide +kernel
theorem dX10_load_23 : decode cX10_load 23 = .ok (.ldc2_w 218, 3) := by decide +kernel
theorem dX10_load_26 : decode cX10_load 26 = .ok (.lreturn, 1) := by decide +kernel
theorem dX10_load_27 : decode cX10_load 27 = .ok (.aload_n 0, 1) := by decide +kernel
theorem dX10_load_28 : decode cX10_load 28 = .ok (.invokevirtual 267, 3) := by decide +kernel
theorem dX10_load_31 : decode cX10_load 31 = .ok (.aload_n 0, 1) := by decide +kernel
theorem dX10_load_32 : decode cX10_load 32 = .ok (.getfield 89, 3) := by decide +kernel
theorem dX10_load_35 : decode cX10_load 35 = .ok (.iload_n 1, 1) := by decide +kernel
theorem dX10_load_36 : decode cX10_load 36 = .ok (.iload_n 2, 1) := by decide +kernel
theorem dX10_load_37 : decode cX10_load 37 = .ok (.invokevirtual 252, 3) := by decide +kernel
theorem dX10_load_40 : decode cX10_load 40 = .ok (.lreturn, 1) := by decide +kernel
abbrev mX10_load : MI := (RX10, yX10_load, cX10_load, 3, (some .long))
theorem mok_X10_load : MOKv mX10_load 2 := ⟨⟨bm_936, bm_114, ⟨by decide, by decide⟩, by decide +kernel⟩, bm_934, bm_935⟩
def f_X10_load_23    (h : MH) : Option (Int64 × MH) :=
  some ((-1 : Int64), h)
def f_X10_load   (a0 : Nat) (x1 : Int32) (x2 : Int32) (h : MH) : Option (Int64 × MH) :=
  (gR h a0 0).bind fun a_1 =>
  (gR h a_1 0).bind fun a_2 =>
  (f_X2_hasLink a_2 x1 h).bind fun q_3 =>
  if q_3.1 = 0 then
    f_X10_load_23  q_3.2
  else
    if x2 < 0 then
      f_X10_load_23  q_3.2
    else
      if 1 < x2 then
        f_X10_load_23  q_3.2
      else
        (f_X10_layLoads a0 q_3.2).bind fun q_4 =>
        (gR q_4 a0 15).bind fun a_5 =>
        (f_X1_get a_5 x1 x2 q_4).bind fun q_6 =>
        some (q_6.1, q_6.2)
set_option maxRecDepth 100000 in
set_option maxHeartbeats 4000000 in
theorem v_X10_load_23 {l : Launch} {G : GE} {B N : Nat} {S : List SHP} {o : Int64 × MH}      {h : MH} (hf : f_X10_load_23  h = some o) : V l G B N mX10_load (rmm 10 0 0) false 0 0 (QL S o) S 0 0 23 [] [] h := by
  unfold f_X10_load_23 at hf
  refine V_ldc2 (v := (-1)) (pc' := 26) dX10_load_23 rfl bm_803 ?_
  obtain rfl := Option.some.inj hf
  exact V_lret dX10_load_26 rfl rfl rfl ⟨rfl, rfl, rfl⟩
set_option maxRecDepth 100000 in
set_option maxHeartbeats 4000000 in
theorem v_X10_load {l : Launch} {G : GE} {B N : Nat} {S : List SHP} {o : Int64 × MH} {a0 : Nat} {x1 : Int32} {x2 : Int32}    (hs0 : S[a0]? = some (.inl 10)) {h : MH} (hf : f_X10_load a0 x1 x2 h = some o) : V l G B N mX10_load (rmm 10 0 0) false 0 0 (QL S o) S 0 0 0 [(0, .ref a0), (1, .int x1), (2, .int x2)] [] h := by
  unfold f_X10_load at hf
  refine V_aload_n (pc' := 1) dX10_load_0 rfl 0 rfl rfl ?_
  refine V_getR (pc' := 4) 10 0 dX10_load_1 rfl (by decide) (Nat.le_of_ble_eq_true rfl) bm_458 hs0 (fun _ _ _ => rfl) rfl hf (fun a_1 ha_1 hf => ?_)
  refine V_getR (pc' := 7) 7 0 dX10_load_4 rfl (by decide) (Nat.le_of_ble_eq_true rfl) bm_263 ha_1 (fun _ _ _ => rfl) rfl hf (fun a_2 ha_2 hf => ?_)
  refine V_iload_n (pc' := 8) dX10_load_7 rfl 1 rfl rfl ?_
  refine V_cvI (pc' := 11) (As := [.int x1]) (rest := []) dX10_load_8 rfl mok_X2_hasLink bm_589 2 (by decide) rfl ha_2 rfl rfl (Nat.le_of_ble_eq_true rfl) (by decide) hf (fun q e => ct_X2_hasLink ha_2 e) (fun q_3 hf => ?_)
  refine V_if_eq (tgt := 23) (pc' := 14) dX10_load_11 (by decide) rfl hf (fun hf => ?_) (fun hf => ?_)
  ·
    exact V_sub (lv' := []) [] rfl (v_X10_load_23  hf)
  ·
    refine V_iload_n (pc' := 15) dX10_load_14 rfl 2 rfl rfl ?_
    refine V_if_lt (tgt := 23) (pc' := 18) dX10_load_15 (by decide) rfl hf (fun hf => ?_) (fun hf => ?_)
    ·
      exact V_sub (lv' := []) [] rfl (v_X10_load_23  hf)
    ·
      refine V_iload_n (pc' := 19) dX10_load_18 rfl 2 rfl rfl ?_
      refine V_iconst (v := 1) (pc' := 20) dX10_load_19 rfl (by decide) ?_
      refine V_icmp_le (tgt := 27) (pc' := 23) dX10_load_20 (by decide) rfl hf (fun hf => ?_) (fun hf => ?_)
      ·
        exact V_sub (lv' := []) [] rfl (v_X10_load_23  hf)
      ·
        refine V_aload_n (pc' := 28) dX10_load_27 rfl 0 rfl rfl ?_
        refine V_cvV (pc' := 31) (As := []) (rest := []) dX10_load_28 rfl mok_X10_layLoads bm_937 10 (by decide) rfl hs0 rfl rfl (Nat.le_of_ble_eq_true rfl) (by decide) hf (fun q e => ct_X10_layLoads hs0 e) (fun q_4 hf => ?_)
        refine V_aload_n (pc' := 32) dX10_load_31 rfl 0 rfl rfl ?_
        refine V_getR (pc' := 35) 10 15 dX10_load_32 rfl (by decide) (Nat.le_of_ble_eq_true rfl) bm_473 hs0 (fun _ _ _ => rfl) rfl hf (fun a_5 ha_5 hf => ?_)
        refine V_iload_n (pc' := 36) dX10_load_35 rfl 1 rfl rfl ?_
        refine V_iload_n (pc' := 37) dX10_load_36 rfl 2 rfl rfl ?_
        refine V_cvL (pc' := 40) (As := [.int x1, .int x2]) (rest := []) dX10_load_37 rfl mok_X1_get bm_921 1 (by decide) rfl ha_5 rfl rfl (Nat.le_of_ble_eq_true rfl) (by decide) hf (fun q e => ct_X1_get ha_5 e) (fun q_6 hf => ?_)
        obtain rfl := Option.some.inj hf
        exact V_lret dX10_load_40 rfl rfl rfl ⟨rfl, rfl, rfl⟩
theorem ct_X10_load {l : Launch} {S : List SHP} {h : MH} {a0 : Nat} {x1 : Int32} {x2 : Int32} (hs0 : S[a0]? = some (.inl 10)) {q : Int64 × MH} (hf : f_X10_load a0 x1 x2 h = some q) : CT l mX10_load 10 false 0 0 S [.ref a0, .int x1, .int x2] h (QL S q) :=
  CT_ofV (by decide) rfl (Nat.le_of_ble_eq_true rfl) (fun G B hT => v_X10_load hs0 hf)
/-! LabelStacks.heaviest()I -/
theorem dX10_heaviest_0 : decode cX10_heaviest 0 = .ok (.aload_n 0, 1) := by decide +kernel
theorem dX10_heaviest_1 : decode cX10_heaviest 1 = .ok (.invokevirtual 267, 3) := by decide +kernel
theorem dX10_heaviest_4 : decode cX10_heaviest 4 = .ok (.iconst (-1), 1) := by decide +kernel
theorem dX10_heaviest_5 : decode cX10_heaviest 5 = .ok (.istore_n 1, 1) := by decide +kernel
theorem dX10_heaviest_6 : decode cX10_heaviest 6 = .ok (.iconst 0, 1) := by decide +kernel
theorem dX10_heaviest_7 : decode cX10_heaviest 7 = .ok (.istore_n 2, 1) := by decide +kernel
theorem dX10_heaviest_8 : decode cX10_heaviest 8 = .ok (.iload_n 2, 1) := by decide +kernel
theorem dX10_heaviest_9 : decode cX10_heaviest 9 = .ok (.aload_n 0, 1) := by decide +kernel
theorem dX10_heaviest_10 : decode cX10_heaviest 10 = .ok (.getfield 12, 3) := by decide +kernel
theorem dX10_heaviest_13 : decode cX10_heaviest 13 = .ok (.getfield 99, 3) := by decide +kernel
theorem dX10_heaviest_16 : decode cX10_heaviest 16 = .ok (.getfield 118, 3) := by decide +kernel
theorem dX10_heaviest_19 : decode cX10_heaviest 19 = .ok (.if_icmp .ge 23, 3) := by decide +kernel
theorem dX10_heaviest_22 : decode cX10_heaviest 22 = .ok (.aload_n 0, 1) := by decide +kernel
theorem dX10_heaviest_23 : decode cX10_heaviest 23 = .ok (.getfield 89, 3) := by decide +kernel
theorem dX10_heaviest_26 : decode cX10_heaviest 26 = .ok (.iload_n 2, 1) := by decide +kernel
theorem dX10_heaviest_27 : decode cX10_heaviest 27 = .ok (.iload_n 1, 1) := by decide +kernel
theorem dX10_heaviest_28 : decode cX10_heaviest 28 = .ok (.invokevirtual 270, 3) := by decide +kernel
theorem dX10_heaviest_31 : decode cX10_heaviest 31 = .ok (.ifCond .eq 5, 3) := by decide +kernel
theorem dX10_heaviest_34 : decode cX10_heaviest 34 = .ok (.iload_n 2, 1) := by decide +kernel
theorem dX10_heaviest_35 : decode cX10_heaviest 35 = .ok (.istore_n 1, 1) := by decide +kernel
theorem dX10_heaviest_36 : decode cX10_heaviest 36 = .ok (.iinc 2 1, 3) := by decide +kernel
theorem dX10_heaviest_39 : decode cX10_heaviest 39 = .ok (.goto (-31), 3) := by decide +kernel
theorem dX10_heaviest_42 : decode cX10_heaviest 42 = .ok (.iload_n 1, 1) := by decide +kernel
theorem dX10_heaviest_43 : decode cX10_heaviest 43 = .ok (.ireturn, 1) := by decide +kernel
abbrev mX10_heaviest : MI := (RX10, yX10_heaviest, cX10_heaviest, 3, (some .int))
theorem mok_X10_heaviest : MOKv mX10_heaviest 0 := ⟨⟨bm_964, bm_114, ⟨by decide, by decide⟩, by decide +kernel⟩, bm_962, bm_963⟩
def f_X10_heaviest_36  (k8 : Int32 × Int32 → MH → Option (Int32 × MH)) (a0 : Nat) (x1 : Int32) (x2 : Int32) (h : MH) : Option (Int32 × MH) :=
  k8 (x1, (x2 + 1)) h
def f_X10_heaviest_8b   (a0 : Nat) (k8 : Int32 × Int32 → MH → Option (Int32 × MH)) (p : Int32 × Int32) (h : MH) : Option (Int32 × MH) :=
  (gR h a0 0).bind fun a_1 =>
  (gR h a_1 0).bind fun a_2 =>
  if p.2 < (gI h a_2 1) then
    (gR h a0 15).bind fun a_3 =>
    (f_X1_isGreater a_3 p.2 p.1 h).bind fun q_4 =>
    if q_4.1 = 0 then
      f_X10_heaviest_36 k8 a0 p.1 p.2 q_4.2
    else
      f_X10_heaviest_36 k8 a0 p.2 p.2 q_4.2
  else
    some (p.1, h)
def f_X10_heaviest_8   (a0 : Nat) : Nat → Int32 × Int32 → MH → Option (Int32 × MH) := lp (f_X10_heaviest_8b a0)
def f_X10_heaviest   (a0 : Nat) (h : MH) : Option (Int32 × MH) :=
  (f_X10_layLoads a0 h).bind fun q_1 =>
  f_X10_heaviest_8 a0 FU ((-1 : Int32), 0) q_1
set_option maxRecDepth 100000 in
set_option maxHeartbeats 4000000 in
theorem v_X10_heaviest_36 {l : Launch} {G : GE} {B N : Nat} {S : List SHP} {o : Int32 × MH} {a0 : Nat} {x1 : Int32} {x2 : Int32}  {k8 : Int32 × Int32 → MH → Option (Int32 × MH)} (hk8 : ∀ (p : Int32 × Int32) (h : MH), k8 p h = some o → V l G B N mX10_heaviest (rmm 10 0 0) false 0 0 (QI S o) S 0 0 8 [(0, .ref a0), (1, .int p.1), (2, .int p.2)] [] h) (hs0 : S[a0]? = some (.inl 10)) {h : MH} (hf : f_X10_heaviest_36 k8 a0 x1 x2 h = some o) : V l G B N mX10_heaviest (rmm 10 0 0) false 0 0 (QI S o) S 0 0 36 [(0, .ref a0), (1, .int x1), (2, .int x2)] [] h := by
  unfold f_X10_heaviest_36 at hf
  refine V_iinc (v := (x2 + 1)) (lv' := [(2, .int (x2 + 1)), (0, .ref a0), (1, .int x1)]) (pc' := 39) dX10_heaviest_36 rfl 2 rfl rfl (Nat.le_of_ble_eq_true rfl) rfl ?_
  refine V_goto (tgt := 8) dX10_heaviest_39 (by decide) ?_
  exact V_sub (lv' := [(0, .ref a0), (1, .int x1), (2, .int (x2 + 1))]) [1, 2, 0] rfl (hk8 (x1, (x2 + 1)) h hf)
set_option maxRecDepth 100000 in
set_option maxHeartbeats 4000000 in
theorem v_X10_heaviest_8b {l : Launch} {G : GE} {B N : Nat} {S : List SHP} {o : Int32 × MH} {a0 : Nat}    (hs0 : S[a0]? = some (.inl 10)) {k8 : Int32 × Int32 → MH → Option (Int32 × MH)} (hk8 : ∀ (p : Int32 × Int32) (h : MH), k8 p h = some o → V l G B N mX10_heaviest (rmm 10 0 0) false 0 0 (QI S o) S 0 0 8 [(0, .ref a0), (1, .int p.1), (2, .int p.2)] [] h) {p : Int32 × Int32} {h : MH} (hf : f_X10_heaviest_8b a0 k8 p h = some o) : V l G B N mX10_heaviest (rmm 10 0 0) false 0 0 (QI S o) S 0 0 8 [(0, .ref a0), (1, .int p.1), (2, .int p.2)] [] h := by
  unfold f_X10_heaviest_8b at hf
  refine V_iload_n (pc' := 9) dX10_heaviest_8 rfl 2 rfl rfl ?_
  refine V_aload_n (pc' := 10) dX10_heaviest_9 rfl 0 rfl rfl ?_
  refine V_getR (pc' := 13) 10 0 dX10_heaviest_10 rfl (by decide) (Nat.le_of_ble_eq_true rfl) bm_458 hs0 (fun _ _ _ => rfl) rfl hf (fun a_1 ha_1 hf => ?_)
  refine V_getR (pc' := 16) 7 0 dX10_heaviest_13 rfl (by decide) (Nat.le_of_ble_eq_true rfl) bm_263 ha_1 (fun _ _ _ => rfl) rfl hf (fun a_2 ha_2 hf => ?_)
  refine V_getI (pc' := 19) 2 1 dX10_heaviest_16 rfl (by decide) (Nat.le_of_ble_eq_true rfl) bm_189 ha_2 (fun _ _ _ => rfl) ?_
  refine V_icmp_ge (tgt := 42) (pc' := 22) dX10_heaviest_19 (by decide) rfl hf (fun hf => ?_) (fun hf => ?_)
  ·
    refine V_aload_n (pc' := 23) dX10_heaviest_22 rfl 0 rfl rfl ?_
    refine V_getR (pc' := 26) 10 15 dX10_heaviest_23 rfl (by decide) (Nat.le_of_ble_eq_true rfl) bm_473 hs0 (fun _ _ _ => rfl) rfl hf (fun a_3 ha_3 hf => ?_)
    refine V_iload_n (pc' := 27) dX10_heaviest_26 rfl 2 rfl rfl ?_
    refine V_iload_n (pc' := 28) dX10_heaviest_27 rfl 1 rfl rfl ?_
    refine V_cvI (pc' := 31) (As := [.int p.2, .int p.1]) (rest := []) dX10_heaviest_28 rfl mok_X1_isGreater bm_965 1 (by decide) rfl ha_3 rfl rfl (Nat.le_of_ble_eq_true rfl) (by decide) hf (fun q e => ct_X1_isGreater ha_3 e) (fun q_4 hf => ?_)
    refine V_if_eq (tgt := 36) (pc' := 34) dX10_heaviest_31 (by decide) rfl hf (fun hf => ?_) (fun hf => ?_)
    ·
      exact V_sub (lv' := [(0, .ref a0), (1, .int p.1), (2, .int p.2)]) [0, 1, 2] rfl (v_X10_heaviest_36 hk8 hs0 hf)
    ·
      refine V_iload_n (pc' := 35) dX10_heaviest_34 rfl 2 rfl rfl ?_
      refine V_istore_n (lv' := [(1, .int p.2), (0, .ref a0), (2, .int p.2)]) (pc' := 36) dX10_heaviest_35 rfl rfl (Nat.le_of_ble_eq_true rfl) rfl ?_
      exact V_sub (lv' := [(0, .ref a0), (1, .int p.2), (2, .int p.2)]) [1, 0, 2] rfl (v_X10_heaviest_36 hk8 hs0 hf)
  ·
    refine V_iload_n (pc' := 43) dX10_heaviest_42 rfl 1 rfl rfl ?_
    obtain rfl := Option.some.inj hf
    exact V_iret dX10_heaviest_43 rfl rfl rfl ⟨rfl, rfl, rfl⟩
theorem v_X10_heaviest_8 {l : Launch} {G : GE} {B N : Nat} {S : List SHP} {o : Int32 × MH} {a0 : Nat}    (hs0 : S[a0]? = some (.inl 10)) {n : Nat} {p : Int32 × Int32} {h : MH} (hf : f_X10_heaviest_8 a0 n p h = some o) : V l G B N mX10_heaviest (rmm 10 0 0) false 0 0 (QI S o) S 0 0 8 [(0, .ref a0), (1, .int p.1), (2, .int p.2)] [] h :=
  V_lp (VV := fun p h => V l G B N mX10_heaviest (rmm 10 0 0) false 0 0 (QI S o) S 0 0 8 [(0, .ref a0), (1, .int p.1), (2, .int p.2)] [] h) (fun _ hk _ _ hf => v_X10_heaviest_8b hs0 hk hf) n p h hf
set_option maxRecDepth 100000 in
set_option maxHeartbeats 4000000 in
theorem v_X10_heaviest {l : Launch} {G : GE} {B N : Nat} {S : List SHP} {o : Int32 × MH} {a0 : Nat}    (hs0 : S[a0]? = some (.inl 10)) {h : MH} (hf : f_X10_heaviest a0 h = some o) : V l G B N mX10_heaviest (rmm 10 0 0) false 0 0 (QI S o) S 0 0 0 [(0, .ref a0)] [] h := by
  unfold f_X10_heaviest at hf
  refine V_aload_n (pc' := 1) dX10_heaviest_0 rfl 0 rfl rfl ?_
  refine V_cvV (pc' := 4) (As := []) (rest := []) dX10_heaviest_1 rfl mok_X10_layLoads bm_937 10 (by decide) rfl hs0 rfl rfl (Nat.le_of_ble_eq_true rfl) (by decide) hf (fun q e => ct_X10_layLoads hs0 e) (fun q_1 hf => ?_)
  refine V_iconst (v := (-1)) (pc' := 5) dX10_heaviest_4 rfl (by decide) ?_
  refine V_istore_n (lv' := [(1, .int (-1 : Int32)), (0, .ref a0)]) (pc' := 6) dX10_heaviest_5 rfl rfl (Nat.le_of_ble_eq_true rfl) rfl ?_
  refine V_iconst (v := 0) (pc' := 7) dX10_heaviest_6 rfl (by decide) ?_
  refine V_istore_n (lv' := [(2, .int 0), (1, .int (-1 : Int32)), (0, .ref a0)]) (pc' := 8) dX10_heaviest_7 rfl rfl (Nat.le_of_ble_eq_true rfl) rfl ?_
  exact V_sub (lv' := [(0, .ref a0), (1, .int (-1 : Int32)), (2, .int 0)]) [2, 1, 0] rfl (v_X10_heaviest_8 hs0 hf)
theorem ct_X10_heaviest {l : Launch} {S : List SHP} {h : MH} {a0 : Nat} (hs0 : S[a0]? = some (.inl 10)) {q : Int32 × MH} (hf : f_X10_heaviest a0 h = some q) : CT l mX10_heaviest 10 false 0 0 S [.ref a0] h (QI S q) :=
  CT_ofV (by decide) rfl (Nat.le_of_ble_eq_true rfl) (fun G B hT => v_X10_heaviest hs0 hf)
/-! LabelStacks.foundRound(II)Z -/
theorem dX10_foundRound_0 : decode cX10_foundRound 0 = .ok (.aload_n 0, 1) := by decide +kernel
theorem dX10_foundRound_1 : decode cX10_foundRound 1 = .ok (.getfield 12, 3) := by decide +kernel
theorem dX10_foundRound_4 : decode cX10_foundRound 4 = .ok (.getfield 99, 3) := by decide +kernel
theorem dX10_foundRound_7 : decode cX10_foundRound 7 = .ok (.astore_n 3, 1) := by decide +kernel
theorem dX10_foundRound_8 : decode cX10_foundRound 8 = .ok (.aload_n 3, 1) := by decide +kernel
theorem dX10_foundRound_9 : decode cX10_foundRound 9 = .ok (.iload_n 1, 1) := by decide +kernel
theorem dX10_foundRound_10 : decode cX10_foundRound 10 = .ok (.invokevirtual 382, 3) := by decide +kernel
theorem dX10_foundRound_13 : decode cX10_foundRound 13 = .ok (.istore 4, 2) := by decide +kernel
theorem dX10_foundRound_15 : decode cX10_foundRound 15 = .ok (.aload_n 0, 1) := by decide +kernel
theorem dX10_foundRound_16 : decode cX10_foundRound 16 = .ok (.getfield 93, 3) := by decide +kernel
theorem dX10_foundRound_19 : decode cX10_foundRound 19 = .ok (.iconst 0, 1) := by decide +kernel
theorem dX10_foundRound_20 : decode cX10_foundRound 20 = .ok (.putfield 168, 3) := by decide +kernel
theorem dX10_foundRound_23 : decode cX10_foundRound 23 = .ok (.aload_n 0, 1) := by decide +kernel
theorem dX10_foundRound_24 : decode cX10_foundRound 24 = .ok (.getfield 63, 3) := by decide +kernel
theorem dX10_foundRound_27 : decode cX10_foundRound 27 = .ok (.aload_n 3, 1) := by decide +kernel
theorem dX10_foundRound_28 : decode cX10_foundRound 28 = .ok (.iload_n 2, 1) := by decide +kernel
theorem dX10_foundRound_29 : decode cX10_foundRound 29 = .ok (.iload_n 1, 1) := by decide +kernel
theorem dX10_foundRound_30 : decode cX10_foundRound 30 = .ok (.invokevirtual 411, 3) := by decide +kernel
theorem dX10_foundRound_33 : decode cX10_foundRound 33 = .ok (.iload 4, 2) := by decide +kernel
theorem dX10_foundRound_35 : decode cX10_foundRound 35 = .ok (.iload_n 2, 1) := by decide +kernel
theorem dX10_foundRound_36 : decode cX10_foundRound 36 = .ok (.if_icmp .eq 18, 3) := by decide +kernel
theorem dX10_foundRound_39 : decode cX10_foundRound 39 = .ok (.aload_n 0, 1) := by decide +kernel
theorem dX10_foundRound_40 : decode cX10_foundRound 40 = .ok (.getfield 63, 3) := by decide +kernel
theorem dX10_foundRound_43 : decode cX10_foundRound 43 = .ok (.iload 4, 2) := by decide +kernel
theorem dX10_foundRound_45 : decode cX10_foundRound 45 = .ok (.iload_n 2, 1) := by decide +kernel
theorem dX10_foundRound_46 : decode cX10_foundRound 46 = .ok (.invokevirtual 213, 3) := by decide +kernel
theorem dX10_foundRound_49 : decode cX10_foundRound 49 = .ok (.ldc 217, 2) := by decide +kernel
theorem dX10_foundRound_51 : decode cX10_foundRound 51 = .ok (.if_icmp .lt 5, 3) := by decide +kernel
theorem dX10_foundRound_54 : decode cX10_foundRound 54 = .ok (.iconst 0, 1) := by decide +kernel
theorem dX10_foundRound_55 : decode cX10_foundRound 55 = .ok (.ireturn, 1) := by decide +kernel
theorem dX10_foundRound_56 : decode cX10_foundRound 56 = .ok (.iconst 0, 1) := by decide +kernel
theorem dX10_foundRound_57 : decode cX10_foundRound 57 = .ok (.istore 5, 2) := by decide +kernel
theorem dX10_foundRound_59 : decode cX10_foundRound 59 = .ok (.iload 5, 2) := by decide +kernel
theorem dX10_foundRound_61 : decode cX10_foundRound 61 = .ok (.bipush 10, 2) := by decide +kernel
theorem dX10_foundRound_63 : decode cX10_foundRound 63 = .ok (.if_icmp .ge 62, 3) := by decide +kernel
theorem dX10_foundRound_66 : decode cX10_foundRound 66 = .ok (.iload 4, 2) := by decide +kernel
theorem dX10_foundRound_68 : decode cX10_foundRound 68 = .ok (.iload_n 2, 1) := by decide +kernel
theorem dX10_foundRound_69 : decode cX10_foundRound 69 = .ok (.if_icmp .eq 56, 3) := by decide +kernel
theorem dX10_foundRound_72 : decode cX10_foundRound 72 = .ok (.aload_n 0, 1) := by decide +kernel
theorem dX10_foundRound_73 : decode cX10_foundRound 73 = .ok (.getfield 63, 3) := by decide +kernel
theorem dX10_foundRound_76 : decode cX10_foundRound 76 = .ok (.aload_n 3, 1) := by decide +kernel
theorem dX10_foundRound_77 : decode cX10_foundRound 77 = .ok (.iload 4, 2) := by decide +kernel
theorem dX10_foundRound_79 : decode cX10_foundRound 79 = .ok (.iload_n 2, 1) := by decide +kernel
theorem dX10_foundRound_80 : decode cX10_foundRound 80 = .ok (.invokevirtual 224, 3) := by decide +kernel
theorem dX10_foundRound_83 : decode cX10_foundRound 83 = .ok (.iconst 1, 1) := by decide +kernel
theorem dX10_foundRound_84 : decode cX10_foundRound 84 = .ok (.iload_n 1, 1) := by decide +kernel
theorem dX10_foundRound_85 : decode cX10_foundRound 85 = .ok (.ishl, 1) := by decide +kernel
theorem dX10_foundRound_86 : decode cX10_foundRound 86 = .ok (.iconst (-1), 1) := by decide +kernel
theorem dX10_foundRound_87 : decode cX10_foundRound 87 = .ok (.ixor, 1) := by decide +kernel
theorem dX10_foundRound_88 : decode cX10_foundRound 88 = .ok (.iand, 1) := by decide +kernel
theorem dX10_foundRound_89 : decode cX10_foundRound 89 = .ok (.invokestatic 415, 3) := by decide +kernel
theorem dX10_foundRound_92 : decode cX10_foundRound 92 = .ok (.istore 6, 2) := by decide +kernel
theorem dX10_foundRound_94 : decode cX10_foundRound 94 = .ok (.iload 6, 2) := by decide +kernel
theorem dX10_foundRound_96 : decode cX10_foundRound 96 = .ok (.iconst (-1), 1) := by decide +kernel
theorem dX10_foundRound_97 : decode cX10_foundRound 97 = .ok (.if_icmp .ne 5, 3) := by decide +kernel
theorem dX10_foundRound_100 : decode cX10_foundRound 100 = .ok (.iconst 0, 1) := by decide +kernel
theorem dX10_foundRound_101 : decode cX10_foundRound 101 = .ok (.ireturn, 1) := by decide +kernel
theorem dX10_foundRound_102 : decode cX10_foundRound 102 = .ok (.aload_n 0, 1) := by decide +kernel
theorem dX10_foundRound_103 : decode cX10_foundRound 103 = .ok (.getfield 93, 3) := by decide +kernel
theorem dX10_foundRound_106 : decode cX10_foundRound 106 = .ok (.iload 6, 2) := by decide +kernel
theorem dX10_foundRound_108 : decode cX10_foundRound 108 = .ok (.invokevirtual 178, 3) := by decide +kernel
theorem dX10_foundRound_111 : decode cX10_foundRound 111 = .ok (.aload_n 3, 1) := by decide +kernel
theorem dX10_foundRound_112 : decode cX10_foundRound 112 = .ok (.iload 6, 2) := by decide +kernel
theorem dX10_foundRound_114 : decode cX10_foundRound 114 = .ok (.invokevirtual 385, 3) := by decide +kernel
theorem dX10_foundRound_117 : decode cX10_foundRound 117 = .ok (.istore 4, 2) := by decide +kernel
theorem dX10_foundRound_119 : decode cX10_foundRound 119 = .ok (.iinc 5 1, 3) := by decide +kernel
theorem dX10_foundRound_122 : decode cX10_foundRound 122 = .ok (.goto (-63), 3) := by decide +kernel
theorem dX10_foundRound_125 : decode cX10_foundRound 125 = .ok (.iload 4, 2) := by decide +kernel
theorem dX10_foundRound_127 : decode cX10_foundRound 127 = .ok (.iload_n 2, 1) := by decide +kernel
theorem dX10_foundRound_128 : decode cX10_foundRound 128 = .ok (.if_icmp .ne 7, 3) := by decide +kernel
theorem dX10_foundRound_131 : decode cX10_foundRound 131 = .ok (.iconst 1, 1) := by decide +kernel
theorem dX10_foundRound_132 : decode cX10_foundRound 132 = .ok (.goto 4, 3) := by decide +kernel
theorem dX10_foundRound_135 : decode cX10_foundRound 135 = .ok (.iconst 0, 1) := by decide +kernel
theorem dX10_foundRound_136 : decode cX10_foundRound 136 = .ok (.ireturn, 1) := by decide +kernel
abbrev mX10_foundRound : MI := (RX10, yX10_foundRound, cX10_foundRound, 7, (some .boolean))
theorem mok_X10_foundRound : MOKv mX10_foundRound 2 := ⟨⟨bm_976, bm_114, ⟨by decide, by decide⟩, by decide +kernel⟩, bm_975, bm_23⟩
def f_X10_foundRound_125   (x2 : Int32) (x4 : Int32) (h : MH) : Option (Int32 × MH) :=
  if x4 = x2 then
    some (1, h)
  else
    some (0, h)
def f_X10_foundRound_59b   (a0 : Nat) (x1 : Int32) (x2 : Int32) (a3 : Nat) (k59 : Int32 × Int32 → MH → Option (Int32 × MH)) (p : Int32 × Int32) (h : MH) : Option (Int32 × MH) :=
  if p.2 < 10 then
    if p.1 = x2 then
      f_X10_foundRound_125 x2 p.1 h
    else
      (gR h a0 10).bind fun a_1 =>
      (f_X4_onSet a_1 a3 p.1 x2 h).bind fun q_2 =>
      (f_X10_leastOf (q_2.1 &&& (((1 : Int32) <<< (x1 &&& 31)) ^^^ (-1 : Int32))) q_2.2).bind fun q_3 =>
      if q_3.1 = (-1 : Int32) then
        some (0, q_3.2)
      else
        (gR q_3.2 a0 16).bind fun a_4 =>
        (f_X5_add a_4 q_3.1 q_3.2).bind fun q_5 =>
        (f_X2_toOf a3 q_3.1 q_5).bind fun q_6 =>
        k59 (q_6.1, (p.2 + 1)) q_6.2
  else
    f_X10_foundRound_125 x2 p.1 h
def f_X10_foundRound_59   (a0 : Nat) (x1 : Int32) (x2 : Int32) (a3 : Nat) : Nat → Int32 × Int32 → MH → Option (Int32 × MH) := lp (f_X10_foundRound_59b a0 x1 x2 a3)
def f_X10_foundRound   (a0 : Nat) (x1 : Int32) (x2 : Int32) (h : MH) : Option (Int32 × MH) :=
  (gR h a0 0).bind fun a_1 =>
  (gR h a_1 0).bind fun a_2 =>
  (f_X2_fromOf a_2 x1 h).bind fun q_3 =>
  (gR q_3.2 a0 16).bind fun a_4 =>
  lt (sI q_3.2 a_4 1 0) fun h_5 =>
  (gR h_5 a0 10).bind fun a_6 =>
  (f_X4_findToward a_6 a_2 x2 x1 h_5).bind fun q_7 =>
  if q_3.1 = x2 then
    some (0, q_7)
  else
    (gR q_7 a0 10).bind fun a_8 =>
    (f_X4_distance a_8 q_3.1 x2 q_7).bind fun q_9 =>
    if q_9.1 < 1000000 then
      f_X10_foundRound_59 a0 x1 x2 a_2 FU (q_3.1, 0) q_9.2
    else
      some (0, q_9.2)
set_option maxRecDepth 100000 in
set_option maxHeartbeats 4000000 in
theorem v_X10_foundRound_125 {l : Launch} {G : GE} {B N : Nat} {S : List SHP} {o : Int32 × MH} {x2 : Int32} {x4 : Int32}     {h : MH} (hf : f_X10_foundRound_125 x2 x4 h = some o) : V l G B N mX10_foundRound (rmm 5 0 0) false 0 0 (QI S o) S 0 0 125 [(2, .int x2), (4, .int x4)] [] h := by
  unfold f_X10_foundRound_125 at hf
  refine V_iload (pc' := 127) dX10_foundRound_125 rfl 1 rfl ?_
  refine V_iload_n (pc' := 128) dX10_foundRound_127 rfl 0 rfl rfl ?_
  refine V_icmp_ne (tgt := 135) (pc' := 131) dX10_foundRound_128 (by decide) rfl hf (fun hf => ?_) (fun hf => ?_)
  ·
    refine V_iconst (v := 1) (pc' := 132) dX10_foundRound_131 rfl (by decide) ?_
    refine V_goto (tgt := 136) dX10_foundRound_132 (by decide) ?_
    obtain rfl := Option.some.inj hf
    exact V_zretL dX10_foundRound_136 rfl rfl rfl (by decide) ⟨rfl, rfl, rfl⟩
  ·
    refine V_iconst (v := 0) (pc' := 136) dX10_foundRound_135 rfl (by decide) ?_
    obtain rfl := Option.some.inj hf
    exact V_zretL dX10_foundRound_136 rfl rfl rfl (by decide) ⟨rfl, rfl, rfl⟩
set_option maxRecDepth 100000 in
set_option maxHeartbeats 4000000 in
theorem v_X10_foundRound_59b {l : Launch} {G : GE} {B N : Nat} {S : List SHP} {o : Int32 × MH} {a0 : Nat} {x1 : Int32} {x2 : Int32} {a3 : Nat}    (hs0 : S[a0]? = some (.inl 10)) (hs3 : S[a3]? = some (.inl 2)) {k59 : Int32 × Int32 → MH → Option (Int32 × MH)} (hk59 : ∀ (p : Int32 × Int32) (h : MH), k59 p h = some o → V l G B N mX10_foundRound (rmm 5 0 0) false 0 0 (QI S o) S 0 0 59 [(0, .ref a0), (1, .int x1), (2, .int x2), (3, .ref a3), (4, .int p.1), (5, .int p.2)] [] h) {p : Int32 × Int32} {h : MH} (hf : f_X10_foundRound_59b a0 x1 x2 a3 k59 p h = some o) : V l G B N mX10_foundRound (rmm 5 0 0) false 0 0 (QI S o) S 0 0 59 [(0, .ref a0), (1, .int x1), (2, .int x2), (3, .ref a3), (4, .int p.1), (5, .int p.2)] [] h := by
  unfold f_X10_foundRound_59b at hf
  refine V_iload (pc' := 61) dX10_foundRound_59 rfl 5 rfl ?_
  refine V_bipush (v := 10) (pc' := 63) dX10_foundRound_61 rfl (by decide) ?_
  refine V_icmp_ge (tgt := 125) (pc' := 66) dX10_foundRound_63 (by decide) rfl hf (fun hf => ?_) (fun hf => ?_)
  ·
    refine V_iload (pc' := 68) dX10_foundRound_66 rfl 4 rfl ?_
    refine V_iload_n (pc' := 69) dX10_foundRound_68 rfl 2 rfl rfl ?_
    refine V_icmp_eq (tgt := 125) (pc' := 72) dX10_foundRound_69 (by decide) rfl hf (fun hf => ?_) (fun hf => ?_)
    ·
      exact V_sub (lv' := [(2, .int x2), (4, .int p.1)]) [2, 4] rfl (v_X10_foundRound_125  hf)
    ·
      refine V_aload_n (pc' := 73) dX10_foundRound_72 rfl 0 rfl rfl ?_
      refine V_getR (pc' := 76) 10 10 dX10_foundRound_73 rfl (by decide) (Nat.le_of_ble_eq_true rfl) bm_468 hs0 (fun _ _ _ => rfl) rfl hf (fun a_1 ha_1 hf => ?_)
      refine V_aload_n (pc' := 77) dX10_foundRound_76 rfl 3 rfl rfl ?_
      refine V_iload (pc' := 79) dX10_foundRound_77 rfl 4 rfl ?_
      refine V_iload_n (pc' := 80) dX10_foundRound_79 rfl 2 rfl rfl ?_
      refine V_cvI (pc' := 83) (As := [.ref a3, .int p.1, .int x2]) (rest := []) dX10_foundRound_80 rfl mok_X4_onSet bm_809 4 (by decide) rfl ha_1 rfl rfl (Nat.le_of_ble_eq_true rfl) (by decide) hf (fun q e => ct_X4_onSet ha_1 hs3 e) (fun q_2 hf => ?_)
      refine V_iconst (v := 1) (pc' := 84) dX10_foundRound_83 rfl (by decide) ?_
      refine V_iload_n (pc' := 85) dX10_foundRound_84 rfl 1 rfl rfl ?_
      refine V_ishl (pc' := 86) dX10_foundRound_85 rfl ?_
      refine V_iconst (v := (-1)) (pc' := 87) dX10_foundRound_86 rfl (by decide) ?_
      refine V_ixor (pc' := 88) dX10_foundRound_87 rfl ?_
      refine V_iand (pc' := 89) dX10_foundRound_88 rfl ?_
      refine V_csI (pc' := 92) (As := [.int (q_2.1 &&& (((1 : Int32) <<< (x1 &&& 31)) ^^^ (-1 : Int32)))]) (rest := []) dX10_foundRound_89 rfl mok_X10_leastOf bm_979 rfl rfl (Nat.le_of_ble_eq_true rfl) (by decide) hf (fun q e => ct_X10_leastOf  e) (fun q_3 hf => ?_)
      refine V_istore (lv' := [(6, .int q_3.1), (0, .ref a0), (1, .int x1), (2, .int x2), (3, .ref a3), (4, .int p.1), (5, .int p.2)]) (pc' := 94) dX10_foundRound_92 rfl (Nat.le_of_ble_eq_true rfl) rfl ?_
      refine V_iload (pc' := 96) dX10_foundRound_94 rfl 0 rfl ?_
      refine V_iconst (v := (-1)) (pc' := 97) dX10_foundRound_96 rfl (by decide) ?_
      refine V_icmp_ne (tgt := 102) (pc' := 100) dX10_foundRound_97 (by decide) rfl hf (fun hf => ?_) (fun hf => ?_)
      ·
        refine V_iconst (v := 0) (pc' := 101) dX10_foundRound_100 rfl (by decide) ?_
        obtain rfl := Option.some.inj hf
        exact V_zretL dX10_foundRound_101 rfl rfl rfl (by decide) ⟨rfl, rfl, rfl⟩
      ·
        refine V_aload_n (pc' := 103) dX10_foundRound_102 rfl 1 rfl rfl ?_
        refine V_getR (pc' := 106) 10 16 dX10_foundRound_103 rfl (by decide) (Nat.le_of_ble_eq_true rfl) bm_474 hs0 (fun _ _ _ => rfl) rfl hf (fun a_4 ha_4 hf => ?_)
        refine V_iload (pc' := 108) dX10_foundRound_106 rfl 0 rfl ?_
        refine V_cvV (pc' := 111) (As := [.int q_3.1]) (rest := []) dX10_foundRound_108 rfl mok_X5_add bm_655 5 (by decide) rfl ha_4 rfl rfl (Nat.le_of_ble_eq_true rfl) (by decide) hf (fun q e => ct_X5_add ha_4 e) (fun q_5 hf => ?_)
        refine V_aload_n (pc' := 112) dX10_foundRound_111 rfl 4 rfl rfl ?_
        refine V_iload (pc' := 114) dX10_foundRound_112 rfl 0 rfl ?_
        refine V_cvI (pc' := 117) (As := [.int q_3.1]) (rest := []) dX10_foundRound_114 rfl mok_X2_toOf bm_651 2 (by decide) rfl hs3 rfl rfl (Nat.le_of_ble_eq_true rfl) (by decide) hf (fun q e => ct_X2_toOf hs3 e) (fun q_6 hf => ?_)
        refine V_istore (lv' := [(4, .int q_6.1), (6, .int q_3.1), (0, .ref a0), (1, .int x1), (2, .int x2), (3, .ref a3), (5, .int p.2)]) (pc' := 119) dX10_foundRound_117 rfl (Nat.le_of_ble_eq_true rfl) rfl ?_
        refine V_iinc (v := (p.2 + 1)) (lv' := [(5, .int (p.2 + 1)), (4, .int q_6.1), (6, .int q_3.1), (0, .ref a0), (1, .int x1), (2, .int x2), (3, .ref a3)]) (pc' := 122) dX10_foundRound_119 rfl 6 rfl rfl (Nat.le_of_ble_eq_true rfl) rfl ?_
        refine V_goto (tgt := 59) dX10_foundRound_122 (by decide) ?_
        exact V_sub (lv' := [(0, .ref a0), (1, .int x1), (2, .int x2), (3, .ref a3), (4, .int q_6.1), (5, .int (p.2 + 1))]) [3, 4, 5, 6, 1, 0] rfl (hk59 (q_6.1, (p.2 + 1)) q_6.2 hf)
  ·
    exact V_sub (lv' := [(2, .int x2), (4, .int p.1)]) [2, 4] rfl (v_X10_foundRound_125  hf)
theorem v_X10_foundRound_59 {l : Launch} {G : GE} {B N : Nat} {S : List SHP} {o : Int32 × MH} {a0 : Nat} {x1 : Int32} {x2 : Int32} {a3 : Nat}    (hs0 : S[a0]? = some (.inl 10)) (hs3 : S[a3]? = some (.inl 2)) {n : Nat} {p : Int32 × Int32} {h : MH} (hf : f_X10_foundRound_59 a0 x1 x2 a3 n p h = some o) : V l G B N mX10_foundRound (rmm 5 0 0) false 0 0 (QI S o) S 0 0 59 [(0, .ref a0), (1, .int x1), (2, .int x2), (3, .ref a3), (4, .int p.1), (5, .int p.2)] [] h :=
  V_lp (VV := fun p h => V l G B N mX10_foundRound (rmm 5 0 0) false 0 0 (QI S o) S 0 0 59 [(0, .ref a0), (1, .int x1), (2, .int x2), (3, .ref a3), (4, .int p.1), (5, .int p.2)] [] h) (fun _ hk _ _ hf => v_X10_foundRound_59b hs0 hs3 hk hf) n p h hf
set_option maxRecDepth 100000 in
set_option maxHeartbeats 4000000 in
theorem v_X10_foundRound {l : Launch} {G : GE} {B N : Nat} {S : List SHP} {o : Int32 × MH} {a0 : Nat} {x1 : Int32} {x2 : Int32}    (hs0 : S[a0]? = some (.inl 10)) {h : MH} (hf : f_X10_foundRound a0 x1 x2 h = some o) : V l G B N mX10_foundRound (rmm 5 0 0) false 0 0 (QI S o) S 0 0 0 [(0, .ref a0), (1, .int x1), (2, .int x2)] [] h := by
  unfold f_X10_foundRound at hf
  refine V_aload_n (pc' := 1) dX10_foundRound_0 rfl 0 rfl rfl ?_
  refine V_getR (pc' := 4) 10 0 dX10_foundRound_1 rfl (by decide) (Nat.le_of_ble_eq_true rfl) bm_458 hs0 (fun _ _ _ => rfl) rfl hf (fun a_1 ha_1 hf => ?_)
  refine V_getR (pc' := 7) 7 0 dX10_foundRound_4 rfl (by decide) (Nat.le_of_ble_eq_true rfl) bm_263 ha_1 (fun _ _ _ => rfl) rfl hf (fun a_2 ha_2 hf => ?_)
  refine V_astore_n (lv' := [(3, .ref a_2), (0, .ref a0), (1, .int x1), (2, .int x2)]) (pc' := 8) dX10_foundRound_7 rfl rfl (Nat.le_of_ble_eq_true rfl) rfl ?_
  refine V_aload_n (pc' := 9) dX10_foundRound_8 rfl 0 rfl rfl ?_
  refine V_iload_n (pc' := 10) dX10_foundRound_9 rfl 2 rfl rfl ?_
  refine V_cvI (pc' := 13) (As := [.int x1]) (rest := []) dX10_foundRound_10 rfl mok_X2_fromOf bm_977 2 (by decide) rfl ha_2 rfl rfl (Nat.le_of_ble_eq_true rfl) (by decide) hf (fun q e => ct_X2_fromOf ha_2 e) (fun q_3 hf => ?_)
  refine V_istore (lv' := [(4, .int q_3.1), (3, .ref a_2), (0, .ref a0), (1, .int x1), (2, .int x2)]) (pc' := 15) dX10_foundRound_13 rfl (Nat.le_of_ble_eq_true rfl) rfl ?_
  refine V_aload_n (pc' := 16) dX10_foundRound_15 rfl 2 rfl rfl ?_
  refine V_getR (pc' := 19) 10 16 dX10_foundRound_16 rfl (by decide) (Nat.le_of_ble_eq_true rfl) bm_474 hs0 (fun _ _ _ => rfl) rfl hf (fun a_4 ha_4 hf => ?_)
  refine V_iconst (v := 0) (pc' := 20) dX10_foundRound_19 rfl (by decide) ?_
  refine V_putI (pc' := 23) 5 1 dX10_foundRound_20 rfl (by decide) (Nat.le_of_ble_eq_true rfl) bm_256 ha_4 (Or.inl rfl) rfl ?_
  refine V_nmH hf (fun h_5 hf => ?_)
  refine V_aload_n (pc' := 24) dX10_foundRound_23 rfl 2 rfl rfl ?_
  refine V_getR (pc' := 27) 10 10 dX10_foundRound_24 rfl (by decide) (Nat.le_of_ble_eq_true rfl) bm_468 hs0 (fun _ _ _ => rfl) rfl hf (fun a_6 ha_6 hf => ?_)
  refine V_aload_n (pc' := 28) dX10_foundRound_27 rfl 1 rfl rfl ?_
  refine V_iload_n (pc' := 29) dX10_foundRound_28 rfl 4 rfl rfl ?_
  refine V_iload_n (pc' := 30) dX10_foundRound_29 rfl 3 rfl rfl ?_
  refine V_cvV (pc' := 33) (As := [.ref a_2, .int x2, .int x1]) (rest := []) dX10_foundRound_30 rfl mok_X4_findToward bm_978 4 (by decide) rfl ha_6 rfl rfl (Nat.le_of_ble_eq_true rfl) (by decide) hf (fun q e => ct_X4_findToward ha_6 ha_2 e) (fun q_7 hf => ?_)
  refine V_iload (pc' := 35) dX10_foundRound_33 rfl 0 rfl ?_
  refine V_iload_n (pc' := 36) dX10_foundRound_35 rfl 4 rfl rfl ?_
  refine V_icmp_eq (tgt := 54) (pc' := 39) dX10_foundRound_36 (by decide) rfl hf (fun hf => ?_) (fun hf => ?_)
  ·
    refine V_iconst (v := 0) (pc' := 55) dX10_foundRound_54 rfl (by decide) ?_
    obtain rfl := Option.some.inj hf
    exact V_zretL dX10_foundRound_55 rfl rfl rfl (by decide) ⟨rfl, rfl, rfl⟩
  ·
    refine V_aload_n (pc' := 40) dX10_foundRound_39 rfl 2 rfl rfl ?_
    refine V_getR (pc' := 43) 10 10 dX10_foundRound_40 rfl (by decide) (Nat.le_of_ble_eq_true rfl) bm_468 hs0 (fun _ _ _ => rfl) rfl hf (fun a_8 ha_8 hf => ?_)
    refine V_iload (pc' := 45) dX10_foundRound_43 rfl 0 rfl ?_
    refine V_iload_n (pc' := 46) dX10_foundRound_45 rfl 4 rfl rfl ?_
    refine V_cvI (pc' := 49) (As := [.int q_3.1, .int x2]) (rest := []) dX10_foundRound_46 rfl mok_X4_distance bm_797 4 (by decide) rfl ha_8 rfl rfl (Nat.le_of_ble_eq_true rfl) (by decide) hf (fun q e => ct_X4_distance ha_8 e) (fun q_9 hf => ?_)
    refine V_ldc (v := 1000000) (pc' := 51) dX10_foundRound_49 rfl bm_798 ?_
    refine V_icmp_lt (tgt := 56) (pc' := 54) dX10_foundRound_51 (by decide) rfl hf (fun hf => ?_) (fun hf => ?_)
    ·
      refine V_iconst (v := 0) (pc' := 57) dX10_foundRound_56 rfl (by decide) ?_
      refine V_istore (lv' := [(5, .int 0), (4, .int q_3.1), (3, .ref a_2), (0, .ref a0), (1, .int x1), (2, .int x2)]) (pc' := 59) dX10_foundRound_57 rfl (Nat.le_of_ble_eq_true rfl) rfl ?_
      exact V_sub (lv' := [(0, .ref a0), (1, .int x1), (2, .int x2), (3, .ref a_2), (4, .int q_3.1), (5, .int 0)]) [3, 4, 5, 2, 1, 0] rfl (v_X10_foundRound_59 hs0 ha_2 hf)
    ·
      refine V_iconst (v := 0) (pc' := 55) dX10_foundRound_54 rfl (by decide) ?_
      obtain rfl := Option.some.inj hf
      exact V_zretL dX10_foundRound_55 rfl rfl rfl (by decide) ⟨rfl, rfl, rfl⟩
theorem ct_X10_foundRound {l : Launch} {S : List SHP} {h : MH} {a0 : Nat} {x1 : Int32} {x2 : Int32} (hs0 : S[a0]? = some (.inl 10)) {q : Int32 × MH} (hf : f_X10_foundRound a0 x1 x2 h = some q) : CT l mX10_foundRound 5 false 0 0 S [.ref a0, .int x1, .int x2] h (QI S q) :=
  CT_ofV (by decide) rfl (Nat.le_of_ble_eq_true rfl) (fun G B hT => v_X10_foundRound hs0 hf)
/-! LabelStacks.repair(II)I -/
theorem dX10_repair_0 : decode cX10_repair 0 = .ok (.aload_n 0, 1) := by decide +kernel
theorem dX10_repair_1 : decode cX10_repair 1 = .ok (.getfield 12, 3) := by decide +kernel
theorem dX10_repair_4 : decode cX10_repair 4 = .ok (.getfield 99, 3) := by decide +kernel
theorem dX10_repair_7 : decode cX10_repair 7 = .ok (.iload_n 1, 1) := by decide +kernel
theorem dX10_repair_8 : decode cX10_repair 8 = .ok (.invokevirtual 125, 3) := by decide +kernel
theorem dX10_repair_11 : decode cX10_repair 11 = .ok (.ifCond .eq 17, 3) := by decide +kernel
theorem dX10_repair_14 : decode cX10_repair 14 = .ok (.aload_n 0, 1) := by decide +kernel
theorem dX10_repair_15 : decode cX10_repair 15 = .ok (.getfield 12, 3) := by decide +kernel
theorem dX10_repair_18 : decode cX10_repair 18 = .ok (.getfield 99, 3) := by decide +kernel
theorem dX10_repair_21 : decode cX10_repair 21 = .ok (.iload_n 2, 1) := by decide +kernel
theorem dX10_repair_22 : decode cX10_repair 22 = .ok (.invokevirtual 111, 3) := by decide +kernel
theorem dX10_repair_25 : decode cX10_repair 25 = .ok (.ifCond .ne 5, 3) := by decide +kernel
theorem dX10_repair_28 : decode cX10_repair 28 = .ok (.iconst (-1), 1) := by decide +kernel
theorem dX10_repair_29 : decode cX10_repair 29 = .ok (.ireturn, 1) := by decide +kernel
theorem dX10_repair_30 : decode cX10_repair 30 = .ok (.aload_n 0, 1) := by decide +kernel
theorem dX10_repair_31 : decode cX10_repair 31 = .ok (.iload_n 1, 1) := by decide +kernel
theorem dX10_repair_32 : decode cX10_repair 32 = .ok (.iload_n 2, 1) := by decide +kernel
theorem dX10_repair_33 : decode cX10_repair 33 = .ok (.invokevirtual 274, 3) := by decide +kernel
theorem dX10_repair_36 : decode cX10_repair 36 = .ok (.ifCond .eq 14, 3) := by decide +kernel
theorem dX10_repair_39 : decode cX10_repair 39 = .ok (.aload_n 0, 1) := by decide +kernel
theorem dX10_repair_40 : decode cX10_repair 40 = .ok (.aload_n 0, 1) := by decide +kernel
theorem dX10_repair_41 : decode cX10_repair 41 = .ok (.getfield 93, 3) := by decide +kernel
theorem dX10_repair_44 : decode cX10_repair 44 = .ok (.invokevirtual 187, 3) := by decide +kernel
theorem dX10_repair_47 : decode cX10_repair 47 = .ok (.ifCond .ne 5, 3) := by decide +kernel
theorem dX10_repair_50 : decode cX10_repair 50 = .ok (.iconst (-1), 1) := by decide +kernel
theorem dX10_repair_51 : decode cX10_repair 51 = .ok (.ireturn, 1) := by decide +kernel
theorem dX10_repair_52 : decode cX10_repair 52 = .ok (.aload_n 0, 1) := by decide +kernel
theorem dX10_repair_53 : decode cX10_repair 53 = .ok (.getfield 12, 3) := by decide +kernel
theorem dX10_repair_56 : decode cX10_repair 56 = .ok (.getfield 162, 3) := by decide +kernel
theorem dX10_repair_59 : decode cX10_repair 59 = .ok (.aload_n 0, 1) := by decide +kernel
theorem dX10_repair_60 : decode cX10_repair 60 = .ok (.getfield 93, 3) := by decide +kernel
theorem dX10_repair_63 : decode cX10_repair 63 = .ok (.invokevirtual 246, 3) := by decide +kernel
theorem dX10_repair_66 : decode cX10_repair 66 = .ok (.aload_n 0, 1) := by decide +kernel
theorem dX10_repair_67 : decode cX10_repair 67 = .ok (.getfield 75, 3) := by decide +kernel
theorem dX10_repair_70 : decode cX10_repair 70 = .ok (.aload_n 0, 1) := by decide +kernel
theorem dX10_repair_71 : decode cX10_repair 71 = .ok (.getfield 21, 3) := by decide +kernel
theorem dX10_repair_74 : decode cX10_repair 74 = .ok (.invokevirtual 191, 3) := by decide +kernel
theorem dX10_repair_77 : decode cX10_repair 77 = .ok (.aload_n 0, 1) := by decide +kernel
theorem dX10_repair_78 : decode cX10_repair 78 = .ok (.getfield 21, 3) := by decide +kernel
theorem dX10_repair_81 : decode cX10_repair 81 = .ok (.getfield 168, 3) := by decide +kernel
theorem dX10_repair_84 : decode cX10_repair 84 = .ok (.ireturn, 1) := by decide +kernel
abbrev mX10_repair : MI := (RX10, yX10_repair, cX10_repair, 3, (some .int))
theorem mok_X10_repair : MOKv mX10_repair 2 := ⟨⟨bm_972, bm_114, ⟨by decide, by decide⟩, by decide +kernel⟩, bm_970, bm_971⟩
def f_X10_repair   (a0 : Nat) (x1 : Int32) (x2 : Int32) (h : MH) : Option (Int32 × MH) :=
  (gR h a0 0).bind fun a_1 =>
  (gR h a_1 0).bind fun a_2 =>
  (f_X2_hasLink a_2 x1 h).bind fun q_3 =>
  if q_3.1 = 0 then
    some ((-1 : Int32), q_3.2)
  else
    (gR q_3.2 a0 0).bind fun a_4 =>
    (gR q_3.2 a_4 0).bind fun a_5 =>
    (f_X2_hasNode a_5 x2 q_3.2).bind fun q_6 =>
    if q_6.1 = 0 then
      some ((-1 : Int32), q_6.2)
    else
      (f_X10_foundRound a0 x1 x2 q_6.2).bind fun q_7 =>
      if q_7.1 = 0 then
        some ((-1 : Int32), q_7.2)
      else
        (gR q_7.2 a0 16).bind fun a_8 =>
        (f_X10_planned a0 a_8 q_7.2).bind fun q_9 =>
        if q_9.1 = 0 then
          some ((-1 : Int32), q_9.2)
        else
          (gR q_9.2 a0 0).bind fun a_10 =>
          (gR q_9.2 a_10 6).bind fun a_11 =>
          (gR q_9.2 a0 16).bind fun a_12 =>
          (f_X5_copyFrom a_11 a_12 q_9.2).bind fun q_13 =>
          (gR q_13 a0 13).bind fun a_14 =>
          (gR q_13 a0 1).bind fun a_15 =>
          (f_X9_stackInto a_14 a_15 q_13).bind fun q_16 =>
          (gR q_16 a0 1).bind fun a_17 =>
          some ((gI q_16 a_17 1), q_16)
set_option maxRecDepth 100000 in
set_option maxHeartbeats 4000000 in
theorem v_X10_repair {l : Launch} {G : GE} {B N : Nat} {S : List SHP} {o : Int32 × MH} {a0 : Nat} {x1 : Int32} {x2 : Int32}    (hs0 : S[a0]? = some (.inl 10)) {h : MH} (hf : f_X10_repair a0 x1 x2 h = some o) : V l G B N mX10_repair (rmm 9 0 0) false 0 0 (QI S o) S 0 0 0 [(0, .ref a0), (1, .int x1), (2, .int x2)] [] h := by
  unfold f_X10_repair at hf
  refine V_aload_n (pc' := 1) dX10_repair_0 rfl 0 rfl rfl ?_
  refine V_getR (pc' := 4) 10 0 dX10_repair_1 rfl (by decide) (Nat.le_of_ble_eq_true rfl) bm_458 hs0 (fun _ _ _ => rfl) rfl hf (fun a_1 ha_1 hf => ?_)
  refine V_getR (pc' := 7) 7 0 dX10_repair_4 rfl (by decide) (Nat.le_of_ble_eq_true rfl) bm_263 ha_1 (fun _ _ _ => rfl) rfl hf (fun a_2 ha_2 hf => ?_)
  refine V_iload_n (pc' := 8) dX10_repair_7 rfl 1 rfl rfl ?_
  refine V_cvI (pc' := 11) (As := [.int x1]) (rest := []) dX10_repair_8 rfl mok_X2_hasLink bm_589 2 (by decide) rfl ha_2 rfl rfl (Nat.le_of_ble_eq_true rfl) (by decide) hf (fun q e => ct_X2_hasLink ha_2 e) (fun q_3 hf => ?_)
  refine V_if_eq (tgt := 28) (pc' := 14) dX10_repair_11 (by decide) rfl hf (fun hf => ?_) (fun hf => ?_)
  ·
    refine V_iconst (v := (-1)) (pc' := 29) dX10_repair_28 rfl (by decide) ?_
    obtain rfl := Option.some.inj hf
    exact V_iret dX10_repair_29 rfl rfl rfl ⟨rfl, rfl, rfl⟩
  ·
    refine V_aload_n (pc' := 15) dX10_repair_14 rfl 0 rfl rfl ?_
    refine V_getR (pc' := 18) 10 0 dX10_repair_15 rfl (by decide) (Nat.le_of_ble_eq_true rfl) bm_458 hs0 (fun _ _ _ => rfl) rfl hf (fun a_4 ha_4 hf => ?_)
    refine V_getR (pc' := 21) 7 0 dX10_repair_18 rfl (by decide) (Nat.le_of_ble_eq_true rfl) bm_263 ha_4 (fun _ _ _ => rfl) rfl hf (fun a_5 ha_5 hf => ?_)
    refine V_iload_n (pc' := 22) dX10_repair_21 rfl 2 rfl rfl ?_
    refine V_cvI (pc' := 25) (As := [.int x2]) (rest := []) dX10_repair_22 rfl mok_X2_hasNode bm_569 2 (by decide) rfl ha_5 rfl rfl (Nat.le_of_ble_eq_true rfl) (by decide) hf (fun q e => ct_X2_hasNode ha_5 e) (fun q_6 hf => ?_)
    refine V_if_ne (tgt := 30) (pc' := 28) dX10_repair_25 (by decide) rfl hf (fun hf => ?_) (fun hf => ?_)
    ·
      refine V_iconst (v := (-1)) (pc' := 29) dX10_repair_28 rfl (by decide) ?_
      obtain rfl := Option.some.inj hf
      exact V_iret dX10_repair_29 rfl rfl rfl ⟨rfl, rfl, rfl⟩
    ·
      refine V_aload_n (pc' := 31) dX10_repair_30 rfl 0 rfl rfl ?_
      refine V_iload_n (pc' := 32) dX10_repair_31 rfl 1 rfl rfl ?_
      refine V_iload_n (pc' := 33) dX10_repair_32 rfl 2 rfl rfl ?_
      refine V_cvI (pc' := 36) (As := [.int x1, .int x2]) (rest := []) dX10_repair_33 rfl mok_X10_foundRound bm_973 10 (by decide) rfl hs0 rfl rfl (Nat.le_of_ble_eq_true rfl) (by decide) hf (fun q e => ct_X10_foundRound hs0 e) (fun q_7 hf => ?_)
      refine V_if_eq (tgt := 50) (pc' := 39) dX10_repair_36 (by decide) rfl hf (fun hf => ?_) (fun hf => ?_)
      ·
        refine V_iconst (v := (-1)) (pc' := 51) dX10_repair_50 rfl (by decide) ?_
        obtain rfl := Option.some.inj hf
        exact V_iret dX10_repair_51 rfl rfl rfl ⟨rfl, rfl, rfl⟩
      ·
        refine V_aload_n (pc' := 40) dX10_repair_39 rfl 0 rfl rfl ?_
        refine V_aload_n (pc' := 41) dX10_repair_40 rfl 0 rfl rfl ?_
        refine V_getR (pc' := 44) 10 16 dX10_repair_41 rfl (by decide) (Nat.le_of_ble_eq_true rfl) bm_474 hs0 (fun _ _ _ => rfl) rfl hf (fun a_8 ha_8 hf => ?_)
        refine V_cvI (pc' := 47) (As := [.ref a_8]) (rest := []) dX10_repair_44 rfl mok_X10_planned bm_682 10 (by decide) rfl hs0 rfl rfl (Nat.le_of_ble_eq_true rfl) (by decide) hf (fun q e => ct_X10_planned hs0 ha_8 e) (fun q_9 hf => ?_)
        refine V_if_ne (tgt := 52) (pc' := 50) dX10_repair_47 (by decide) rfl hf (fun hf => ?_) (fun hf => ?_)
        ·
          refine V_iconst (v := (-1)) (pc' := 51) dX10_repair_50 rfl (by decide) ?_
          obtain rfl := Option.some.inj hf
          exact V_iret dX10_repair_51 rfl rfl rfl ⟨rfl, rfl, rfl⟩
        ·
          refine V_aload_n (pc' := 53) dX10_repair_52 rfl 0 rfl rfl ?_
          refine V_getR (pc' := 56) 10 0 dX10_repair_53 rfl (by decide) (Nat.le_of_ble_eq_true rfl) bm_458 hs0 (fun _ _ _ => rfl) rfl hf (fun a_10 ha_10 hf => ?_)
          refine V_getR (pc' := 59) 7 6 dX10_repair_56 rfl (by decide) (Nat.le_of_ble_eq_true rfl) bm_275 ha_10 (fun _ _ _ => rfl) rfl hf (fun a_11 ha_11 hf => ?_)
          refine V_aload_n (pc' := 60) dX10_repair_59 rfl 0 rfl rfl ?_
          refine V_getR (pc' := 63) 10 16 dX10_repair_60 rfl (by decide) (Nat.le_of_ble_eq_true rfl) bm_474 hs0 (fun _ _ _ => rfl) rfl hf (fun a_12 ha_12 hf => ?_)
          refine V_cvV (pc' := 66) (As := [.ref a_12]) (rest := []) dX10_repair_63 rfl mok_X5_copyFrom bm_822 5 (by decide) rfl ha_11 rfl rfl (Nat.le_of_ble_eq_true rfl) (by decide) hf (fun q e => ct_X5_copyFrom ha_11 ha_12 e) (fun q_13 hf => ?_)
          refine V_aload_n (pc' := 67) dX10_repair_66 rfl 0 rfl rfl ?_
          refine V_getR (pc' := 70) 10 13 dX10_repair_67 rfl (by decide) (Nat.le_of_ble_eq_true rfl) bm_471 hs0 (fun _ _ _ => rfl) rfl hf (fun a_14 ha_14 hf => ?_)
          refine V_aload_n (pc' := 71) dX10_repair_70 rfl 0 rfl rfl ?_
          refine V_getR (pc' := 74) 10 1 dX10_repair_71 rfl (by decide) (Nat.le_of_ble_eq_true rfl) bm_459 hs0 (fun _ _ _ => rfl) rfl hf (fun a_15 ha_15 hf => ?_)
          refine V_cvV (pc' := 77) (As := [.ref a_15]) (rest := []) dX10_repair_74 rfl mok_X9_stackInto bm_765 9 (by decide) rfl ha_14 rfl rfl (Nat.le_of_ble_eq_true rfl) (by decide) hf (fun q e => ct_X9_stackInto ha_14 ha_15 e) (fun q_16 hf => ?_)
          refine V_aload_n (pc' := 78) dX10_repair_77 rfl 0 rfl rfl ?_
          refine V_getR (pc' := 81) 10 1 dX10_repair_78 rfl (by decide) (Nat.le_of_ble_eq_true rfl) bm_459 hs0 (fun _ _ _ => rfl) rfl hf (fun a_17 ha_17 hf => ?_)
          refine V_getI (pc' := 84) 5 1 dX10_repair_81 rfl (by decide) (Nat.le_of_ble_eq_true rfl) bm_256 ha_17 (fun _ _ _ => rfl) ?_
          obtain rfl := Option.some.inj hf
          exact V_iret dX10_repair_84 rfl rfl rfl ⟨rfl, rfl, rfl⟩
theorem ct_X10_repair {l : Launch} {S : List SHP} {h : MH} {a0 : Nat} {x1 : Int32} {x2 : Int32} (hs0 : S[a0]? = some (.inl 10)) {q : Int32 × MH} (hf : f_X10_repair a0 x1 x2 h = some q) : CT l mX10_repair 9 false 0 0 S [.ref a0, .int x1, .int x2] h (QI S q) :=
  CT_ofV (by decide) rfl (Nat.le_of_ble_eq_true rfl) (fun G B hT => v_X10_repair hs0 hf)
/-! LabelStacks.guards(I)I -/
theorem dX10_guards_0 : decode cX10_guards 0 = .ok (.aload_n 0, 1) := by decide +kernel
theorem dX10_guards_1 : decode cX10_guards 1 = .ok (.getfield 12, 3) := by decide +kernel
theorem dX10_guards_4 : decode cX10_guards 4 = .ok (.getfield 162, 3) := by decide +kernel
theorem dX10_guards_7 : decode cX10_guards 7 = .ok (.astore_n 2, 1) := by decide +kernel
theorem dX10_guards_8 : decode cX10_guards 8 = .ok (.aload_n 2, 1) := by decide +kernel
theorem dX10_guards_9 : decode cX10_guards 9 = .ok (.getfield 168, 3) := by decide +kernel
theorem dX10_guards_12 : decode cX10_guards 12 = .ok (.ifCond .eq 12, 3) := by decide +kernel
theorem dX10_guards_15 : decode cX10_guards 15 = .ok (.iload_n 1, 1) := by decide +kernel
theorem dX10_guards_16 : decode cX10_guards 16 = .ok (.ifCond .lt 8, 3) := by decide +kernel
theorem dX10_guards_19 : decode cX10_guards 19 = .ok (.iload_n 1, 1) := by decide +kernel
theorem dX10_guards_20 : decode cX10_guards 20 = .ok (.iconst 2, 1) := by decide +kernel
theorem dX10_guards_21 : decode cX10_guards 21 = .ok (.if_icmp .le 5, 3) := by decide +kernel
theorem dX10_guards_24 : decode cX10_guards 24 = .ok (.iconst (-1), 1) := by decide +kernel
theorem dX10_guards_25 : decode cX10_guards 25 = .ok (.ireturn, 1) := by decide +kernel
theorem dX10_guards_26 : decode cX10_guards 26 = .ok (.aload_n 0, 1) := by decide +kernel
theorem dX10_guards_27 : decode cX10_guards 27 = .ok (.invokevirtual 174, 3) := by decide +kernel
theorem dX10_guards_30 : decode cX10_guards 30 = .ok (.istore_n 3, 1) := by decide +kernel
theorem dX10_guards_31 : decode cX10_guards 31 = .ok (.iconst 0, 1) := by decide +kernel
theorem dX10_guards_32 : decode cX10_guards 32 = .ok (.istore 4, 2) := by decide +kernel
theorem dX10_guards_34 : decode cX10_guards 34 = .ok (.iconst 0, 1) := by decide +kernel
theorem dX10_guards_35 : decode cX10_guards 35 = .ok (.istore 5, 2) := by decide +kernel
theorem dX10_guards_37 : decode cX10_guards 37 = .ok (.iconst 0, 1) := by decide +kernel
theorem dX10_guards_38 : decode cX10_guards 38 = .ok (.istore 6, 2) := by decide +kernel
theorem dX10_guards_40 : decode cX10_guards 40 = .ok (.iconst 0, 1) := by decide +kernel
theorem dX10_guards_41 : decode cX10_guards 41 = .ok (.istore 7, 2) := by decide +kernel
theorem dX10_guards_43 : decode cX10_guards 43 = .ok (.iconst 0, 1) := by decide +kernel
theorem dX10_guards_44 : decode cX10_guards 44 = .ok (.istore 8, 2) := by decide +kernel
theorem dX10_guards_46 : decode cX10_guards 46 = .ok (.iload 8, 2) := by decide +kernel
theorem dX10_guards_48 : decode cX10_guards 48 = .ok (.aload_n 2, 1) := by decide +kernel
theorem dX10_guards_49 : decode cX10_guards 49 = .ok (.getfield 168, 3) := by decide +kernel
theorem dX10_guards_52 : decode cX10_guards 52 = .ok (.if_icmp .ge 104, 3) := by decide +kernel
theorem dX10_guards_55 : decode cX10_guards 55 = .ok (.aload_n 2, 1) := by decide +kernel
theorem dX10_guards_56 : decode cX10_guards 56 = .ok (.iload 8, 2) := by decide +kernel
theorem dX10_guards_58 : decode cX10_guards 58 = .ok (.invokevirtual 277, 3) := by decide +kernel
theorem dX10_guards_61 : decode cX10_guards 61 = .ok (.istore 9, 2) := by decide +kernel
theorem dX10_guards_63 : decode cX10_guards 63 = .ok (.aload_n 0, 1) := by decide +kernel
theorem dX10_guards_64 : decode cX10_guards 64 = .ok (.iload 9, 2) := by decide +kernel
theorem dX10_guards_66 : decode cX10_guards 66 = .ok (.iload_n 3, 1) := by decide +kernel
theorem dX10_guards_67 : decode cX10_guards 67 = .ok (.invokevirtual 274, 3) := by decide +kernel
theorem dX10_guards_70 : decode cX10_guards 70 = .ok (.ifCond .eq 63, 3) := by decide +kernel
theorem dX10_guards_73 : decode cX10_guards 73 = .ok (.aload_n 0, 1) := by decide +kernel
theorem dX10_guards_74 : decode cX10_guards 74 = .ok (.aload_n 0, 1) := by decide +kernel
theorem dX10_guards_75 : decode cX10_guards 75 = .ok (.getfield 93, 3) := by decide +kernel
theorem dX10_guards_78 : decode cX10_guards 78 = .ok (.invokevirtual 187, 3) := by decide +kernel
theorem dX10_guards_81 : decode cX10_guards 81 = .ok (.ifCond .eq 52, 3) := by decide +kernel
theorem dX10_guards_84 : decode cX10_guards 84 = .ok (.iload 4, 2) := by decide +kernel
theorem dX10_guards_86 : decode cX10_guards 86 = .ok (.iconst 1, 1) := by decide +kernel
theorem dX10_guards_87 : decode cX10_guards 87 = .ok (.iload 8, 2) := by decide +kernel
theorem dX10_guards_89 : decode cX10_guards 89 = .ok (.ishl, 1) := by decide +kernel
theorem dX10_guards_90 : decode cX10_guards 90 = .ok (.ior, 1) := by decide +kernel
theorem dX10_guards_91 : decode cX10_guards 91 = .ok (.istore 4, 2) := by decide +kernel
theorem dX10_guards_93 : decode cX10_guards 93 = .ok (.iload 5, 2) := by decide +kernel
theorem dX10_guards_95 : decode cX10_guards 95 = .ok (.aload_n 0, 1) := by decide +kernel
theorem dX10_guards_96 : decode cX10_guards 96 = .ok (.getfield 75, 3) := by decide +kernel
theorem dX10_guards_99 : decode cX10_guards 99 = .ok (.getfield 280, 3) := by decide +kernel
theorem dX10_guards_102 : decode cX10_guards 102 = .ok (.iconst 0, 1) := by decide +kernel
theorem dX10_guards_103 : decode cX10_guards 103 = .ok (.iaload, 1) := by decide +kernel
theorem dX10_guards_104 : decode cX10_guards 104 = .ok (.invokestatic 283, 3) := by decide +kernel
theorem dX10_guards_107 : decode cX10_guards 107 = .ok (.istore 5, 2) := by decide +kernel
theorem dX10_guards_109 : decode cX10_guards 109 = .ok (.iload 6, 2) := by decide +kernel
theorem dX10_guards_111 : decode cX10_guards 111 = .ok (.iload 7, 2) := by decide +kernel
theorem dX10_guards_113 : decode cX10_guards 113 = .ok (.aload_n 0, 1) := by decide +kernel
theorem dX10_guards_114 : decode cX10_guards 114 = .ok (.getfield 12, 3) := by decide +kernel
theorem dX10_guards_117 : decode cX10_guards 117 = .ok (.getfield 99, 3) := by decide +kernel
theorem dX10_guards_120 : decode cX10_guards 120 = .ok (.aload_n 0, 1) := by decide +kernel
theorem dX10_guards_121 : decode cX10_guards 121 = .ok (.getfield 93, 3) := by decide +kernel
theorem dX10_guards_124 : decode cX10_guards 124 = .ok (.invokevirtual 288, 3) := by decide +kernel
theorem dX10_guards_127 : decode cX10_guards 127 = .ok (.iadd, 1) := by decide +kernel
theorem dX10_guards_128 : decode cX10_guards 128 = .ok (.invokestatic 283, 3) := by decide +kernel
theorem dX10_guards_131 : decode cX10_guards 131 = .ok (.istore 6, 2) := by decide +kernel
theorem dX10_guards_133 : decode cX10_guards 133 = .ok (.iload 7, 2) := by decide +kernel
theorem dX10_guards_135 : decode cX10_guards 135 = .ok (.aload_n 0, 1) := by decide +kernel
theorem dX10_guards_136 : decode cX10_guards 136 = .ok (.getfield 12, 3) := by decide +kernel
theorem dX10_guards_139 : decode cX10_guards 139 = .ok (.getfield 99, 3) := by decide +kernel
theorem dX10_guards_142 : decode cX10_guards 142 = .ok (.iload 9, 2) := by decide +kernel
theorem dX10_guards_144 : decode cX10_guards 144 = .ok (.invokevirtual 292, 3) := by decide +kernel
theorem dX10_guards_147 : decode cX10_guards 147 = .ok (.iadd, 1) := by decide +kernel
theorem dX10_guards_148 : decode cX10_guards 148 = .ok (.istore 7, 2) := by decide +kernel
theorem dX10_guards_150 : decode cX10_guards 150 = .ok (.iinc 8 1, 3) := by decide +kernel
theorem dX10_guards_153 : decode cX10_guards 153 = .ok (.goto (-107), 3) := by decide +kernel
theorem dX10_guards_156 : decode cX10_guards 156 = .ok (.iload_n 1, 1) := by decide +kernel
theorem dX10_guards_157 : decode cX10_guards 157 = .ok (.ifCond .ne 8, 3) := by decide +kernel
theorem dX10_guards_160 : decode cX10_guards 160 = .ok (.iload 4, 2) := by decide +kernel
theorem dX10_guards_162 : decode cX10_guards 162 = .ok (.goto 15, 3) := by decide +kernel
theorem dX10_guards_165 : decode cX10_guards 165 = .ok (.iload_n 1, 1) := by decide +kernel
theorem dX10_guards_166 : decode cX10_guards 166 = .ok (.iconst 1, 1) := by decide +kernel
theorem dX10_guards_167 : decode cX10_guards 167 = .ok (.if_icmp .ne 8, 3) := by decide +kernel
theorem dX10_guards_170 : decode cX10_guards 170 = .ok (.iload 5, 2) := by decide +kernel
theorem dX10_guards_172 : decode cX10_guards 172 = .ok (.goto 5, 3) := by decide +kernel
theorem dX10_guards_175 : decode cX10_guards 175 = .ok (.iload 6, 2) := by decide +kernel
theorem dX10_guards_177 : decode cX10_guards 177 = .ok (.ireturn, 1) := by decide +kernel
abbrev mX10_guards : MI := (RX10, yX10_guards, cX10_guards, 10, (some .int))
theorem mok_X10_guards : MOKv mX10_guards 1 := ⟨⟨bm_983, bm_114, ⟨by decide, by decide⟩, by decide +kernel⟩, bm_981, bm_982⟩
def f_X10_guards_133  (k46 : Int32 × Int32 × Int32 × Int32 × Int32 → MH → Option (Int32 × MH)) (a0 : Nat) (x1 : Int32) (a2 : Nat) (x3 : Int32) (x4 : Int32) (x5 : Int32) (x6 : Int32) (x7 : Int32) (x8 : Int32) (x9 : Int32) (h : MH) : Option (Int32 × MH) :=
  (gR h a0 0).bind fun a_1 =>
  (gR h a_1 0).bind fun a_2 =>
  (f_X2_priceOf a_2 x9 h).bind fun q_3 =>
  lt (x7 + q_3.1) fun x_4 =>
  k46 (x4, x5, x6, x_4, (x8 + 1)) q_3.2
def f_X10_guards_46b   (a0 : Nat) (x1 : Int32) (a2 : Nat) (x3 : Int32) (k46 : Int32 × Int32 × Int32 × Int32 × Int32 → MH → Option (Int32 × MH)) (p : Int32 × Int32 × Int32 × Int32 × Int32) (h : MH) : Option (Int32 × MH) :=
  if p.2.2.2.2 < (gI h a2 1) then
    (f_X5_get a2 p.2.2.2.2 h).bind fun q_1 =>
    (f_X10_foundRound a0 q_1.1 x3 q_1.2).bind fun q_2 =>
    if q_2.1 = 0 then
      f_X10_guards_133 k46 a0 x1 a2 x3 p.1 p.2.1 p.2.2.1 p.2.2.2.1 p.2.2.2.2 q_1.1 q_2.2
    else
      (gR q_2.2 a0 16).bind fun a_3 =>
      (f_X10_planned a0 a_3 q_2.2).bind fun q_4 =>
      if q_4.1 = 0 then
        f_X10_guards_133 k46 a0 x1 a2 x3 p.1 p.2.1 p.2.2.1 p.2.2.2.1 p.2.2.2.2 q_1.1 q_4.2
      else
        lt (p.1 ||| ((1 : Int32) <<< (p.2.2.2.2 &&& 31))) fun x_5 =>
        (gR q_4.2 a0 13).bind fun a_6 =>
        (gR q_4.2 a_6 3).bind fun a_7 =>
        (ldI q_4.2 a_7 0).bind fun x_8 =>
        lt ((if p.2.1 < x_8 then x_8 else p.2.1) : Int32) fun x_9 =>
        (gR q_4.2 a0 0).bind fun a_10 =>
        (gR q_4.2 a_10 0).bind fun a_11 =>
        (gR q_4.2 a0 16).bind fun a_12 =>
        (f_X2_costOf a_11 a_12 q_4.2).bind fun q_13 =>
        lt ((if p.2.2.1 < (p.2.2.2.1 + q_13.1) then (p.2.2.2.1 + q_13.1) else p.2.2.1) : Int32) fun x_14 =>
        f_X10_guards_133 k46 a0 x1 a2 x3 x_5 x_9 x_14 p.2.2.2.1 p.2.2.2.2 q_1.1 q_13.2
  else
    if x1 = 0 then
      some (p.1, h)
    else
      if x1 = 1 then
        some (p.2.1, h)
      else
        some (p.2.2.1, h)
def f_X10_guards_46   (a0 : Nat) (x1 : Int32) (a2 : Nat) (x3 : Int32) : Nat → Int32 × Int32 × Int32 × Int32 × Int32 → MH → Option (Int32 × MH) := lp (f_X10_guards_46b a0 x1 a2 x3)
def f_X10_guards   (a0 : Nat) (x1 : Int32) (h : MH) : Option (Int32 × MH) :=
  (gR h a0 0).bind fun a_1 =>
  (gR h a_1 6).bind fun a_2 =>
  if (gI h a_2 1) = 0 then
    some ((-1 : Int32), h)
  else
    if x1 < 0 then
      some ((-1 : Int32), h)
    else
      if 2 < x1 then
        some ((-1 : Int32), h)
      else
        (f_X10_wayEnd a0 h).bind fun q_3 =>
        f_X10_guards_46 a0 x1 a_2 q_3.1 FU (0, 0, 0, 0, 0) q_3.2
set_option maxRecDepth 100000 in
set_option maxHeartbeats 4000000 in
theorem v_X10_guards_133 {l : Launch} {G : GE} {B N : Nat} {S : List SHP} {o : Int32 × MH} {a0 : Nat} {x1 : Int32} {a2 : Nat} {x3 : Int32} {x4 : Int32} {x5 : Int32} {x6 : Int32} {x7 : Int32} {x8 : Int32} {x9 : Int32}  {k46 : Int32 × Int32 × Int32 × Int32 × Int32 → MH → Option (Int32 × MH)} (hk46 : ∀ (p : Int32 × Int32 × Int32 × Int32 × Int32) (h : MH), k46 p h = some o → V l G B N mX10_guards (rmm 9 0 0) false 0 0 (QI S o) S 0 0 46 [(0, .ref a0), (1, .int x1), (2, .ref a2), (3, .int x3), (4, .int p.1), (5, .int p.2.1), (6, .int p.2.2.1), (7, .int p.2.2.2.1), (8, .int p.2.2.2.2)] [] h) (hs0 : S[a0]? = some (.inl 10)) (hs2 : S[a2]? = some (.inl 5)) {h : MH} (hf : f_X10_guards_133 k46 a0 x1 a2 x3 x4 x5 x6 x7 x8 x9 h = some o) : V l G B N mX10_guards (rmm 9 0 0) false 0 0 (QI S o) S 0 0 133 [(0, .ref a0), (1, .int x1), (2, .ref a2), (3, .int x3), (4, .int x4), (5, .int x5), (6, .int x6), (7, .int x7), (8, .int x8), (9, .int x9)] [] h := by
  unfold f_X10_guards_133 at hf
  refine V_iload (pc' := 135) dX10_guards_133 rfl 7 rfl ?_
  refine V_aload_n (pc' := 136) dX10_guards_135 rfl 0 rfl rfl ?_
  refine V_getR (pc' := 139) 10 0 dX10_guards_136 rfl (by decide) (Nat.le_of_ble_eq_true rfl) bm_458 hs0 (fun _ _ _ => rfl) rfl hf (fun a_1 ha_1 hf => ?_)
  refine V_getR (pc' := 142) 7 0 dX10_guards_139 rfl (by decide) (Nat.le_of_ble_eq_true rfl) bm_263 ha_1 (fun _ _ _ => rfl) rfl hf (fun a_2 ha_2 hf => ?_)
  refine V_iload (pc' := 144) dX10_guards_142 rfl 9 rfl ?_
  refine V_cvI (pc' := 147) (As := [.int x9]) (rest := [.int x7]) dX10_guards_144 rfl mok_X2_priceOf bm_990 2 (by decide) rfl ha_2 rfl rfl (Nat.le_of_ble_eq_true rfl) (by decide) hf (fun q e => ct_X2_priceOf ha_2 e) (fun q_3 hf => ?_)
  refine V_iadd (pc' := 148) dX10_guards_147 rfl ?_
  refine V_nmI hf (fun x_4 hf => ?_)
  refine V_istore (lv' := [(7, .int x_4), (0, .ref a0), (1, .int x1), (2, .ref a2), (3, .int x3), (4, .int x4), (5, .int x5), (6, .int x6), (8, .int x8), (9, .int x9)]) (pc' := 150) dX10_guards_148 rfl (Nat.le_of_ble_eq_true rfl) rfl ?_
  refine V_iinc (v := (x8 + 1)) (lv' := [(8, .int (x8 + 1)), (7, .int x_4), (0, .ref a0), (1, .int x1), (2, .ref a2), (3, .int x3), (4, .int x4), (5, .int x5), (6, .int x6), (9, .int x9)]) (pc' := 153) dX10_guards_150 rfl 8 rfl rfl (Nat.le_of_ble_eq_true rfl) rfl ?_
  refine V_goto (tgt := 46) dX10_guards_153 (by decide) ?_
  exact V_sub (lv' := [(0, .ref a0), (1, .int x1), (2, .ref a2), (3, .int x3), (4, .int x4), (5, .int x5), (6, .int x6), (7, .int x_4), (8, .int (x8 + 1))]) [2, 3, 4, 5, 6, 7, 8, 1, 0] rfl (hk46 (x4, x5, x6, x_4, (x8 + 1)) q_3.2 hf)
set_option maxRecDepth 100000 in
set_option maxHeartbeats 4000000 in
theorem v_X10_guards_46b {l : Launch} {G : GE} {B N : Nat} {S : List SHP} {o : Int32 × MH} {a0 : Nat} {x1 : Int32} {a2 : Nat} {x3 : Int32}    (hs0 : S[a0]? = some (.inl 10)) (hs2 : S[a2]? = some (.inl 5)) {k46 : Int32 × Int32 × Int32 × Int32 × Int32 → MH → Option (Int32 × MH)} (hk46 : ∀ (p : Int32 × Int32 × Int32 × Int32 × Int32) (h : MH), k46 p h = some o → V l G B N mX10_guards (rmm 9 0 0) false 0 0 (QI S o) S 0 0 46 [(0, .ref a0), (1, .int x1), (2, .ref a2), (3, .int x3), (4, .int p.1), (5, .int p.2.1), (6, .int p.2.2.1), (7, .int p.2.2.2.1), (8, .int p.2.2.2.2)] [] h) {p : Int32 × Int32 × Int32 × Int32 × Int32} {h : MH} (hf : f_X10_guards_46b a0 x1 a2 x3 k46 p h = some o) : V l G B N mX10_guards (rmm 9 0 0) false 0 0 (QI S o) S 0 0 46 [(0, .ref a0), (1, .int x1), (2, .ref a2), (3, .int x3), (4, .int p.1), (5, .int p.2.1), (6, .int p.2.2.1), (7, .int p.2.2.2.1), (8, .int p.2.2.2.2)] [] h := by
  unfold f_X10_guards_46b at hf
  refine V_iload (pc' := 48) dX10_guards_46 rfl 8 rfl ?_
  refine V_aload_n (pc' := 49) dX10_guards_48 rfl 2 rfl rfl ?_
  refine V_getI (pc' := 52) 5 1 dX10_guards_49 rfl (by decide) (Nat.le_of_ble_eq_true rfl) bm_256 hs2 (fun _ _ _ => rfl) ?_
  refine V_icmp_ge (tgt := 156) (pc' := 55) dX10_guards_52 (by decide) rfl hf (fun hf => ?_) (fun hf => ?_)
  ·
    refine V_aload_n (pc' := 56) dX10_guards_55 rfl 2 rfl rfl ?_
    refine V_iload (pc' := 58) dX10_guards_56 rfl 8 rfl ?_
    refine V_cvI (pc' := 61) (As := [.int p.2.2.2.2]) (rest := []) dX10_guards_58 rfl mok_X5_get bm_613 5 (by decide) rfl hs2 rfl rfl (Nat.le_of_ble_eq_true rfl) (by decide) hf (fun q e => ct_X5_get hs2 e) (fun q_1 hf => ?_)
    refine V_istore (lv' := [(9, .int q_1.1), (0, .ref a0), (1, .int x1), (2, .ref a2), (3, .int x3), (4, .int p.1), (5, .int p.2.1), (6, .int p.2.2.1), (7, .int p.2.2.2.1), (8, .int p.2.2.2.2)]) (pc' := 63) dX10_guards_61 rfl (Nat.le_of_ble_eq_true rfl) rfl ?_
    refine V_aload_n (pc' := 64) dX10_guards_63 rfl 1 rfl rfl ?_
    refine V_iload (pc' := 66) dX10_guards_64 rfl 0 rfl ?_
    refine V_iload_n (pc' := 67) dX10_guards_66 rfl 4 rfl rfl ?_
    refine V_cvI (pc' := 70) (As := [.int q_1.1, .int x3]) (rest := []) dX10_guards_67 rfl mok_X10_foundRound bm_973 10 (by decide) rfl hs0 rfl rfl (Nat.le_of_ble_eq_true rfl) (by decide) hf (fun q e => ct_X10_foundRound hs0 e) (fun q_2 hf => ?_)
    refine V_if_eq (tgt := 133) (pc' := 73) dX10_guards_70 (by decide) rfl hf (fun hf => ?_) (fun hf => ?_)
    ·
      exact V_sub (lv' := [(0, .ref a0), (1, .int x1), (2, .ref a2), (3, .int x3), (4, .int p.1), (5, .int p.2.1), (6, .int p.2.2.1), (7, .int p.2.2.2.1), (8, .int p.2.2.2.2), (9, .int q_1.1)]) [1, 2, 3, 4, 5, 6, 7, 8, 9, 0] rfl (v_X10_guards_133 hk46 hs0 hs2 hf)
    ·
      refine V_aload_n (pc' := 74) dX10_guards_73 rfl 1 rfl rfl ?_
      refine V_aload_n (pc' := 75) dX10_guards_74 rfl 1 rfl rfl ?_
      refine V_getR (pc' := 78) 10 16 dX10_guards_75 rfl (by decide) (Nat.le_of_ble_eq_true rfl) bm_474 hs0 (fun _ _ _ => rfl) rfl hf (fun a_3 ha_3 hf => ?_)
      refine V_cvI (pc' := 81) (As := [.ref a_3]) (rest := []) dX10_guards_78 rfl mok_X10_planned bm_682 10 (by decide) rfl hs0 rfl rfl (Nat.le_of_ble_eq_true rfl) (by decide) hf (fun q e => ct_X10_planned hs0 ha_3 e) (fun q_4 hf => ?_)
      refine V_if_eq (tgt := 133) (pc' := 84) dX10_guards_81 (by decide) rfl hf (fun hf => ?_) (fun hf => ?_)
      ·
        exact V_sub (lv' := [(0, .ref a0), (1, .int x1), (2, .ref a2), (3, .int x3), (4, .int p.1), (5, .int p.2.1), (6, .int p.2.2.1), (7, .int p.2.2.2.1), (8, .int p.2.2.2.2), (9, .int q_1.1)]) [1, 2, 3, 4, 5, 6, 7, 8, 9, 0] rfl (v_X10_guards_133 hk46 hs0 hs2 hf)
      ·
        refine V_iload (pc' := 86) dX10_guards_84 rfl 5 rfl ?_
        refine V_iconst (v := 1) (pc' := 87) dX10_guards_86 rfl (by decide) ?_
        refine V_iload (pc' := 89) dX10_guards_87 rfl 9 rfl ?_
        refine V_ishl (pc' := 90) dX10_guards_89 rfl ?_
        refine V_ior (pc' := 91) dX10_guards_90 rfl ?_
        refine V_nmI hf (fun x_5 hf => ?_)
        refine V_istore (lv' := [(4, .int x_5), (9, .int q_1.1), (0, .ref a0), (1, .int x1), (2, .ref a2), (3, .int x3), (5, .int p.2.1), (6, .int p.2.2.1), (7, .int p.2.2.2.1), (8, .int p.2.2.2.2)]) (pc' := 93) dX10_guards_91 rfl (Nat.le_of_ble_eq_true rfl) rfl ?_
        refine V_iload (pc' := 95) dX10_guards_93 rfl 6 rfl ?_
        refine V_aload_n (pc' := 96) dX10_guards_95 rfl 2 rfl rfl ?_
        refine V_getR (pc' := 99) 10 13 dX10_guards_96 rfl (by decide) (Nat.le_of_ble_eq_true rfl) bm_471 hs0 (fun _ _ _ => rfl) rfl hf (fun a_6 ha_6 hf => ?_)
        refine V_getR (pc' := 102) 9 3 dX10_guards_99 rfl (by decide) (Nat.le_of_ble_eq_true rfl) bm_366 ha_6 (fun _ _ _ => rfl) rfl hf (fun a_7 ha_7 hf => ?_)
        refine V_iconst (v := 0) (pc' := 103) dX10_guards_102 rfl (by decide) ?_
        refine V_iald (pc' := 104) dX10_guards_103 rfl ha_7 hf (fun x_8 hf => ?_)
        refine V_max (pc' := 107) dX10_guards_104 rfl bm_157 (Nat.le_of_ble_eq_true rfl) (by decide) ?_
        refine V_nmI hf (fun x_9 hf => ?_)
        refine V_istore (lv' := [(5, .int x_9), (4, .int x_5), (9, .int q_1.1), (0, .ref a0), (1, .int x1), (2, .ref a2), (3, .int x3), (6, .int p.2.2.1), (7, .int p.2.2.2.1), (8, .int p.2.2.2.2)]) (pc' := 109) dX10_guards_107 rfl (Nat.le_of_ble_eq_true rfl) rfl ?_
        refine V_iload (pc' := 111) dX10_guards_109 rfl 7 rfl ?_
        refine V_iload (pc' := 113) dX10_guards_111 rfl 8 rfl ?_
        refine V_aload_n (pc' := 114) dX10_guards_113 rfl 3 rfl rfl ?_
        refine V_getR (pc' := 117) 10 0 dX10_guards_114 rfl (by decide) (Nat.le_of_ble_eq_true rfl) bm_458 hs0 (fun _ _ _ => rfl) rfl hf (fun a_10 ha_10 hf => ?_)
        refine V_getR (pc' := 120) 7 0 dX10_guards_117 rfl (by decide) (Nat.le_of_ble_eq_true rfl) bm_263 ha_10 (fun _ _ _ => rfl) rfl hf (fun a_11 ha_11 hf => ?_)
        refine V_aload_n (pc' := 121) dX10_guards_120 rfl 3 rfl rfl ?_
        refine V_getR (pc' := 124) 10 16 dX10_guards_121 rfl (by decide) (Nat.le_of_ble_eq_true rfl) bm_474 hs0 (fun _ _ _ => rfl) rfl hf (fun a_12 ha_12 hf => ?_)
        refine V_cvI (pc' := 127) (As := [.ref a_12]) (rest := [.int p.2.2.2.1, .int p.2.2.1]) dX10_guards_124 rfl mok_X2_costOf bm_984 2 (by decide) rfl ha_11 rfl rfl (Nat.le_of_ble_eq_true rfl) (by decide) hf (fun q e => ct_X2_costOf ha_11 ha_12 e) (fun q_13 hf => ?_)
        refine V_iadd (pc' := 128) dX10_guards_127 rfl ?_
        refine V_max (pc' := 131) dX10_guards_128 rfl bm_157 (Nat.le_of_ble_eq_true rfl) (by decide) ?_
        refine V_nmI hf (fun x_14 hf => ?_)
        refine V_istore (lv' := [(6, .int x_14), (5, .int x_9), (4, .int x_5), (9, .int q_1.1), (0, .ref a0), (1, .int x1), (2, .ref a2), (3, .int x3), (7, .int p.2.2.2.1), (8, .int p.2.2.2.2)]) (pc' := 133) dX10_guards_131 rfl (Nat.le_of_ble_eq_true rfl) rfl ?_
        exact V_sub (lv' := [(0, .ref a0), (1, .int x1), (2, .ref a2), (3, .int x3), (4, .int x_5), (5, .int x_9), (6, .int x_14), (7, .int p.2.2.2.1), (8, .int p.2.2.2.2), (9, .int q_1.1)]) [4, 5, 6, 7, 2, 1, 0, 8, 9, 3] rfl (v_X10_guards_133 hk46 hs0 hs2 hf)
  ·
    refine V_iload_n (pc' := 157) dX10_guards_156 rfl 1 rfl rfl ?_
    refine V_if_ne (tgt := 165) (pc' := 160) dX10_guards_157 (by decide) rfl hf (fun hf => ?_) (fun hf => ?_)
    ·
      refine V_iload (pc' := 162) dX10_guards_160 rfl 4 rfl ?_
      refine V_goto (tgt := 177) dX10_guards_162 (by decide) ?_
      obtain rfl := Option.some.inj hf
      exact V_iret dX10_guards_177 rfl rfl rfl ⟨rfl, rfl, rfl⟩
    ·
      refine V_iload_n (pc' := 166) dX10_guards_165 rfl 1 rfl rfl ?_
      refine V_iconst (v := 1) (pc' := 167) dX10_guards_166 rfl (by decide) ?_
      refine V_icmp_ne (tgt := 175) (pc' := 170) dX10_guards_167 (by decide) rfl hf (fun hf => ?_) (fun hf => ?_)
      ·
        refine V_iload (pc' := 172) dX10_guards_170 rfl 5 rfl ?_
        refine V_goto (tgt := 177) dX10_guards_172 (by decide) ?_
        obtain rfl := Option.some.inj hf
        exact V_iret dX10_guards_177 rfl rfl rfl ⟨rfl, rfl, rfl⟩
      ·
        refine V_iload (pc' := 177) dX10_guards_175 rfl 6 rfl ?_
        obtain rfl := Option.some.inj hf
        exact V_iret dX10_guards_177 rfl rfl rfl ⟨rfl, rfl, rfl⟩
theorem v_X10_guards_46 {l : Launch} {G : GE} {B N : Nat} {S : List SHP} {o : Int32 × MH} {a0 : Nat} {x1 : Int32} {a2 : Nat} {x3 : Int32}    (hs0 : S[a0]? = some (.inl 10)) (hs2 : S[a2]? = some (.inl 5)) {n : Nat} {p : Int32 × Int32 × Int32 × Int32 × Int32} {h : MH} (hf : f_X10_guards_46 a0 x1 a2 x3 n p h = some o) : V l G B N mX10_guards (rmm 9 0 0) false 0 0 (QI S o) S 0 0 46 [(0, .ref a0), (1, .int x1), (2, .ref a2), (3, .int x3), (4, .int p.1), (5, .int p.2.1), (6, .int p.2.2.1), (7, .int p.2.2.2.1), (8, .int p.2.2.2.2)] [] h :=
  V_lp (VV := fun p h => V l G B N mX10_guards (rmm 9 0 0) false 0 0 (QI S o) S 0 0 46 [(0, .ref a0), (1, .int x1), (2, .ref a2), (3, .int x3), (4, .int p.1), (5, .int p.2.1), (6, .int p.2.2.1), (7, .int p.2.2.2.1), (8, .int p.2.2.2.2)] [] h) (fun _ hk _ _ hf => v_X10_guards_46b hs0 hs2 hk hf) n p h hf
set_option maxRecDepth 100000 in
set_option maxHeartbeats 4000000 in
theorem v_X10_guards {l : Launch} {G : GE} {B N : Nat} {S : List SHP} {o : Int32 × MH} {a0 : Nat} {x1 : Int32}    (hs0 : S[a0]? = some (.inl 10)) {h : MH} (hf : f_X10_guards a0 x1 h = some o) : V l G B N mX10_guards (rmm 9 0 0) false 0 0 (QI S o) S 0 0 0 [(0, .ref a0), (1, .int x1)] [] h := by
  unfold f_X10_guards at hf
  refine V_aload_n (pc' := 1) dX10_guards_0 rfl 0 rfl rfl ?_
  refine V_getR (pc' := 4) 10 0 dX10_guards_1 rfl (by decide) (Nat.le_of_ble_eq_true rfl) bm_458 hs0 (fun _ _ _ => rfl) rfl hf (fun a_1 ha_1 hf => ?_)
  refine V_getR (pc' := 7) 7 6 dX10_guards_4 rfl (by decide) (Nat.le_of_ble_eq_true rfl) bm_275 ha_1 (fun _ _ _ => rfl) rfl hf (fun a_2 ha_2 hf => ?_)
  refine V_astore_n (lv' := [(2, .ref a_2), (0, .ref a0), (1, .int x1)]) (pc' := 8) dX10_guards_7 rfl rfl (Nat.le_of_ble_eq_true rfl) rfl ?_
  refine V_aload_n (pc' := 9) dX10_guards_8 rfl 0 rfl rfl ?_
  refine V_getI (pc' := 12) 5 1 dX10_guards_9 rfl (by decide) (Nat.le_of_ble_eq_true rfl) bm_256 ha_2 (fun _ _ _ => rfl) ?_
  refine V_if_eq (tgt := 24) (pc' := 15) dX10_guards_12 (by decide) rfl hf (fun hf => ?_) (fun hf => ?_)
  ·
    refine V_iconst (v := (-1)) (pc' := 25) dX10_guards_24 rfl (by decide) ?_
    obtain rfl := Option.some.inj hf
    exact V_iret dX10_guards_25 rfl rfl rfl ⟨rfl, rfl, rfl⟩
  ·
    refine V_iload_n (pc' := 16) dX10_guards_15 rfl 2 rfl rfl ?_
    refine V_if_lt (tgt := 24) (pc' := 19) dX10_guards_16 (by decide) rfl hf (fun hf => ?_) (fun hf => ?_)
    ·
      refine V_iconst (v := (-1)) (pc' := 25) dX10_guards_24 rfl (by decide) ?_
      obtain rfl := Option.some.inj hf
      exact V_iret dX10_guards_25 rfl rfl rfl ⟨rfl, rfl, rfl⟩
    ·
      refine V_iload_n (pc' := 20) dX10_guards_19 rfl 2 rfl rfl ?_
      refine V_iconst (v := 2) (pc' := 21) dX10_guards_20 rfl (by decide) ?_
      refine V_icmp_le (tgt := 26) (pc' := 24) dX10_guards_21 (by decide) rfl hf (fun hf => ?_) (fun hf => ?_)
      ·
        refine V_iconst (v := (-1)) (pc' := 25) dX10_guards_24 rfl (by decide) ?_
        obtain rfl := Option.some.inj hf
        exact V_iret dX10_guards_25 rfl rfl rfl ⟨rfl, rfl, rfl⟩
      ·
        refine V_aload_n (pc' := 27) dX10_guards_26 rfl 1 rfl rfl ?_
        refine V_cvI (pc' := 30) (As := []) (rest := []) dX10_guards_27 rfl mok_X10_wayEnd bm_647 10 (by decide) rfl hs0 rfl rfl (Nat.le_of_ble_eq_true rfl) (by decide) hf (fun q e => ct_X10_wayEnd hs0 e) (fun q_3 hf => ?_)
        refine V_istore_n (lv' := [(3, .int q_3.1), (2, .ref a_2), (0, .ref a0), (1, .int x1)]) (pc' := 31) dX10_guards_30 rfl rfl (Nat.le_of_ble_eq_true rfl) rfl ?_
        refine V_iconst (v := 0) (pc' := 32) dX10_guards_31 rfl (by decide) ?_
        refine V_istore (lv' := [(4, .int 0), (3, .int q_3.1), (2, .ref a_2), (0, .ref a0), (1, .int x1)]) (pc' := 34) dX10_guards_32 rfl (Nat.le_of_ble_eq_true rfl) rfl ?_
        refine V_iconst (v := 0) (pc' := 35) dX10_guards_34 rfl (by decide) ?_
        refine V_istore (lv' := [(5, .int 0), (4, .int 0), (3, .int q_3.1), (2, .ref a_2), (0, .ref a0), (1, .int x1)]) (pc' := 37) dX10_guards_35 rfl (Nat.le_of_ble_eq_true rfl) rfl ?_
        refine V_iconst (v := 0) (pc' := 38) dX10_guards_37 rfl (by decide) ?_
        refine V_istore (lv' := [(6, .int 0), (5, .int 0), (4, .int 0), (3, .int q_3.1), (2, .ref a_2), (0, .ref a0), (1, .int x1)]) (pc' := 40) dX10_guards_38 rfl (Nat.le_of_ble_eq_true rfl) rfl ?_
        refine V_iconst (v := 0) (pc' := 41) dX10_guards_40 rfl (by decide) ?_
        refine V_istore (lv' := [(7, .int 0), (6, .int 0), (5, .int 0), (4, .int 0), (3, .int q_3.1), (2, .ref a_2), (0, .ref a0), (1, .int x1)]) (pc' := 43) dX10_guards_41 rfl (Nat.le_of_ble_eq_true rfl) rfl ?_
        refine V_iconst (v := 0) (pc' := 44) dX10_guards_43 rfl (by decide) ?_
        refine V_istore (lv' := [(8, .int 0), (7, .int 0), (6, .int 0), (5, .int 0), (4, .int 0), (3, .int q_3.1), (2, .ref a_2), (0, .ref a0), (1, .int x1)]) (pc' := 46) dX10_guards_44 rfl (Nat.le_of_ble_eq_true rfl) rfl ?_
        exact V_sub (lv' := [(0, .ref a0), (1, .int x1), (2, .ref a_2), (3, .int q_3.1), (4, .int 0), (5, .int 0), (6, .int 0), (7, .int 0), (8, .int 0)]) [7, 8, 6, 5, 4, 3, 2, 1, 0] rfl (v_X10_guards_46 hs0 ha_2 hf)
theorem ct_X10_guards {l : Launch} {S : List SHP} {h : MH} {a0 : Nat} {x1 : Int32} (hs0 : S[a0]? = some (.inl 10)) {q : Int32 × MH} (hf : f_X10_guards a0 x1 h = some q) : CT l mX10_guards 9 false 0 0 S [.ref a0, .int x1] h (QI S q) :=
  CT_ofV (by decide) rfl (Nat.le_of_ble_eq_true rfl) (fun G B hT => v_X10_guards hs0 hf)
/-! LabelStacks.writable(IIII)I -/
theorem dX10_writable_0 : decode cX10_writable 0 = .ok (.aload_n 0, 1) := by decide +kernel
theorem dX10_writable_1 : decode cX10_writable 1 = .ok (.getfield 12, 3) := by decide +kernel
theorem dX10_writable_4 : decode cX10_writable 4 = .ok (.getfield 99, 3) := by decide +kernel
theorem dX10_writable_7 : decode cX10_writable 7 = .ok (.iload_n 1, 1) := by decide +kernel
theorem dX10_writable_8 : decode cX10_writable 8 = .ok (.invokevirtual 111, 3) := by decide +kernel
theorem dX10_writable_11 : decode cX10_writable 11 = .ok (.ifCond .eq 22, 3) := by decide +kernel
theorem dX10_writable_14 : decode cX10_writable 14 = .ok (.aload_n 0, 1) := by decide +kernel
theorem dX10_writable_15 : decode cX10_writable 15 = .ok (.getfield 12, 3) := by decide +kernel
theorem dX10_writable_18 : decode cX10_writable 18 = .ok (.getfield 99, 3) := by decide +kernel
theorem dX10_writable_21 : decode cX10_writable 21 = .ok (.iload_n 2, 1) := by decide +kernel
theorem dX10_writable_22 : decode cX10_writable 22 = .ok (.invokevirtual 111, 3) := by decide +kernel
theorem dX10_writable_25 : decode cX10_writable 25 = .ok (.ifCond .eq 8, 3) := by decide +kernel
theorem dX10_writable_28 : decode cX10_writable 28 = .ok (.iload_n 1, 1) := by decide +kernel
theorem dX10_writable_29 : decode cX10_writable 29 = .ok (.iload_n 2, 1) := by decide +kernel
theorem dX10_writable_30 : decode cX10_writable 30 = .ok (.if_icmp .ne 5, 3) := by decide +kernel
theorem dX10_writable_33 : decode cX10_writable 33 = .ok (.iconst (-1), 1) := by decide +kernel
theorem dX10_writable_34 : decode cX10_writable 34 = .ok (.ireturn, 1) := by decide +kernel
theorem dX10_writable_35 : decode cX10_writable 35 = .ok (.iload_n 3, 1) := by decide +kernel
theorem dX10_writable_36 : decode cX10_writable 36 = .ok (.iconst 1, 1) := by decide +kernel
theorem dX10_writable_37 : decode cX10_writable 37 = .ok (.if_icmp .lt 22, 3) := by decide +kernel
theorem dX10_writable_40 : decode cX10_writable 40 = .ok (.iload_n 3, 1) := by decide +kernel
theorem dX10_writable_41 : decode cX10_writable 41 = .ok (.bipush 6, 2) := by decide +kernel
theorem dX10_writable_43 : decode cX10_writable 43 = .ok (.if_icmp .gt 16, 3) := by decide +kernel
theorem dX10_writable_46 : decode cX10_writable 46 = .ok (.iload 4, 2) := by decide +kernel
theorem dX10_writable_48 : decode cX10_writable 48 = .ok (.iconst 1, 1) := by decide +kernel
theorem dX10_writable_49 : decode cX10_writable 49 = .ok (.if_icmp .lt 10, 3) := by decide +kernel
theorem dX10_writable_52 : decode cX10_writable 52 = .ok (.iload 4, 2) := by decide +kernel
theorem dX10_writable_54 : decode cX10_writable 54 = .ok (.bipush 12, 2) := by decide +kernel
theorem dX10_writable_56 : decode cX10_writable 56 = .ok (.if_icmp .le 5, 3) := by decide +kernel
theorem dX10_writable_59 : decode cX10_writable 59 = .ok (.iconst (-1), 1) := by decide +kernel
theorem dX10_writable_60 : decode cX10_writable 60 = .ok (.ireturn, 1) := by decide +kernel
theorem dX10_writable_61 : decode cX10_writable 61 = .ok (.aload_n 0, 1) := by decide +kernel
theorem dX10_writable_62 : decode cX10_writable 62 = .ok (.getfield 75, 3) := by decide +kernel
theorem dX10_writable_65 : decode cX10_writable 65 = .ok (.aload_n 0, 1) := by decide +kernel
theorem dX10_writable_66 : decode cX10_writable 66 = .ok (.getfield 12, 3) := by decide +kernel
theorem dX10_writable_69 : decode cX10_writable 69 = .ok (.getfield 99, 3) := by decide +kernel
theorem dX10_writable_72 : decode cX10_writable 72 = .ok (.aload_n 0, 1) := by decide +kernel
theorem dX10_writable_73 : decode cX10_writable 73 = .ok (.invokevirtual 201, 3) := by decide +kernel
theorem dX10_writable_76 : decode cX10_writable 76 = .ok (.iload_n 1, 1) := by decide +kernel
theorem dX10_writable_77 : decode cX10_writable 77 = .ok (.iload_n 2, 1) := by decide +kernel
theorem dX10_writable_78 : decode cX10_writable 78 = .ok (.iload_n 3, 1) := by decide +kernel
theorem dX10_writable_79 : decode cX10_writable 79 = .ok (.iload 4, 2) := by decide +kernel
theorem dX10_writable_81 : decode cX10_writable 81 = .ok (.aload_n 0, 1) := by decide +kernel
theorem dX10_writable_82 : decode cX10_writable 82 = .ok (.getfield 25, 3) := by decide +kernel
theorem dX10_writable_85 : decode cX10_writable 85 = .ok (.invokevirtual 295, 3) := by decide +kernel
theorem dX10_writable_88 : decode cX10_writable 88 = .ok (.ireturn, 1) := by decide +kernel
abbrev mX10_writable : MI := (RX10, yX10_writable, cX10_writable, 5, (some .int))
theorem mok_X10_writable : MOKv mX10_writable 4 := ⟨⟨bm_994, bm_114, ⟨by decide, by decide⟩, by decide +kernel⟩, bm_992, bm_993⟩
def f_X10_writable   (a0 : Nat) (x1 : Int32) (x2 : Int32) (x3 : Int32) (x4 : Int32) (h : MH) : Option (Int32 × MH) :=
  (gR h a0 0).bind fun a_1 =>
  (gR h a_1 0).bind fun a_2 =>
  (f_X2_hasNode a_2 x1 h).bind fun q_3 =>
  if q_3.1 = 0 then
    some ((-1 : Int32), q_3.2)
  else
    (gR q_3.2 a0 0).bind fun a_4 =>
    (gR q_3.2 a_4 0).bind fun a_5 =>
    (f_X2_hasNode a_5 x2 q_3.2).bind fun q_6 =>
    if q_6.1 = 0 then
      some ((-1 : Int32), q_6.2)
    else
      if x1 = x2 then
        some ((-1 : Int32), q_6.2)
      else
        if x3 < 1 then
          some ((-1 : Int32), q_6.2)
        else
          if 6 < x3 then
            some ((-1 : Int32), q_6.2)
          else
            if x4 < 1 then
              some ((-1 : Int32), q_6.2)
            else
              if 12 < x4 then
                some ((-1 : Int32), q_6.2)
              else
                (gR q_6.2 a0 13).bind fun a_7 =>
                (gR q_6.2 a0 0).bind fun a_8 =>
                (gR q_6.2 a_8 0).bind fun a_9 =>
                (f_X10_freshRoutes a0 q_6.2).bind fun q_10 =>
                (f_X9_countWays a_7 a_9 q_10.1 x1 x2 x3 x4 (gI q_10.2 a0 2) q_10.2).bind fun q_11 =>
                some (q_11.1, q_11.2)
set_option maxRecDepth 100000 in
set_option maxHeartbeats 4000000 in
theorem v_X10_writable {l : Launch} {G : GE} {B N : Nat} {S : List SHP} {o : Int32 × MH} {a0 : Nat} {x1 : Int32} {x2 : Int32} {x3 : Int32} {x4 : Int32}    (hs0 : S[a0]? = some (.inl 10)) {h : MH} (hf : f_X10_writable a0 x1 x2 x3 x4 h = some o) : V l G B N mX10_writable (rmm 19 0 0) false 0 0 (QI S o) S 0 0 0 [(0, .ref a0), (1, .int x1), (2, .int x2), (3, .int x3), (4, .int x4)] [] h := by
  unfold f_X10_writable at hf
  refine V_aload_n (pc' := 1) dX10_writable_0 rfl 0 rfl rfl ?_
  refine V_getR (pc' := 4) 10 0 dX10_writable_1 rfl (by decide) (Nat.le_of_ble_eq_true rfl) bm_458 hs0 (fun _ _ _ => rfl) rfl hf (fun a_1 ha_1 hf => ?_)
  refine V_getR (pc' := 7) 7 0 dX10_writable_4 rfl (by decide) (Nat.le_of_ble_eq_true rfl) bm_263 ha_1 (fun _ _ _ => rfl) rfl hf (fun a_2 ha_2 hf => ?_)
  refine V_iload_n (pc' := 8) dX10_writable_7 rfl 1 rfl rfl ?_
  refine V_cvI (pc' := 11) (As := [.int x1]) (rest := []) dX10_writable_8 rfl mok_X2_hasNode bm_569 2 (by decide) rfl ha_2 rfl rfl (Nat.le_of_ble_eq_true rfl) (by decide) hf (fun q e => ct_X2_hasNode ha_2 e) (fun q_3 hf => ?_)
  refine V_if_eq (tgt := 33) (pc' := 14) dX10_writable_11 (by decide) rfl hf (fun hf => ?_) (fun hf => ?_)
  ·
    refine V_iconst (v := (-1)) (pc' := 34) dX10_writable_33 rfl (by decide) ?_
    obtain rfl := Option.some.inj hf
    exact V_iret dX10_writable_34 rfl rfl rfl ⟨rfl, rfl, rfl⟩
  ·
    refine V_aload_n (pc' := 15) dX10_writable_14 rfl 0 rfl rfl ?_
    refine V_getR (pc' := 18) 10 0 dX10_writable_15 rfl (by decide) (Nat.le_of_ble_eq_true rfl) bm_458 hs0 (fun _ _ _ => rfl) rfl hf (fun a_4 ha_4 hf => ?_)
    refine V_getR (pc' := 21) 7 0 dX10_writable_18 rfl (by decide) (Nat.le_of_ble_eq_true rfl) bm_263 ha_4 (fun _ _ _ => rfl) rfl hf (fun a_5 ha_5 hf => ?_)
    refine V_iload_n (pc' := 22) dX10_writable_21 rfl 2 rfl rfl ?_
    refine V_cvI (pc' := 25) (As := [.int x2]) (rest := []) dX10_writable_22 rfl mok_X2_hasNode bm_569 2 (by decide) rfl ha_5 rfl rfl (Nat.le_of_ble_eq_true rfl) (by decide) hf (fun q e => ct_X2_hasNode ha_5 e) (fun q_6 hf => ?_)
    refine V_if_eq (tgt := 33) (pc' := 28) dX10_writable_25 (by decide) rfl hf (fun hf => ?_) (fun hf => ?_)
    ·
      refine V_iconst (v := (-1)) (pc' := 34) dX10_writable_33 rfl (by decide) ?_
      obtain rfl := Option.some.inj hf
      exact V_iret dX10_writable_34 rfl rfl rfl ⟨rfl, rfl, rfl⟩
    ·
      refine V_iload_n (pc' := 29) dX10_writable_28 rfl 1 rfl rfl ?_
      refine V_iload_n (pc' := 30) dX10_writable_29 rfl 2 rfl rfl ?_
      refine V_icmp_ne (tgt := 35) (pc' := 33) dX10_writable_30 (by decide) rfl hf (fun hf => ?_) (fun hf => ?_)
      ·
        refine V_iconst (v := (-1)) (pc' := 34) dX10_writable_33 rfl (by decide) ?_
        obtain rfl := Option.some.inj hf
        exact V_iret dX10_writable_34 rfl rfl rfl ⟨rfl, rfl, rfl⟩
      ·
        refine V_iload_n (pc' := 36) dX10_writable_35 rfl 3 rfl rfl ?_
        refine V_iconst (v := 1) (pc' := 37) dX10_writable_36 rfl (by decide) ?_
        refine V_icmp_lt (tgt := 59) (pc' := 40) dX10_writable_37 (by decide) rfl hf (fun hf => ?_) (fun hf => ?_)
        ·
          refine V_iconst (v := (-1)) (pc' := 60) dX10_writable_59 rfl (by decide) ?_
          obtain rfl := Option.some.inj hf
          exact V_iret dX10_writable_60 rfl rfl rfl ⟨rfl, rfl, rfl⟩
        ·
          refine V_iload_n (pc' := 41) dX10_writable_40 rfl 3 rfl rfl ?_
          refine V_bipush (v := 6) (pc' := 43) dX10_writable_41 rfl (by decide) ?_
          refine V_icmp_gt (tgt := 59) (pc' := 46) dX10_writable_43 (by decide) rfl hf (fun hf => ?_) (fun hf => ?_)
          ·
            refine V_iconst (v := (-1)) (pc' := 60) dX10_writable_59 rfl (by decide) ?_
            obtain rfl := Option.some.inj hf
            exact V_iret dX10_writable_60 rfl rfl rfl ⟨rfl, rfl, rfl⟩
          ·
            refine V_iload (pc' := 48) dX10_writable_46 rfl 4 rfl ?_
            refine V_iconst (v := 1) (pc' := 49) dX10_writable_48 rfl (by decide) ?_
            refine V_icmp_lt (tgt := 59) (pc' := 52) dX10_writable_49 (by decide) rfl hf (fun hf => ?_) (fun hf => ?_)
            ·
              refine V_iconst (v := (-1)) (pc' := 60) dX10_writable_59 rfl (by decide) ?_
              obtain rfl := Option.some.inj hf
              exact V_iret dX10_writable_60 rfl rfl rfl ⟨rfl, rfl, rfl⟩
            ·
              refine V_iload (pc' := 54) dX10_writable_52 rfl 4 rfl ?_
              refine V_bipush (v := 12) (pc' := 56) dX10_writable_54 rfl (by decide) ?_
              refine V_icmp_le (tgt := 61) (pc' := 59) dX10_writable_56 (by decide) rfl hf (fun hf => ?_) (fun hf => ?_)
              ·
                refine V_iconst (v := (-1)) (pc' := 60) dX10_writable_59 rfl (by decide) ?_
                obtain rfl := Option.some.inj hf
                exact V_iret dX10_writable_60 rfl rfl rfl ⟨rfl, rfl, rfl⟩
              ·
                refine V_aload_n (pc' := 62) dX10_writable_61 rfl 0 rfl rfl ?_
                refine V_getR (pc' := 65) 10 13 dX10_writable_62 rfl (by decide) (Nat.le_of_ble_eq_true rfl) bm_471 hs0 (fun _ _ _ => rfl) rfl hf (fun a_7 ha_7 hf => ?_)
                refine V_aload_n (pc' := 66) dX10_writable_65 rfl 0 rfl rfl ?_
                refine V_getR (pc' := 69) 10 0 dX10_writable_66 rfl (by decide) (Nat.le_of_ble_eq_true rfl) bm_458 hs0 (fun _ _ _ => rfl) rfl hf (fun a_8 ha_8 hf => ?_)
                refine V_getR (pc' := 72) 7 0 dX10_writable_69 rfl (by decide) (Nat.le_of_ble_eq_true rfl) bm_263 ha_8 (fun _ _ _ => rfl) rfl hf (fun a_9 ha_9 hf => ?_)
                refine V_aload_n (pc' := 73) dX10_writable_72 rfl 0 rfl rfl ?_
                refine V_cvR (pc' := 76) (As := []) (rest := [.ref a_9, .ref a_7]) dX10_writable_73 rfl mok_X10_freshRoutes bm_686 10 (by decide) rfl hs0 rfl rfl (Nat.le_of_ble_eq_true rfl) (by decide) hf (fun q e => ct_X10_freshRoutes hs0 e) (fun q_10 hq_10 hf => ?_)
                refine V_iload_n (pc' := 77) dX10_writable_76 rfl 1 rfl rfl ?_
                refine V_iload_n (pc' := 78) dX10_writable_77 rfl 2 rfl rfl ?_
                refine V_iload_n (pc' := 79) dX10_writable_78 rfl 3 rfl rfl ?_
                refine V_iload (pc' := 81) dX10_writable_79 rfl 4 rfl ?_
                refine V_aload_n (pc' := 82) dX10_writable_81 rfl 0 rfl rfl ?_
                refine V_getI (pc' := 85) 10 2 dX10_writable_82 rfl (by decide) (Nat.le_of_ble_eq_true rfl) bm_460 hs0 (fun _ _ _ => rfl) ?_
                refine V_cvI (pc' := 88) (As := [.ref a_9, .ref q_10.1, .int x1, .int x2, .int x3, .int x4, .int (gI q_10.2 a0 2)]) (rest := []) dX10_writable_85 rfl mok_X9_countWays bm_995 9 (by decide) rfl ha_7 rfl rfl (Nat.le_of_ble_eq_true rfl) (by decide) hf (fun q e => ct_X9_countWays ha_7 ha_9 hq_10 e) (fun q_11 hf => ?_)
                obtain rfl := Option.some.inj hf
                exact V_iret dX10_writable_88 rfl rfl rfl ⟨rfl, rfl, rfl⟩
theorem ct_X10_writable {l : Launch} {S : List SHP} {h : MH} {a0 : Nat} {x1 : Int32} {x2 : Int32} {x3 : Int32} {x4 : Int32} (hs0 : S[a0]? = some (.inl 10)) {q : Int32 × MH} (hf : f_X10_writable a0 x1 x2 x3 x4 h = some q) : CT l mX10_writable 19 false 0 0 S [.ref a0, .int x1, .int x2, .int x3, .int x4] h (QI S q) :=
  CT_ofV (by decide) rfl (Nat.le_of_ble_eq_true rfl) (fun G B hT => v_X10_writable hs0 hf)
/-! LabelStacks.fewestAt(II)I -/
theorem dX10_fewestAt_0 : decode cX10_fewestAt 0 = .ok (.aload_n 0, 1) := by decide +kernel
theorem dX10_fewestAt_1 : decode cX10_fewestAt 1 = .ok (.getfield 12, 3) := by decide +kernel
theorem dX10_fewestAt_4 : decode cX10_fewestAt 4 = .ok (.getfield 99, 3) := by decide +kernel
theorem dX10_fewestAt_7 : decode cX10_fewestAt 7 = .ok (.getfield 135, 3) := by decide +kernel
theorem dX10_fewestAt_10 : decode cX10_fewestAt 10 = .ok (.iload_n 1, 1) := by decide +kernel
theorem dX10_fewestAt_11 : decode cX10_fewestAt 11 = .ok (.iload_n 2, 1) := by decide +kernel
theorem dX10_fewestAt_12 : decode cX10_fewestAt 12 = .ok (.iastore, 1) := by decide +kernel
theorem dX10_fewestAt_13 : decode cX10_fewestAt 13 = .ok (.aload_n 0, 1) := by decide +kernel
theorem dX10_fewestAt_14 : decode cX10_fewestAt 14 = .ok (.getfield 66, 3) := by decide +kernel
theorem dX10_fewestAt_17 : decode cX10_fewestAt 17 = .ok (.aload_n 0, 1) := by decide +kernel
theorem dX10_fewestAt_18 : decode cX10_fewestAt 18 = .ok (.getfield 63, 3) := by decide +kernel
theorem dX10_fewestAt_21 : decode cX10_fewestAt 21 = .ok (.aload_n 0, 1) := by decide +kernel
theorem dX10_fewestAt_22 : decode cX10_fewestAt 22 = .ok (.getfield 12, 3) := by decide +kernel
theorem dX10_fewestAt_25 : decode cX10_fewestAt 25 = .ok (.getfield 99, 3) := by decide +kernel
theorem dX10_fewestAt_28 : decode cX10_fewestAt 28 = .ok (.iload_n 1, 1) := by decide +kernel
theorem dX10_fewestAt_29 : decode cX10_fewestAt 29 = .ok (.invokevirtual 421, 3) := by decide +kernel
theorem dX10_fewestAt_32 : decode cX10_fewestAt 32 = .ok (.aload_n 0, 1) := by decide +kernel
theorem dX10_fewestAt_33 : decode cX10_fewestAt 33 = .ok (.getfield 75, 3) := by decide +kernel
theorem dX10_fewestAt_36 : decode cX10_fewestAt 36 = .ok (.aload_n 0, 1) := by decide +kernel
theorem dX10_fewestAt_37 : decode cX10_fewestAt 37 = .ok (.getfield 12, 3) := by decide +kernel
theorem dX10_fewestAt_40 : decode cX10_fewestAt 40 = .ok (.getfield 99, 3) := by decide +kernel
theorem dX10_fewestAt_43 : decode cX10_fewestAt 43 = .ok (.aload_n 0, 1) := by decide +kernel
theorem dX10_fewestAt_44 : decode cX10_fewestAt 44 = .ok (.getfield 66, 3) := by decide +kernel
theorem dX10_fewestAt_47 : decode cX10_fewestAt 47 = .ok (.aload_n 0, 1) := by decide +kernel
theorem dX10_fewestAt_48 : decode cX10_fewestAt 48 = .ok (.getfield 12, 3) := by decide +kernel
theorem dX10_fewestAt_51 : decode cX10_fewestAt 51 = .ok (.getfield 162, 3) := by decide +kernel
theorem dX10_fewestAt_54 : decode cX10_fewestAt 54 = .ok (.aload_n 0, 1) := by decide +kernel
theorem dX10_fewestAt_55 : decode cX10_fewestAt 55 = .ok (.getfield 25, 3) := by decide +kernel
theorem dX10_fewestAt_58 : decode cX10_fewestAt 58 = .ok (.invokevirtual 392, 3) := by decide +kernel
theorem dX10_fewestAt_61 : decode cX10_fewestAt 61 = .ok (.pop, 1) := by decide +kernel
theorem dX10_fewestAt_62 : decode cX10_fewestAt 62 = .ok (.aload_n 0, 1) := by decide +kernel
theorem dX10_fewestAt_63 : decode cX10_fewestAt 63 = .ok (.getfield 75, 3) := by decide +kernel
theorem dX10_fewestAt_66 : decode cX10_fewestAt 66 = .ok (.getfield 280, 3) := by decide +kernel
theorem dX10_fewestAt_69 : decode cX10_fewestAt 69 = .ok (.iconst 0, 1) := by decide +kernel
theorem dX10_fewestAt_70 : decode cX10_fewestAt 70 = .ok (.iaload, 1) := by decide +kernel
theorem dX10_fewestAt_71 : decode cX10_fewestAt 71 = .ok (.ireturn, 1) := by decide +kernel
abbrev mX10_fewestAt : MI := (RX10, yX10_fewestAt, cX10_fewestAt, 3, (some .int))
theorem mok_X10_fewestAt : MOKv mX10_fewestAt 2 := ⟨⟨bm_1014, bm_114, ⟨by decide, by decide⟩, by decide +kernel⟩, bm_1013, bm_26⟩
def f_X10_fewestAt   (a0 : Nat) (x1 : Int32) (x2 : Int32) (h : MH) : Option (Int32 × MH) :=
  (gR h a0 0).bind fun a_1 =>
  (gR h a_1 0).bind fun a_2 =>
  (gR h a_2 5).bind fun a_3 =>
  (stI h a_3 x1 x2).bind fun h_4 =>
  (gR h_4 a0 11).bind fun a_5 =>
  (gR h_4 a0 10).bind fun a_6 =>
  (gR h_4 a0 0).bind fun a_7 =>
  (gR h_4 a_7 0).bind fun a_8 =>
  (f_X4_join a_5 a_6 a_8 x1 h_4).bind fun q_9 =>
  (gR q_9 a0 13).bind fun a_10 =>
  (gR q_9 a0 0).bind fun a_11 =>
  (gR q_9 a_11 0).bind fun a_12 =>
  (gR q_9 a0 11).bind fun a_13 =>
  (gR q_9 a0 0).bind fun a_14 =>
  (gR q_9 a_14 6).bind fun a_15 =>
  (f_X9_plan a_10 a_12 a_13 a_15 (gI q_9 a0 2) q_9).bind fun q_16 =>
  (gR q_16.2 a0 13).bind fun a_17 =>
  (gR q_16.2 a_17 3).bind fun a_18 =>
  (ldI q_16.2 a_18 0).bind fun x_19 =>
  some (x_19, q_16.2)
set_option maxRecDepth 100000 in
set_option maxHeartbeats 4000000 in
theorem v_X10_fewestAt {l : Launch} {G : GE} {B N : Nat} {S : List SHP} {o : Int32 × MH} {a0 : Nat} {x1 : Int32} {x2 : Int32}    (hs0 : S[a0]? = some (.inl 10)) {h : MH} (hf : f_X10_fewestAt a0 x1 x2 h = some o) : V l G B N mX10_fewestAt (rmm 8 0 0) false 0 0 (QI S o) S 0 0 0 [(0, .ref a0), (1, .int x1), (2, .int x2)] [] h := by
  unfold f_X10_fewestAt at hf
  refine V_aload_n (pc' := 1) dX10_fewestAt_0 rfl 0 rfl rfl ?_
  refine V_getR (pc' := 4) 10 0 dX10_fewestAt_1 rfl (by decide) (Nat.le_of_ble_eq_true rfl) bm_458 hs0 (fun _ _ _ => rfl) rfl hf (fun a_1 ha_1 hf => ?_)
  refine V_getR (pc' := 7) 7 0 dX10_fewestAt_4 rfl (by decide) (Nat.le_of_ble_eq_true rfl) bm_263 ha_1 (fun _ _ _ => rfl) rfl hf (fun a_2 ha_2 hf => ?_)
  refine V_getR (pc' := 10) 2 5 dX10_fewestAt_7 rfl (by decide) (Nat.le_of_ble_eq_true rfl) bm_209 ha_2 (fun _ _ _ => rfl) rfl hf (fun a_3 ha_3 hf => ?_)
  refine V_iload_n (pc' := 11) dX10_fewestAt_10 rfl 1 rfl rfl ?_
  refine V_iload_n (pc' := 12) dX10_fewestAt_11 rfl 2 rfl rfl ?_
  refine V_iast (pc' := 13) dX10_fewestAt_12 rfl ha_3 hf (fun h_4 hf => ?_)
  refine V_aload_n (pc' := 14) dX10_fewestAt_13 rfl 0 rfl rfl ?_
  refine V_getR (pc' := 17) 10 11 dX10_fewestAt_14 rfl (by decide) (Nat.le_of_ble_eq_true rfl) bm_469 hs0 (fun _ _ _ => rfl) rfl hf (fun a_5 ha_5 hf => ?_)
  refine V_aload_n (pc' := 18) dX10_fewestAt_17 rfl 0 rfl rfl ?_
  refine V_getR (pc' := 21) 10 10 dX10_fewestAt_18 rfl (by decide) (Nat.le_of_ble_eq_true rfl) bm_468 hs0 (fun _ _ _ => rfl) rfl hf (fun a_6 ha_6 hf => ?_)
  refine V_aload_n (pc' := 22) dX10_fewestAt_21 rfl 0 rfl rfl ?_
  refine V_getR (pc' := 25) 10 0 dX10_fewestAt_22 rfl (by decide) (Nat.le_of_ble_eq_true rfl) bm_458 hs0 (fun _ _ _ => rfl) rfl hf (fun a_7 ha_7 hf => ?_)
  refine V_getR (pc' := 28) 7 0 dX10_fewestAt_25 rfl (by decide) (Nat.le_of_ble_eq_true rfl) bm_263 ha_7 (fun _ _ _ => rfl) rfl hf (fun a_8 ha_8 hf => ?_)
  refine V_iload_n (pc' := 29) dX10_fewestAt_28 rfl 1 rfl rfl ?_
  refine V_cvV (pc' := 32) (As := [.ref a_6, .ref a_8, .int x1]) (rest := []) dX10_fewestAt_29 rfl mok_X4_join bm_1015 4 (by decide) rfl ha_5 rfl rfl (Nat.le_of_ble_eq_true rfl) (by decide) hf (fun q e => ct_X4_join ha_5 ha_6 ha_8 e) (fun q_9 hf => ?_)
  refine V_aload_n (pc' := 33) dX10_fewestAt_32 rfl 0 rfl rfl ?_
  refine V_getR (pc' := 36) 10 13 dX10_fewestAt_33 rfl (by decide) (Nat.le_of_ble_eq_true rfl) bm_471 hs0 (fun _ _ _ => rfl) rfl hf (fun a_10 ha_10 hf => ?_)
  refine V_aload_n (pc' := 37) dX10_fewestAt_36 rfl 0 rfl rfl ?_
  refine V_getR (pc' := 40) 10 0 dX10_fewestAt_37 rfl (by decide) (Nat.le_of_ble_eq_true rfl) bm_458 hs0 (fun _ _ _ => rfl) rfl hf (fun a_11 ha_11 hf => ?_)
  refine V_getR (pc' := 43) 7 0 dX10_fewestAt_40 rfl (by decide) (Nat.le_of_ble_eq_true rfl) bm_263 ha_11 (fun _ _ _ => rfl) rfl hf (fun a_12 ha_12 hf => ?_)
  refine V_aload_n (pc' := 44) dX10_fewestAt_43 rfl 0 rfl rfl ?_
  refine V_getR (pc' := 47) 10 11 dX10_fewestAt_44 rfl (by decide) (Nat.le_of_ble_eq_true rfl) bm_469 hs0 (fun _ _ _ => rfl) rfl hf (fun a_13 ha_13 hf => ?_)
  refine V_aload_n (pc' := 48) dX10_fewestAt_47 rfl 0 rfl rfl ?_
  refine V_getR (pc' := 51) 10 0 dX10_fewestAt_48 rfl (by decide) (Nat.le_of_ble_eq_true rfl) bm_458 hs0 (fun _ _ _ => rfl) rfl hf (fun a_14 ha_14 hf => ?_)
  refine V_getR (pc' := 54) 7 6 dX10_fewestAt_51 rfl (by decide) (Nat.le_of_ble_eq_true rfl) bm_275 ha_14 (fun _ _ _ => rfl) rfl hf (fun a_15 ha_15 hf => ?_)
  refine V_aload_n (pc' := 55) dX10_fewestAt_54 rfl 0 rfl rfl ?_
  refine V_getI (pc' := 58) 10 2 dX10_fewestAt_55 rfl (by decide) (Nat.le_of_ble_eq_true rfl) bm_460 hs0 (fun _ _ _ => rfl) ?_
  refine V_cvI (pc' := 61) (As := [.ref a_12, .ref a_13, .ref a_15, .int (gI q_9 a0 2)]) (rest := []) dX10_fewestAt_58 rfl mok_X9_plan bm_708 9 (by decide) rfl ha_10 rfl rfl (Nat.le_of_ble_eq_true rfl) (by decide) hf (fun q e => ct_X9_plan ha_10 ha_12 ha_13 ha_15 e) (fun q_16 hf => ?_)
  refine V_pop (pc' := 62) dX10_fewestAt_61 rfl rfl ?_
  refine V_aload_n (pc' := 63) dX10_fewestAt_62 rfl 0 rfl rfl ?_
  refine V_getR (pc' := 66) 10 13 dX10_fewestAt_63 rfl (by decide) (Nat.le_of_ble_eq_true rfl) bm_471 hs0 (fun _ _ _ => rfl) rfl hf (fun a_17 ha_17 hf => ?_)
  refine V_getR (pc' := 69) 9 3 dX10_fewestAt_66 rfl (by decide) (Nat.le_of_ble_eq_true rfl) bm_366 ha_17 (fun _ _ _ => rfl) rfl hf (fun a_18 ha_18 hf => ?_)
  refine V_iconst (v := 0) (pc' := 70) dX10_fewestAt_69 rfl (by decide) ?_
  refine V_iald (pc' := 71) dX10_fewestAt_70 rfl ha_18 hf (fun x_19 hf => ?_)
  obtain rfl := Option.some.inj hf
  exact V_iret dX10_fewestAt_71 rfl rfl rfl ⟨rfl, rfl, rfl⟩
theorem ct_X10_fewestAt {l : Launch} {S : List SHP} {h : MH} {a0 : Nat} {x1 : Int32} {x2 : Int32} (hs0 : S[a0]? = some (.inl 10)) {q : Int32 × MH} (hf : f_X10_fewestAt a0 x1 x2 h = some q) : CT l mX10_fewestAt 8 false 0 0 S [.ref a0, .int x1, .int x2] h (QI S q) :=
  CT_ofV (by decide) rfl (Nat.le_of_ble_eq_true rfl) (fun G B hT => v_X10_fewestAt hs0 hf)
/-! LabelStacks.lastAlike(II)I -/
theorem dX10_lastAlike_0 : decode cX10_lastAlike 0 = .ok (.aload_n 0, 1) := by decide +kernel
theorem dX10_lastAlike_1 : decode cX10_lastAlike 1 = .ok (.getfield 12, 3) := by decide +kernel
theorem dX10_lastAlike_4 : decode cX10_lastAlike 4 = .ok (.getfield 99, 3) := by decide +kernel
theorem dX10_lastAlike_7 : decode cX10_lastAlike 7 = .ok (.astore_n 3, 1) := by decide +kernel
theorem dX10_lastAlike_8 : decode cX10_lastAlike 8 = .ok (.aload_n 3, 1) := by decide +kernel
theorem dX10_lastAlike_9 : decode cX10_lastAlike 9 = .ok (.getfield 135, 3) := by decide +kernel
theorem dX10_lastAlike_12 : decode cX10_lastAlike 12 = .ok (.iload_n 1, 1) := by decide +kernel
theorem dX10_lastAlike_13 : decode cX10_lastAlike 13 = .ok (.iaload, 1) := by decide +kernel
theorem dX10_lastAlike_14 : decode cX10_lastAlike 14 = .ok (.istore 4, 2) := by decide +kernel
theorem dX10_lastAlike_16 : decode cX10_lastAlike 16 = .ok (.aload_n 0, 1) := by decide +kernel
theorem dX10_lastAlike_17 : decode cX10_lastAlike 17 = .ok (.getfield 63, 3) := by decide +kernel
theorem dX10_lastAlike_20 : decode cX10_lastAlike 20 = .ok (.aload_n 3, 1) := by decide +kernel
theorem dX10_lastAlike_21 : decode cX10_lastAlike 21 = .ok (.iload_n 1, 1) := by decide +kernel
theorem dX10_lastAlike_22 : decode cX10_lastAlike 22 = .ok (.invokevirtual 388, 3) := by decide +kernel
theorem dX10_lastAlike_25 : decode cX10_lastAlike 25 = .ok (.aload_n 0, 1) := by decide +kernel
theorem dX10_lastAlike_26 : decode cX10_lastAlike 26 = .ok (.iload_n 1, 1) := by decide +kernel
theorem dX10_lastAlike_27 : decode cX10_lastAlike 27 = .ok (.iload 4, 2) := by decide +kernel
theorem dX10_lastAlike_29 : decode cX10_lastAlike 29 = .ok (.invokevirtual 418, 3) := by decide +kernel
theorem dX10_lastAlike_32 : decode cX10_lastAlike 32 = .ok (.istore 5, 2) := by decide +kernel
theorem dX10_lastAlike_34 : decode cX10_lastAlike 34 = .ok (.iload 4, 2) := by decide +kernel
theorem dX10_lastAlike_36 : decode cX10_lastAlike 36 = .ok (.istore 6, 2) := by decide +kernel
theorem dX10_lastAlike_38 : decode cX10_lastAlike 38 = .ok (.iconst 1, 1) := by decide +kernel
theorem dX10_lastAlike_39 : decode cX10_lastAlike 39 = .ok (.istore 7, 2) := by decide +kernel
theorem dX10_lastAlike_41 : decode cX10_lastAlike 41 = .ok (.iload 7, 2) := by decide +kernel
theorem dX10_lastAlike_43 : decode cX10_lastAlike 43 = .ok (.bipush 99, 2) := by decide +kernel
theorem dX10_lastAlike_45 : decode cX10_lastAlike 45 = .ok (.if_icmp .ge 45, 3) := by decide +kernel
theorem dX10_lastAlike_48 : decode cX10_lastAlike 48 = .ok (.iload 4, 2) := by decide +kernel
theorem dX10_lastAlike_50 : decode cX10_lastAlike 50 = .ok (.iload_n 2, 1) := by decide +kernel
theorem dX10_lastAlike_51 : decode cX10_lastAlike 51 = .ok (.iload 7, 2) := by decide +kernel
theorem dX10_lastAlike_53 : decode cX10_lastAlike 53 = .ok (.imul, 1) := by decide +kernel
theorem dX10_lastAlike_54 : decode cX10_lastAlike 54 = .ok (.iadd, 1) := by decide +kernel
theorem dX10_lastAlike_55 : decode cX10_lastAlike 55 = .ok (.istore 8, 2) := by decide +kernel
theorem dX10_lastAlike_57 : decode cX10_lastAlike 57 = .ok (.iload 8, 2) := by decide +kernel
theorem dX10_lastAlike_59 : decode cX10_lastAlike 59 = .ok (.invokestatic 115, 3) := by decide +kernel
theorem dX10_lastAlike_62 : decode cX10_lastAlike 62 = .ok (.ifCond .eq 28, 3) := by decide +kernel
theorem dX10_lastAlike_65 : decode cX10_lastAlike 65 = .ok (.aload_n 0, 1) := by decide +kernel
theorem dX10_lastAlike_66 : decode cX10_lastAlike 66 = .ok (.iload_n 1, 1) := by decide +kernel
theorem dX10_lastAlike_67 : decode cX10_lastAlike 67 = .ok (.iload 8, 2) := by decide +kernel
theorem dX10_lastAlike_69 : decode cX10_lastAlike 69 = .ok (.invokevirtual 418, 3) := by decide +kernel
theorem dX10_lastAlike_72 : decode cX10_lastAlike 72 = .ok (.iload 5, 2) := by decide +kernel
theorem dX10_lastAlike_74 : decode cX10_lastAlike 74 = .ok (.if_icmp .eq 6, 3) := by decide +kernel
theorem dX10_lastAlike_77 : decode cX10_lastAlike 77 = .ok (.goto 13, 3) := by decide +kernel
theorem dX10_lastAlike_80 : decode cX10_lastAlike 80 = .ok (.iload 8, 2) := by decide +kernel
theorem dX10_lastAlike_82 : decode cX10_lastAlike 82 = .ok (.istore 6, 2) := by decide +kernel
theorem dX10_lastAlike_84 : decode cX10_lastAlike 84 = .ok (.iinc 7 1, 3) := by decide +kernel
theorem dX10_lastAlike_87 : decode cX10_lastAlike 87 = .ok (.goto (-46), 3) := by decide +kernel
theorem dX10_lastAlike_90 : decode cX10_lastAlike 90 = .ok (.aload_n 3, 1) := by decide +kernel
theorem dX10_lastAlike_91 : decode cX10_lastAlike 91 = .ok (.getfield 135, 3) := by decide +kernel
theorem dX10_lastAlike_94 : decode cX10_lastAlike 94 = .ok (.iload_n 1, 1) := by decide +kernel
theorem dX10_lastAlike_95 : decode cX10_lastAlike 95 = .ok (.iload 4, 2) := by decide +kernel
theorem dX10_lastAlike_97 : decode cX10_lastAlike 97 = .ok (.iastore, 1) := by decide +kernel
theorem dX10_lastAlike_98 : decode cX10_lastAlike 98 = .ok (.iload 6, 2) := by decide +kernel
theorem dX10_lastAlike_100 : decode cX10_lastAlike 100 = .ok (.ireturn, 1) := by decide +kernel
abbrev mX10_lastAlike : MI := (RX10, yX10_lastAlike, cX10_lastAlike, 9, (some .int))
theorem mok_X10_lastAlike : MOKv mX10_lastAlike 2 := ⟨⟨bm_1010, bm_114, ⟨by decide, by decide⟩, by decide +kernel⟩, bm_1009, bm_25⟩
def f_X10_lastAlike_90   (x1 : Int32) (a3 : Nat) (x4 : Int32) (x6 : Int32) (h : MH) : Option (Int32 × MH) :=
  (gR h a3 5).bind fun a_1 =>
  (stI h a_1 x1 x4).bind fun h_2 =>
  some (x6, h_2)
def f_X10_lastAlike_41b   (a0 : Nat) (x1 : Int32) (x2 : Int32) (a3 : Nat) (x4 : Int32) (x5 : Int32) (k41 : Int32 × Int32 → MH → Option (Int32 × MH)) (p : Int32 × Int32) (h : MH) : Option (Int32 × MH) :=
  if p.2 < 99 then
    lt (x4 + (x2 * p.2)) fun x_1 =>
    (f_X10_isAmount x_1 h).bind fun q_2 =>
    if q_2.1 = 0 then
      f_X10_lastAlike_90 x1 a3 x4 p.1 q_2.2
    else
      (f_X10_fewestAt a0 x1 x_1 q_2.2).bind fun q_3 =>
      if q_3.1 = x5 then
        k41 (x_1, (p.2 + 1)) q_3.2
      else
        f_X10_lastAlike_90 x1 a3 x4 p.1 q_3.2
  else
    f_X10_lastAlike_90 x1 a3 x4 p.1 h
def f_X10_lastAlike_41   (a0 : Nat) (x1 : Int32) (x2 : Int32) (a3 : Nat) (x4 : Int32) (x5 : Int32) : Nat → Int32 × Int32 → MH → Option (Int32 × MH) := lp (f_X10_lastAlike_41b a0 x1 x2 a3 x4 x5)
def f_X10_lastAlike   (a0 : Nat) (x1 : Int32) (x2 : Int32) (h : MH) : Option (Int32 × MH) :=
  (gR h a0 0).bind fun a_1 =>
  (gR h a_1 0).bind fun a_2 =>
  (gR h a_2 5).bind fun a_3 =>
  (ldI h a_3 x1).bind fun x_4 =>
  (gR h a0 10).bind fun a_5 =>
  (f_X4_findAll a_5 a_2 x1 h).bind fun q_6 =>
  (f_X10_fewestAt a0 x1 x_4 q_6).bind fun q_7 =>
  f_X10_lastAlike_41 a0 x1 x2 a_2 x_4 q_7.1 FU (x_4, 1) q_7.2
set_option maxRecDepth 100000 in
set_option maxHeartbeats 4000000 in
theorem v_X10_lastAlike_90 {l : Launch} {G : GE} {B N : Nat} {S : List SHP} {o : Int32 × MH} {x1 : Int32} {a3 : Nat} {x4 : Int32} {x6 : Int32}    (hs3 : S[a3]? = some (.inl 2)) {h : MH} (hf : f_X10_lastAlike_90 x1 a3 x4 x6 h = some o) : V l G B N mX10_lastAlike (rmm 9 0 0) false 0 0 (QI S o) S 0 0 90 [(1, .int x1), (3, .ref a3), (4, .int x4), (6, .int x6)] [] h := by
  unfold f_X10_lastAlike_90 at hf
  refine V_aload_n (pc' := 91) dX10_lastAlike_90 rfl 1 rfl rfl ?_
  refine V_getR (pc' := 94) 2 5 dX10_lastAlike_91 rfl (by decide) (Nat.le_of_ble_eq_true rfl) bm_209 hs3 (fun _ _ _ => rfl) rfl hf (fun a_1 ha_1 hf => ?_)
  refine V_iload_n (pc' := 95) dX10_lastAlike_94 rfl 0 rfl rfl ?_
  refine V_iload (pc' := 97) dX10_lastAlike_95 rfl 2 rfl ?_
  refine V_iast (pc' := 98) dX10_lastAlike_97 rfl ha_1 hf (fun h_2 hf => ?_)
  refine V_iload (pc' := 100) dX10_lastAlike_98 rfl 3 rfl ?_
  obtain rfl := Option.some.inj hf
  exact V_iret dX10_lastAlike_100 rfl rfl rfl ⟨rfl, rfl, rfl⟩
set_option maxRecDepth 100000 in
set_option maxHeartbeats 4000000 in
theorem v_X10_lastAlike_41b {l : Launch} {G : GE} {B N : Nat} {S : List SHP} {o : Int32 × MH} {a0 : Nat} {x1 : Int32} {x2 : Int32} {a3 : Nat} {x4 : Int32} {x5 : Int32}    (hs0 : S[a0]? = some (.inl 10)) (hs3 : S[a3]? = some (.inl 2)) {k41 : Int32 × Int32 → MH → Option (Int32 × MH)} (hk41 : ∀ (p : Int32 × Int32) (h : MH), k41 p h = some o → V l G B N mX10_lastAlike (rmm 9 0 0) false 0 0 (QI S o) S 0 0 41 [(0, .ref a0), (1, .int x1), (2, .int x2), (3, .ref a3), (4, .int x4), (5, .int x5), (6, .int p.1), (7, .int p.2)] [] h) {p : Int32 × Int32} {h : MH} (hf : f_X10_lastAlike_41b a0 x1 x2 a3 x4 x5 k41 p h = some o) : V l G B N mX10_lastAlike (rmm 9 0 0) false 0 0 (QI S o) S 0 0 41 [(0, .ref a0), (1, .int x1), (2, .int x2), (3, .ref a3), (4, .int x4), (5, .int x5), (6, .int p.1), (7, .int p.2)] [] h := by
  unfold f_X10_lastAlike_41b at hf
  refine V_iload (pc' := 43) dX10_lastAlike_41 rfl 7 rfl ?_
  refine V_bipush (v := 99) (pc' := 45) dX10_lastAlike_43 rfl (by decide) ?_
  refine V_icmp_ge (tgt := 90) (pc' := 48) dX10_lastAlike_45 (by decide) rfl hf (fun hf => ?_) (fun hf => ?_)
  ·
    refine V_iload (pc' := 50) dX10_lastAlike_48 rfl 4 rfl ?_
    refine V_iload_n (pc' := 51) dX10_lastAlike_50 rfl 2 rfl rfl ?_
    refine V_iload (pc' := 53) dX10_lastAlike_51 rfl 7 rfl ?_
    refine V_imul (pc' := 54) dX10_lastAlike_53 rfl ?_
    refine V_iadd (pc' := 55) dX10_lastAlike_54 rfl ?_
    refine V_nmI hf (fun x_1 hf => ?_)
    refine V_istore (lv' := [(8, .int x_1), (0, .ref a0), (1, .int x1), (2, .int x2), (3, .ref a3), (4, .int x4), (5, .int x5), (6, .int p.1), (7, .int p.2)]) (pc' := 57) dX10_lastAlike_55 rfl (Nat.le_of_ble_eq_true rfl) rfl ?_
    refine V_iload (pc' := 59) dX10_lastAlike_57 rfl 0 rfl ?_
    refine V_csI (pc' := 62) (As := [.int x_1]) (rest := []) dX10_lastAlike_59 rfl mok_X10_isAmount bm_573 rfl rfl (Nat.le_of_ble_eq_true rfl) (by decide) hf (fun q e => ct_X10_isAmount  e) (fun q_2 hf => ?_)
    refine V_if_eq (tgt := 90) (pc' := 65) dX10_lastAlike_62 (by decide) rfl hf (fun hf => ?_) (fun hf => ?_)
    ·
      exact V_sub (lv' := [(1, .int x1), (3, .ref a3), (4, .int x4), (6, .int p.1)]) [2, 4, 5, 7] rfl (v_X10_lastAlike_90 hs3 hf)
    ·
      refine V_aload_n (pc' := 66) dX10_lastAlike_65 rfl 1 rfl rfl ?_
      refine V_iload_n (pc' := 67) dX10_lastAlike_66 rfl 2 rfl rfl ?_
      refine V_iload (pc' := 69) dX10_lastAlike_67 rfl 0 rfl ?_
      refine V_cvI (pc' := 72) (As := [.int x1, .int x_1]) (rest := []) dX10_lastAlike_69 rfl mok_X10_fewestAt bm_1011 10 (by decide) rfl hs0 rfl rfl (Nat.le_of_ble_eq_true rfl) (by decide) hf (fun q e => ct_X10_fewestAt hs0 e) (fun q_3 hf => ?_)
      refine V_iload (pc' := 74) dX10_lastAlike_72 rfl 6 rfl ?_
      refine V_icmp_eq (tgt := 80) (pc' := 77) dX10_lastAlike_74 (by decide) rfl hf (fun hf => ?_) (fun hf => ?_)
      ·
        refine V_iload (pc' := 82) dX10_lastAlike_80 rfl 0 rfl ?_
        refine V_istore (lv' := [(6, .int x_1), (8, .int x_1), (0, .ref a0), (1, .int x1), (2, .int x2), (3, .ref a3), (4, .int x4), (5, .int x5), (7, .int p.2)]) (pc' := 84) dX10_lastAlike_82 rfl (Nat.le_of_ble_eq_true rfl) rfl ?_
        refine V_iinc (v := (p.2 + 1)) (lv' := [(7, .int (p.2 + 1)), (6, .int x_1), (8, .int x_1), (0, .ref a0), (1, .int x1), (2, .int x2), (3, .ref a3), (4, .int x4), (5, .int x5)]) (pc' := 87) dX10_lastAlike_84 rfl 8 rfl rfl (Nat.le_of_ble_eq_true rfl) rfl ?_
        refine V_goto (tgt := 41) dX10_lastAlike_87 (by decide) ?_
        exact V_sub (lv' := [(0, .ref a0), (1, .int x1), (2, .int x2), (3, .ref a3), (4, .int x4), (5, .int x5), (6, .int x_1), (7, .int (p.2 + 1))]) [3, 4, 5, 6, 7, 8, 1, 0] rfl (hk41 (x_1, (p.2 + 1)) q_3.2 hf)
      ·
        refine V_goto (tgt := 90) dX10_lastAlike_77 (by decide) ?_
        exact V_sub (lv' := [(1, .int x1), (3, .ref a3), (4, .int x4), (6, .int p.1)]) [2, 4, 5, 7] rfl (v_X10_lastAlike_90 hs3 hf)
  ·
    exact V_sub (lv' := [(1, .int x1), (3, .ref a3), (4, .int x4), (6, .int p.1)]) [1, 3, 4, 6] rfl (v_X10_lastAlike_90 hs3 hf)
theorem v_X10_lastAlike_41 {l : Launch} {G : GE} {B N : Nat} {S : List SHP} {o : Int32 × MH} {a0 : Nat} {x1 : Int32} {x2 : Int32} {a3 : Nat} {x4 : Int32} {x5 : Int32}    (hs0 : S[a0]? = some (.inl 10)) (hs3 : S[a3]? = some (.inl 2)) {n : Nat} {p : Int32 × Int32} {h : MH} (hf : f_X10_lastAlike_41 a0 x1 x2 a3 x4 x5 n p h = some o) : V l G B N mX10_lastAlike (rmm 9 0 0) false 0 0 (QI S o) S 0 0 41 [(0, .ref a0), (1, .int x1), (2, .int x2), (3, .ref a3), (4, .int x4), (5, .int x5), (6, .int p.1), (7, .int p.2)] [] h :=
  V_lp (VV := fun p h => V l G B N mX10_lastAlike (rmm 9 0 0) false 0 0 (QI S o) S 0 0 41 [(0, .ref a0), (1, .int x1), (2, .int x2), (3, .ref a3), (4, .int x4), (5, .int x5), (6, .int p.1), (7, .int p.2)] [] h) (fun _ hk _ _ hf => v_X10_lastAlike_41b hs0 hs3 hk hf) n p h hf
set_option maxRecDepth 100000 in
set_option maxHeartbeats 4000000 in
theorem v_X10_lastAlike {l : Launch} {G : GE} {B N : Nat} {S : List SHP} {o : Int32 × MH} {a0 : Nat} {x1 : Int32} {x2 : Int32}    (hs0 : S[a0]? = some (.inl 10)) {h : MH} (hf : f_X10_lastAlike a0 x1 x2 h = some o) : V l G B N mX10_lastAlike (rmm 9 0 0) false 0 0 (QI S o) S 0 0 0 [(0, .ref a0), (1, .int x1), (2, .int x2)] [] h := by
  unfold f_X10_lastAlike at hf
  refine V_aload_n (pc' := 1) dX10_lastAlike_0 rfl 0 rfl rfl ?_
  refine V_getR (pc' := 4) 10 0 dX10_lastAlike_1 rfl (by decide) (Nat.le_of_ble_eq_true rfl) bm_458 hs0 (fun _ _ _ => rfl) rfl hf (fun a_1 ha_1 hf => ?_)
  refine V_getR (pc' := 7) 7 0 dX10_lastAlike_4 rfl (by decide) (Nat.le_of_ble_eq_true rfl) bm_263 ha_1 (fun _ _ _ => rfl) rfl hf (fun a_2 ha_2 hf => ?_)
  refine V_astore_n (lv' := [(3, .ref a_2), (0, .ref a0), (1, .int x1), (2, .int x2)]) (pc' := 8) dX10_lastAlike_7 rfl rfl (Nat.le_of_ble_eq_true rfl) rfl ?_
  refine V_aload_n (pc' := 9) dX10_lastAlike_8 rfl 0 rfl rfl ?_
  refine V_getR (pc' := 12) 2 5 dX10_lastAlike_9 rfl (by decide) (Nat.le_of_ble_eq_true rfl) bm_209 ha_2 (fun _ _ _ => rfl) rfl hf (fun a_3 ha_3 hf => ?_)
  refine V_iload_n (pc' := 13) dX10_lastAlike_12 rfl 2 rfl rfl ?_
  refine V_iald (pc' := 14) dX10_lastAlike_13 rfl ha_3 hf (fun x_4 hf => ?_)
  refine V_istore (lv' := [(4, .int x_4), (3, .ref a_2), (0, .ref a0), (1, .int x1), (2, .int x2)]) (pc' := 16) dX10_lastAlike_14 rfl (Nat.le_of_ble_eq_true rfl) rfl ?_
  refine V_aload_n (pc' := 17) dX10_lastAlike_16 rfl 2 rfl rfl ?_
  refine V_getR (pc' := 20) 10 10 dX10_lastAlike_17 rfl (by decide) (Nat.le_of_ble_eq_true rfl) bm_468 hs0 (fun _ _ _ => rfl) rfl hf (fun a_5 ha_5 hf => ?_)
  refine V_aload_n (pc' := 21) dX10_lastAlike_20 rfl 1 rfl rfl ?_
  refine V_iload_n (pc' := 22) dX10_lastAlike_21 rfl 3 rfl rfl ?_
  refine V_cvV (pc' := 25) (As := [.ref a_2, .int x1]) (rest := []) dX10_lastAlike_22 rfl mok_X4_findAll bm_690 4 (by decide) rfl ha_5 rfl rfl (Nat.le_of_ble_eq_true rfl) (by decide) hf (fun q e => ct_X4_findAll ha_5 ha_2 e) (fun q_6 hf => ?_)
  refine V_aload_n (pc' := 26) dX10_lastAlike_25 rfl 2 rfl rfl ?_
  refine V_iload_n (pc' := 27) dX10_lastAlike_26 rfl 3 rfl rfl ?_
  refine V_iload (pc' := 29) dX10_lastAlike_27 rfl 0 rfl ?_
  refine V_cvI (pc' := 32) (As := [.int x1, .int x_4]) (rest := []) dX10_lastAlike_29 rfl mok_X10_fewestAt bm_1011 10 (by decide) rfl hs0 rfl rfl (Nat.le_of_ble_eq_true rfl) (by decide) hf (fun q e => ct_X10_fewestAt hs0 e) (fun q_7 hf => ?_)
  refine V_istore (lv' := [(5, .int q_7.1), (4, .int x_4), (3, .ref a_2), (0, .ref a0), (1, .int x1), (2, .int x2)]) (pc' := 34) dX10_lastAlike_32 rfl (Nat.le_of_ble_eq_true rfl) rfl ?_
  refine V_iload (pc' := 36) dX10_lastAlike_34 rfl 1 rfl ?_
  refine V_istore (lv' := [(6, .int x_4), (5, .int q_7.1), (4, .int x_4), (3, .ref a_2), (0, .ref a0), (1, .int x1), (2, .int x2)]) (pc' := 38) dX10_lastAlike_36 rfl (Nat.le_of_ble_eq_true rfl) rfl ?_
  refine V_iconst (v := 1) (pc' := 39) dX10_lastAlike_38 rfl (by decide) ?_
  refine V_istore (lv' := [(7, .int 1), (6, .int x_4), (5, .int q_7.1), (4, .int x_4), (3, .ref a_2), (0, .ref a0), (1, .int x1), (2, .int x2)]) (pc' := 41) dX10_lastAlike_39 rfl (Nat.le_of_ble_eq_true rfl) rfl ?_
  exact V_sub (lv' := [(0, .ref a0), (1, .int x1), (2, .int x2), (3, .ref a_2), (4, .int x_4), (5, .int q_7.1), (6, .int x_4), (7, .int 1)]) [5, 6, 7, 4, 3, 2, 1, 0] rfl (v_X10_lastAlike_41 hs0 ha_2 hf)
theorem ct_X10_lastAlike {l : Launch} {S : List SHP} {h : MH} {a0 : Nat} {x1 : Int32} {x2 : Int32} (hs0 : S[a0]? = some (.inl 10)) {q : Int32 × MH} (hf : f_X10_lastAlike a0 x1 x2 h = some q) : CT l mX10_lastAlike 9 false 0 0 S [.ref a0, .int x1, .int x2] h (QI S q) :=
  CT_ofV (by decide) rfl (Nat.le_of_ble_eq_true rfl) (fun G B hT => v_X10_lastAlike hs0 hf)
/-! LabelStacks.stays(II)I -/
theorem dX10_stays_0 : decode cX10_stays 0 = .ok (.aload_n 0, 1) := by decide +kernel
theorem dX10_stays_1 : decode cX10_stays 1 = .ok (.getfield 12, 3) := by decide +kernel
theorem dX10_stays_4 : decode cX10_stays 4 = .ok (.getfield 99, 3) := by decide +kernel
theorem dX10_stays_7 : decode cX10_stays 7 = .ok (.astore_n 3, 1) := by decide +kernel
theorem dX10_stays_8 : decode cX10_stays 8 = .ok (.aload_n 3, 1) := by decide +kernel
theorem dX10_stays_9 : decode cX10_stays 9 = .ok (.iload_n 1, 1) := by decide +kernel
theorem dX10_stays_10 : decode cX10_stays 10 = .ok (.invokevirtual 125, 3) := by decide +kernel
theorem dX10_stays_13 : decode cX10_stays 13 = .ok (.ifCond .eq 25, 3) := by decide +kernel
theorem dX10_stays_16 : decode cX10_stays 16 = .ok (.aload_n 0, 1) := by decide +kernel
theorem dX10_stays_17 : decode cX10_stays 17 = .ok (.getfield 12, 3) := by decide +kernel
theorem dX10_stays_20 : decode cX10_stays 20 = .ok (.getfield 162, 3) := by decide +kernel
theorem dX10_stays_23 : decode cX10_stays 23 = .ok (.getfield 168, 3) := by decide +kernel
theorem dX10_stays_26 : decode cX10_stays 26 = .ok (.ifCond .eq 12, 3) := by decide +kernel
theorem dX10_stays_29 : decode cX10_stays 29 = .ok (.iload_n 2, 1) := by decide +kernel
theorem dX10_stays_30 : decode cX10_stays 30 = .ok (.ifCond .lt 8, 3) := by decide +kernel
theorem dX10_stays_33 : decode cX10_stays 33 = .ok (.iload_n 2, 1) := by decide +kernel
theorem dX10_stays_34 : decode cX10_stays 34 = .ok (.iconst 1, 1) := by decide +kernel
theorem dX10_stays_35 : decode cX10_stays 35 = .ok (.if_icmp .le 5, 3) := by decide +kernel
theorem dX10_stays_38 : decode cX10_stays 38 = .ok (.iconst (-1), 1) := by decide +kernel
theorem dX10_stays_39 : decode cX10_stays 39 = .ok (.ireturn, 1) := by decide +kernel
theorem dX10_stays_40 : decode cX10_stays 40 = .ok (.aload_n 3, 1) := by decide +kernel
theorem dX10_stays_41 : decode cX10_stays 41 = .ok (.iload_n 1, 1) := by decide +kernel
theorem dX10_stays_42 : decode cX10_stays 42 = .ok (.invokevirtual 128, 3) := by decide +kernel
theorem dX10_stays_45 : decode cX10_stays 45 = .ok (.ifCond .ne 14, 3) := by decide +kernel
theorem dX10_stays_48 : decode cX10_stays 48 = .ok (.iload_n 2, 1) := by decide +kernel
theorem dX10_stays_49 : decode cX10_stays 49 = .ok (.ifCond .ne 7, 3) := by decide +kernel
theorem dX10_stays_52 : decode cX10_stays 52 = .ok (.iconst 1, 1) := by decide +kernel
theorem dX10_stays_53 : decode cX10_stays 53 = .ok (.goto 5, 3) := by decide +kernel
theorem dX10_stays_56 : decode cX10_stays 56 = .ok (.bipush 99, 2) := by decide +kernel
theorem dX10_stays_58 : decode cX10_stays 58 = .ok (.ireturn, 1) := by decide +kernel
theorem dX10_stays_59 : decode cX10_stays 59 = .ok (.aload_n 0, 1) := by decide +kernel
theorem dX10_stays_60 : decode cX10_stays 60 = .ok (.iload_n 1, 1) := by decide +kernel
theorem dX10_stays_61 : decode cX10_stays 61 = .ok (.iload_n 2, 1) := by decide +kernel
theorem dX10_stays_62 : decode cX10_stays 62 = .ok (.ifCond .ne 7, 3) := by decide +kernel
theorem dX10_stays_65 : decode cX10_stays 65 = .ok (.iconst (-1), 1) := by decide +kernel
theorem dX10_stays_66 : decode cX10_stays 66 = .ok (.goto 4, 3) := by decide +kernel
theorem dX10_stays_69 : decode cX10_stays 69 = .ok (.iconst 1, 1) := by decide +kernel
theorem dX10_stays_70 : decode cX10_stays 70 = .ok (.invokevirtual 299, 3) := by decide +kernel
theorem dX10_stays_73 : decode cX10_stays 73 = .ok (.ireturn, 1) := by decide +kernel
abbrev mX10_stays : MI := (RX10, yX10_stays, cX10_stays, 4, (some .int))
theorem mok_X10_stays : MOKv mX10_stays 2 := ⟨⟨bm_1006, bm_114, ⟨by decide, by decide⟩, by decide +kernel⟩, bm_1004, bm_1005⟩
def f_X10_stays_70   (t0 : Nat) (t1 : Int32) (t2 : Int32) (h : MH) : Option (Int32 × MH) :=
  (f_X10_lastAlike t0 t1 t2 h).bind fun q_1 =>
  some (q_1.1, q_1.2)
def f_X10_stays   (a0 : Nat) (x1 : Int32) (x2 : Int32) (h : MH) : Option (Int32 × MH) :=
  (gR h a0 0).bind fun a_1 =>
  (gR h a_1 0).bind fun a_2 =>
  (f_X2_hasLink a_2 x1 h).bind fun q_3 =>
  if q_3.1 = 0 then
    some ((-1 : Int32), q_3.2)
  else
    (gR q_3.2 a0 0).bind fun a_4 =>
    (gR q_3.2 a_4 6).bind fun a_5 =>
    if (gI q_3.2 a_5 1) = 0 then
      some ((-1 : Int32), q_3.2)
    else
      if x2 < 0 then
        some ((-1 : Int32), q_3.2)
      else
        if 1 < x2 then
          some ((-1 : Int32), q_3.2)
        else
          (f_X2_isUp a_2 x1 q_3.2).bind fun q_6 =>
          if q_6.1 = 0 then
            if x2 = 0 then
              some (1, q_6.2)
            else
              some (99, q_6.2)
          else
            if x2 = 0 then
              f_X10_stays_70 a0 x1 (-1 : Int32) q_6.2
            else
              f_X10_stays_70 a0 x1 1 q_6.2
set_option maxRecDepth 100000 in
set_option maxHeartbeats 4000000 in
theorem v_X10_stays_70 {l : Launch} {G : GE} {B N : Nat} {S : List SHP} {o : Int32 × MH} {t0 : Nat} {t1 : Int32} {t2 : Int32}    (ht0 : S[t0]? = some (.inl 10)) {h : MH} (hf : f_X10_stays_70 t0 t1 t2 h = some o) : V l G B N mX10_stays (rmm 10 0 0) false 0 0 (QI S o) S 0 0 70 [] [.int t2, .int t1, .ref t0] h := by
  unfold f_X10_stays_70 at hf
  refine V_cvI (pc' := 73) (As := [.int t1, .int t2]) (rest := []) dX10_stays_70 rfl mok_X10_lastAlike bm_1007 10 (by decide) rfl ht0 rfl rfl (Nat.le_of_ble_eq_true rfl) (by decide) hf (fun q e => ct_X10_lastAlike ht0 e) (fun q_1 hf => ?_)
  obtain rfl := Option.some.inj hf
  exact V_iret dX10_stays_73 rfl rfl rfl ⟨rfl, rfl, rfl⟩
set_option maxRecDepth 100000 in
set_option maxHeartbeats 4000000 in
theorem v_X10_stays {l : Launch} {G : GE} {B N : Nat} {S : List SHP} {o : Int32 × MH} {a0 : Nat} {x1 : Int32} {x2 : Int32}    (hs0 : S[a0]? = some (.inl 10)) {h : MH} (hf : f_X10_stays a0 x1 x2 h = some o) : V l G B N mX10_stays (rmm 10 0 0) false 0 0 (QI S o) S 0 0 0 [(0, .ref a0), (1, .int x1), (2, .int x2)] [] h := by
  unfold f_X10_stays at hf
  refine V_aload_n (pc' := 1) dX10_stays_0 rfl 0 rfl rfl ?_
  refine V_getR (pc' := 4) 10 0 dX10_stays_1 rfl (by decide) (Nat.le_of_ble_eq_true rfl) bm_458 hs0 (fun _ _ _ => rfl) rfl hf (fun a_1 ha_1 hf => ?_)
  refine V_getR (pc' := 7) 7 0 dX10_stays_4 rfl (by decide) (Nat.le_of_ble_eq_true rfl) bm_263 ha_1 (fun _ _ _ => rfl) rfl hf (fun a_2 ha_2 hf => ?_)
  refine V_astore_n (lv' := [(3, .ref a_2), (0, .ref a0), (1, .int x1), (2, .int x2)]) (pc' := 8) dX10_stays_7 rfl rfl (Nat.le_of_ble_eq_true rfl) rfl ?_
  refine V_aload_n (pc' := 9) dX10_stays_8 rfl 0 rfl rfl ?_
  refine V_iload_n (pc' := 10) dX10_stays_9 rfl 2 rfl rfl ?_
  refine V_cvI (pc' := 13) (As := [.int x1]) (rest := []) dX10_stays_10 rfl mok_X2_hasLink bm_589 2 (by decide) rfl ha_2 rfl rfl (Nat.le_of_ble_eq_true rfl) (by decide) hf (fun q e => ct_X2_hasLink ha_2 e) (fun q_3 hf => ?_)
  refine V_if_eq (tgt := 38) (pc' := 16) dX10_stays_13 (by decide) rfl hf (fun hf => ?_) (fun hf => ?_)
  ·
    refine V_iconst (v := (-1)) (pc' := 39) dX10_stays_38 rfl (by decide) ?_
    obtain rfl := Option.some.inj hf
    exact V_iret dX10_stays_39 rfl rfl rfl ⟨rfl, rfl, rfl⟩
  ·
    refine V_aload_n (pc' := 17) dX10_stays_16 rfl 1 rfl rfl ?_
    refine V_getR (pc' := 20) 10 0 dX10_stays_17 rfl (by decide) (Nat.le_of_ble_eq_true rfl) bm_458 hs0 (fun _ _ _ => rfl) rfl hf (fun a_4 ha_4 hf => ?_)
    refine V_getR (pc' := 23) 7 6 dX10_stays_20 rfl (by decide) (Nat.le_of_ble_eq_true rfl) bm_275 ha_4 (fun _ _ _ => rfl) rfl hf (fun a_5 ha_5 hf => ?_)
    refine V_getI (pc' := 26) 5 1 dX10_stays_23 rfl (by decide) (Nat.le_of_ble_eq_true rfl) bm_256 ha_5 (fun _ _ _ => rfl) ?_
    refine V_if_eq (tgt := 38) (pc' := 29) dX10_stays_26 (by decide) rfl hf (fun hf => ?_) (fun hf => ?_)
    ·
      refine V_iconst (v := (-1)) (pc' := 39) dX10_stays_38 rfl (by decide) ?_
      obtain rfl := Option.some.inj hf
      exact V_iret dX10_stays_39 rfl rfl rfl ⟨rfl, rfl, rfl⟩
    ·
      refine V_iload_n (pc' := 30) dX10_stays_29 rfl 3 rfl rfl ?_
      refine V_if_lt (tgt := 38) (pc' := 33) dX10_stays_30 (by decide) rfl hf (fun hf => ?_) (fun hf => ?_)
      ·
        refine V_iconst (v := (-1)) (pc' := 39) dX10_stays_38 rfl (by decide) ?_
        obtain rfl := Option.some.inj hf
        exact V_iret dX10_stays_39 rfl rfl rfl ⟨rfl, rfl, rfl⟩
      ·
        refine V_iload_n (pc' := 34) dX10_stays_33 rfl 3 rfl rfl ?_
        refine V_iconst (v := 1) (pc' := 35) dX10_stays_34 rfl (by decide) ?_
        refine V_icmp_le (tgt := 40) (pc' := 38) dX10_stays_35 (by decide) rfl hf (fun hf => ?_) (fun hf => ?_)
        ·
          refine V_iconst (v := (-1)) (pc' := 39) dX10_stays_38 rfl (by decide) ?_
          obtain rfl := Option.some.inj hf
          exact V_iret dX10_stays_39 rfl rfl rfl ⟨rfl, rfl, rfl⟩
        ·
          refine V_aload_n (pc' := 41) dX10_stays_40 rfl 0 rfl rfl ?_
          refine V_iload_n (pc' := 42) dX10_stays_41 rfl 2 rfl rfl ?_
          refine V_cvI (pc' := 45) (As := [.int x1]) (rest := []) dX10_stays_42 rfl mok_X2_isUp bm_593 2 (by decide) rfl ha_2 rfl rfl (Nat.le_of_ble_eq_true rfl) (by decide) hf (fun q e => ct_X2_isUp ha_2 e) (fun q_6 hf => ?_)
          refine V_if_ne (tgt := 59) (pc' := 48) dX10_stays_45 (by decide) rfl hf (fun hf => ?_) (fun hf => ?_)
          ·
            refine V_iload_n (pc' := 49) dX10_stays_48 rfl 3 rfl rfl ?_
            refine V_if_ne (tgt := 56) (pc' := 52) dX10_stays_49 (by decide) rfl hf (fun hf => ?_) (fun hf => ?_)
            ·
              refine V_iconst (v := 1) (pc' := 53) dX10_stays_52 rfl (by decide) ?_
              refine V_goto (tgt := 58) dX10_stays_53 (by decide) ?_
              obtain rfl := Option.some.inj hf
              exact V_iret dX10_stays_58 rfl rfl rfl ⟨rfl, rfl, rfl⟩
            ·
              refine V_bipush (v := 99) (pc' := 58) dX10_stays_56 rfl (by decide) ?_
              obtain rfl := Option.some.inj hf
              exact V_iret dX10_stays_58 rfl rfl rfl ⟨rfl, rfl, rfl⟩
          ·
            refine V_aload_n (pc' := 60) dX10_stays_59 rfl 1 rfl rfl ?_
            refine V_iload_n (pc' := 61) dX10_stays_60 rfl 2 rfl rfl ?_
            refine V_iload_n (pc' := 62) dX10_stays_61 rfl 3 rfl rfl ?_
            refine V_if_ne (tgt := 69) (pc' := 65) dX10_stays_62 (by decide) rfl hf (fun hf => ?_) (fun hf => ?_)
            ·
              refine V_iconst (v := (-1)) (pc' := 66) dX10_stays_65 rfl (by decide) ?_
              refine V_goto (tgt := 70) dX10_stays_66 (by decide) ?_
              exact V_sub (lv' := []) [] rfl (v_X10_stays_70 hs0 hf)
            ·
              refine V_iconst (v := 1) (pc' := 70) dX10_stays_69 rfl (by decide) ?_
              exact V_sub (lv' := []) [] rfl (v_X10_stays_70 hs0 hf)
theorem ct_X10_stays {l : Launch} {S : List SHP} {h : MH} {a0 : Nat} {x1 : Int32} {x2 : Int32} (hs0 : S[a0]? = some (.inl 10)) {q : Int32 × MH} (hf : f_X10_stays a0 x1 x2 h = some q) : CT l mX10_stays 10 false 0 0 S [.ref a0, .int x1, .int x2] h (QI S q) :=
  CT_ofV (by decide) rfl (Nat.le_of_ble_eq_true rfl) (fun G B hT => v_X10_stays hs0 hf)
/-! LabelStacks.keep()I -/
theorem dX10_keep_0 : decode cX10_keep 0 = .ok (.aload_n 0, 1) := by decide +kernel
theorem dX10_keep_1 : decode cX10_keep 1 = .ok (.getfield 12, 3) := by decide +kernel
theorem dX10_keep_4 : decode cX10_keep 4 = .ok (.getfield 162, 3) := by decide +kernel
theorem dX10_keep_7 : decode cX10_keep 7 = .ok (.astore_n 1, 1) := by decide +kernel
theorem dX10_keep_8 : decode cX10_keep 8 = .ok (.aload_n 1, 1) := by decide +kernel
theorem dX10_keep_9 : decode cX10_keep 9 = .ok (.getfield 168, 3) := by decide +kernel
theorem dX10_keep_12 : decode cX10_keep 12 = .ok (.ifCond .ne 5, 3) := by decide +kernel
theorem dX10_keep_15 : decode cX10_keep 15 = .ok (.iconst (-1), 1) := by decide +kernel
theorem dX10_keep_16 : decode cX10_keep 16 = .ok (.ireturn, 1) := by decide +kernel
theorem dX10_keep_17 : decode cX10_keep 17 = .ok (.iconst 0, 1) := by decide +kernel
theorem dX10_keep_18 : decode cX10_keep 18 = .ok (.istore_n 2, 1) := by decide +kernel
theorem dX10_keep_19 : decode cX10_keep 19 = .ok (.iload_n 2, 1) := by decide +kernel
theorem dX10_keep_20 : decode cX10_keep 20 = .ok (.aload_n 0, 1) := by decide +kernel
theorem dX10_keep_21 : decode cX10_keep 21 = .ok (.getfield 12, 3) := by decide +kernel
theorem dX10_keep_24 : decode cX10_keep 24 = .ok (.getfield 302, 3) := by decide +kernel
theorem dX10_keep_27 : decode cX10_keep 27 = .ok (.if_icmp .ge 26, 3) := by decide +kernel
theorem dX10_keep_30 : decode cX10_keep 30 = .ok (.aload_n 0, 1) := by decide +kernel
theorem dX10_keep_31 : decode cX10_keep 31 = .ok (.getfield 12, 3) := by decide +kernel
theorem dX10_keep_34 : decode cX10_keep 34 = .ok (.getfield 305, 3) := by decide +kernel
theorem dX10_keep_37 : decode cX10_keep 37 = .ok (.iload_n 2, 1) := by decide +kernel
theorem dX10_keep_38 : decode cX10_keep 38 = .ok (.aload_n 1, 1) := by decide +kernel
theorem dX10_keep_39 : decode cX10_keep 39 = .ok (.invokevirtual 308, 3) := by decide +kernel
theorem dX10_keep_42 : decode cX10_keep 42 = .ok (.ifCond .eq 5, 3) := by decide +kernel
theorem dX10_keep_45 : decode cX10_keep 45 = .ok (.iload_n 2, 1) := by decide +kernel
theorem dX10_keep_46 : decode cX10_keep 46 = .ok (.ireturn, 1) := by decide +kernel
theorem dX10_keep_47 : decode cX10_keep 47 = .ok (.iinc 2 1, 3) := by decide +kernel
theorem dX10_keep_50 : decode cX10_keep 50 = .ok (.goto (-31), 3) := by decide +kernel
theorem dX10_keep_53 : decode cX10_keep 53 = .ok (.aload_n 0, 1) := by decide +kernel
theorem dX10_keep_54 : decode cX10_keep 54 = .ok (.getfield 12, 3) := by decide +kernel
theorem dX10_keep_57 : decode cX10_keep 57 = .ok (.getfield 302, 3) := by decide +kernel
theorem dX10_keep_60 : decode cX10_keep 60 = .ok (.bipush 12, 2) := by decide +kernel
theorem dX10_keep_62 : decode cX10_keep 62 = .ok (.if_icmp .lt 5, 3) := by decide +kernel
theorem dX10_keep_65 : decode cX10_keep 65 = .ok (.iconst (-1), 1) := by decide +kernel
theorem dX10_keep_66 : decode cX10_keep 66 = .ok (.ireturn, 1) := by decide +kernel
theorem dX10_keep_67 : decode cX10_keep 67 = .ok (.aload_n 0, 1) := by decide +kernel
theorem dX10_keep_68 : decode cX10_keep 68 = .ok (.invokevirtual 96, 3) := by decide +kernel
theorem dX10_keep_71 : decode cX10_keep 71 = .ok (.aload_n 0, 1) := by decide +kernel
theorem dX10_keep_72 : decode cX10_keep 72 = .ok (.getfield 12, 3) := by decide +kernel
theorem dX10_keep_75 : decode cX10_keep 75 = .ok (.getfield 302, 3) := by decide +kernel
theorem dX10_keep_78 : decode cX10_keep 78 = .ok (.istore_n 2, 1) := by decide +kernel
theorem dX10_keep_79 : decode cX10_keep 79 = .ok (.aload_n 0, 1) := by decide +kernel
theorem dX10_keep_80 : decode cX10_keep 80 = .ok (.getfield 12, 3) := by decide +kernel
theorem dX10_keep_83 : decode cX10_keep 83 = .ok (.getfield 305, 3) := by decide +kernel
theorem dX10_keep_86 : decode cX10_keep 86 = .ok (.iload_n 2, 1) := by decide +kernel
theorem dX10_keep_87 : decode cX10_keep 87 = .ok (.aload_n 1, 1) := by decide +kernel
theorem dX10_keep_88 : decode cX10_keep 88 = .ok (.invokevirtual 153, 3) := by decide +kernel
theorem dX10_keep_91 : decode cX10_keep 91 = .ok (.aload_n 0, 1) := by decide +kernel
theorem dX10_keep_92 : decode cX10_keep 92 = .ok (.getfield 12, 3) := by decide +kernel
theorem dX10_keep_95 : decode cX10_keep 95 = .ok (.dup, 1) := by decide +kernel
theorem dX10_keep_96 : decode cX10_keep 96 = .ok (.getfield 302, 3) := by decide +kernel
theorem dX10_keep_99 : decode cX10_keep 99 = .ok (.iconst 1, 1) := by decide +kernel
theorem dX10_keep_100 : decode cX10_keep 100 = .ok (.iadd, 1) := by decide +kernel
theorem dX10_keep_101 : decode cX10_keep 101 = .ok (.putfield 302, 3) := by decide +kernel
theorem dX10_keep_104 : decode cX10_keep 104 = .ok (.iload_n 2, 1) := by decide +kernel
theorem dX10_keep_105 : decode cX10_keep 105 = .ok (.ireturn, 1) := by decide +kernel
abbrev mX10_keep : MI := (RX10, yX10_keep, cX10_keep, 3, (some .int))
theorem mok_X10_keep : MOKv mX10_keep 0 := ⟨⟨bm_1023, bm_114, ⟨by decide, by decide⟩, by decide +kernel⟩, bm_1021, bm_1022⟩
def f_X10_keep_19b   (a0 : Nat) (a1 : Nat) (k19 : Int32 → MH → Option (Int32 × MH)) (p : Int32) (h : MH) : Option (Int32 × MH) :=
  (gR h a0 0).bind fun a_1 =>
  if p < (gI h a_1 4) then
    (gR h a0 0).bind fun a_2 =>
    (gR h a_2 5).bind fun a_3 =>
    (f_X6_isSame a_3 p a1 h).bind fun q_4 =>
    if q_4.1 = 0 then
      k19 (p + 1) q_4.2
    else
      some (p, q_4.2)
  else
    (gR h a0 0).bind fun a_5 =>
    if (gI h a_5 4) < 12 then
      (f_X10_beginAct a0 h).bind fun q_6 =>
      (gR q_6 a0 0).bind fun a_7 =>
      lt (gI q_6 a_7 4) fun x_8 =>
      (gR q_6 a0 0).bind fun a_9 =>
      (gR q_6 a_9 5).bind fun a_10 =>
      (f_X6_put a_10 x_8 a1 q_6).bind fun q_11 =>
      (gR q_11 a0 0).bind fun a_12 =>
      lt (sI q_11 a_12 4 ((gI q_11 a_12 4) + 1)) fun h_13 =>
      some (x_8, h_13)
    else
      some ((-1 : Int32), h)
def f_X10_keep_19   (a0 : Nat) (a1 : Nat) : Nat → Int32 → MH → Option (Int32 × MH) := lp (f_X10_keep_19b a0 a1)
def f_X10_keep   (a0 : Nat) (h : MH) : Option (Int32 × MH) :=
  (gR h a0 0).bind fun a_1 =>
  (gR h a_1 6).bind fun a_2 =>
  if (gI h a_2 1) = 0 then
    some ((-1 : Int32), h)
  else
    f_X10_keep_19 a0 a_2 FU 0 h
set_option maxRecDepth 100000 in
set_option maxHeartbeats 4000000 in
theorem v_X10_keep_19b {l : Launch} {G : GE} {B N : Nat} {S : List SHP} {o : Int32 × MH} {a0 : Nat} {a1 : Nat}    (hs0 : S[a0]? = some (.inl 10)) (hs1 : S[a1]? = some (.inl 5)) {k19 : Int32 → MH → Option (Int32 × MH)} (hk19 : ∀ (p : Int32) (h : MH), k19 p h = some o → V l G B N mX10_keep (rmm 8 0 0) false 0 0 (QI S o) S 0 0 19 [(0, .ref a0), (1, .ref a1), (2, .int p)] [] h) {p : Int32} {h : MH} (hf : f_X10_keep_19b a0 a1 k19 p h = some o) : V l G B N mX10_keep (rmm 8 0 0) false 0 0 (QI S o) S 0 0 19 [(0, .ref a0), (1, .ref a1), (2, .int p)] [] h := by
  unfold f_X10_keep_19b at hf
  refine V_iload_n (pc' := 20) dX10_keep_19 rfl 2 rfl rfl ?_
  refine V_aload_n (pc' := 21) dX10_keep_20 rfl 0 rfl rfl ?_
  refine V_getR (pc' := 24) 10 0 dX10_keep_21 rfl (by decide) (Nat.le_of_ble_eq_true rfl) bm_458 hs0 (fun _ _ _ => rfl) rfl hf (fun a_1 ha_1 hf => ?_)
  refine V_getI (pc' := 27) 7 4 dX10_keep_24 rfl (by decide) (Nat.le_of_ble_eq_true rfl) bm_271 ha_1 (fun _ _ _ => rfl) ?_
  refine V_icmp_ge (tgt := 53) (pc' := 30) dX10_keep_27 (by decide) rfl hf (fun hf => ?_) (fun hf => ?_)
  ·
    refine V_aload_n (pc' := 31) dX10_keep_30 rfl 0 rfl rfl ?_
    refine V_getR (pc' := 34) 10 0 dX10_keep_31 rfl (by decide) (Nat.le_of_ble_eq_true rfl) bm_458 hs0 (fun _ _ _ => rfl) rfl hf (fun a_2 ha_2 hf => ?_)
    refine V_getR (pc' := 37) 7 5 dX10_keep_34 rfl (by decide) (Nat.le_of_ble_eq_true rfl) bm_273 ha_2 (fun _ _ _ => rfl) rfl hf (fun a_3 ha_3 hf => ?_)
    refine V_iload_n (pc' := 38) dX10_keep_37 rfl 2 rfl rfl ?_
    refine V_aload_n (pc' := 39) dX10_keep_38 rfl 1 rfl rfl ?_
    refine V_cvI (pc' := 42) (As := [.int p, .ref a1]) (rest := []) dX10_keep_39 rfl mok_X6_isSame bm_1024 6 (by decide) rfl ha_3 rfl rfl (Nat.le_of_ble_eq_true rfl) (by decide) hf (fun q e => ct_X6_isSame ha_3 hs1 e) (fun q_4 hf => ?_)
    refine V_if_eq (tgt := 47) (pc' := 45) dX10_keep_42 (by decide) rfl hf (fun hf => ?_) (fun hf => ?_)
    ·
      refine V_iinc (v := (p + 1)) (lv' := [(2, .int (p + 1)), (0, .ref a0), (1, .ref a1)]) (pc' := 50) dX10_keep_47 rfl 2 rfl rfl (Nat.le_of_ble_eq_true rfl) rfl ?_
      refine V_goto (tgt := 19) dX10_keep_50 (by decide) ?_
      exact V_sub (lv' := [(0, .ref a0), (1, .ref a1), (2, .int (p + 1))]) [1, 2, 0] rfl (hk19 (p + 1) q_4.2 hf)
    ·
      refine V_iload_n (pc' := 46) dX10_keep_45 rfl 2 rfl rfl ?_
      obtain rfl := Option.some.inj hf
      exact V_iret dX10_keep_46 rfl rfl rfl ⟨rfl, rfl, rfl⟩
  ·
    refine V_aload_n (pc' := 54) dX10_keep_53 rfl 0 rfl rfl ?_
    refine V_getR (pc' := 57) 10 0 dX10_keep_54 rfl (by decide) (Nat.le_of_ble_eq_true rfl) bm_458 hs0 (fun _ _ _ => rfl) rfl hf (fun a_5 ha_5 hf => ?_)
    refine V_getI (pc' := 60) 7 4 dX10_keep_57 rfl (by decide) (Nat.le_of_ble_eq_true rfl) bm_271 ha_5 (fun _ _ _ => rfl) ?_
    refine V_bipush (v := 12) (pc' := 62) dX10_keep_60 rfl (by decide) ?_
    refine V_icmp_lt (tgt := 67) (pc' := 65) dX10_keep_62 (by decide) rfl hf (fun hf => ?_) (fun hf => ?_)
    ·
      refine V_aload_n (pc' := 68) dX10_keep_67 rfl 0 rfl rfl ?_
      refine V_cvV (pc' := 71) (As := []) (rest := []) dX10_keep_68 rfl mok_X10_beginAct bm_514 10 (by decide) rfl hs0 rfl rfl (Nat.le_of_ble_eq_true rfl) (by decide) hf (fun q e => ct_X10_beginAct hs0 e) (fun q_6 hf => ?_)
      refine V_aload_n (pc' := 72) dX10_keep_71 rfl 0 rfl rfl ?_
      refine V_getR (pc' := 75) 10 0 dX10_keep_72 rfl (by decide) (Nat.le_of_ble_eq_true rfl) bm_458 hs0 (fun _ _ _ => rfl) rfl hf (fun a_7 ha_7 hf => ?_)
      refine V_getI (pc' := 78) 7 4 dX10_keep_75 rfl (by decide) (Nat.le_of_ble_eq_true rfl) bm_271 ha_7 (fun _ _ _ => rfl) ?_
      refine V_nmI hf (fun x_8 hf => ?_)
      refine V_istore_n (lv' := [(2, .int x_8), (0, .ref a0), (1, .ref a1)]) (pc' := 79) dX10_keep_78 rfl rfl (Nat.le_of_ble_eq_true rfl) rfl ?_
      refine V_aload_n (pc' := 80) dX10_keep_79 rfl 1 rfl rfl ?_
      refine V_getR (pc' := 83) 10 0 dX10_keep_80 rfl (by decide) (Nat.le_of_ble_eq_true rfl) bm_458 hs0 (fun _ _ _ => rfl) rfl hf (fun a_9 ha_9 hf => ?_)
      refine V_getR (pc' := 86) 7 5 dX10_keep_83 rfl (by decide) (Nat.le_of_ble_eq_true rfl) bm_273 ha_9 (fun _ _ _ => rfl) rfl hf (fun a_10 ha_10 hf => ?_)
      refine V_iload_n (pc' := 87) dX10_keep_86 rfl 0 rfl rfl ?_
      refine V_aload_n (pc' := 88) dX10_keep_87 rfl 2 rfl rfl ?_
      refine V_cvV (pc' := 91) (As := [.int x_8, .ref a1]) (rest := []) dX10_keep_88 rfl mok_X6_put bm_617 6 (by decide) rfl ha_10 rfl rfl (Nat.le_of_ble_eq_true rfl) (by decide) hf (fun q e => ct_X6_put ha_10 hs1 e) (fun q_11 hf => ?_)
      refine V_aload_n (pc' := 92) dX10_keep_91 rfl 1 rfl rfl ?_
      refine V_getR (pc' := 95) 10 0 dX10_keep_92 rfl (by decide) (Nat.le_of_ble_eq_true rfl) bm_458 hs0 (fun _ _ _ => rfl) rfl hf (fun a_12 ha_12 hf => ?_)
      refine V_dup (pc' := 96) dX10_keep_95 rfl rfl ?_
      refine V_getI (pc' := 99) 7 4 dX10_keep_96 rfl (by decide) (Nat.le_of_ble_eq_true rfl) bm_271 ha_12 (fun _ _ _ => rfl) ?_
      refine V_iconst (v := 1) (pc' := 100) dX10_keep_99 rfl (by decide) ?_
      refine V_iadd (pc' := 101) dX10_keep_100 rfl ?_
      refine V_putI (pc' := 104) 7 4 dX10_keep_101 rfl (by decide) (Nat.le_of_ble_eq_true rfl) bm_271 ha_12 (Or.inl rfl) rfl ?_
      refine V_nmH hf (fun h_13 hf => ?_)
      refine V_iload_n (pc' := 105) dX10_keep_104 rfl 0 rfl rfl ?_
      obtain rfl := Option.some.inj hf
      exact V_iret dX10_keep_105 rfl rfl rfl ⟨rfl, rfl, rfl⟩
    ·
      refine V_iconst (v := (-1)) (pc' := 66) dX10_keep_65 rfl (by decide) ?_
      obtain rfl := Option.some.inj hf
      exact V_iret dX10_keep_66 rfl rfl rfl ⟨rfl, rfl, rfl⟩
theorem v_X10_keep_19 {l : Launch} {G : GE} {B N : Nat} {S : List SHP} {o : Int32 × MH} {a0 : Nat} {a1 : Nat}    (hs0 : S[a0]? = some (.inl 10)) (hs1 : S[a1]? = some (.inl 5)) {n : Nat} {p : Int32} {h : MH} (hf : f_X10_keep_19 a0 a1 n p h = some o) : V l G B N mX10_keep (rmm 8 0 0) false 0 0 (QI S o) S 0 0 19 [(0, .ref a0), (1, .ref a1), (2, .int p)] [] h :=
  V_lp (VV := fun p h => V l G B N mX10_keep (rmm 8 0 0) false 0 0 (QI S o) S 0 0 19 [(0, .ref a0), (1, .ref a1), (2, .int p)] [] h) (fun _ hk _ _ hf => v_X10_keep_19b hs0 hs1 hk hf) n p h hf
set_option maxRecDepth 100000 in
set_option maxHeartbeats 4000000 in
theorem v_X10_keep {l : Launch} {G : GE} {B N : Nat} {S : List SHP} {o : Int32 × MH} {a0 : Nat}    (hs0 : S[a0]? = some (.inl 10)) {h : MH} (hf : f_X10_keep a0 h = some o) : V l G B N mX10_keep (rmm 8 0 0) false 0 0 (QI S o) S 0 0 0 [(0, .ref a0)] [] h := by
  unfold f_X10_keep at hf
  refine V_aload_n (pc' := 1) dX10_keep_0 rfl 0 rfl rfl ?_
  refine V_getR (pc' := 4) 10 0 dX10_keep_1 rfl (by decide) (Nat.le_of_ble_eq_true rfl) bm_458 hs0 (fun _ _ _ => rfl) rfl hf (fun a_1 ha_1 hf => ?_)
  refine V_getR (pc' := 7) 7 6 dX10_keep_4 rfl (by decide) (Nat.le_of_ble_eq_true rfl) bm_275 ha_1 (fun _ _ _ => rfl) rfl hf (fun a_2 ha_2 hf => ?_)
  refine V_astore_n (lv' := [(1, .ref a_2), (0, .ref a0)]) (pc' := 8) dX10_keep_7 rfl rfl (Nat.le_of_ble_eq_true rfl) rfl ?_
  refine V_aload_n (pc' := 9) dX10_keep_8 rfl 0 rfl rfl ?_
  refine V_getI (pc' := 12) 5 1 dX10_keep_9 rfl (by decide) (Nat.le_of_ble_eq_true rfl) bm_256 ha_2 (fun _ _ _ => rfl) ?_
  refine V_if_ne (tgt := 17) (pc' := 15) dX10_keep_12 (by decide) rfl hf (fun hf => ?_) (fun hf => ?_)
  ·
    refine V_iconst (v := (-1)) (pc' := 16) dX10_keep_15 rfl (by decide) ?_
    obtain rfl := Option.some.inj hf
    exact V_iret dX10_keep_16 rfl rfl rfl ⟨rfl, rfl, rfl⟩
  ·
    refine V_iconst (v := 0) (pc' := 18) dX10_keep_17 rfl (by decide) ?_
    refine V_istore_n (lv' := [(2, .int 0), (1, .ref a_2), (0, .ref a0)]) (pc' := 19) dX10_keep_18 rfl rfl (Nat.le_of_ble_eq_true rfl) rfl ?_
    exact V_sub (lv' := [(0, .ref a0), (1, .ref a_2), (2, .int 0)]) [2, 1, 0] rfl (v_X10_keep_19 hs0 ha_2 hf)
theorem ct_X10_keep {l : Launch} {S : List SHP} {h : MH} {a0 : Nat} (hs0 : S[a0]? = some (.inl 10)) {q : Int32 × MH} (hf : f_X10_keep a0 h = some q) : CT l mX10_keep 8 false 0 0 S [.ref a0] h (QI S q) :=
  CT_ofV (by decide) rfl (Nat.le_of_ble_eq_true rfl) (fun G B hT => v_X10_keep hs0 hf)
/-! LabelStacks.take(I)I -/
theorem dX10_take_0 : decode cX10_take 0 = .ok (.iload_n 1, 1) := by decide +kernel
theorem dX10_take_1 : decode cX10_take 1 = .ok (.ifCond .lt 14, 3) := by decide +kernel
theorem dX10_take_4 : decode cX10_take 4 = .ok (.iload_n 1, 1) := by decide +kernel
theorem dX10_take_5 : decode cX10_take 5 = .ok (.aload_n 0, 1) := by decide +kernel
theorem dX10_take_6 : decode cX10_take 6 = .ok (.getfield 12, 3) := by decide +kernel
theorem dX10_take_9 : decode cX10_take 9 = .ok (.getfield 302, 3) := by decide +kernel
theorem dX10_take_12 : decode cX10_take 12 = .ok (.if_icmp .lt 5, 3) := by decide +kernel
theorem dX10_take_15 : decode cX10_take 15 = .ok (.iconst (-1), 1) := by decide +kernel
theorem dX10_take_16 : decode cX10_take 16 = .ok (.ireturn, 1) := by decide +kernel
theorem dX10_take_17 : decode cX10_take 17 = .ok (.aload_n 0, 1) := by decide +kernel
theorem dX10_take_18 : decode cX10_take 18 = .ok (.getfield 12, 3) := by decide +kernel
theorem dX10_take_21 : decode cX10_take 21 = .ok (.getfield 305, 3) := by decide +kernel
theorem dX10_take_24 : decode cX10_take 24 = .ok (.iload_n 1, 1) := by decide +kernel
theorem dX10_take_25 : decode cX10_take 25 = .ok (.aload_n 0, 1) := by decide +kernel
theorem dX10_take_26 : decode cX10_take 26 = .ok (.getfield 12, 3) := by decide +kernel
theorem dX10_take_29 : decode cX10_take 29 = .ok (.getfield 162, 3) := by decide +kernel
theorem dX10_take_32 : decode cX10_take 32 = .ok (.invokevirtual 312, 3) := by decide +kernel
theorem dX10_take_35 : decode cX10_take 35 = .ok (.aload_n 0, 1) := by decide +kernel
theorem dX10_take_36 : decode cX10_take 36 = .ok (.getfield 12, 3) := by decide +kernel
theorem dX10_take_39 : decode cX10_take 39 = .ok (.getfield 162, 3) := by decide +kernel
theorem dX10_take_42 : decode cX10_take 42 = .ok (.getfield 168, 3) := by decide +kernel
theorem dX10_take_45 : decode cX10_take 45 = .ok (.ireturn, 1) := by decide +kernel
abbrev mX10_take : MI := (RX10, yX10_take, cX10_take, 2, (some .int))
theorem mok_X10_take : MOKv mX10_take 1 := ⟨⟨bm_1031, bm_114, ⟨by decide, by decide⟩, by decide +kernel⟩, bm_1029, bm_1030⟩
def f_X10_take   (a0 : Nat) (x1 : Int32) (h : MH) : Option (Int32 × MH) :=
  if x1 < 0 then
    some ((-1 : Int32), h)
  else
    (gR h a0 0).bind fun a_1 =>
    if x1 < (gI h a_1 4) then
      (gR h a0 0).bind fun a_2 =>
      (gR h a_2 5).bind fun a_3 =>
      (gR h a0 0).bind fun a_4 =>
      (gR h a_4 6).bind fun a_5 =>
      (f_X6_copyTo a_3 x1 a_5 h).bind fun q_6 =>
      (gR q_6 a0 0).bind fun a_7 =>
      (gR q_6 a_7 6).bind fun a_8 =>
      some ((gI q_6 a_8 1), q_6)
    else
      some ((-1 : Int32), h)
set_option maxRecDepth 100000 in
set_option maxHeartbeats 4000000 in
theorem v_X10_take {l : Launch} {G : GE} {B N : Nat} {S : List SHP} {o : Int32 × MH} {a0 : Nat} {x1 : Int32}    (hs0 : S[a0]? = some (.inl 10)) {h : MH} (hf : f_X10_take a0 x1 h = some o) : V l G B N mX10_take (rmm 6 0 0) false 0 0 (QI S o) S 0 0 0 [(0, .ref a0), (1, .int x1)] [] h := by
  unfold f_X10_take at hf
  refine V_iload_n (pc' := 1) dX10_take_0 rfl 1 rfl rfl ?_
  refine V_if_lt (tgt := 15) (pc' := 4) dX10_take_1 (by decide) rfl hf (fun hf => ?_) (fun hf => ?_)
  ·
    refine V_iconst (v := (-1)) (pc' := 16) dX10_take_15 rfl (by decide) ?_
    obtain rfl := Option.some.inj hf
    exact V_iret dX10_take_16 rfl rfl rfl ⟨rfl, rfl, rfl⟩
  ·
    refine V_iload_n (pc' := 5) dX10_take_4 rfl 1 rfl rfl ?_
    refine V_aload_n (pc' := 6) dX10_take_5 rfl 0 rfl rfl ?_
    refine V_getR (pc' := 9) 10 0 dX10_take_6 rfl (by decide) (Nat.le_of_ble_eq_true rfl) bm_458 hs0 (fun _ _ _ => rfl) rfl hf (fun a_1 ha_1 hf => ?_)
    refine V_getI (pc' := 12) 7 4 dX10_take_9 rfl (by decide) (Nat.le_of_ble_eq_true rfl) bm_271 ha_1 (fun _ _ _ => rfl) ?_
    refine V_icmp_lt (tgt := 17) (pc' := 15) dX10_take_12 (by decide) rfl hf (fun hf => ?_) (fun hf => ?_)
    ·
      refine V_aload_n (pc' := 18) dX10_take_17 rfl 0 rfl rfl ?_
      refine V_getR (pc' := 21) 10 0 dX10_take_18 rfl (by decide) (Nat.le_of_ble_eq_true rfl) bm_458 hs0 (fun _ _ _ => rfl) rfl hf (fun a_2 ha_2 hf => ?_)
      refine V_getR (pc' := 24) 7 5 dX10_take_21 rfl (by decide) (Nat.le_of_ble_eq_true rfl) bm_273 ha_2 (fun _ _ _ => rfl) rfl hf (fun a_3 ha_3 hf => ?_)
      refine V_iload_n (pc' := 25) dX10_take_24 rfl 1 rfl rfl ?_
      refine V_aload_n (pc' := 26) dX10_take_25 rfl 0 rfl rfl ?_
      refine V_getR (pc' := 29) 10 0 dX10_take_26 rfl (by decide) (Nat.le_of_ble_eq_true rfl) bm_458 hs0 (fun _ _ _ => rfl) rfl hf (fun a_4 ha_4 hf => ?_)
      refine V_getR (pc' := 32) 7 6 dX10_take_29 rfl (by decide) (Nat.le_of_ble_eq_true rfl) bm_275 ha_4 (fun _ _ _ => rfl) rfl hf (fun a_5 ha_5 hf => ?_)
      refine V_cvV (pc' := 35) (As := [.int x1, .ref a_5]) (rest := []) dX10_take_32 rfl mok_X6_copyTo bm_946 6 (by decide) rfl ha_3 rfl rfl (Nat.le_of_ble_eq_true rfl) (by decide) hf (fun q e => ct_X6_copyTo ha_3 ha_5 e) (fun q_6 hf => ?_)
      refine V_aload_n (pc' := 36) dX10_take_35 rfl 0 rfl rfl ?_
      refine V_getR (pc' := 39) 10 0 dX10_take_36 rfl (by decide) (Nat.le_of_ble_eq_true rfl) bm_458 hs0 (fun _ _ _ => rfl) rfl hf (fun a_7 ha_7 hf => ?_)
      refine V_getR (pc' := 42) 7 6 dX10_take_39 rfl (by decide) (Nat.le_of_ble_eq_true rfl) bm_275 ha_7 (fun _ _ _ => rfl) rfl hf (fun a_8 ha_8 hf => ?_)
      refine V_getI (pc' := 45) 5 1 dX10_take_42 rfl (by decide) (Nat.le_of_ble_eq_true rfl) bm_256 ha_8 (fun _ _ _ => rfl) ?_
      obtain rfl := Option.some.inj hf
      exact V_iret dX10_take_45 rfl rfl rfl ⟨rfl, rfl, rfl⟩
    ·
      refine V_iconst (v := (-1)) (pc' := 16) dX10_take_15 rfl (by decide) ?_
      obtain rfl := Option.some.inj hf
      exact V_iret dX10_take_16 rfl rfl rfl ⟨rfl, rfl, rfl⟩
theorem ct_X10_take {l : Launch} {S : List SHP} {h : MH} {a0 : Nat} {x1 : Int32} (hs0 : S[a0]? = some (.inl 10)) {q : Int32 × MH} (hf : f_X10_take a0 x1 h = some q) : CT l mX10_take 6 false 0 0 S [.ref a0, .int x1] h (QI S q) :=
  CT_ofV (by decide) rfl (Nat.le_of_ble_eq_true rfl) (fun G B hT => v_X10_take hs0 hf)
/-! LabelStacks.feed(IIIII)I -/
theorem dX10_feed_0 : decode cX10_feed 0 = .ok (.aload_n 0, 1) := by decide +kernel
theorem dX10_feed_1 : decode cX10_feed 1 = .ok (.getfield 52, 3) := by decide +kernel
theorem dX10_feed_4 : decode cX10_feed 4 = .ok (.getfield 315, 3) := by decide +kernel
theorem dX10_feed_7 : decode cX10_feed 7 = .ok (.bipush 20, 2) := by decide +kernel
theorem dX10_feed_9 : decode cX10_feed 9 = .ok (.iadd, 1) := by decide +kernel
theorem dX10_feed_10 : decode cX10_feed 10 = .ok (.sipush 500, 3) := by decide +kernel
theorem dX10_feed_13 : decode cX10_feed 13 = .ok (.if_icmp .le 5, 3) := by decide +kernel
theorem dX10_feed_16 : decode cX10_feed 16 = .ok (.iconst (-1), 1) := by decide +kernel
theorem dX10_feed_17 : decode cX10_feed 17 = .ok (.ireturn, 1) := by decide +kernel
theorem dX10_feed_18 : decode cX10_feed 18 = .ok (.aload_n 0, 1) := by decide +kernel
theorem dX10_feed_19 : decode cX10_feed 19 = .ok (.getfield 52, 3) := by decide +kernel
theorem dX10_feed_22 : decode cX10_feed 22 = .ok (.iload_n 1, 1) := by decide +kernel
theorem dX10_feed_23 : decode cX10_feed 23 = .ok (.invokevirtual 316, 3) := by decide +kernel
theorem dX10_feed_26 : decode cX10_feed 26 = .ok (.aload_n 0, 1) := by decide +kernel
theorem dX10_feed_27 : decode cX10_feed 27 = .ok (.getfield 52, 3) := by decide +kernel
theorem dX10_feed_30 : decode cX10_feed 30 = .ok (.iload_n 2, 1) := by decide +kernel
theorem dX10_feed_31 : decode cX10_feed 31 = .ok (.invokevirtual 316, 3) := by decide +kernel
theorem dX10_feed_34 : decode cX10_feed 34 = .ok (.aload_n 0, 1) := by decide +kernel
theorem dX10_feed_35 : decode cX10_feed 35 = .ok (.getfield 52, 3) := by decide +kernel
theorem dX10_feed_38 : decode cX10_feed 38 = .ok (.iload_n 3, 1) := by decide +kernel
theorem dX10_feed_39 : decode cX10_feed 39 = .ok (.invokevirtual 316, 3) := by decide +kernel
theorem dX10_feed_42 : decode cX10_feed 42 = .ok (.aload_n 0, 1) := by decide +kernel
theorem dX10_feed_43 : decode cX10_feed 43 = .ok (.getfield 52, 3) := by decide +kernel
theorem dX10_feed_46 : decode cX10_feed 46 = .ok (.iload 4, 2) := by decide +kernel
theorem dX10_feed_48 : decode cX10_feed 48 = .ok (.invokevirtual 316, 3) := by decide +kernel
theorem dX10_feed_51 : decode cX10_feed 51 = .ok (.aload_n 0, 1) := by decide +kernel
theorem dX10_feed_52 : decode cX10_feed 52 = .ok (.getfield 52, 3) := by decide +kernel
theorem dX10_feed_55 : decode cX10_feed 55 = .ok (.iload 5, 2) := by decide +kernel
theorem dX10_feed_57 : decode cX10_feed 57 = .ok (.invokevirtual 316, 3) := by decide +kernel
theorem dX10_feed_60 : decode cX10_feed 60 = .ok (.aload_n 0, 1) := by decide +kernel
theorem dX10_feed_61 : decode cX10_feed 61 = .ok (.getfield 52, 3) := by decide +kernel
theorem dX10_feed_64 : decode cX10_feed 64 = .ok (.getfield 315, 3) := by decide +kernel
theorem dX10_feed_67 : decode cX10_feed 67 = .ok (.ireturn, 1) := by decide +kernel
abbrev mX10_feed : MI := (RX10, yX10_feed, cX10_feed, 6, (some .int))
theorem mok_X10_feed : MOKv mX10_feed 5 := ⟨⟨bm_1035, bm_114, ⟨by decide, by decide⟩, by decide +kernel⟩, bm_1033, bm_1034⟩
def f_X10_feed   (a0 : Nat) (x1 : Int32) (x2 : Int32) (x3 : Int32) (x4 : Int32) (x5 : Int32) (h : MH) : Option (Int32 × MH) :=
  (gR h a0 8).bind fun a_1 =>
  if 500 < ((gI h a_1 1) + 20) then
    some ((-1 : Int32), h)
  else
    (gR h a0 8).bind fun a_2 =>
    (f_X8_append a_2 x1 h).bind fun q_3 =>
    (gR q_3 a0 8).bind fun a_4 =>
    (f_X8_append a_4 x2 q_3).bind fun q_5 =>
    (gR q_5 a0 8).bind fun a_6 =>
    (f_X8_append a_6 x3 q_5).bind fun q_7 =>
    (gR q_7 a0 8).bind fun a_8 =>
    (f_X8_append a_8 x4 q_7).bind fun q_9 =>
    (gR q_9 a0 8).bind fun a_10 =>
    (f_X8_append a_10 x5 q_9).bind fun q_11 =>
    (gR q_11 a0 8).bind fun a_12 =>
    some ((gI q_11 a_12 1), q_11)
set_option maxRecDepth 100000 in
set_option maxHeartbeats 4000000 in
theorem v_X10_feed {l : Launch} {G : GE} {B N : Nat} {S : List SHP} {o : Int32 × MH} {a0 : Nat} {x1 : Int32} {x2 : Int32} {x3 : Int32} {x4 : Int32} {x5 : Int32}    (hs0 : S[a0]? = some (.inl 10)) {h : MH} (hf : f_X10_feed a0 x1 x2 x3 x4 x5 h = some o) : V l G B N mX10_feed (rmm 4 0 0) false 0 0 (QI S o) S 0 0 0 [(0, .ref a0), (1, .int x1), (2, .int x2), (3, .int x3), (4, .int x4), (5, .int x5)] [] h := by
  unfold f_X10_feed at hf
  refine V_aload_n (pc' := 1) dX10_feed_0 rfl 0 rfl rfl ?_
  refine V_getR (pc' := 4) 10 8 dX10_feed_1 rfl (by decide) (Nat.le_of_ble_eq_true rfl) bm_466 hs0 (fun _ _ _ => rfl) rfl hf (fun a_1 ha_1 hf => ?_)
  refine V_getI (pc' := 7) 8 1 dX10_feed_4 rfl (by decide) (Nat.le_of_ble_eq_true rfl) bm_320 ha_1 (fun _ _ _ => rfl) ?_
  refine V_bipush (v := 20) (pc' := 9) dX10_feed_7 rfl (by decide) ?_
  refine V_iadd (pc' := 10) dX10_feed_9 rfl ?_
  refine V_sipush (v := 500) (pc' := 13) dX10_feed_10 rfl (by decide) ?_
  refine V_icmp_le (tgt := 18) (pc' := 16) dX10_feed_13 (by decide) rfl hf (fun hf => ?_) (fun hf => ?_)
  ·
    refine V_iconst (v := (-1)) (pc' := 17) dX10_feed_16 rfl (by decide) ?_
    obtain rfl := Option.some.inj hf
    exact V_iret dX10_feed_17 rfl rfl rfl ⟨rfl, rfl, rfl⟩
  ·
    refine V_aload_n (pc' := 19) dX10_feed_18 rfl 0 rfl rfl ?_
    refine V_getR (pc' := 22) 10 8 dX10_feed_19 rfl (by decide) (Nat.le_of_ble_eq_true rfl) bm_466 hs0 (fun _ _ _ => rfl) rfl hf (fun a_2 ha_2 hf => ?_)
    refine V_iload_n (pc' := 23) dX10_feed_22 rfl 1 rfl rfl ?_
    refine V_cvV (pc' := 26) (As := [.int x1]) (rest := []) dX10_feed_23 rfl mok_X8_append bm_1036 8 (by decide) rfl ha_2 rfl rfl (Nat.le_of_ble_eq_true rfl) (by decide) hf (fun q e => ct_X8_append ha_2 e) (fun q_3 hf => ?_)
    refine V_aload_n (pc' := 27) dX10_feed_26 rfl 0 rfl rfl ?_
    refine V_getR (pc' := 30) 10 8 dX10_feed_27 rfl (by decide) (Nat.le_of_ble_eq_true rfl) bm_466 hs0 (fun _ _ _ => rfl) rfl hf (fun a_4 ha_4 hf => ?_)
    refine V_iload_n (pc' := 31) dX10_feed_30 rfl 2 rfl rfl ?_
    refine V_cvV (pc' := 34) (As := [.int x2]) (rest := []) dX10_feed_31 rfl mok_X8_append bm_1036 8 (by decide) rfl ha_4 rfl rfl (Nat.le_of_ble_eq_true rfl) (by decide) hf (fun q e => ct_X8_append ha_4 e) (fun q_5 hf => ?_)
    refine V_aload_n (pc' := 35) dX10_feed_34 rfl 0 rfl rfl ?_
    refine V_getR (pc' := 38) 10 8 dX10_feed_35 rfl (by decide) (Nat.le_of_ble_eq_true rfl) bm_466 hs0 (fun _ _ _ => rfl) rfl hf (fun a_6 ha_6 hf => ?_)
    refine V_iload_n (pc' := 39) dX10_feed_38 rfl 3 rfl rfl ?_
    refine V_cvV (pc' := 42) (As := [.int x3]) (rest := []) dX10_feed_39 rfl mok_X8_append bm_1036 8 (by decide) rfl ha_6 rfl rfl (Nat.le_of_ble_eq_true rfl) (by decide) hf (fun q e => ct_X8_append ha_6 e) (fun q_7 hf => ?_)
    refine V_aload_n (pc' := 43) dX10_feed_42 rfl 0 rfl rfl ?_
    refine V_getR (pc' := 46) 10 8 dX10_feed_43 rfl (by decide) (Nat.le_of_ble_eq_true rfl) bm_466 hs0 (fun _ _ _ => rfl) rfl hf (fun a_8 ha_8 hf => ?_)
    refine V_iload (pc' := 48) dX10_feed_46 rfl 4 rfl ?_
    refine V_cvV (pc' := 51) (As := [.int x4]) (rest := []) dX10_feed_48 rfl mok_X8_append bm_1036 8 (by decide) rfl ha_8 rfl rfl (Nat.le_of_ble_eq_true rfl) (by decide) hf (fun q e => ct_X8_append ha_8 e) (fun q_9 hf => ?_)
    refine V_aload_n (pc' := 52) dX10_feed_51 rfl 0 rfl rfl ?_
    refine V_getR (pc' := 55) 10 8 dX10_feed_52 rfl (by decide) (Nat.le_of_ble_eq_true rfl) bm_466 hs0 (fun _ _ _ => rfl) rfl hf (fun a_10 ha_10 hf => ?_)
    refine V_iload (pc' := 57) dX10_feed_55 rfl 5 rfl ?_
    refine V_cvV (pc' := 60) (As := [.int x5]) (rest := []) dX10_feed_57 rfl mok_X8_append bm_1036 8 (by decide) rfl ha_10 rfl rfl (Nat.le_of_ble_eq_true rfl) (by decide) hf (fun q e => ct_X8_append ha_10 e) (fun q_11 hf => ?_)
    refine V_aload_n (pc' := 61) dX10_feed_60 rfl 0 rfl rfl ?_
    refine V_getR (pc' := 64) 10 8 dX10_feed_61 rfl (by decide) (Nat.le_of_ble_eq_true rfl) bm_466 hs0 (fun _ _ _ => rfl) rfl hf (fun a_12 ha_12 hf => ?_)
    refine V_getI (pc' := 67) 8 1 dX10_feed_64 rfl (by decide) (Nat.le_of_ble_eq_true rfl) bm_320 ha_12 (fun _ _ _ => rfl) ?_
    obtain rfl := Option.some.inj hf
    exact V_iret dX10_feed_67 rfl rfl rfl ⟨rfl, rfl, rfl⟩
theorem ct_X10_feed {l : Launch} {S : List SHP} {h : MH} {a0 : Nat} {x1 : Int32} {x2 : Int32} {x3 : Int32} {x4 : Int32} {x5 : Int32} (hs0 : S[a0]? = some (.inl 10)) {q : Int32 × MH} (hf : f_X10_feed a0 x1 x2 x3 x4 x5 h = some q) : CT l mX10_feed 4 false 0 0 S [.ref a0, .int x1, .int x2, .int x3, .int x4, .int x5] h (QI S q) :=
  CT_ofV (by decide) rfl (Nat.le_of_ble_eq_true rfl) (fun G B hT => v_X10_feed hs0 hf)
/-! LabelStacks.end(I)Z -/
theorem dX10_end_0 : decode cX10_end 0 = .ok (.iload_n 1, 1) := by decide +kernel
theorem dX10_end_1 : decode cX10_end 1 = .ok (.ifCond .lt 14, 3) := by decide +kernel
theorem dX10_end_4 : decode cX10_end 4 = .ok (.iload_n 1, 1) := by decide +kernel
theorem dX10_end_5 : decode cX10_end 5 = .ok (.aload_n 0, 1) := by decide +kernel
theorem dX10_end_6 : decode cX10_end 6 = .ok (.getfield 52, 3) := by decide +kernel
theorem dX10_end_9 : decode cX10_end 9 = .ok (.getfield 315, 3) := by decide +kernel
theorem dX10_end_12 : decode cX10_end 12 = .ok (.if_icmp .le 5, 3) := by decide +kernel
theorem dX10_end_15 : decode cX10_end 15 = .ok (.iconst 0, 1) := by decide +kernel
theorem dX10_end_16 : decode cX10_end 16 = .ok (.ireturn, 1) := by decide +kernel
theorem dX10_end_17 : decode cX10_end 17 = .ok (.aload_n 0, 1) := by decide +kernel
theorem dX10_end_18 : decode cX10_end 18 = .ok (.getfield 52, 3) := by decide +kernel
theorem dX10_end_21 : decode cX10_end 21 = .ok (.iload_n 1, 1) := by decide +kernel
theorem dX10_end_22 : decode cX10_end 22 = .ok (.putfield 315, 3) := by decide +kernel
theorem dX10_end_25 : decode cX10_end 25 = .ok (.iconst 1, 1) := by decide +kernel
theorem dX10_end_26 : decode cX10_end 26 = .ok (.ireturn, 1) := by decide +kernel
abbrev mX10_end : MI := (RX10, yX10_end, cX10_end, 2, (some .boolean))
theorem mok_X10_end : MOKv mX10_end 1 := ⟨⟨bm_1043, bm_114, ⟨by decide, by decide⟩, by decide +kernel⟩, bm_1041, bm_1042⟩
def f_X10_end   (a0 : Nat) (x1 : Int32) (h : MH) : Option (Int32 × MH) :=
  if x1 < 0 then
    some (0, h)
  else
    (gR h a0 8).bind fun a_1 =>
    if (gI h a_1 1) < x1 then
      some (0, h)
    else
      (gR h a0 8).bind fun a_2 =>
      lt (sI h a_2 1 x1) fun h_3 =>
      some (1, h_3)
set_option maxRecDepth 100000 in
set_option maxHeartbeats 4000000 in
theorem v_X10_end {l : Launch} {G : GE} {B N : Nat} {S : List SHP} {o : Int32 × MH} {a0 : Nat} {x1 : Int32}    (hs0 : S[a0]? = some (.inl 10)) {h : MH} (hf : f_X10_end a0 x1 h = some o) : V l G B N mX10_end (rmm 3 0 0) false 0 0 (QI S o) S 0 0 0 [(0, .ref a0), (1, .int x1)] [] h := by
  unfold f_X10_end at hf
  refine V_iload_n (pc' := 1) dX10_end_0 rfl 1 rfl rfl ?_
  refine V_if_lt (tgt := 15) (pc' := 4) dX10_end_1 (by decide) rfl hf (fun hf => ?_) (fun hf => ?_)
  ·
    refine V_iconst (v := 0) (pc' := 16) dX10_end_15 rfl (by decide) ?_
    obtain rfl := Option.some.inj hf
    exact V_zretL dX10_end_16 rfl rfl rfl (by decide) ⟨rfl, rfl, rfl⟩
  ·
    refine V_iload_n (pc' := 5) dX10_end_4 rfl 1 rfl rfl ?_
    refine V_aload_n (pc' := 6) dX10_end_5 rfl 0 rfl rfl ?_
    refine V_getR (pc' := 9) 10 8 dX10_end_6 rfl (by decide) (Nat.le_of_ble_eq_true rfl) bm_466 hs0 (fun _ _ _ => rfl) rfl hf (fun a_1 ha_1 hf => ?_)
    refine V_getI (pc' := 12) 8 1 dX10_end_9 rfl (by decide) (Nat.le_of_ble_eq_true rfl) bm_320 ha_1 (fun _ _ _ => rfl) ?_
    refine V_icmp_le (tgt := 17) (pc' := 15) dX10_end_12 (by decide) rfl hf (fun hf => ?_) (fun hf => ?_)
    ·
      refine V_iconst (v := 0) (pc' := 16) dX10_end_15 rfl (by decide) ?_
      obtain rfl := Option.some.inj hf
      exact V_zretL dX10_end_16 rfl rfl rfl (by decide) ⟨rfl, rfl, rfl⟩
    ·
      refine V_aload_n (pc' := 18) dX10_end_17 rfl 0 rfl rfl ?_
      refine V_getR (pc' := 21) 10 8 dX10_end_18 rfl (by decide) (Nat.le_of_ble_eq_true rfl) bm_466 hs0 (fun _ _ _ => rfl) rfl hf (fun a_2 ha_2 hf => ?_)
      refine V_iload_n (pc' := 22) dX10_end_21 rfl 1 rfl rfl ?_
      refine V_putI (pc' := 25) 8 1 dX10_end_22 rfl (by decide) (Nat.le_of_ble_eq_true rfl) bm_320 ha_2 (Or.inl rfl) rfl ?_
      refine V_nmH hf (fun h_3 hf => ?_)
      refine V_iconst (v := 1) (pc' := 26) dX10_end_25 rfl (by decide) ?_
      obtain rfl := Option.some.inj hf
      exact V_zretL dX10_end_26 rfl rfl rfl (by decide) ⟨rfl, rfl, rfl⟩
theorem ct_X10_end {l : Launch} {S : List SHP} {h : MH} {a0 : Nat} {x1 : Int32} (hs0 : S[a0]? = some (.inl 10)) {q : Int32 × MH} (hf : f_X10_end a0 x1 h = some q) : CT l mX10_end 3 false 0 0 S [.ref a0, .int x1] h (QI S q) :=
  CT_ofV (by decide) rfl (Nat.le_of_ble_eq_true rfl) (fun G B hT => v_X10_end hs0 hf)
/-! LabelStacks.text()I -/
theorem dX10_text_0 : decode cX10_text 0 = .ok (.aload_n 0, 1) := by decide +kernel
theorem dX10_text_1 : decode cX10_text 1 = .ok (.getfield 52, 3) := by decide +kernel
theorem dX10_text_4 : decode cX10_text 4 = .ok (.invokevirtual 319, 3) := by decide +kernel
theorem dX10_text_7 : decode cX10_text 7 = .ok (.ifCond .ne 5, 3) := by decide +kernel
theorem dX10_text_10 : decode cX10_text 10 = .ok (.iconst (-1), 1) := by decide +kernel
theorem dX10_text_11 : decode cX10_text 11 = .ok (.ireturn, 1) := by decide +kernel
theorem dX10_text_12 : decode cX10_text 12 = .ok (.aload_n 0, 1) := by decide +kernel
theorem dX10_text_13 : decode cX10_text 13 = .ok (.invokevirtual 96, 3) := by decide +kernel
theorem dX10_text_16 : decode cX10_text 16 = .ok (.aload_n 0, 1) := by decide +kernel
theorem dX10_text_17 : decode cX10_text 17 = .ok (.getfield 12, 3) := by decide +kernel
theorem dX10_text_20 : decode cX10_text 20 = .ok (.getfield 99, 3) := by decide +kernel
theorem dX10_text_23 : decode cX10_text 23 = .ok (.aload_n 0, 1) := by decide +kernel
theorem dX10_text_24 : decode cX10_text 24 = .ok (.getfield 52, 3) := by decide +kernel
theorem dX10_text_27 : decode cX10_text 27 = .ok (.getfield 322, 3) := by decide +kernel
theorem dX10_text_30 : decode cX10_text 30 = .ok (.invokevirtual 325, 3) := by decide +kernel
theorem dX10_text_33 : decode cX10_text 33 = .ok (.aload_n 0, 1) := by decide +kernel
theorem dX10_text_34 : decode cX10_text 34 = .ok (.getfield 12, 3) := by decide +kernel
theorem dX10_text_37 : decode cX10_text 37 = .ok (.invokevirtual 108, 3) := by decide +kernel
theorem dX10_text_40 : decode cX10_text 40 = .ok (.aload_n 0, 1) := by decide +kernel
theorem dX10_text_41 : decode cX10_text 41 = .ok (.getfield 12, 3) := by decide +kernel
theorem dX10_text_44 : decode cX10_text 44 = .ok (.getfield 99, 3) := by decide +kernel
theorem dX10_text_47 : decode cX10_text 47 = .ok (.getfield 118, 3) := by decide +kernel
theorem dX10_text_50 : decode cX10_text 50 = .ok (.ireturn, 1) := by decide +kernel
abbrev mX10_text : MI := (RX10, yX10_text, cX10_text, 1, (some .int))
theorem mok_X10_text : MOKv mX10_text 0 := ⟨⟨bm_1047, bm_114, ⟨by decide, by decide⟩, by decide +kernel⟩, bm_1045, bm_1046⟩
def f_X10_text   (a0 : Nat) (h : MH) : Option (Int32 × MH) :=
  (gR h a0 8).bind fun a_1 =>
  (f_X8_readAll a_1 h).bind fun q_2 =>
  if q_2.1 = 0 then
    some ((-1 : Int32), q_2.2)
  else
    (f_X10_beginAct a0 q_2.2).bind fun q_3 =>
    (gR q_3 a0 0).bind fun a_4 =>
    (gR q_3 a_4 0).bind fun a_5 =>
    (gR q_3 a0 8).bind fun a_6 =>
    (gR q_3 a_6 5).bind fun a_7 =>
    (f_X2_copyFrom a_5 a_7 q_3).bind fun q_8 =>
    (gR q_8 a0 0).bind fun a_9 =>
    (f_X7_forgetRest a_9 q_8).bind fun q_10 =>
    (gR q_10 a0 0).bind fun a_11 =>
    (gR q_10 a_11 0).bind fun a_12 =>
    some ((gI q_10 a_12 1), q_10)
set_option maxRecDepth 100000 in
set_option maxHeartbeats 4000000 in
theorem v_X10_text {l : Launch} {G : GE} {B N : Nat} {S : List SHP} {o : Int32 × MH} {a0 : Nat}    (hs0 : S[a0]? = some (.inl 10)) {h : MH} (hf : f_X10_text a0 h = some o) : V l G B N mX10_text (rmm 15 0 0) false 0 0 (QI S o) S 0 0 0 [(0, .ref a0)] [] h := by
  unfold f_X10_text at hf
  refine V_aload_n (pc' := 1) dX10_text_0 rfl 0 rfl rfl ?_
  refine V_getR (pc' := 4) 10 8 dX10_text_1 rfl (by decide) (Nat.le_of_ble_eq_true rfl) bm_466 hs0 (fun _ _ _ => rfl) rfl hf (fun a_1 ha_1 hf => ?_)
  refine V_cvI (pc' := 7) (As := []) (rest := []) dX10_text_4 rfl mok_X8_readAll bm_1048 8 (by decide) rfl ha_1 rfl rfl (Nat.le_of_ble_eq_true rfl) (by decide) hf (fun q e => ct_X8_readAll ha_1 e) (fun q_2 hf => ?_)
  refine V_if_ne (tgt := 12) (pc' := 10) dX10_text_7 (by decide) rfl hf (fun hf => ?_) (fun hf => ?_)
  ·
    refine V_iconst (v := (-1)) (pc' := 11) dX10_text_10 rfl (by decide) ?_
    obtain rfl := Option.some.inj hf
    exact V_iret dX10_text_11 rfl rfl rfl ⟨rfl, rfl, rfl⟩
  ·
    refine V_aload_n (pc' := 13) dX10_text_12 rfl 0 rfl rfl ?_
    refine V_cvV (pc' := 16) (As := []) (rest := []) dX10_text_13 rfl mok_X10_beginAct bm_514 10 (by decide) rfl hs0 rfl rfl (Nat.le_of_ble_eq_true rfl) (by decide) hf (fun q e => ct_X10_beginAct hs0 e) (fun q_3 hf => ?_)
    refine V_aload_n (pc' := 17) dX10_text_16 rfl 0 rfl rfl ?_
    refine V_getR (pc' := 20) 10 0 dX10_text_17 rfl (by decide) (Nat.le_of_ble_eq_true rfl) bm_458 hs0 (fun _ _ _ => rfl) rfl hf (fun a_4 ha_4 hf => ?_)
    refine V_getR (pc' := 23) 7 0 dX10_text_20 rfl (by decide) (Nat.le_of_ble_eq_true rfl) bm_263 ha_4 (fun _ _ _ => rfl) rfl hf (fun a_5 ha_5 hf => ?_)
    refine V_aload_n (pc' := 24) dX10_text_23 rfl 0 rfl rfl ?_
    refine V_getR (pc' := 27) 10 8 dX10_text_24 rfl (by decide) (Nat.le_of_ble_eq_true rfl) bm_466 hs0 (fun _ _ _ => rfl) rfl hf (fun a_6 ha_6 hf => ?_)
    refine V_getR (pc' := 30) 8 5 dX10_text_27 rfl (by decide) (Nat.le_of_ble_eq_true rfl) bm_327 ha_6 (fun _ _ _ => rfl) rfl hf (fun a_7 ha_7 hf => ?_)
    refine V_cvV (pc' := 33) (As := [.ref a_7]) (rest := []) dX10_text_30 rfl mok_X2_copyFrom bm_1171 2 (by decide) rfl ha_5 rfl rfl (Nat.le_of_ble_eq_true rfl) (by decide) hf (fun q e => ct_X2_copyFrom ha_5 ha_7 e) (fun q_8 hf => ?_)
    refine V_aload_n (pc' := 34) dX10_text_33 rfl 0 rfl rfl ?_
    refine V_getR (pc' := 37) 10 0 dX10_text_34 rfl (by decide) (Nat.le_of_ble_eq_true rfl) bm_458 hs0 (fun _ _ _ => rfl) rfl hf (fun a_9 ha_9 hf => ?_)
    refine V_cvV (pc' := 40) (As := []) (rest := []) dX10_text_37 rfl mok_X7_forgetRest bm_559 7 (by decide) rfl ha_9 rfl rfl (Nat.le_of_ble_eq_true rfl) (by decide) hf (fun q e => ct_X7_forgetRest ha_9 e) (fun q_10 hf => ?_)
    refine V_aload_n (pc' := 41) dX10_text_40 rfl 0 rfl rfl ?_
    refine V_getR (pc' := 44) 10 0 dX10_text_41 rfl (by decide) (Nat.le_of_ble_eq_true rfl) bm_458 hs0 (fun _ _ _ => rfl) rfl hf (fun a_11 ha_11 hf => ?_)
    refine V_getR (pc' := 47) 7 0 dX10_text_44 rfl (by decide) (Nat.le_of_ble_eq_true rfl) bm_263 ha_11 (fun _ _ _ => rfl) rfl hf (fun a_12 ha_12 hf => ?_)
    refine V_getI (pc' := 50) 2 1 dX10_text_47 rfl (by decide) (Nat.le_of_ble_eq_true rfl) bm_189 ha_12 (fun _ _ _ => rfl) ?_
    obtain rfl := Option.some.inj hf
    exact V_iret dX10_text_50 rfl rfl rfl ⟨rfl, rfl, rfl⟩
theorem ct_X10_text {l : Launch} {S : List SHP} {h : MH} {a0 : Nat} (hs0 : S[a0]? = some (.inl 10)) {q : Int32 × MH} (hf : f_X10_text a0 h = some q) : CT l mX10_text 15 false 0 0 S [.ref a0] h (QI S q) :=
  CT_ofV (by decide) rfl (Nat.le_of_ble_eq_true rfl) (fun G B hT => v_X10_text hs0 hf)
/-! LabelStacks.fault(I)I -/
theorem dX10_fault_0 : decode cX10_fault 0 = .ok (.iload_n 1, 1) := by decide +kernel
theorem dX10_fault_1 : decode cX10_fault 1 = .ok (.lookupswitch 43 #[(0, 27), (1, 35)], 27) := by decide +kernel
theorem dX10_fault_28 : decode cX10_fault 28 = .ok (.aload_n 0, 1) := by decide +kernel
theorem dX10_fault_29 : decode cX10_fault 29 = .ok (.getfield 52, 3) := by decide +kernel
theorem dX10_fault_32 : decode cX10_fault 32 = .ok (.getfield 328, 3) := by decide +kernel
theorem dX10_fault_35 : decode cX10_fault 35 = .ok (.ireturn, 1) := by decide +kernel
theorem dX10_fault_36 : decode cX10_fault 36 = .ok (.aload_n 0, 1) := by decide +kernel
theorem dX10_fault_37 : decode cX10_fault 37 = .ok (.getfield 52, 3) := by decide +kernel
theorem dX10_fault_40 : decode cX10_fault 40 = .ok (.getfield 331, 3) := by decide +kernel
theorem dX10_fault_43 : decode cX10_fault 43 = .ok (.ireturn, 1) := by decide +kernel
theorem dX10_fault_44 : decode cX10_fault 44 = .ok (.iconst (-1), 1) := by decide +kernel
theorem dX10_fault_45 : decode cX10_fault 45 = .ok (.ireturn, 1) := by decide +kernel
abbrev mX10_fault : MI := (RX10, yX10_fault, cX10_fault, 2, (some .int))
theorem mok_X10_fault : MOKv mX10_fault 1 := ⟨⟨bm_1175, bm_114, ⟨by decide, by decide⟩, by decide +kernel⟩, bm_1173, bm_1174⟩
def f_X10_fault   (a0 : Nat) (x1 : Int32) (h : MH) : Option (Int32 × MH) :=
  if x1 = 0 then
    (gR h a0 8).bind fun a_1 =>
    some ((gI h a_1 3), h)
  else
  if x1 = 1 then
      (gR h a0 8).bind fun a_2 =>
      some ((gI h a_2 4), h)
  else
      some ((-1 : Int32), h)
set_option maxRecDepth 100000 in
set_option maxHeartbeats 4000000 in
theorem v_X10_fault {l : Launch} {G : GE} {B N : Nat} {S : List SHP} {o : Int32 × MH} {a0 : Nat} {x1 : Int32}    (hs0 : S[a0]? = some (.inl 10)) {h : MH} (hf : f_X10_fault a0 x1 h = some o) : V l G B N mX10_fault (rmm 3 0 0) false 0 0 (QI S o) S 0 0 0 [(0, .ref a0), (1, .int x1)] [] h := by
  unfold f_X10_fault at hf
  refine V_iload_n (pc' := 1) dX10_fault_0 rfl 1 rfl rfl ?_
  by_cases cc0 : x1 = 0
  ·
    replace hf := (if_pos cc0).symm.trans hf
    refine V_look (off := 27) (tgt := 28) dX10_fault_1 (by decide) (by rw [cc0]; rfl) (by decide) ?_
    refine V_aload_n (pc' := 29) dX10_fault_28 rfl 0 rfl rfl ?_
    refine V_getR (pc' := 32) 10 8 dX10_fault_29 rfl (by decide) (Nat.le_of_ble_eq_true rfl) bm_466 hs0 (fun _ _ _ => rfl) rfl hf (fun a_1 ha_1 hf => ?_)
    refine V_getI (pc' := 35) 8 3 dX10_fault_32 rfl (by decide) (Nat.le_of_ble_eq_true rfl) bm_323 ha_1 (fun _ _ _ => rfl) ?_
    obtain rfl := Option.some.inj hf
    exact V_iret dX10_fault_35 rfl rfl rfl ⟨rfl, rfl, rfl⟩
  ·
    replace hf := (if_neg cc0).symm.trans hf
    by_cases cc1 : x1 = 1
    ·
      replace hf := (if_pos cc1).symm.trans hf
      refine V_look (off := 35) (tgt := 36) dX10_fault_1 (by decide) (by rw [cc1]; rfl) (by decide) ?_
      refine V_aload_n (pc' := 37) dX10_fault_36 rfl 0 rfl rfl ?_
      refine V_getR (pc' := 40) 10 8 dX10_fault_37 rfl (by decide) (Nat.le_of_ble_eq_true rfl) bm_466 hs0 (fun _ _ _ => rfl) rfl hf (fun a_2 ha_2 hf => ?_)
      refine V_getI (pc' := 43) 8 4 dX10_fault_40 rfl (by decide) (Nat.le_of_ble_eq_true rfl) bm_325 ha_2 (fun _ _ _ => rfl) ?_
      obtain rfl := Option.some.inj hf
      exact V_iret dX10_fault_43 rfl rfl rfl ⟨rfl, rfl, rfl⟩
    ·
      replace hf := (if_neg cc1).symm.trans hf
      refine V_look (off := 43) (tgt := 44) dX10_fault_1 (by decide) (by have e0 := tI_ne (z := 0) (by decide) cc0; have e1 := tI_ne (z := 1) (by decide) cc1; simp [Op.lookupswitch.offset, e0, e0.symm, e1, e1.symm]) (by decide) ?_
      refine V_iconst (v := (-1)) (pc' := 45) dX10_fault_44 rfl (by decide) ?_
      obtain rfl := Option.some.inj hf
      exact V_iret dX10_fault_45 rfl rfl rfl ⟨rfl, rfl, rfl⟩
theorem ct_X10_fault {l : Launch} {S : List SHP} {h : MH} {a0 : Nat} {x1 : Int32} (hs0 : S[a0]? = some (.inl 10)) {q : Int32 × MH} (hf : f_X10_fault a0 x1 h = some q) : CT l mX10_fault 3 false 0 0 S [.ref a0, .int x1] h (QI S q) :=
  CT_ofV (by decide) rfl (Nat.le_of_ble_eq_true rfl) (fun G B hT => v_X10_fault hs0 hf)
/-! LabelStacks.undo()I -/
theorem dX10_undo_0 : decode cX10_undo 0 = .ok (.aload_n 0, 1) := by decide +kernel
theorem dX10_undo_1 : decode cX10_undo 1 = .ok (.getfield 32, 3) := by decide +kernel
theorem dX10_undo_4 : decode cX10_undo 4 = .ok (.aload_n 0, 1) := by decide +kernel
theorem dX10_undo_5 : decode cX10_undo 5 = .ok (.getfield 12, 3) := by decide +kernel
theorem dX10_undo_8 : decode cX10_undo 8 = .ok (.invokevirtual 334, 3) := by decide +kernel
theorem dX10_undo_11 : decode cX10_undo 11 = .ok (.ifCond .ne 5, 3) := by decide +kernel
theorem dX10_undo_14 : decode cX10_undo 14 = .ok (.iconst (-1), 1) := by decide +kernel
theorem dX10_undo_15 : decode cX10_undo 15 = .ok (.ireturn, 1) := by decide +kernel
theorem dX10_undo_16 : decode cX10_undo 16 = .ok (.aload_n 0, 1) := by decide +kernel
theorem dX10_undo_17 : decode cX10_undo 17 = .ok (.iconst 1, 1) := by decide +kernel
theorem dX10_undo_18 : decode cX10_undo 18 = .ok (.putfield 69, 3) := by decide +kernel
theorem dX10_undo_21 : decode cX10_undo 21 = .ok (.aload_n 0, 1) := by decide +kernel
theorem dX10_undo_22 : decode cX10_undo 22 = .ok (.getfield 32, 3) := by decide +kernel
theorem dX10_undo_25 : decode cX10_undo 25 = .ok (.getfield 338, 3) := by decide +kernel
theorem dX10_undo_28 : decode cX10_undo 28 = .ok (.ireturn, 1) := by decide +kernel
abbrev mX10_undo : MI := (RX10, yX10_undo, cX10_undo, 1, (some .int))
theorem mok_X10_undo : MOKv mX10_undo 0 := ⟨⟨bm_1179, bm_114, ⟨by decide, by decide⟩, by decide +kernel⟩, bm_1177, bm_1178⟩
def f_X10_undo   (a0 : Nat) (h : MH) : Option (Int32 × MH) :=
  (gR h a0 3).bind fun a_1 =>
  (gR h a0 0).bind fun a_2 =>
  (f_X0_restore a_1 a_2 h).bind fun q_3 =>
  if q_3.1 = 0 then
    some ((-1 : Int32), q_3.2)
  else
    lt (sI q_3.2 a0 12 1) fun h_4 =>
    (gR h_4 a0 3).bind fun a_5 =>
    some ((gI h_4 a_5 1), h_4)
set_option maxRecDepth 100000 in
set_option maxHeartbeats 4000000 in
theorem v_X10_undo {l : Launch} {G : GE} {B N : Nat} {S : List SHP} {o : Int32 × MH} {a0 : Nat}    (hs0 : S[a0]? = some (.inl 10)) {h : MH} (hf : f_X10_undo a0 h = some o) : V l G B N mX10_undo (rmm 7 0 0) false 0 0 (QI S o) S 0 0 0 [(0, .ref a0)] [] h := by
  unfold f_X10_undo at hf
  refine V_aload_n (pc' := 1) dX10_undo_0 rfl 0 rfl rfl ?_
  refine V_getR (pc' := 4) 10 3 dX10_undo_1 rfl (by decide) (Nat.le_of_ble_eq_true rfl) bm_461 hs0 (fun _ _ _ => rfl) rfl hf (fun a_1 ha_1 hf => ?_)
  refine V_aload_n (pc' := 5) dX10_undo_4 rfl 0 rfl rfl ?_
  refine V_getR (pc' := 8) 10 0 dX10_undo_5 rfl (by decide) (Nat.le_of_ble_eq_true rfl) bm_458 hs0 (fun _ _ _ => rfl) rfl hf (fun a_2 ha_2 hf => ?_)
  refine V_cvI (pc' := 11) (As := [.ref a_2]) (rest := []) dX10_undo_8 rfl mok_X0_restore bm_1180 0 (by decide) rfl ha_1 rfl rfl (Nat.le_of_ble_eq_true rfl) (by decide) hf (fun q e => ct_X0_restore ha_1 ha_2 e) (fun q_3 hf => ?_)
  refine V_if_ne (tgt := 16) (pc' := 14) dX10_undo_11 (by decide) rfl hf (fun hf => ?_) (fun hf => ?_)
  ·
    refine V_iconst (v := (-1)) (pc' := 15) dX10_undo_14 rfl (by decide) ?_
    obtain rfl := Option.some.inj hf
    exact V_iret dX10_undo_15 rfl rfl rfl ⟨rfl, rfl, rfl⟩
  ·
    refine V_aload_n (pc' := 17) dX10_undo_16 rfl 0 rfl rfl ?_
    refine V_iconst (v := 1) (pc' := 18) dX10_undo_17 rfl (by decide) ?_
    refine V_putZL (pc' := 21) 10 12 dX10_undo_18 rfl (by decide) (Nat.le_of_ble_eq_true rfl) bm_470 hs0 rfl rfl (by decide) ?_
    refine V_nmH hf (fun h_4 hf => ?_)
    refine V_aload_n (pc' := 22) dX10_undo_21 rfl 0 rfl rfl ?_
    refine V_getR (pc' := 25) 10 3 dX10_undo_22 rfl (by decide) (Nat.le_of_ble_eq_true rfl) bm_461 hs0 (fun _ _ _ => rfl) rfl hf (fun a_5 ha_5 hf => ?_)
    refine V_getI (pc' := 28) 0 1 dX10_undo_25 rfl (by decide) (Nat.le_of_ble_eq_true rfl) bm_304 ha_5 (fun _ _ _ => rfl) ?_
    obtain rfl := Option.some.inj hf
    exact V_iret dX10_undo_28 rfl rfl rfl ⟨rfl, rfl, rfl⟩
theorem ct_X10_undo {l : Launch} {S : List SHP} {h : MH} {a0 : Nat} (hs0 : S[a0]? = some (.inl 10)) {q : Int32 × MH} (hf : f_X10_undo a0 h = some q) : CT l mX10_undo 7 false 0 0 S [.ref a0] h (QI S q) :=
  CT_ofV (by decide) rfl (Nat.le_of_ble_eq_true rfl) (fun G B hT => v_X10_undo hs0 hf)
