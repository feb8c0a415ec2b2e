/-! LabelStacks.beginAct()V -/
theorem dX10_beginAct_0 : decode cX10_beginAct 0 = .ok (.aload_n 0, 1) := by decide +kernel
theorem dX10_beginAct_1 : decode cX10_beginAct 1 = .ok (.getfield 32, 3) := by decide +kernel
theorem dX10_beginAct_4 : decode cX10_beginAct 4 = .ok (.aload_n 0, 1) := by decide +kernel
theorem dX10_beginAct_5 : decode cX10_beginAct 5 = .ok (.getfield 12, 3) := by decide +kernel
theorem dX10_beginAct_8 : decode cX10_beginAct 8 = .ok (.invokevirtual 379, 3) := by decide +kernel
theorem dX10_beginAct_11 : decode cX10_beginAct 11 = .ok (.aload_n 0, 1) := by decide +kernel
theorem dX10_beginAct_12 : decode cX10_beginAct 12 = .ok (.iconst 1, 1) := by decide +kernel
theorem dX10_beginAct_13 : decode cX10_beginAct 13 = .ok (.putfield 69, 3) := by decide +kernel
theorem dX10_beginAct_16 : decode cX10_beginAct 16 = .ok (.return_, 1) := by decide +kernel
abbrev mX10_beginAct : MI := (RX10, yX10_beginAct, cX10_beginAct, 1, none)
theorem mok_X10_beginAct : MOKv mX10_beginAct 0 := ⟨⟨bm_517, bm_114, ⟨by decide, by decide⟩, by decide +kernel⟩, bm_516, bm_0⟩
def f_X10_beginAct   (a0 : Nat) (h : MH) : Option (MH) :=
  (gR h a0 3).bind fun a_1 =>
  (gR h a0 0).bind fun a_2 =>
  (f_X0_save a_1 a_2 h).bind fun q_3 =>
  lt (sI q_3 a0 12 1) fun h_4 =>
  some h_4
set_option maxRecDepth 100000 in
set_option maxHeartbeats 4000000 in
theorem v_X10_beginAct {l : Launch} {G : GE} {B N : Nat} {S : List SHP} {o : MH} {a0 : Nat}    (hs0 : S[a0]? = some (.inl 10)) {h : MH} (hf : f_X10_beginAct a0 h = some o) : V l G B N mX10_beginAct (rmm 7 0 0) false 0 0 (QV S o) S 0 0 0 [(0, .ref a0)] [] h := by
  unfold f_X10_beginAct at hf
  refine V_aload_n (pc' := 1) dX10_beginAct_0 rfl 0 rfl rfl ?_
  refine V_getR (pc' := 4) 10 3 dX10_beginAct_1 rfl (by decide) (Nat.le_of_ble_eq_true rfl) bm_461 hs0 (fun _ _ _ => rfl) rfl hf (fun a_1 ha_1 hf => ?_)
  refine V_aload_n (pc' := 5) dX10_beginAct_4 rfl 0 rfl rfl ?_
  refine V_getR (pc' := 8) 10 0 dX10_beginAct_5 rfl (by decide) (Nat.le_of_ble_eq_true rfl) bm_458 hs0 (fun _ _ _ => rfl) rfl hf (fun a_2 ha_2 hf => ?_)
  refine V_cvV (pc' := 11) (As := [.ref a_2]) (rest := []) dX10_beginAct_8 rfl mok_X0_save bm_518 0 (by decide) rfl ha_1 rfl rfl (Nat.le_of_ble_eq_true rfl) (by decide) hf (fun q e => ct_X0_save ha_1 ha_2 e) (fun q_3 hf => ?_)
  refine V_aload_n (pc' := 12) dX10_beginAct_11 rfl 0 rfl rfl ?_
  refine V_iconst (v := 1) (pc' := 13) dX10_beginAct_12 rfl (by decide) ?_
  refine V_putZL (pc' := 16) 10 12 dX10_beginAct_13 rfl (by decide) (Nat.le_of_ble_eq_true rfl) bm_470 hs0 rfl rfl (by decide) ?_
  refine V_nmH hf (fun h_4 hf => ?_)
  obtain rfl := Option.some.inj hf
  exact V_vret dX10_beginAct_16 rfl rfl rfl ⟨rfl, rfl, rfl⟩
theorem ct_X10_beginAct {l : Launch} {S : List SHP} {h : MH} {a0 : Nat} (hs0 : S[a0]? = some (.inl 10)) {q : MH} (hf : f_X10_beginAct a0 h = some q) : CT l mX10_beginAct 7 false 0 0 S [.ref a0] h (QV S q) :=
  CT_ofV (by decide) rfl (Nat.le_of_ble_eq_true rfl) (fun G B hT => v_X10_beginAct hs0 hf)
/-! LabelStacks.nodes(I)Z -/
theorem dX10_nodes_0 : decode cX10_nodes 0 = .ok (.iload_n 1, 1) := by decide +kernel
theorem dX10_nodes_1 : decode cX10_nodes 1 = .ok (.iconst 2, 1) := by decide +kernel
theorem dX10_nodes_2 : decode cX10_nodes 2 = .ok (.if_icmp .lt 9, 3) := by decide +kernel
theorem dX10_nodes_5 : decode cX10_nodes 5 = .ok (.iload_n 1, 1) := by decide +kernel
theorem dX10_nodes_6 : decode cX10_nodes 6 = .ok (.bipush 10, 2) := by decide +kernel
theorem dX10_nodes_8 : decode cX10_nodes 8 = .ok (.if_icmp .le 5, 3) := by decide +kernel
theorem dX10_nodes_11 : decode cX10_nodes 11 = .ok (.iconst 0, 1) := by decide +kernel
theorem dX10_nodes_12 : decode cX10_nodes 12 = .ok (.ireturn, 1) := by decide +kernel
theorem dX10_nodes_13 : decode cX10_nodes 13 = .ok (.aload_n 0, 1) := by decide +kernel
theorem dX10_nodes_14 : decode cX10_nodes 14 = .ok (.invokevirtual 96, 3) := by decide +kernel
theorem dX10_nodes_17 : decode cX10_nodes 17 = .ok (.aload_n 0, 1) := by decide +kernel
theorem dX10_nodes_18 : decode cX10_nodes 18 = .ok (.getfield 12, 3) := by decide +kernel
theorem dX10_nodes_21 : decode cX10_nodes 21 = .ok (.getfield 99, 3) := by decide +kernel
theorem dX10_nodes_24 : decode cX10_nodes 24 = .ok (.iload_n 1, 1) := by decide +kernel
theorem dX10_nodes_25 : decode cX10_nodes 25 = .ok (.invokevirtual 103, 3) := by decide +kernel
theorem dX10_nodes_28 : decode cX10_nodes 28 = .ok (.aload_n 0, 1) := by decide +kernel
theorem dX10_nodes_29 : decode cX10_nodes 29 = .ok (.getfield 12, 3) := by decide +kernel
theorem dX10_nodes_32 : decode cX10_nodes 32 = .ok (.invokevirtual 108, 3) := by decide +kernel
theorem dX10_nodes_35 : decode cX10_nodes 35 = .ok (.iconst 1, 1) := by decide +kernel
theorem dX10_nodes_36 : decode cX10_nodes 36 = .ok (.ireturn, 1) := by decide +kernel
abbrev mX10_nodes : MI := (RX10, yX10_nodes, cX10_nodes, 2, (some .boolean))
theorem mok_X10_nodes : MOKv mX10_nodes 1 := ⟨⟨bm_513, bm_114, ⟨by decide, by decide⟩, by decide +kernel⟩, bm_511, bm_512⟩
def f_X10_nodes   (a0 : Nat) (x1 : Int32) (h : MH) : Option (Int32 × MH) :=
  if x1 < 2 then
    some (0, h)
  else
    if 10 < x1 then
      some (0, h)
    else
      (f_X10_beginAct a0 h).bind fun q_1 =>
      (gR q_1 a0 0).bind fun a_2 =>
      (gR q_1 a_2 0).bind fun a_3 =>
      (f_X2_reset a_3 x1 q_1).bind fun q_4 =>
      (gR q_4 a0 0).bind fun a_5 =>
      (f_X7_forgetRest a_5 q_4).bind fun q_6 =>
      some (1, q_6)
set_option maxRecDepth 100000 in
set_option maxHeartbeats 4000000 in
theorem v_X10_nodes {l : Launch} {G : GE} {B N : Nat} {S : List SHP} {o : Int32 × MH} {a0 : Nat} {x1 : Int32}    (hs0 : S[a0]? = some (.inl 10)) {h : MH} (hf : f_X10_nodes a0 x1 h = some o) : V l G B N mX10_nodes (rmm 8 0 0) false 0 0 (QI S o) S 0 0 0 [(0, .ref a0), (1, .int x1)] [] h := by
  unfold f_X10_nodes at hf
  refine V_iload_n (pc' := 1) dX10_nodes_0 rfl 1 rfl rfl ?_
  refine V_iconst (v := 2) (pc' := 2) dX10_nodes_1 rfl (by decide) ?_
  refine V_icmp_lt (tgt := 11) (pc' := 5) dX10_nodes_2 (by decide) rfl hf (fun hf => ?_) (fun hf => ?_)
  ·
    refine V_iconst (v := 0) (pc' := 12) dX10_nodes_11 rfl (by decide) ?_
    obtain rfl := Option.some.inj hf
    exact V_zretL dX10_nodes_12 rfl rfl rfl (by decide) ⟨rfl, rfl, rfl⟩
  ·
    refine V_iload_n (pc' := 6) dX10_nodes_5 rfl 1 rfl rfl ?_
    refine V_bipush (v := 10) (pc' := 8) dX10_nodes_6 rfl (by decide) ?_
    refine V_icmp_le (tgt := 13) (pc' := 11) dX10_nodes_8 (by decide) rfl hf (fun hf => ?_) (fun hf => ?_)
    ·
      refine V_iconst (v := 0) (pc' := 12) dX10_nodes_11 rfl (by decide) ?_
      obtain rfl := Option.some.inj hf
      exact V_zretL dX10_nodes_12 rfl rfl rfl (by decide) ⟨rfl, rfl, rfl⟩
    ·
      refine V_aload_n (pc' := 14) dX10_nodes_13 rfl 0 rfl rfl ?_
      refine V_cvV (pc' := 17) (As := []) (rest := []) dX10_nodes_14 rfl mok_X10_beginAct bm_514 10 (by decide) rfl hs0 rfl rfl (Nat.le_of_ble_eq_true rfl) (by decide) hf (fun q e => ct_X10_beginAct hs0 e) (fun q_1 hf => ?_)
      refine V_aload_n (pc' := 18) dX10_nodes_17 rfl 0 rfl rfl ?_
      refine V_getR (pc' := 21) 10 0 dX10_nodes_18 rfl (by decide) (Nat.le_of_ble_eq_true rfl) bm_458 hs0 (fun _ _ _ => rfl) rfl hf (fun a_2 ha_2 hf => ?_)
      refine V_getR (pc' := 24) 7 0 dX10_nodes_21 rfl (by decide) (Nat.le_of_ble_eq_true rfl) bm_263 ha_2 (fun _ _ _ => rfl) rfl hf (fun a_3 ha_3 hf => ?_)
      refine V_iload_n (pc' := 25) dX10_nodes_24 rfl 1 rfl rfl ?_
      refine V_cvV (pc' := 28) (As := [.int x1]) (rest := []) dX10_nodes_25 rfl mok_X2_reset bm_549 2 (by decide) rfl ha_3 rfl rfl (Nat.le_of_ble_eq_true rfl) (by decide) hf (fun q e => ct_X2_reset ha_3 e) (fun q_4 hf => ?_)
      refine V_aload_n (pc' := 29) dX10_nodes_28 rfl 0 rfl rfl ?_
      refine V_getR (pc' := 32) 10 0 dX10_nodes_29 rfl (by decide) (Nat.le_of_ble_eq_true rfl) bm_458 hs0 (fun _ _ _ => rfl) rfl hf (fun a_5 ha_5 hf => ?_)
      refine V_cvV (pc' := 35) (As := []) (rest := []) dX10_nodes_32 rfl mok_X7_forgetRest bm_559 7 (by decide) rfl ha_5 rfl rfl (Nat.le_of_ble_eq_true rfl) (by decide) hf (fun q e => ct_X7_forgetRest ha_5 e) (fun q_6 hf => ?_)
      refine V_iconst (v := 1) (pc' := 36) dX10_nodes_35 rfl (by decide) ?_
      obtain rfl := Option.some.inj hf
      exact V_zretL dX10_nodes_36 rfl rfl rfl (by decide) ⟨rfl, rfl, rfl⟩
theorem ct_X10_nodes {l : Launch} {S : List SHP} {h : MH} {a0 : Nat} {x1 : Int32} (hs0 : S[a0]? = some (.inl 10)) {q : Int32 × MH} (hf : f_X10_nodes a0 x1 h = some q) : CT l mX10_nodes 8 false 0 0 S [.ref a0, .int x1] h (QI S q) :=
  CT_ofV (by decide) rfl (Nat.le_of_ble_eq_true rfl) (fun G B hT => v_X10_nodes hs0 hf)
/-! LabelStacks.isAmount(I)Z -/
theorem dX10_isAmount_0 : decode cX10_isAmount 0 = .ok (.iload_n 0, 1) := by decide +kernel
theorem dX10_isAmount_1 : decode cX10_isAmount 1 = .ok (.iconst 1, 1) := by decide +kernel
theorem dX10_isAmount_2 : decode cX10_isAmount 2 = .ok (.if_icmp .lt 13, 3) := by decide +kernel
theorem dX10_isAmount_5 : decode cX10_isAmount 5 = .ok (.iload_n 0, 1) := by decide +kernel
theorem dX10_isAmount_6 : decode cX10_isAmount 6 = .ok (.bipush 99, 2) := by decide +kernel
theorem dX10_isAmount_8 : decode cX10_isAmount 8 = .ok (.if_icmp .gt 7, 3) := by decide +kernel
theorem dX10_isAmount_11 : decode cX10_isAmount 11 = .ok (.iconst 1, 1) := by decide +kernel
theorem dX10_isAmount_12 : decode cX10_isAmount 12 = .ok (.goto 4, 3) := by decide +kernel
theorem dX10_isAmount_15 : decode cX10_isAmount 15 = .ok (.iconst 0, 1) := by decide +kernel
theorem dX10_isAmount_16 : decode cX10_isAmount 16 = .ok (.ireturn, 1) := by decide +kernel
abbrev mX10_isAmount : MI := (RX10, yX10_isAmount, cX10_isAmount, 1, (some .boolean))
theorem mok_X10_isAmount : MOKs mX10_isAmount 1 := ⟨⟨bm_575, bm_114, ⟨by decide, by decide⟩, by decide +kernel⟩, bm_574⟩
def f_X10_isAmount   (x0 : Int32) (h : MH) : Option (Int32 × MH) :=
  if x0 < 1 then
    some (0, h)
  else
    if 99 < x0 then
      some (0, h)
    else
      some (1, h)
set_option maxRecDepth 100000 in
set_option maxHeartbeats 4000000 in
theorem v_X10_isAmount {l : Launch} {G : GE} {B N : Nat} {S : List SHP} {o : Int32 × MH} {x0 : Int32}     {h : MH} (hf : f_X10_isAmount x0 h = some o) : V l G B N mX10_isAmount (rmm 3 0 0) false 0 0 (QI S o) S 0 0 0 [(0, .int x0)] [] h := by
  unfold f_X10_isAmount at hf
  refine V_iload_n (pc' := 1) dX10_isAmount_0 rfl 0 rfl rfl ?_
  refine V_iconst (v := 1) (pc' := 2) dX10_isAmount_1 rfl (by decide) ?_
  refine V_icmp_lt (tgt := 15) (pc' := 5) dX10_isAmount_2 (by decide) rfl hf (fun hf => ?_) (fun hf => ?_)
  ·
    refine V_iconst (v := 0) (pc' := 16) dX10_isAmount_15 rfl (by decide) ?_
    obtain rfl := Option.some.inj hf
    exact V_zretL dX10_isAmount_16 rfl rfl rfl (by decide) ⟨rfl, rfl, rfl⟩
  ·
    refine V_iload_n (pc' := 6) dX10_isAmount_5 rfl 0 rfl rfl ?_
    refine V_bipush (v := 99) (pc' := 8) dX10_isAmount_6 rfl (by decide) ?_
    refine V_icmp_gt (tgt := 15) (pc' := 11) dX10_isAmount_8 (by decide) rfl hf (fun hf => ?_) (fun hf => ?_)
    ·
      refine V_iconst (v := 0) (pc' := 16) dX10_isAmount_15 rfl (by decide) ?_
      obtain rfl := Option.some.inj hf
      exact V_zretL dX10_isAmount_16 rfl rfl rfl (by decide) ⟨rfl, rfl, rfl⟩
    ·
      refine V_iconst (v := 1) (pc' := 12) dX10_isAmount_11 rfl (by decide) ?_
      refine V_goto (tgt := 16) dX10_isAmount_12 (by decide) ?_
      obtain rfl := Option.some.inj hf
      exact V_zretL dX10_isAmount_16 rfl rfl rfl (by decide) ⟨rfl, rfl, rfl⟩
theorem ct_X10_isAmount {l : Launch} {S : List SHP} {h : MH} {x0 : Int32}  {q : Int32 × MH} (hf : f_X10_isAmount x0 h = some q) : CT l mX10_isAmount 3 false 0 0 S [.int x0] h (QI S q) :=
  CT_ofV (by decide) rfl (Nat.le_of_ble_eq_true rfl) (fun G B hT => v_X10_isAmount  hf)
/-! LabelStacks.link(III)I -/
theorem dX10_link_0 : decode cX10_link 0 = .ok (.aload_n 0, 1) := by decide +kernel
theorem dX10_link_1 : decode cX10_link 1 = .ok (.getfield 12, 3) := by decide +kernel
theorem dX10_link_4 : decode cX10_link 4 = .ok (.getfield 99, 3) := by decide +kernel
theorem dX10_link_7 : decode cX10_link 7 = .ok (.astore 4, 2) := by decide +kernel
theorem dX10_link_9 : decode cX10_link 9 = .ok (.aload 4, 2) := by decide +kernel
theorem dX10_link_11 : decode cX10_link 11 = .ok (.iload_n 1, 1) := by decide +kernel
theorem dX10_link_12 : decode cX10_link 12 = .ok (.invokevirtual 111, 3) := by decide +kernel
theorem dX10_link_15 : decode cX10_link 15 = .ok (.ifCond .eq 24, 3) := by decide +kernel
theorem dX10_link_18 : decode cX10_link 18 = .ok (.aload 4, 2) := by decide +kernel
theorem dX10_link_20 : decode cX10_link 20 = .ok (.iload_n 2, 1) := by decide +kernel
theorem dX10_link_21 : decode cX10_link 21 = .ok (.invokevirtual 111, 3) := by decide +kernel
theorem dX10_link_24 : decode cX10_link 24 = .ok (.ifCond .eq 15, 3) := by decide +kernel
theorem dX10_link_27 : decode cX10_link 27 = .ok (.iload_n 1, 1) := by decide +kernel
theorem dX10_link_28 : decode cX10_link 28 = .ok (.iload_n 2, 1) := by decide +kernel
theorem dX10_link_29 : decode cX10_link 29 = .ok (.if_icmp .eq 10, 3) := by decide +kernel
theorem dX10_link_32 : decode cX10_link 32 = .ok (.iload_n 3, 1) := by decide +kernel
theorem dX10_link_33 : decode cX10_link 33 = .ok (.invokestatic 115, 3) := by decide +kernel
theorem dX10_link_36 : decode cX10_link 36 = .ok (.ifCond .ne 5, 3) := by decide +kernel
theorem dX10_link_39 : decode cX10_link 39 = .ok (.iconst (-1), 1) := by decide +kernel
theorem dX10_link_40 : decode cX10_link 40 = .ok (.ireturn, 1) := by decide +kernel
theorem dX10_link_41 : decode cX10_link 41 = .ok (.aload 4, 2) := by decide +kernel
theorem dX10_link_43 : decode cX10_link 43 = .ok (.getfield 118, 3) := by decide +kernel
theorem dX10_link_46 : decode cX10_link 46 = .ok (.bipush 30, 2) := by decide +kernel
theorem dX10_link_48 : decode cX10_link 48 = .ok (.if_icmp .lt 5, 3) := by decide +kernel
theorem dX10_link_51 : decode cX10_link 51 = .ok (.iconst (-1), 1) := by decide +kernel
theorem dX10_link_52 : decode cX10_link 52 = .ok (.ireturn, 1) := by decide +kernel
theorem dX10_link_53 : decode cX10_link 53 = .ok (.aload_n 0, 1) := by decide +kernel
theorem dX10_link_54 : decode cX10_link 54 = .ok (.invokevirtual 96, 3) := by decide +kernel
theorem dX10_link_57 : decode cX10_link 57 = .ok (.aload 4, 2) := by decide +kernel
theorem dX10_link_59 : decode cX10_link 59 = .ok (.iload_n 1, 1) := by decide +kernel
theorem dX10_link_60 : decode cX10_link 60 = .ok (.iload_n 2, 1) := by decide +kernel
theorem dX10_link_61 : decode cX10_link 61 = .ok (.iload_n 3, 1) := by decide +kernel
theorem dX10_link_62 : decode cX10_link 62 = .ok (.iconst 1, 1) := by decide +kernel
theorem dX10_link_63 : decode cX10_link 63 = .ok (.invokevirtual 121, 3) := by decide +kernel
theorem dX10_link_66 : decode cX10_link 66 = .ok (.ireturn, 1) := by decide +kernel
abbrev mX10_link : MI := (RX10, yX10_link, cX10_link, 5, (some .int))
theorem mok_X10_link : MOKv mX10_link 3 := ⟨⟨bm_568, bm_114, ⟨by decide, by decide⟩, by decide +kernel⟩, bm_566, bm_567⟩
def f_X10_link   (a0 : Nat) (x1 : Int32) (x2 : Int32) (x3 : Int32) (h : MH) : Option (Int32 × MH) :=
  (gR h a0 0).bind fun a_1 =>
  (gR h a_1 0).bind fun a_2 =>
  (f_X2_hasNode a_2 x1 h).bind fun q_3 =>
  if q_3.1 = 0 then
    some ((-1 : Int32), q_3.2)
  else
    (f_X2_hasNode a_2 x2 q_3.2).bind fun q_4 =>
    if q_4.1 = 0 then
      some ((-1 : Int32), q_4.2)
    else
      if x1 = x2 then
        some ((-1 : Int32), q_4.2)
      else
        (f_X10_isAmount x3 q_4.2).bind fun q_5 =>
        if q_5.1 = 0 then
          some ((-1 : Int32), q_5.2)
        else
          if (gI q_5.2 a_2 1) < 30 then
            (f_X10_beginAct a0 q_5.2).bind fun q_6 =>
            (f_X2_addLink a_2 x1 x2 x3 1 q_6).bind fun q_7 =>
            some (q_7.1, q_7.2)
          else
            some ((-1 : Int32), q_5.2)
set_option maxRecDepth 100000 in
set_option maxHeartbeats 4000000 in
theorem v_X10_link {l : Launch} {G : GE} {B N : Nat} {S : List SHP} {o : Int32 × MH} {a0 : Nat} {x1 : Int32} {x2 : Int32} {x3 : Int32}    (hs0 : S[a0]? = some (.inl 10)) {h : MH} (hf : f_X10_link a0 x1 x2 x3 h = some o) : V l G B N mX10_link (rmm 8 0 0) false 0 0 (QI S o) S 0 0 0 [(0, .ref a0), (1, .int x1), (2, .int x2), (3, .int x3)] [] h := by
  unfold f_X10_link at hf
  refine V_aload_n (pc' := 1) dX10_link_0 rfl 0 rfl rfl ?_
  refine V_getR (pc' := 4) 10 0 dX10_link_1 rfl (by decide) (Nat.le_of_ble_eq_true rfl) bm_458 hs0 (fun _ _ _ => rfl) rfl hf (fun a_1 ha_1 hf => ?_)
  refine V_getR (pc' := 7) 7 0 dX10_link_4 rfl (by decide) (Nat.le_of_ble_eq_true rfl) bm_263 ha_1 (fun _ _ _ => rfl) rfl hf (fun a_2 ha_2 hf => ?_)
  refine V_astore (lv' := [(4, .ref a_2), (0, .ref a0), (1, .int x1), (2, .int x2), (3, .int x3)]) (pc' := 9) dX10_link_7 rfl (Nat.le_of_ble_eq_true rfl) rfl ?_
  refine V_aload (pc' := 11) dX10_link_9 rfl 0 rfl ?_
  refine V_iload_n (pc' := 12) dX10_link_11 rfl 2 rfl rfl ?_
  refine V_cvI (pc' := 15) (As := [.int x1]) (rest := []) dX10_link_12 rfl mok_X2_hasNode bm_569 2 (by decide) rfl ha_2 rfl rfl (Nat.le_of_ble_eq_true rfl) (by decide) hf (fun q e => ct_X2_hasNode ha_2 e) (fun q_3 hf => ?_)
  refine V_if_eq (tgt := 39) (pc' := 18) dX10_link_15 (by decide) rfl hf (fun hf => ?_) (fun hf => ?_)
  ·
    refine V_iconst (v := (-1)) (pc' := 40) dX10_link_39 rfl (by decide) ?_
    obtain rfl := Option.some.inj hf
    exact V_iret dX10_link_40 rfl rfl rfl ⟨rfl, rfl, rfl⟩
  ·
    refine V_aload (pc' := 20) dX10_link_18 rfl 0 rfl ?_
    refine V_iload_n (pc' := 21) dX10_link_20 rfl 3 rfl rfl ?_
    refine V_cvI (pc' := 24) (As := [.int x2]) (rest := []) dX10_link_21 rfl mok_X2_hasNode bm_569 2 (by decide) rfl ha_2 rfl rfl (Nat.le_of_ble_eq_true rfl) (by decide) hf (fun q e => ct_X2_hasNode ha_2 e) (fun q_4 hf => ?_)
    refine V_if_eq (tgt := 39) (pc' := 27) dX10_link_24 (by decide) rfl hf (fun hf => ?_) (fun hf => ?_)
    ·
      refine V_iconst (v := (-1)) (pc' := 40) dX10_link_39 rfl (by decide) ?_
      obtain rfl := Option.some.inj hf
      exact V_iret dX10_link_40 rfl rfl rfl ⟨rfl, rfl, rfl⟩
    ·
      refine V_iload_n (pc' := 28) dX10_link_27 rfl 2 rfl rfl ?_
      refine V_iload_n (pc' := 29) dX10_link_28 rfl 3 rfl rfl ?_
      refine V_icmp_eq (tgt := 39) (pc' := 32) dX10_link_29 (by decide) rfl hf (fun hf => ?_) (fun hf => ?_)
      ·
        refine V_iconst (v := (-1)) (pc' := 40) dX10_link_39 rfl (by decide) ?_
        obtain rfl := Option.some.inj hf
        exact V_iret dX10_link_40 rfl rfl rfl ⟨rfl, rfl, rfl⟩
      ·
        refine V_iload_n (pc' := 33) dX10_link_32 rfl 4 rfl rfl ?_
        refine V_csI (pc' := 36) (As := [.int x3]) (rest := []) dX10_link_33 rfl mok_X10_isAmount bm_573 rfl rfl (Nat.le_of_ble_eq_true rfl) (by decide) hf (fun q e => ct_X10_isAmount  e) (fun q_5 hf => ?_)
        refine V_if_ne (tgt := 41) (pc' := 39) dX10_link_36 (by decide) rfl hf (fun hf => ?_) (fun hf => ?_)
        ·
          refine V_iconst (v := (-1)) (pc' := 40) dX10_link_39 rfl (by decide) ?_
          obtain rfl := Option.some.inj hf
          exact V_iret dX10_link_40 rfl rfl rfl ⟨rfl, rfl, rfl⟩
        ·
          refine V_aload (pc' := 43) dX10_link_41 rfl 0 rfl ?_
          refine V_getI (pc' := 46) 2 1 dX10_link_43 rfl (by decide) (Nat.le_of_ble_eq_true rfl) bm_189 ha_2 (fun _ _ _ => rfl) ?_
          refine V_bipush (v := 30) (pc' := 48) dX10_link_46 rfl (by decide) ?_
          refine V_icmp_lt (tgt := 53) (pc' := 51) dX10_link_48 (by decide) rfl hf (fun hf => ?_) (fun hf => ?_)
          ·
            refine V_aload_n (pc' := 54) dX10_link_53 rfl 1 rfl rfl ?_
            refine V_cvV (pc' := 57) (As := []) (rest := []) dX10_link_54 rfl mok_X10_beginAct bm_514 10 (by decide) rfl hs0 rfl rfl (Nat.le_of_ble_eq_true rfl) (by decide) hf (fun q e => ct_X10_beginAct hs0 e) (fun q_6 hf => ?_)
            refine V_aload (pc' := 59) dX10_link_57 rfl 0 rfl ?_
            refine V_iload_n (pc' := 60) dX10_link_59 rfl 2 rfl rfl ?_
            refine V_iload_n (pc' := 61) dX10_link_60 rfl 3 rfl rfl ?_
            refine V_iload_n (pc' := 62) dX10_link_61 rfl 4 rfl rfl ?_
            refine V_iconst (v := 1) (pc' := 63) dX10_link_62 rfl (by decide) ?_
            refine V_cvI (pc' := 66) (As := [.int x1, .int x2, .int x3, .int 1]) (rest := []) dX10_link_63 rfl mok_X2_addLink bm_576 2 (by decide) rfl ha_2 rfl rfl (Nat.le_of_ble_eq_true rfl) (by decide) hf (fun q e => ct_X2_addLink ha_2 e) (fun q_7 hf => ?_)
            obtain rfl := Option.some.inj hf
            exact V_iret dX10_link_66 rfl rfl rfl ⟨rfl, rfl, rfl⟩
          ·
            refine V_iconst (v := (-1)) (pc' := 52) dX10_link_51 rfl (by decide) ?_
            obtain rfl := Option.some.inj hf
            exact V_iret dX10_link_52 rfl rfl rfl ⟨rfl, rfl, rfl⟩
theorem ct_X10_link {l : Launch} {S : List SHP} {h : MH} {a0 : Nat} {x1 : Int32} {x2 : Int32} {x3 : Int32} (hs0 : S[a0]? = some (.inl 10)) {q : Int32 × MH} (hf : f_X10_link a0 x1 x2 x3 h = some q) : CT l mX10_link 8 false 0 0 S [.ref a0, .int x1, .int x2, .int x3] h (QI S q) :=
  CT_ofV (by decide) rfl (Nat.le_of_ble_eq_true rfl) (fun G B hT => v_X10_link hs0 hf)
/-! LabelStacks.state(IZ)I -/
theorem dX10_state_0 : decode cX10_state 0 = .ok (.aload_n 0, 1) := by decide +kernel
theorem dX10_state_1 : decode cX10_state 1 = .ok (.getfield 12, 3) := by decide +kernel
theorem dX10_state_4 : decode cX10_state 4 = .ok (.getfield 99, 3) := by decide +kernel
theorem dX10_state_7 : decode cX10_state 7 = .ok (.astore_n 3, 1) := by decide +kernel
theorem dX10_state_8 : decode cX10_state 8 = .ok (.aload_n 3, 1) := by decide +kernel
theorem dX10_state_9 : decode cX10_state 9 = .ok (.iload_n 1, 1) := by decide +kernel
theorem dX10_state_10 : decode cX10_state 10 = .ok (.invokevirtual 125, 3) := by decide +kernel
theorem dX10_state_13 : decode cX10_state 13 = .ok (.ifCond .ne 5, 3) := by decide +kernel
theorem dX10_state_16 : decode cX10_state 16 = .ok (.iconst (-1), 1) := by decide +kernel
theorem dX10_state_17 : decode cX10_state 17 = .ok (.ireturn, 1) := by decide +kernel
theorem dX10_state_18 : decode cX10_state 18 = .ok (.aload_n 3, 1) := by decide +kernel
theorem dX10_state_19 : decode cX10_state 19 = .ok (.iload_n 1, 1) := by decide +kernel
theorem dX10_state_20 : decode cX10_state 20 = .ok (.invokevirtual 128, 3) := by decide +kernel
theorem dX10_state_23 : decode cX10_state 23 = .ok (.ifCond .eq 7, 3) := by decide +kernel
theorem dX10_state_26 : decode cX10_state 26 = .ok (.iconst 1, 1) := by decide +kernel
theorem dX10_state_27 : decode cX10_state 27 = .ok (.goto 4, 3) := by decide +kernel
theorem dX10_state_30 : decode cX10_state 30 = .ok (.iconst 0, 1) := by decide +kernel
theorem dX10_state_31 : decode cX10_state 31 = .ok (.istore 4, 2) := by decide +kernel
theorem dX10_state_33 : decode cX10_state 33 = .ok (.aload_n 0, 1) := by decide +kernel
theorem dX10_state_34 : decode cX10_state 34 = .ok (.invokevirtual 96, 3) := by decide +kernel
theorem dX10_state_37 : decode cX10_state 37 = .ok (.aload_n 3, 1) := by decide +kernel
theorem dX10_state_38 : decode cX10_state 38 = .ok (.iload_n 1, 1) := by decide +kernel
theorem dX10_state_39 : decode cX10_state 39 = .ok (.iload_n 2, 1) := by decide +kernel
theorem dX10_state_40 : decode cX10_state 40 = .ok (.invokevirtual 131, 3) := by decide +kernel
theorem dX10_state_43 : decode cX10_state 43 = .ok (.iload 4, 2) := by decide +kernel
theorem dX10_state_45 : decode cX10_state 45 = .ok (.ireturn, 1) := by decide +kernel
abbrev mX10_state : MI := (RX10, yX10_state, cX10_state, 5, (some .int))
theorem mok_X10_state : MOKv mX10_state 2 := ⟨⟨bm_588, bm_114, ⟨by decide, by decide⟩, by decide +kernel⟩, bm_586, bm_587⟩
def f_X10_state_31   (a0 : Nat) (x1 : Int32) (x2 : Int32) (a3 : Nat) (t0 : Int32) (h : MH) : Option (Int32 × MH) :=
  (f_X10_beginAct a0 h).bind fun q_1 =>
  (f_X2_setUp a3 x1 x2 q_1).bind fun q_2 =>
  some (t0, q_2)
def f_X10_state   (a0 : Nat) (x1 : Int32) (x2 : Int32) (h : MH) : Option (Int32 × MH) :=
  (gR h a0 0).bind fun a_1 =>
  (gR h a_1 0).bind fun a_2 =>
  (f_X2_hasLink a_2 x1 h).bind fun q_3 =>
  if q_3.1 = 0 then
    some ((-1 : Int32), q_3.2)
  else
    (f_X2_isUp a_2 x1 q_3.2).bind fun q_4 =>
    if q_4.1 = 0 then
      f_X10_state_31 a0 x1 x2 a_2 0 q_4.2
    else
      f_X10_state_31 a0 x1 x2 a_2 1 q_4.2
set_option maxRecDepth 100000 in
set_option maxHeartbeats 4000000 in
theorem v_X10_state_31 {l : Launch} {G : GE} {B N : Nat} {S : List SHP} {o : Int32 × MH} {a0 : Nat} {x1 : Int32} {x2 : Int32} {a3 : Nat} {t0 : Int32}    (hs0 : S[a0]? = some (.inl 10)) (hs3 : S[a3]? = some (.inl 2)) {h : MH} (hf : f_X10_state_31 a0 x1 x2 a3 t0 h = some o) : V l G B N mX10_state (rmm 8 0 0) false 0 0 (QI S o) S 0 0 31 [(0, .ref a0), (1, .int x1), (2, .int x2), (3, .ref a3)] [.int t0] h := by
  unfold f_X10_state_31 at hf
  refine V_istore (lv' := [(4, .int t0), (0, .ref a0), (1, .int x1), (2, .int x2), (3, .ref a3)]) (pc' := 33) dX10_state_31 rfl (Nat.le_of_ble_eq_true rfl) rfl ?_
  refine V_aload_n (pc' := 34) dX10_state_33 rfl 1 rfl rfl ?_
  refine V_cvV (pc' := 37) (As := []) (rest := []) dX10_state_34 rfl mok_X10_beginAct bm_514 10 (by decide) rfl hs0 rfl rfl (Nat.le_of_ble_eq_true rfl) (by decide) hf (fun q e => ct_X10_beginAct hs0 e) (fun q_1 hf => ?_)
  refine V_aload_n (pc' := 38) dX10_state_37 rfl 4 rfl rfl ?_
  refine V_iload_n (pc' := 39) dX10_state_38 rfl 2 rfl rfl ?_
  refine V_iload_n (pc' := 40) dX10_state_39 rfl 3 rfl rfl ?_
  refine V_cvV (pc' := 43) (As := [.int x1, .int x2]) (rest := []) dX10_state_40 rfl mok_X2_setUp bm_597 2 (by decide) rfl hs3 rfl rfl (Nat.le_of_ble_eq_true rfl) (by decide) hf (fun q e => ct_X2_setUp hs3 e) (fun q_2 hf => ?_)
  refine V_iload (pc' := 45) dX10_state_43 rfl 0 rfl ?_
  obtain rfl := Option.some.inj hf
  exact V_iret dX10_state_45 rfl rfl rfl ⟨rfl, rfl, rfl⟩
set_option maxRecDepth 100000 in
set_option maxHeartbeats 4000000 in
theorem v_X10_state {l : Launch} {G : GE} {B N : Nat} {S : List SHP} {o : Int32 × MH} {a0 : Nat} {x1 : Int32} {x2 : Int32}    (hs0 : S[a0]? = some (.inl 10)) {h : MH} (hf : f_X10_state a0 x1 x2 h = some o) : V l G B N mX10_state (rmm 8 0 0) false 0 0 (QI S o) S 0 0 0 [(0, .ref a0), (1, .int x1), (2, .int x2)] [] h := by
  unfold f_X10_state at hf
  refine V_aload_n (pc' := 1) dX10_state_0 rfl 0 rfl rfl ?_
  refine V_getR (pc' := 4) 10 0 dX10_state_1 rfl (by decide) (Nat.le_of_ble_eq_true rfl) bm_458 hs0 (fun _ _ _ => rfl) rfl hf (fun a_1 ha_1 hf => ?_)
  refine V_getR (pc' := 7) 7 0 dX10_state_4 rfl (by decide) (Nat.le_of_ble_eq_true rfl) bm_263 ha_1 (fun _ _ _ => rfl) rfl hf (fun a_2 ha_2 hf => ?_)
  refine V_astore_n (lv' := [(3, .ref a_2), (0, .ref a0), (1, .int x1), (2, .int x2)]) (pc' := 8) dX10_state_7 rfl rfl (Nat.le_of_ble_eq_true rfl) rfl ?_
  refine V_aload_n (pc' := 9) dX10_state_8 rfl 0 rfl rfl ?_
  refine V_iload_n (pc' := 10) dX10_state_9 rfl 2 rfl rfl ?_
  refine V_cvI (pc' := 13) (As := [.int x1]) (rest := []) dX10_state_10 rfl mok_X2_hasLink bm_589 2 (by decide) rfl ha_2 rfl rfl (Nat.le_of_ble_eq_true rfl) (by decide) hf (fun q e => ct_X2_hasLink ha_2 e) (fun q_3 hf => ?_)
  refine V_if_ne (tgt := 18) (pc' := 16) dX10_state_13 (by decide) rfl hf (fun hf => ?_) (fun hf => ?_)
  ·
    refine V_iconst (v := (-1)) (pc' := 17) dX10_state_16 rfl (by decide) ?_
    obtain rfl := Option.some.inj hf
    exact V_iret dX10_state_17 rfl rfl rfl ⟨rfl, rfl, rfl⟩
  ·
    refine V_aload_n (pc' := 19) dX10_state_18 rfl 0 rfl rfl ?_
    refine V_iload_n (pc' := 20) dX10_state_19 rfl 2 rfl rfl ?_
    refine V_cvI (pc' := 23) (As := [.int x1]) (rest := []) dX10_state_20 rfl mok_X2_isUp bm_593 2 (by decide) rfl ha_2 rfl rfl (Nat.le_of_ble_eq_true rfl) (by decide) hf (fun q e => ct_X2_isUp ha_2 e) (fun q_4 hf => ?_)
    refine V_if_eq (tgt := 30) (pc' := 26) dX10_state_23 (by decide) rfl hf (fun hf => ?_) (fun hf => ?_)
    ·
      refine V_iconst (v := 0) (pc' := 31) dX10_state_30 rfl (by decide) ?_
      exact V_sub (lv' := [(0, .ref a0), (1, .int x1), (2, .int x2), (3, .ref a_2)]) [1, 2, 3, 0] rfl (v_X10_state_31 hs0 ha_2 hf)
    ·
      refine V_iconst (v := 1) (pc' := 27) dX10_state_26 rfl (by decide) ?_
      refine V_goto (tgt := 31) dX10_state_27 (by decide) ?_
      exact V_sub (lv' := [(0, .ref a0), (1, .int x1), (2, .int x2), (3, .ref a_2)]) [1, 2, 3, 0] rfl (v_X10_state_31 hs0 ha_2 hf)
theorem ct_X10_state {l : Launch} {S : List SHP} {h : MH} {a0 : Nat} {x1 : Int32} {x2 : Int32} (hs0 : S[a0]? = some (.inl 10)) {q : Int32 × MH} (hf : f_X10_state a0 x1 x2 h = some q) : CT l mX10_state 8 false 0 0 S [.ref a0, .int x1, .int x2] h (QI S q) :=
  CT_ofV (by decide) rfl (Nat.le_of_ble_eq_true rfl) (fun G B hT => v_X10_state hs0 hf)
/-! LabelStacks.cost(II)I -/
theorem dX10_cost_0 : decode cX10_cost 0 = .ok (.aload_n 0, 1) := by decide +kernel
theorem dX10_cost_1 : decode cX10_cost 1 = .ok (.getfield 12, 3) := by decide +kernel
theorem dX10_cost_4 : decode cX10_cost 4 = .ok (.getfield 99, 3) := by decide +kernel
theorem dX10_cost_7 : decode cX10_cost 7 = .ok (.astore_n 3, 1) := by decide +kernel
theorem dX10_cost_8 : decode cX10_cost 8 = .ok (.aload_n 3, 1) := by decide +kernel
theorem dX10_cost_9 : decode cX10_cost 9 = .ok (.iload_n 1, 1) := by decide +kernel
theorem dX10_cost_10 : decode cX10_cost 10 = .ok (.invokevirtual 125, 3) := by decide +kernel
theorem dX10_cost_13 : decode cX10_cost 13 = .ok (.ifCond .eq 10, 3) := by decide +kernel
theorem dX10_cost_16 : decode cX10_cost 16 = .ok (.iload_n 2, 1) := by decide +kernel
theorem dX10_cost_17 : decode cX10_cost 17 = .ok (.invokestatic 115, 3) := by decide +kernel
theorem dX10_cost_20 : decode cX10_cost 20 = .ok (.ifCond .ne 5, 3) := by decide +kernel
theorem dX10_cost_23 : decode cX10_cost 23 = .ok (.iconst (-1), 1) := by decide +kernel
theorem dX10_cost_24 : decode cX10_cost 24 = .ok (.ireturn, 1) := by decide +kernel
theorem dX10_cost_25 : decode cX10_cost 25 = .ok (.aload_n 3, 1) := by decide +kernel
theorem dX10_cost_26 : decode cX10_cost 26 = .ok (.getfield 135, 3) := by decide +kernel
theorem dX10_cost_29 : decode cX10_cost 29 = .ok (.iload_n 1, 1) := by decide +kernel
theorem dX10_cost_30 : decode cX10_cost 30 = .ok (.iaload, 1) := by decide +kernel
theorem dX10_cost_31 : decode cX10_cost 31 = .ok (.istore 4, 2) := by decide +kernel
theorem dX10_cost_33 : decode cX10_cost 33 = .ok (.aload_n 0, 1) := by decide +kernel
theorem dX10_cost_34 : decode cX10_cost 34 = .ok (.invokevirtual 96, 3) := by decide +kernel
theorem dX10_cost_37 : decode cX10_cost 37 = .ok (.aload_n 3, 1) := by decide +kernel
theorem dX10_cost_38 : decode cX10_cost 38 = .ok (.getfield 135, 3) := by decide +kernel
theorem dX10_cost_41 : decode cX10_cost 41 = .ok (.iload_n 1, 1) := by decide +kernel
theorem dX10_cost_42 : decode cX10_cost 42 = .ok (.iload_n 2, 1) := by decide +kernel
theorem dX10_cost_43 : decode cX10_cost 43 = .ok (.iastore, 1) := by decide +kernel
theorem dX10_cost_44 : decode cX10_cost 44 = .ok (.iload 4, 2) := by decide +kernel
theorem dX10_cost_46 : decode cX10_cost 46 = .ok (.ireturn, 1) := by decide +kernel
abbrev mX10_cost : MI := (RX10, yX10_cost, cX10_cost, 5, (some .int))
theorem mok_X10_cost : MOKv mX10_cost 2 := ⟨⟨bm_601, bm_114, ⟨by decide, by decide⟩, by decide +kernel⟩, bm_599, bm_600⟩
def f_X10_cost   (a0 : Nat) (x1 : Int32) (x2 : Int32) (h : MH) : Option (Int32 × MH) :=
  (gR h a0 0).bind fun a_1 =>
  (gR h a_1 0).bind fun a_2 =>
  (f_X2_hasLink a_2 x1 h).bind fun q_3 =>
  if q_3.1 = 0 then
    some ((-1 : Int32), q_3.2)
  else
    (f_X10_isAmount x2 q_3.2).bind fun q_4 =>
    if q_4.1 = 0 then
      some ((-1 : Int32), q_4.2)
    else
      (gR q_4.2 a_2 5).bind fun a_5 =>
      (ldI q_4.2 a_5 x1).bind fun x_6 =>
      (f_X10_beginAct a0 q_4.2).bind fun q_7 =>
      (gR q_7 a_2 5).bind fun a_8 =>
      (stI q_7 a_8 x1 x2).bind fun h_9 =>
      some (x_6, h_9)
set_option maxRecDepth 100000 in
set_option maxHeartbeats 4000000 in
theorem v_X10_cost {l : Launch} {G : GE} {B N : Nat} {S : List SHP} {o : Int32 × MH} {a0 : Nat} {x1 : Int32} {x2 : Int32}    (hs0 : S[a0]? = some (.inl 10)) {h : MH} (hf : f_X10_cost a0 x1 x2 h = some o) : V l G B N mX10_cost (rmm 8 0 0) false 0 0 (QI S o) S 0 0 0 [(0, .ref a0), (1, .int x1), (2, .int x2)] [] h := by
  unfold f_X10_cost at hf
  refine V_aload_n (pc' := 1) dX10_cost_0 rfl 0 rfl rfl ?_
  refine V_getR (pc' := 4) 10 0 dX10_cost_1 rfl (by decide) (Nat.le_of_ble_eq_true rfl) bm_458 hs0 (fun _ _ _ => rfl) rfl hf (fun a_1 ha_1 hf => ?_)
  refine V_getR (pc' := 7) 7 0 dX10_cost_4 rfl (by decide) (Nat.le_of_ble_eq_true rfl) bm_263 ha_1 (fun _ _ _ => rfl) rfl hf (fun a_2 ha_2 hf => ?_)
  refine V_astore_n (lv' := [(3, .ref a_2), (0, .ref a0), (1, .int x1), (2, .int x2)]) (pc' := 8) dX10_cost_7 rfl rfl (Nat.le_of_ble_eq_true rfl) rfl ?_
  refine V_aload_n (pc' := 9) dX10_cost_8 rfl 0 rfl rfl ?_
  refine V_iload_n (pc' := 10) dX10_cost_9 rfl 2 rfl rfl ?_
  refine V_cvI (pc' := 13) (As := [.int x1]) (rest := []) dX10_cost_10 rfl mok_X2_hasLink bm_589 2 (by decide) rfl ha_2 rfl rfl (Nat.le_of_ble_eq_true rfl) (by decide) hf (fun q e => ct_X2_hasLink ha_2 e) (fun q_3 hf => ?_)
  refine V_if_eq (tgt := 23) (pc' := 16) dX10_cost_13 (by decide) rfl hf (fun hf => ?_) (fun hf => ?_)
  ·
    refine V_iconst (v := (-1)) (pc' := 24) dX10_cost_23 rfl (by decide) ?_
    obtain rfl := Option.some.inj hf
    exact V_iret dX10_cost_24 rfl rfl rfl ⟨rfl, rfl, rfl⟩
  ·
    refine V_iload_n (pc' := 17) dX10_cost_16 rfl 3 rfl rfl ?_
    refine V_csI (pc' := 20) (As := [.int x2]) (rest := []) dX10_cost_17 rfl mok_X10_isAmount bm_573 rfl rfl (Nat.le_of_ble_eq_true rfl) (by decide) hf (fun q e => ct_X10_isAmount  e) (fun q_4 hf => ?_)
    refine V_if_ne (tgt := 25) (pc' := 23) dX10_cost_20 (by decide) rfl hf (fun hf => ?_) (fun hf => ?_)
    ·
      refine V_iconst (v := (-1)) (pc' := 24) dX10_cost_23 rfl (by decide) ?_
      obtain rfl := Option.some.inj hf
      exact V_iret dX10_cost_24 rfl rfl rfl ⟨rfl, rfl, rfl⟩
    ·
      refine V_aload_n (pc' := 26) dX10_cost_25 rfl 0 rfl rfl ?_
      refine V_getR (pc' := 29) 2 5 dX10_cost_26 rfl (by decide) (Nat.le_of_ble_eq_true rfl) bm_209 ha_2 (fun _ _ _ => rfl) rfl hf (fun a_5 ha_5 hf => ?_)
      refine V_iload_n (pc' := 30) dX10_cost_29 rfl 2 rfl rfl ?_
      refine V_iald (pc' := 31) dX10_cost_30 rfl ha_5 hf (fun x_6 hf => ?_)
      refine V_istore (lv' := [(4, .int x_6), (3, .ref a_2), (0, .ref a0), (1, .int x1), (2, .int x2)]) (pc' := 33) dX10_cost_31 rfl (Nat.le_of_ble_eq_true rfl) rfl ?_
      refine V_aload_n (pc' := 34) dX10_cost_33 rfl 2 rfl rfl ?_
      refine V_cvV (pc' := 37) (As := []) (rest := []) dX10_cost_34 rfl mok_X10_beginAct bm_514 10 (by decide) rfl hs0 rfl rfl (Nat.le_of_ble_eq_true rfl) (by decide) hf (fun q e => ct_X10_beginAct hs0 e) (fun q_7 hf => ?_)
      refine V_aload_n (pc' := 38) dX10_cost_37 rfl 1 rfl rfl ?_
      refine V_getR (pc' := 41) 2 5 dX10_cost_38 rfl (by decide) (Nat.le_of_ble_eq_true rfl) bm_209 ha_2 (fun _ _ _ => rfl) rfl hf (fun a_8 ha_8 hf => ?_)
      refine V_iload_n (pc' := 42) dX10_cost_41 rfl 3 rfl rfl ?_
      refine V_iload_n (pc' := 43) dX10_cost_42 rfl 4 rfl rfl ?_
      refine V_iast (pc' := 44) dX10_cost_43 rfl ha_8 hf (fun h_9 hf => ?_)
      refine V_iload (pc' := 46) dX10_cost_44 rfl 0 rfl ?_
      obtain rfl := Option.some.inj hf
      exact V_iret dX10_cost_46 rfl rfl rfl ⟨rfl, rfl, rfl⟩
theorem ct_X10_cost {l : Launch} {S : List SHP} {h : MH} {a0 : Nat} {x1 : Int32} {x2 : Int32} (hs0 : S[a0]? = some (.inl 10)) {q : Int32 × MH} (hf : f_X10_cost a0 x1 x2 h = some q) : CT l mX10_cost 8 false 0 0 S [.ref a0, .int x1, .int x2] h (QI S q) :=
  CT_ofV (by decide) rfl (Nat.le_of_ble_eq_true rfl) (fun G B hT => v_X10_cost hs0 hf)
/-! LabelStacks.isBinding(I)Z -/
theorem dX10_isBinding_0 : decode cX10_isBinding 0 = .ok (.iload_n 0, 1) := by decide +kernel
theorem dX10_isBinding_1 : decode cX10_isBinding 1 = .ok (.ifCond .lt 13, 3) := by decide +kernel
theorem dX10_isBinding_4 : decode cX10_isBinding 4 = .ok (.iload_n 0, 1) := by decide +kernel
theorem dX10_isBinding_5 : decode cX10_isBinding 5 = .ok (.bipush 6, 2) := by decide +kernel
theorem dX10_isBinding_7 : decode cX10_isBinding 7 = .ok (.if_icmp .ge 7, 3) := by decide +kernel
theorem dX10_isBinding_10 : decode cX10_isBinding 10 = .ok (.iconst 1, 1) := by decide +kernel
theorem dX10_isBinding_11 : decode cX10_isBinding 11 = .ok (.goto 4, 3) := by decide +kernel
theorem dX10_isBinding_14 : decode cX10_isBinding 14 = .ok (.iconst 0, 1) := by decide +kernel
theorem dX10_isBinding_15 : decode cX10_isBinding 15 = .ok (.ireturn, 1) := by decide +kernel
abbrev mX10_isBinding : MI := (RX10, yX10_isBinding, cX10_isBinding, 1, (some .boolean))
theorem mok_X10_isBinding : MOKs mX10_isBinding 1 := ⟨⟨bm_608, bm_114, ⟨by decide, by decide⟩, by decide +kernel⟩, bm_607⟩
def f_X10_isBinding   (x0 : Int32) (h : MH) : Option (Int32 × MH) :=
  if x0 < 0 then
    some (0, h)
  else
    if x0 < 6 then
      some (1, h)
    else
      some (0, h)
set_option maxRecDepth 100000 in
set_option maxHeartbeats 4000000 in
theorem v_X10_isBinding {l : Launch} {G : GE} {B N : Nat} {S : List SHP} {o : Int32 × MH} {x0 : Int32}     {h : MH} (hf : f_X10_isBinding x0 h = some o) : V l G B N mX10_isBinding (rmm 3 0 0) false 0 0 (QI S o) S 0 0 0 [(0, .int x0)] [] h := by
  unfold f_X10_isBinding at hf
  refine V_iload_n (pc' := 1) dX10_isBinding_0 rfl 0 rfl rfl ?_
  refine V_if_lt (tgt := 14) (pc' := 4) dX10_isBinding_1 (by decide) rfl hf (fun hf => ?_) (fun hf => ?_)
  ·
    refine V_iconst (v := 0) (pc' := 15) dX10_isBinding_14 rfl (by decide) ?_
    obtain rfl := Option.some.inj hf
    exact V_zretL dX10_isBinding_15 rfl rfl rfl (by decide) ⟨rfl, rfl, rfl⟩
  ·
    refine V_iload_n (pc' := 5) dX10_isBinding_4 rfl 0 rfl rfl ?_
    refine V_bipush (v := 6) (pc' := 7) dX10_isBinding_5 rfl (by decide) ?_
    refine V_icmp_ge (tgt := 14) (pc' := 10) dX10_isBinding_7 (by decide) rfl hf (fun hf => ?_) (fun hf => ?_)
    ·
      refine V_iconst (v := 1) (pc' := 11) dX10_isBinding_10 rfl (by decide) ?_
      refine V_goto (tgt := 15) dX10_isBinding_11 (by decide) ?_
      obtain rfl := Option.some.inj hf
      exact V_zretL dX10_isBinding_15 rfl rfl rfl (by decide) ⟨rfl, rfl, rfl⟩
    ·
      refine V_iconst (v := 0) (pc' := 15) dX10_isBinding_14 rfl (by decide) ?_
      obtain rfl := Option.some.inj hf
      exact V_zretL dX10_isBinding_15 rfl rfl rfl (by decide) ⟨rfl, rfl, rfl⟩
theorem ct_X10_isBinding {l : Launch} {S : List SHP} {h : MH} {x0 : Int32}  {q : Int32 × MH} (hf : f_X10_isBinding x0 h = some q) : CT l mX10_isBinding 3 false 0 0 S [.int x0] h (QI S q) :=
  CT_ofV (by decide) rfl (Nat.le_of_ble_eq_true rfl) (fun G B hT => v_X10_isBinding  hf)
/-! LabelStacks.canBeBound()Z -/
theorem dX10_canBeBound_0 : decode cX10_canBeBound 0 = .ok (.aload_n 0, 1) := by decide +kernel
theorem dX10_canBeBound_1 : decode cX10_canBeBound 1 = .ok (.getfield 21, 3) := by decide +kernel
theorem dX10_canBeBound_4 : decode cX10_canBeBound 4 = .ok (.getfield 168, 3) := by decide +kernel
theorem dX10_canBeBound_7 : decode cX10_canBeBound 7 = .ok (.ifCond .eq 15, 3) := by decide +kernel
theorem dX10_canBeBound_10 : decode cX10_canBeBound 10 = .ok (.aload_n 0, 1) := by decide +kernel
theorem dX10_canBeBound_11 : decode cX10_canBeBound 11 = .ok (.getfield 21, 3) := by decide +kernel
theorem dX10_canBeBound_14 : decode cX10_canBeBound 14 = .ok (.getfield 168, 3) := by decide +kernel
theorem dX10_canBeBound_17 : decode cX10_canBeBound 17 = .ok (.bipush 6, 2) := by decide +kernel
theorem dX10_canBeBound_19 : decode cX10_canBeBound 19 = .ok (.if_icmp .le 5, 3) := by decide +kernel
theorem dX10_canBeBound_22 : decode cX10_canBeBound 22 = .ok (.iconst 0, 1) := by decide +kernel
theorem dX10_canBeBound_23 : decode cX10_canBeBound 23 = .ok (.ireturn, 1) := by decide +kernel
theorem dX10_canBeBound_24 : decode cX10_canBeBound 24 = .ok (.iconst 0, 1) := by decide +kernel
theorem dX10_canBeBound_25 : decode cX10_canBeBound 25 = .ok (.istore_n 1, 1) := by decide +kernel
theorem dX10_canBeBound_26 : decode cX10_canBeBound 26 = .ok (.iload_n 1, 1) := by decide +kernel
theorem dX10_canBeBound_27 : decode cX10_canBeBound 27 = .ok (.aload_n 0, 1) := by decide +kernel
theorem dX10_canBeBound_28 : decode cX10_canBeBound 28 = .ok (.getfield 21, 3) := by decide +kernel
theorem dX10_canBeBound_31 : decode cX10_canBeBound 31 = .ok (.getfield 168, 3) := by decide +kernel
theorem dX10_canBeBound_34 : decode cX10_canBeBound 34 = .ok (.if_icmp .ge 25, 3) := by decide +kernel
theorem dX10_canBeBound_37 : decode cX10_canBeBound 37 = .ok (.aload_n 0, 1) := by decide +kernel
theorem dX10_canBeBound_38 : decode cX10_canBeBound 38 = .ok (.getfield 21, 3) := by decide +kernel
theorem dX10_canBeBound_41 : decode cX10_canBeBound 41 = .ok (.iload_n 1, 1) := by decide +kernel
theorem dX10_canBeBound_42 : decode cX10_canBeBound 42 = .ok (.invokevirtual 277, 3) := by decide +kernel
theorem dX10_canBeBound_45 : decode cX10_canBeBound 45 = .ok (.sipush 200, 3) := by decide +kernel
theorem dX10_canBeBound_48 : decode cX10_canBeBound 48 = .ok (.if_icmp .lt 5, 3) := by decide +kernel
theorem dX10_canBeBound_51 : decode cX10_canBeBound 51 = .ok (.iconst 0, 1) := by decide +kernel
theorem dX10_canBeBound_52 : decode cX10_canBeBound 52 = .ok (.ireturn, 1) := by decide +kernel
theorem dX10_canBeBound_53 : decode cX10_canBeBound 53 = .ok (.iinc 1 1, 3) := by decide +kernel
theorem dX10_canBeBound_56 : decode cX10_canBeBound 56 = .ok (.goto (-30), 3) := by decide +kernel
theorem dX10_canBeBound_59 : decode cX10_canBeBound 59 = .ok (.iconst 1, 1) := by decide +kernel
theorem dX10_canBeBound_60 : decode cX10_canBeBound 60 = .ok (.ireturn, 1) := by decide +kernel
abbrev mX10_canBeBound : MI := (RX10, yX10_canBeBound, cX10_canBeBound, 2, (some .boolean))
theorem mok_X10_canBeBound : MOKv mX10_canBeBound 0 := ⟨⟨bm_612, bm_114, ⟨by decide, by decide⟩, by decide +kernel⟩, bm_611, bm_1⟩
def f_X10_canBeBound_26b   (a0 : Nat) (k26 : Int32 → MH → Option (Int32 × MH)) (p : Int32) (h : MH) : Option (Int32 × MH) :=
  (gR h a0 1).bind fun a_1 =>
  if p < (gI h a_1 1) then
    (gR h a0 1).bind fun a_2 =>
    (f_X5_get a_2 p h).bind fun q_3 =>
    if q_3.1 < 200 then
      k26 (p + 1) q_3.2
    else
      some (0, q_3.2)
  else
    some (1, h)
def f_X10_canBeBound_26   (a0 : Nat) : Nat → Int32 → MH → Option (Int32 × MH) := lp (f_X10_canBeBound_26b a0)
def f_X10_canBeBound   (a0 : Nat) (h : MH) : Option (Int32 × MH) :=
  (gR h a0 1).bind fun a_1 =>
  if (gI h a_1 1) = 0 then
    some (0, h)
  else
    (gR h a0 1).bind fun a_2 =>
    if 6 < (gI h a_2 1) then
      some (0, h)
    else
      f_X10_canBeBound_26 a0 FU 0 h
set_option maxRecDepth 100000 in
set_option maxHeartbeats 4000000 in
theorem v_X10_canBeBound_26b {l : Launch} {G : GE} {B N : Nat} {S : List SHP} {o : Int32 × MH} {a0 : Nat}    (hs0 : S[a0]? = some (.inl 10)) {k26 : Int32 → MH → Option (Int32 × MH)} (hk26 : ∀ (p : Int32) (h : MH), k26 p h = some o → V l G B N mX10_canBeBound (rmm 4 0 0) false 0 0 (QI S o) S 0 0 26 [(0, .ref a0), (1, .int p)] [] h) {p : Int32} {h : MH} (hf : f_X10_canBeBound_26b a0 k26 p h = some o) : V l G B N mX10_canBeBound (rmm 4 0 0) false 0 0 (QI S o) S 0 0 26 [(0, .ref a0), (1, .int p)] [] h := by
  unfold f_X10_canBeBound_26b at hf
  refine V_iload_n (pc' := 27) dX10_canBeBound_26 rfl 1 rfl rfl ?_
  refine V_aload_n (pc' := 28) dX10_canBeBound_27 rfl 0 rfl rfl ?_
  refine V_getR (pc' := 31) 10 1 dX10_canBeBound_28 rfl (by decide) (Nat.le_of_ble_eq_true rfl) bm_459 hs0 (fun _ _ _ => rfl) rfl hf (fun a_1 ha_1 hf => ?_)
  refine V_getI (pc' := 34) 5 1 dX10_canBeBound_31 rfl (by decide) (Nat.le_of_ble_eq_true rfl) bm_256 ha_1 (fun _ _ _ => rfl) ?_
  refine V_icmp_ge (tgt := 59) (pc' := 37) dX10_canBeBound_34 (by decide) rfl hf (fun hf => ?_) (fun hf => ?_)
  ·
    refine V_aload_n (pc' := 38) dX10_canBeBound_37 rfl 0 rfl rfl ?_
    refine V_getR (pc' := 41) 10 1 dX10_canBeBound_38 rfl (by decide) (Nat.le_of_ble_eq_true rfl) bm_459 hs0 (fun _ _ _ => rfl) rfl hf (fun a_2 ha_2 hf => ?_)
    refine V_iload_n (pc' := 42) dX10_canBeBound_41 rfl 1 rfl rfl ?_
    refine V_cvI (pc' := 45) (As := [.int p]) (rest := []) dX10_canBeBound_42 rfl mok_X5_get bm_613 5 (by decide) rfl ha_2 rfl rfl (Nat.le_of_ble_eq_true rfl) (by decide) hf (fun q e => ct_X5_get ha_2 e) (fun q_3 hf => ?_)
    refine V_sipush (v := 200) (pc' := 48) dX10_canBeBound_45 rfl (by decide) ?_
    refine V_icmp_lt (tgt := 53) (pc' := 51) dX10_canBeBound_48 (by decide) rfl hf (fun hf => ?_) (fun hf => ?_)
    ·
      refine V_iinc (v := (p + 1)) (lv' := [(1, .int (p + 1)), (0, .ref a0)]) (pc' := 56) dX10_canBeBound_53 rfl 1 rfl rfl (Nat.le_of_ble_eq_true rfl) rfl ?_
      refine V_goto (tgt := 26) dX10_canBeBound_56 (by decide) ?_
      exact V_sub (lv' := [(0, .ref a0), (1, .int (p + 1))]) [1, 0] rfl (hk26 (p + 1) q_3.2 hf)
    ·
      refine V_iconst (v := 0) (pc' := 52) dX10_canBeBound_51 rfl (by decide) ?_
      obtain rfl := Option.some.inj hf
      exact V_zretL dX10_canBeBound_52 rfl rfl rfl (by decide) ⟨rfl, rfl, rfl⟩
  ·
    refine V_iconst (v := 1) (pc' := 60) dX10_canBeBound_59 rfl (by decide) ?_
    obtain rfl := Option.some.inj hf
    exact V_zretL dX10_canBeBound_60 rfl rfl rfl (by decide) ⟨rfl, rfl, rfl⟩
theorem v_X10_canBeBound_26 {l : Launch} {G : GE} {B N : Nat} {S : List SHP} {o : Int32 × MH} {a0 : Nat}    (hs0 : S[a0]? = some (.inl 10)) {n : Nat} {p : Int32} {h : MH} (hf : f_X10_canBeBound_26 a0 n p h = some o) : V l G B N mX10_canBeBound (rmm 4 0 0) false 0 0 (QI S o) S 0 0 26 [(0, .ref a0), (1, .int p)] [] h :=
  V_lp (VV := fun p h => V l G B N mX10_canBeBound (rmm 4 0 0) false 0 0 (QI S o) S 0 0 26 [(0, .ref a0), (1, .int p)] [] h) (fun _ hk _ _ hf => v_X10_canBeBound_26b hs0 hk hf) n p h hf
set_option maxRecDepth 100000 in
set_option maxHeartbeats 4000000 in
theorem v_X10_canBeBound {l : Launch} {G : GE} {B N : Nat} {S : List SHP} {o : Int32 × MH} {a0 : Nat}    (hs0 : S[a0]? = some (.inl 10)) {h : MH} (hf : f_X10_canBeBound a0 h = some o) : V l G B N mX10_canBeBound (rmm 4 0 0) false 0 0 (QI S o) S 0 0 0 [(0, .ref a0)] [] h := by
  unfold f_X10_canBeBound at hf
  refine V_aload_n (pc' := 1) dX10_canBeBound_0 rfl 0 rfl rfl ?_
  refine V_getR (pc' := 4) 10 1 dX10_canBeBound_1 rfl (by decide) (Nat.le_of_ble_eq_true rfl) bm_459 hs0 (fun _ _ _ => rfl) rfl hf (fun a_1 ha_1 hf => ?_)
  refine V_getI (pc' := 7) 5 1 dX10_canBeBound_4 rfl (by decide) (Nat.le_of_ble_eq_true rfl) bm_256 ha_1 (fun _ _ _ => rfl) ?_
  refine V_if_eq (tgt := 22) (pc' := 10) dX10_canBeBound_7 (by decide) rfl hf (fun hf => ?_) (fun hf => ?_)
  ·
    refine V_iconst (v := 0) (pc' := 23) dX10_canBeBound_22 rfl (by decide) ?_
    obtain rfl := Option.some.inj hf
    exact V_zretL dX10_canBeBound_23 rfl rfl rfl (by decide) ⟨rfl, rfl, rfl⟩
  ·
    refine V_aload_n (pc' := 11) dX10_canBeBound_10 rfl 0 rfl rfl ?_
    refine V_getR (pc' := 14) 10 1 dX10_canBeBound_11 rfl (by decide) (Nat.le_of_ble_eq_true rfl) bm_459 hs0 (fun _ _ _ => rfl) rfl hf (fun a_2 ha_2 hf => ?_)
    refine V_getI (pc' := 17) 5 1 dX10_canBeBound_14 rfl (by decide) (Nat.le_of_ble_eq_true rfl) bm_256 ha_2 (fun _ _ _ => rfl) ?_
    refine V_bipush (v := 6) (pc' := 19) dX10_canBeBound_17 rfl (by decide) ?_
    refine V_icmp_le (tgt := 24) (pc' := 22) dX10_canBeBound_19 (by decide) rfl hf (fun hf => ?_) (fun hf => ?_)
    ·
      refine V_iconst (v := 0) (pc' := 23) dX10_canBeBound_22 rfl (by decide) ?_
      obtain rfl := Option.some.inj hf
      exact V_zretL dX10_canBeBound_23 rfl rfl rfl (by decide) ⟨rfl, rfl, rfl⟩
    ·
      refine V_iconst (v := 0) (pc' := 25) dX10_canBeBound_24 rfl (by decide) ?_
      refine V_istore_n (lv' := [(1, .int 0), (0, .ref a0)]) (pc' := 26) dX10_canBeBound_25 rfl rfl (Nat.le_of_ble_eq_true rfl) rfl ?_
      exact V_sub (lv' := [(0, .ref a0), (1, .int 0)]) [1, 0] rfl (v_X10_canBeBound_26 hs0 hf)
theorem ct_X10_canBeBound {l : Launch} {S : List SHP} {h : MH} {a0 : Nat} (hs0 : S[a0]? = some (.inl 10)) {q : Int32 × MH} (hf : f_X10_canBeBound a0 h = some q) : CT l mX10_canBeBound 4 false 0 0 S [.ref a0] h (QI S q) :=
  CT_ofV (by decide) rfl (Nat.le_of_ble_eq_true rfl) (fun G B hT => v_X10_canBeBound hs0 hf)
/-! LabelStacks.bind(II)Z -/
theorem dX10_bind_0 : decode cX10_bind 0 = .ok (.iload_n 1, 1) := by decide +kernel
theorem dX10_bind_1 : decode cX10_bind 1 = .ok (.invokestatic 139, 3) := by decide +kernel
theorem dX10_bind_4 : decode cX10_bind 4 = .ok (.ifCond .eq 24, 3) := by decide +kernel
theorem dX10_bind_7 : decode cX10_bind 7 = .ok (.aload_n 0, 1) := by decide +kernel
theorem dX10_bind_8 : decode cX10_bind 8 = .ok (.getfield 12, 3) := by decide +kernel
theorem dX10_bind_11 : decode cX10_bind 11 = .ok (.getfield 99, 3) := by decide +kernel
theorem dX10_bind_14 : decode cX10_bind 14 = .ok (.iload_n 2, 1) := by decide +kernel
theorem dX10_bind_15 : decode cX10_bind 15 = .ok (.invokevirtual 111, 3) := by decide +kernel
theorem dX10_bind_18 : decode cX10_bind 18 = .ok (.ifCond .eq 10, 3) := by decide +kernel
theorem dX10_bind_21 : decode cX10_bind 21 = .ok (.aload_n 0, 1) := by decide +kernel
theorem dX10_bind_22 : decode cX10_bind 22 = .ok (.invokevirtual 142, 3) := by decide +kernel
theorem dX10_bind_25 : decode cX10_bind 25 = .ok (.ifCond .ne 5, 3) := by decide +kernel
theorem dX10_bind_28 : decode cX10_bind 28 = .ok (.iconst 0, 1) := by decide +kernel
theorem dX10_bind_29 : decode cX10_bind 29 = .ok (.ireturn, 1) := by decide +kernel
theorem dX10_bind_30 : decode cX10_bind 30 = .ok (.aload_n 0, 1) := by decide +kernel
theorem dX10_bind_31 : decode cX10_bind 31 = .ok (.invokevirtual 96, 3) := by decide +kernel
theorem dX10_bind_34 : decode cX10_bind 34 = .ok (.aload_n 0, 1) := by decide +kernel
theorem dX10_bind_35 : decode cX10_bind 35 = .ok (.getfield 12, 3) := by decide +kernel
theorem dX10_bind_38 : decode cX10_bind 38 = .ok (.getfield 99, 3) := by decide +kernel
theorem dX10_bind_41 : decode cX10_bind 41 = .ok (.getfield 146, 3) := by decide +kernel
theorem dX10_bind_44 : decode cX10_bind 44 = .ok (.iload_n 1, 1) := by decide +kernel
theorem dX10_bind_45 : decode cX10_bind 45 = .ok (.iload_n 2, 1) := by decide +kernel
theorem dX10_bind_46 : decode cX10_bind 46 = .ok (.iastore, 1) := by decide +kernel
theorem dX10_bind_47 : decode cX10_bind 47 = .ok (.aload_n 0, 1) := by decide +kernel
theorem dX10_bind_48 : decode cX10_bind 48 = .ok (.getfield 12, 3) := by decide +kernel
theorem dX10_bind_51 : decode cX10_bind 51 = .ok (.getfield 99, 3) := by decide +kernel
theorem dX10_bind_54 : decode cX10_bind 54 = .ok (.getfield 149, 3) := by decide +kernel
theorem dX10_bind_57 : decode cX10_bind 57 = .ok (.iload_n 1, 1) := by decide +kernel
theorem dX10_bind_58 : decode cX10_bind 58 = .ok (.aload_n 0, 1) := by decide +kernel
theorem dX10_bind_59 : decode cX10_bind 59 = .ok (.getfield 21, 3) := by decide +kernel
theorem dX10_bind_62 : decode cX10_bind 62 = .ok (.invokevirtual 153, 3) := by decide +kernel
theorem dX10_bind_65 : decode cX10_bind 65 = .ok (.iconst 1, 1) := by decide +kernel
theorem dX10_bind_66 : decode cX10_bind 66 = .ok (.ireturn, 1) := by decide +kernel
abbrev mX10_bind : MI := (RX10, yX10_bind, cX10_bind, 3, (some .boolean))
theorem mok_X10_bind : MOKv mX10_bind 2 := ⟨⟨bm_605, bm_114, ⟨by decide, by decide⟩, by decide +kernel⟩, bm_603, bm_604⟩
def f_X10_bind   (a0 : Nat) (x1 : Int32) (x2 : Int32) (h : MH) : Option (Int32 × MH) :=
  (f_X10_isBinding x1 h).bind fun q_1 =>
  if q_1.1 = 0 then
    some (0, q_1.2)
  else
    (gR q_1.2 a0 0).bind fun a_2 =>
    (gR q_1.2 a_2 0).bind fun a_3 =>
    (f_X2_hasNode a_3 x2 q_1.2).bind fun q_4 =>
    if q_4.1 = 0 then
      some (0, q_4.2)
    else
      (f_X10_canBeBound a0 q_4.2).bind fun q_5 =>
      if q_5.1 = 0 then
        some (0, q_5.2)
      else
        (f_X10_beginAct a0 q_5.2).bind fun q_6 =>
        (gR q_6 a0 0).bind fun a_7 =>
        (gR q_6 a_7 0).bind fun a_8 =>
        (gR q_6 a_8 6).bind fun a_9 =>
        (stI q_6 a_9 x1 x2).bind fun h_10 =>
        (gR h_10 a0 0).bind fun a_11 =>
        (gR h_10 a_11 0).bind fun a_12 =>
        (gR h_10 a_12 7).bind fun a_13 =>
        (gR h_10 a0 1).bind fun a_14 =>
        (f_X6_put a_13 x1 a_14 h_10).bind fun q_15 =>
        some (1, q_15)
set_option maxRecDepth 100000 in
set_option maxHeartbeats 4000000 in
theorem v_X10_bind {l : Launch} {G : GE} {B N : Nat} {S : List SHP} {o : Int32 × MH} {a0 : Nat} {x1 : Int32} {x2 : Int32}    (hs0 : S[a0]? = some (.inl 10)) {h : MH} (hf : f_X10_bind a0 x1 x2 h = some o) : V l G B N mX10_bind (rmm 8 0 0) false 0 0 (QI S o) S 0 0 0 [(0, .ref a0), (1, .int x1), (2, .int x2)] [] h := by
  unfold f_X10_bind at hf
  refine V_iload_n (pc' := 1) dX10_bind_0 rfl 1 rfl rfl ?_
  refine V_csI (pc' := 4) (As := [.int x1]) (rest := []) dX10_bind_1 rfl mok_X10_isBinding bm_606 rfl rfl (Nat.le_of_ble_eq_true rfl) (by decide) hf (fun q e => ct_X10_isBinding  e) (fun q_1 hf => ?_)
  refine V_if_eq (tgt := 28) (pc' := 7) dX10_bind_4 (by decide) rfl hf (fun hf => ?_) (fun hf => ?_)
  ·
    refine V_iconst (v := 0) (pc' := 29) dX10_bind_28 rfl (by decide) ?_
    obtain rfl := Option.some.inj hf
    exact V_zretL dX10_bind_29 rfl rfl rfl (by decide) ⟨rfl, rfl, rfl⟩
  ·
    refine V_aload_n (pc' := 8) dX10_bind_7 rfl 0 rfl rfl ?_
    refine V_getR (pc' := 11) 10 0 dX10_bind_8 rfl (by decide) (Nat.le_of_ble_eq_true rfl) bm_458 hs0 (fun _ _ _ => rfl) rfl hf (fun a_2 ha_2 hf => ?_)
    refine V_getR (pc' := 14) 7 0 dX10_bind_11 rfl (by decide) (Nat.le_of_ble_eq_true rfl) bm_263 ha_2 (fun _ _ _ => rfl) rfl hf (fun a_3 ha_3 hf => ?_)
    refine V_iload_n (pc' := 15) dX10_bind_14 rfl 2 rfl rfl ?_
    refine V_cvI (pc' := 18) (As := [.int x2]) (rest := []) dX10_bind_15 rfl mok_X2_hasNode bm_569 2 (by decide) rfl ha_3 rfl rfl (Nat.le_of_ble_eq_true rfl) (by decide) hf (fun q e => ct_X2_hasNode ha_3 e) (fun q_4 hf => ?_)
    refine V_if_eq (tgt := 28) (pc' := 21) dX10_bind_18 (by decide) rfl hf (fun hf => ?_) (fun hf => ?_)
    ·
      refine V_iconst (v := 0) (pc' := 29) dX10_bind_28 rfl (by decide) ?_
      obtain rfl := Option.some.inj hf
      exact V_zretL dX10_bind_29 rfl rfl rfl (by decide) ⟨rfl, rfl, rfl⟩
    ·
      refine V_aload_n (pc' := 22) dX10_bind_21 rfl 0 rfl rfl ?_
      refine V_cvI (pc' := 25) (As := []) (rest := []) dX10_bind_22 rfl mok_X10_canBeBound bm_609 10 (by decide) rfl hs0 rfl rfl (Nat.le_of_ble_eq_true rfl) (by decide) hf (fun q e => ct_X10_canBeBound hs0 e) (fun q_5 hf => ?_)
      refine V_if_ne (tgt := 30) (pc' := 28) dX10_bind_25 (by decide) rfl hf (fun hf => ?_) (fun hf => ?_)
      ·
        refine V_iconst (v := 0) (pc' := 29) dX10_bind_28 rfl (by decide) ?_
        obtain rfl := Option.some.inj hf
        exact V_zretL dX10_bind_29 rfl rfl rfl (by decide) ⟨rfl, rfl, rfl⟩
      ·
        refine V_aload_n (pc' := 31) dX10_bind_30 rfl 0 rfl rfl ?_
        refine V_cvV (pc' := 34) (As := []) (rest := []) dX10_bind_31 rfl mok_X10_beginAct bm_514 10 (by decide) rfl hs0 rfl rfl (Nat.le_of_ble_eq_true rfl) (by decide) hf (fun q e => ct_X10_beginAct hs0 e) (fun q_6 hf => ?_)
        refine V_aload_n (pc' := 35) dX10_bind_34 rfl 0 rfl rfl ?_
        refine V_getR (pc' := 38) 10 0 dX10_bind_35 rfl (by decide) (Nat.le_of_ble_eq_true rfl) bm_458 hs0 (fun _ _ _ => rfl) rfl hf (fun a_7 ha_7 hf => ?_)
        refine V_getR (pc' := 41) 7 0 dX10_bind_38 rfl (by decide) (Nat.le_of_ble_eq_true rfl) bm_263 ha_7 (fun _ _ _ => rfl) rfl hf (fun a_8 ha_8 hf => ?_)
        refine V_getR (pc' := 44) 2 6 dX10_bind_41 rfl (by decide) (Nat.le_of_ble_eq_true rfl) bm_213 ha_8 (fun _ _ _ => rfl) rfl hf (fun a_9 ha_9 hf => ?_)
        refine V_iload_n (pc' := 45) dX10_bind_44 rfl 1 rfl rfl ?_
        refine V_iload_n (pc' := 46) dX10_bind_45 rfl 2 rfl rfl ?_
        refine V_iast (pc' := 47) dX10_bind_46 rfl ha_9 hf (fun h_10 hf => ?_)
        refine V_aload_n (pc' := 48) dX10_bind_47 rfl 0 rfl rfl ?_
        refine V_getR (pc' := 51) 10 0 dX10_bind_48 rfl (by decide) (Nat.le_of_ble_eq_true rfl) bm_458 hs0 (fun _ _ _ => rfl) rfl hf (fun a_11 ha_11 hf => ?_)
        refine V_getR (pc' := 54) 7 0 dX10_bind_51 rfl (by decide) (Nat.le_of_ble_eq_true rfl) bm_263 ha_11 (fun _ _ _ => rfl) rfl hf (fun a_12 ha_12 hf => ?_)
        refine V_getR (pc' := 57) 2 7 dX10_bind_54 rfl (by decide) (Nat.le_of_ble_eq_true rfl) bm_218 ha_12 (fun _ _ _ => rfl) rfl hf (fun a_13 ha_13 hf => ?_)
        refine V_iload_n (pc' := 58) dX10_bind_57 rfl 1 rfl rfl ?_
        refine V_aload_n (pc' := 59) dX10_bind_58 rfl 0 rfl rfl ?_
        refine V_getR (pc' := 62) 10 1 dX10_bind_59 rfl (by decide) (Nat.le_of_ble_eq_true rfl) bm_459 hs0 (fun _ _ _ => rfl) rfl hf (fun a_14 ha_14 hf => ?_)
        refine V_cvV (pc' := 65) (As := [.int x1, .ref a_14]) (rest := []) dX10_bind_62 rfl mok_X6_put bm_617 6 (by decide) rfl ha_13 rfl rfl (Nat.le_of_ble_eq_true rfl) (by decide) hf (fun q e => ct_X6_put ha_13 ha_14 e) (fun q_15 hf => ?_)
        refine V_iconst (v := 1) (pc' := 66) dX10_bind_65 rfl (by decide) ?_
        obtain rfl := Option.some.inj hf
        exact V_zretL dX10_bind_66 rfl rfl rfl (by decide) ⟨rfl, rfl, rfl⟩
theorem ct_X10_bind {l : Launch} {S : List SHP} {h : MH} {a0 : Nat} {x1 : Int32} {x2 : Int32} (hs0 : S[a0]? = some (.inl 10)) {q : Int32 × MH} (hf : f_X10_bind a0 x1 x2 h = some q) : CT l mX10_bind 8 false 0 0 S [.ref a0, .int x1, .int x2] h (QI S q) :=
  CT_ofV (by decide) rfl (Nat.le_of_ble_eq_true rfl) (fun G B hT => v_X10_bind hs0 hf)
/-! LabelStacks.unbind(I)Z -/
theorem dX10_unbind_0 : decode cX10_unbind 0 = .ok (.iload_n 1, 1) := by decide +kernel
theorem dX10_unbind_1 : decode cX10_unbind 1 = .ok (.invokestatic 139, 3) := by decide +kernel
theorem dX10_unbind_4 : decode cX10_unbind 4 = .ok (.ifCond .eq 19, 3) := by decide +kernel
theorem dX10_unbind_7 : decode cX10_unbind 7 = .ok (.aload_n 0, 1) := by decide +kernel
theorem dX10_unbind_8 : decode cX10_unbind 8 = .ok (.getfield 12, 3) := by decide +kernel
theorem dX10_unbind_11 : decode cX10_unbind 11 = .ok (.getfield 99, 3) := by decide +kernel
theorem dX10_unbind_14 : decode cX10_unbind 14 = .ok (.getfield 146, 3) := by decide +kernel
theorem dX10_unbind_17 : decode cX10_unbind 17 = .ok (.iload_n 1, 1) := by decide +kernel
theorem dX10_unbind_18 : decode cX10_unbind 18 = .ok (.iaload, 1) := by decide +kernel
theorem dX10_unbind_19 : decode cX10_unbind 19 = .ok (.iconst (-1), 1) := by decide +kernel
theorem dX10_unbind_20 : decode cX10_unbind 20 = .ok (.if_icmp .ne 5, 3) := by decide +kernel
theorem dX10_unbind_23 : decode cX10_unbind 23 = .ok (.iconst 0, 1) := by decide +kernel
theorem dX10_unbind_24 : decode cX10_unbind 24 = .ok (.ireturn, 1) := by decide +kernel
theorem dX10_unbind_25 : decode cX10_unbind 25 = .ok (.aload_n 0, 1) := by decide +kernel
theorem dX10_unbind_26 : decode cX10_unbind 26 = .ok (.invokevirtual 96, 3) := by decide +kernel
theorem dX10_unbind_29 : decode cX10_unbind 29 = .ok (.aload_n 0, 1) := by decide +kernel
theorem dX10_unbind_30 : decode cX10_unbind 30 = .ok (.getfield 12, 3) := by decide +kernel
theorem dX10_unbind_33 : decode cX10_unbind 33 = .ok (.getfield 99, 3) := by decide +kernel
theorem dX10_unbind_36 : decode cX10_unbind 36 = .ok (.getfield 146, 3) := by decide +kernel
theorem dX10_unbind_39 : decode cX10_unbind 39 = .ok (.iload_n 1, 1) := by decide +kernel
theorem dX10_unbind_40 : decode cX10_unbind 40 = .ok (.iconst (-1), 1) := by decide +kernel
theorem dX10_unbind_41 : decode cX10_unbind 41 = .ok (.iastore, 1) := by decide +kernel
theorem dX10_unbind_42 : decode cX10_unbind 42 = .ok (.aload_n 0, 1) := by decide +kernel
theorem dX10_unbind_43 : decode cX10_unbind 43 = .ok (.getfield 12, 3) := by decide +kernel
theorem dX10_unbind_46 : decode cX10_unbind 46 = .ok (.getfield 99, 3) := by decide +kernel
theorem dX10_unbind_49 : decode cX10_unbind 49 = .ok (.getfield 149, 3) := by decide +kernel
theorem dX10_unbind_52 : decode cX10_unbind 52 = .ok (.iload_n 1, 1) := by decide +kernel
theorem dX10_unbind_53 : decode cX10_unbind 53 = .ok (.invokevirtual 159, 3) := by decide +kernel
theorem dX10_unbind_56 : decode cX10_unbind 56 = .ok (.iconst 1, 1) := by decide +kernel
theorem dX10_unbind_57 : decode cX10_unbind 57 = .ok (.ireturn, 1) := by decide +kernel
abbrev mX10_unbind : MI := (RX10, yX10_unbind, cX10_unbind, 2, (some .boolean))
theorem mok_X10_unbind : MOKv mX10_unbind 1 := ⟨⟨bm_633, bm_114, ⟨by decide, by decide⟩, by decide +kernel⟩, bm_631, bm_632⟩
def f_X10_unbind   (a0 : Nat) (x1 : Int32) (h : MH) : Option (Int32 × MH) :=
  (f_X10_isBinding x1 h).bind fun q_1 =>
  if q_1.1 = 0 then
    some (0, q_1.2)
  else
    (gR q_1.2 a0 0).bind fun a_2 =>
    (gR q_1.2 a_2 0).bind fun a_3 =>
    (gR q_1.2 a_3 6).bind fun a_4 =>
    (ldI q_1.2 a_4 x1).bind fun x_5 =>
    if x_5 = (-1 : Int32) then
      some (0, q_1.2)
    else
      (f_X10_beginAct a0 q_1.2).bind fun q_6 =>
      (gR q_6 a0 0).bind fun a_7 =>
      (gR q_6 a_7 0).bind fun a_8 =>
      (gR q_6 a_8 6).bind fun a_9 =>
      (stI q_6 a_9 x1 (-1 : Int32)).bind fun h_10 =>
      (gR h_10 a0 0).bind fun a_11 =>
      (gR h_10 a_11 0).bind fun a_12 =>
      (gR h_10 a_12 7).bind fun a_13 =>
      (f_X6_empty a_13 x1 h_10).bind fun q_14 =>
      some (1, q_14)
set_option maxRecDepth 100000 in
set_option maxHeartbeats 4000000 in
theorem v_X10_unbind {l : Launch} {G : GE} {B N : Nat} {S : List SHP} {o : Int32 × MH} {a0 : Nat} {x1 : Int32}    (hs0 : S[a0]? = some (.inl 10)) {h : MH} (hf : f_X10_unbind a0 x1 h = some o) : V l G B N mX10_unbind (rmm 8 0 0) false 0 0 (QI S o) S 0 0 0 [(0, .ref a0), (1, .int x1)] [] h := by
  unfold f_X10_unbind at hf
  refine V_iload_n (pc' := 1) dX10_unbind_0 rfl 1 rfl rfl ?_
  refine V_csI (pc' := 4) (As := [.int x1]) (rest := []) dX10_unbind_1 rfl mok_X10_isBinding bm_606 rfl rfl (Nat.le_of_ble_eq_true rfl) (by decide) hf (fun q e => ct_X10_isBinding  e) (fun q_1 hf => ?_)
  refine V_if_eq (tgt := 23) (pc' := 7) dX10_unbind_4 (by decide) rfl hf (fun hf => ?_) (fun hf => ?_)
  ·
    refine V_iconst (v := 0) (pc' := 24) dX10_unbind_23 rfl (by decide) ?_
    obtain rfl := Option.some.inj hf
    exact V_zretL dX10_unbind_24 rfl rfl rfl (by decide) ⟨rfl, rfl, rfl⟩
  ·
    refine V_aload_n (pc' := 8) dX10_unbind_7 rfl 0 rfl rfl ?_
    refine V_getR (pc' := 11) 10 0 dX10_unbind_8 rfl (by decide) (Nat.le_of_ble_eq_true rfl) bm_458 hs0 (fun _ _ _ => rfl) rfl hf (fun a_2 ha_2 hf => ?_)
    refine V_getR (pc' := 14) 7 0 dX10_unbind_11 rfl (by decide) (Nat.le_of_ble_eq_true rfl) bm_263 ha_2 (fun _ _ _ => rfl) rfl hf (fun a_3 ha_3 hf => ?_)
    refine V_getR (pc' := 17) 2 6 dX10_unbind_14 rfl (by decide) (Nat.le_of_ble_eq_true rfl) bm_213 ha_3 (fun _ _ _ => rfl) rfl hf (fun a_4 ha_4 hf => ?_)
    refine V_iload_n (pc' := 18) dX10_unbind_17 rfl 1 rfl rfl ?_
    refine V_iald (pc' := 19) dX10_unbind_18 rfl ha_4 hf (fun x_5 hf => ?_)
    refine V_iconst (v := (-1)) (pc' := 20) dX10_unbind_19 rfl (by decide) ?_
    refine V_icmp_ne (tgt := 25) (pc' := 23) dX10_unbind_20 (by decide) rfl hf (fun hf => ?_) (fun hf => ?_)
    ·
      refine V_iconst (v := 0) (pc' := 24) dX10_unbind_23 rfl (by decide) ?_
      obtain rfl := Option.some.inj hf
      exact V_zretL dX10_unbind_24 rfl rfl rfl (by decide) ⟨rfl, rfl, rfl⟩
    ·
      refine V_aload_n (pc' := 26) dX10_unbind_25 rfl 0 rfl rfl ?_
      refine V_cvV (pc' := 29) (As := []) (rest := []) dX10_unbind_26 rfl mok_X10_beginAct bm_514 10 (by decide) rfl hs0 rfl rfl (Nat.le_of_ble_eq_true rfl) (by decide) hf (fun q e => ct_X10_beginAct hs0 e) (fun q_6 hf => ?_)
      refine V_aload_n (pc' := 30) dX10_unbind_29 rfl 0 rfl rfl ?_
      refine V_getR (pc' := 33) 10 0 dX10_unbind_30 rfl (by decide) (Nat.le_of_ble_eq_true rfl) bm_458 hs0 (fun _ _ _ => rfl) rfl hf (fun a_7 ha_7 hf => ?_)
      refine V_getR (pc' := 36) 7 0 dX10_unbind_33 rfl (by decide) (Nat.le_of_ble_eq_true rfl) bm_263 ha_7 (fun _ _ _ => rfl) rfl hf (fun a_8 ha_8 hf => ?_)
      refine V_getR (pc' := 39) 2 6 dX10_unbind_36 rfl (by decide) (Nat.le_of_ble_eq_true rfl) bm_213 ha_8 (fun _ _ _ => rfl) rfl hf (fun a_9 ha_9 hf => ?_)
      refine V_iload_n (pc' := 40) dX10_unbind_39 rfl 1 rfl rfl ?_
      refine V_iconst (v := (-1)) (pc' := 41) dX10_unbind_40 rfl (by decide) ?_
      refine V_iast (pc' := 42) dX10_unbind_41 rfl ha_9 hf (fun h_10 hf => ?_)
      refine V_aload_n (pc' := 43) dX10_unbind_42 rfl 0 rfl rfl ?_
      refine V_getR (pc' := 46) 10 0 dX10_unbind_43 rfl (by decide) (Nat.le_of_ble_eq_true rfl) bm_458 hs0 (fun _ _ _ => rfl) rfl hf (fun a_11 ha_11 hf => ?_)
      refine V_getR (pc' := 49) 7 0 dX10_unbind_46 rfl (by decide) (Nat.le_of_ble_eq_true rfl) bm_263 ha_11 (fun _ _ _ => rfl) rfl hf (fun a_12 ha_12 hf => ?_)
      refine V_getR (pc' := 52) 2 7 dX10_unbind_49 rfl (by decide) (Nat.le_of_ble_eq_true rfl) bm_218 ha_12 (fun _ _ _ => rfl) rfl hf (fun a_13 ha_13 hf => ?_)
      refine V_iload_n (pc' := 53) dX10_unbind_52 rfl 1 rfl rfl ?_
      refine V_cvV (pc' := 56) (As := [.int x1]) (rest := []) dX10_unbind_53 rfl mok_X6_empty bm_634 6 (by decide) rfl ha_13 rfl rfl (Nat.le_of_ble_eq_true rfl) (by decide) hf (fun q e => ct_X6_empty ha_13 e) (fun q_14 hf => ?_)
      refine V_iconst (v := 1) (pc' := 57) dX10_unbind_56 rfl (by decide) ?_
      obtain rfl := Option.some.inj hf
      exact V_zretL dX10_unbind_57 rfl rfl rfl (by decide) ⟨rfl, rfl, rfl⟩
theorem ct_X10_unbind {l : Launch} {S : List SHP} {h : MH} {a0 : Nat} {x1 : Int32} (hs0 : S[a0]? = some (.inl 10)) {q : Int32 × MH} (hf : f_X10_unbind a0 x1 h = some q) : CT l mX10_unbind 8 false 0 0 S [.ref a0, .int x1] h (QI S q) :=
  CT_ofV (by decide) rfl (Nat.le_of_ble_eq_true rfl) (fun G B hT => v_X10_unbind hs0 hf)
/-! LabelStacks.depth(I)Z -/
theorem dX10_depth_0 : decode cX10_depth 0 = .ok (.iload_n 1, 1) := by decide +kernel
theorem dX10_depth_1 : decode cX10_depth 1 = .ok (.iconst 1, 1) := by decide +kernel
theorem dX10_depth_2 : decode cX10_depth 2 = .ok (.if_icmp .lt 9, 3) := by decide +kernel
theorem dX10_depth_5 : decode cX10_depth 5 = .ok (.iload_n 1, 1) := by decide +kernel
theorem dX10_depth_6 : decode cX10_depth 6 = .ok (.bipush 12, 2) := by decide +kernel
theorem dX10_depth_8 : decode cX10_depth 8 = .ok (.if_icmp .le 5, 3) := by decide +kernel
theorem dX10_depth_11 : decode cX10_depth 11 = .ok (.iconst 0, 1) := by decide +kernel
theorem dX10_depth_12 : decode cX10_depth 12 = .ok (.ireturn, 1) := by decide +kernel
theorem dX10_depth_13 : decode cX10_depth 13 = .ok (.aload_n 0, 1) := by decide +kernel
theorem dX10_depth_14 : decode cX10_depth 14 = .ok (.iload_n 1, 1) := by decide +kernel
theorem dX10_depth_15 : decode cX10_depth 15 = .ok (.putfield 25, 3) := by decide +kernel
theorem dX10_depth_18 : decode cX10_depth 18 = .ok (.iconst 1, 1) := by decide +kernel
theorem dX10_depth_19 : decode cX10_depth 19 = .ok (.ireturn, 1) := by decide +kernel
abbrev mX10_depth : MI := (RX10, yX10_depth, cX10_depth, 2, (some .boolean))
theorem mok_X10_depth : MOKv mX10_depth 1 := ⟨⟨bm_638, bm_114, ⟨by decide, by decide⟩, by decide +kernel⟩, bm_636, bm_637⟩
def f_X10_depth   (a0 : Nat) (x1 : Int32) (h : MH) : Option (Int32 × MH) :=
  if x1 < 1 then
    some (0, h)
  else
    if 12 < x1 then
      some (0, h)
    else
      lt (sI h a0 2 x1) fun h_1 =>
      some (1, h_1)
set_option maxRecDepth 100000 in
set_option maxHeartbeats 4000000 in
theorem v_X10_depth {l : Launch} {G : GE} {B N : Nat} {S : List SHP} {o : Int32 × MH} {a0 : Nat} {x1 : Int32}    (hs0 : S[a0]? = some (.inl 10)) {h : MH} (hf : f_X10_depth a0 x1 h = some o) : V l G B N mX10_depth (rmm 3 0 0) false 0 0 (QI S o) S 0 0 0 [(0, .ref a0), (1, .int x1)] [] h := by
  unfold f_X10_depth at hf
  refine V_iload_n (pc' := 1) dX10_depth_0 rfl 1 rfl rfl ?_
  refine V_iconst (v := 1) (pc' := 2) dX10_depth_1 rfl (by decide) ?_
  refine V_icmp_lt (tgt := 11) (pc' := 5) dX10_depth_2 (by decide) rfl hf (fun hf => ?_) (fun hf => ?_)
  ·
    refine V_iconst (v := 0) (pc' := 12) dX10_depth_11 rfl (by decide) ?_
    obtain rfl := Option.some.inj hf
    exact V_zretL dX10_depth_12 rfl rfl rfl (by decide) ⟨rfl, rfl, rfl⟩
  ·
    refine V_iload_n (pc' := 6) dX10_depth_5 rfl 1 rfl rfl ?_
    refine V_bipush (v := 12) (pc' := 8) dX10_depth_6 rfl (by decide) ?_
    refine V_icmp_le (tgt := 13) (pc' := 11) dX10_depth_8 (by decide) rfl hf (fun hf => ?_) (fun hf => ?_)
    ·
      refine V_iconst (v := 0) (pc' := 12) dX10_depth_11 rfl (by decide) ?_
      obtain rfl := Option.some.inj hf
      exact V_zretL dX10_depth_12 rfl rfl rfl (by decide) ⟨rfl, rfl, rfl⟩
    ·
      refine V_aload_n (pc' := 14) dX10_depth_13 rfl 0 rfl rfl ?_
      refine V_iload_n (pc' := 15) dX10_depth_14 rfl 1 rfl rfl ?_
      refine V_putI (pc' := 18) 10 2 dX10_depth_15 rfl (by decide) (Nat.le_of_ble_eq_true rfl) bm_460 hs0 (Or.inl rfl) rfl ?_
      refine V_nmH hf (fun h_1 hf => ?_)
      refine V_iconst (v := 1) (pc' := 19) dX10_depth_18 rfl (by decide) ?_
      obtain rfl := Option.some.inj hf
      exact V_zretL dX10_depth_19 rfl rfl rfl (by decide) ⟨rfl, rfl, rfl⟩
theorem ct_X10_depth {l : Launch} {S : List SHP} {h : MH} {a0 : Nat} {x1 : Int32} (hs0 : S[a0]? = some (.inl 10)) {q : Int32 × MH} (hf : f_X10_depth a0 x1 h = some q) : CT l mX10_depth 3 false 0 0 S [.ref a0, .int x1] h (QI S q) :=
  CT_ofV (by decide) rfl (Nat.le_of_ble_eq_true rfl) (fun G B hT => v_X10_depth hs0 hf)
/-! LabelStacks.wayEnd()I -/
theorem dX10_wayEnd_0 : decode cX10_wayEnd 0 = .ok (.aload_n 0, 1) := by decide +kernel
theorem dX10_wayEnd_1 : decode cX10_wayEnd 1 = .ok (.getfield 12, 3) := by decide +kernel
theorem dX10_wayEnd_4 : decode cX10_wayEnd 4 = .ok (.getfield 99, 3) := by decide +kernel
theorem dX10_wayEnd_7 : decode cX10_wayEnd 7 = .ok (.aload_n 0, 1) := by decide +kernel
theorem dX10_wayEnd_8 : decode cX10_wayEnd 8 = .ok (.getfield 12, 3) := by decide +kernel
theorem dX10_wayEnd_11 : decode cX10_wayEnd 11 = .ok (.getfield 162, 3) := by decide +kernel
theorem dX10_wayEnd_14 : decode cX10_wayEnd 14 = .ok (.aload_n 0, 1) := by decide +kernel
theorem dX10_wayEnd_15 : decode cX10_wayEnd 15 = .ok (.getfield 12, 3) := by decide +kernel
theorem dX10_wayEnd_18 : decode cX10_wayEnd 18 = .ok (.getfield 162, 3) := by decide +kernel
theorem dX10_wayEnd_21 : decode cX10_wayEnd 21 = .ok (.getfield 168, 3) := by decide +kernel
theorem dX10_wayEnd_24 : decode cX10_wayEnd 24 = .ok (.iconst 1, 1) := by decide +kernel
theorem dX10_wayEnd_25 : decode cX10_wayEnd 25 = .ok (.isub, 1) := by decide +kernel
theorem dX10_wayEnd_26 : decode cX10_wayEnd 26 = .ok (.invokevirtual 277, 3) := by decide +kernel
theorem dX10_wayEnd_29 : decode cX10_wayEnd 29 = .ok (.invokevirtual 385, 3) := by decide +kernel
theorem dX10_wayEnd_32 : decode cX10_wayEnd 32 = .ok (.ireturn, 1) := by decide +kernel
abbrev mX10_wayEnd : MI := (RX10, yX10_wayEnd, cX10_wayEnd, 1, (some .int))
theorem mok_X10_wayEnd : MOKv mX10_wayEnd 0 := ⟨⟨bm_650, bm_114, ⟨by decide, by decide⟩, by decide +kernel⟩, bm_649, bm_2⟩
def f_X10_wayEnd   (a0 : Nat) (h : MH) : Option (Int32 × MH) :=
  (gR h a0 0).bind fun a_1 =>
  (gR h a_1 0).bind fun a_2 =>
  (gR h a0 0).bind fun a_3 =>
  (gR h a_3 6).bind fun a_4 =>
  (gR h a0 0).bind fun a_5 =>
  (gR h a_5 6).bind fun a_6 =>
  (f_X5_get a_4 ((gI h a_6 1) - 1) h).bind fun q_7 =>
  (f_X2_toOf a_2 q_7.1 q_7.2).bind fun q_8 =>
  some (q_8.1, q_8.2)
set_option maxRecDepth 100000 in
set_option maxHeartbeats 4000000 in
theorem v_X10_wayEnd {l : Launch} {G : GE} {B N : Nat} {S : List SHP} {o : Int32 × MH} {a0 : Nat}    (hs0 : S[a0]? = some (.inl 10)) {h : MH} (hf : f_X10_wayEnd a0 h = some o) : V l G B N mX10_wayEnd (rmm 4 0 0) false 0 0 (QI S o) S 0 0 0 [(0, .ref a0)] [] h := by
  unfold f_X10_wayEnd at hf
  refine V_aload_n (pc' := 1) dX10_wayEnd_0 rfl 0 rfl rfl ?_
  refine V_getR (pc' := 4) 10 0 dX10_wayEnd_1 rfl (by decide) (Nat.le_of_ble_eq_true rfl) bm_458 hs0 (fun _ _ _ => rfl) rfl hf (fun a_1 ha_1 hf => ?_)
  refine V_getR (pc' := 7) 7 0 dX10_wayEnd_4 rfl (by decide) (Nat.le_of_ble_eq_true rfl) bm_263 ha_1 (fun _ _ _ => rfl) rfl hf (fun a_2 ha_2 hf => ?_)
  refine V_aload_n (pc' := 8) dX10_wayEnd_7 rfl 0 rfl rfl ?_
  refine V_getR (pc' := 11) 10 0 dX10_wayEnd_8 rfl (by decide) (Nat.le_of_ble_eq_true rfl) bm_458 hs0 (fun _ _ _ => rfl) rfl hf (fun a_3 ha_3 hf => ?_)
  refine V_getR (pc' := 14) 7 6 dX10_wayEnd_11 rfl (by decide) (Nat.le_of_ble_eq_true rfl) bm_275 ha_3 (fun _ _ _ => rfl) rfl hf (fun a_4 ha_4 hf => ?_)
  refine V_aload_n (pc' := 15) dX10_wayEnd_14 rfl 0 rfl rfl ?_
  refine V_getR (pc' := 18) 10 0 dX10_wayEnd_15 rfl (by decide) (Nat.le_of_ble_eq_true rfl) bm_458 hs0 (fun _ _ _ => rfl) rfl hf (fun a_5 ha_5 hf => ?_)
  refine V_getR (pc' := 21) 7 6 dX10_wayEnd_18 rfl (by decide) (Nat.le_of_ble_eq_true rfl) bm_275 ha_5 (fun _ _ _ => rfl) rfl hf (fun a_6 ha_6 hf => ?_)
  refine V_getI (pc' := 24) 5 1 dX10_wayEnd_21 rfl (by decide) (Nat.le_of_ble_eq_true rfl) bm_256 ha_6 (fun _ _ _ => rfl) ?_
  refine V_iconst (v := 1) (pc' := 25) dX10_wayEnd_24 rfl (by decide) ?_
  refine V_isub (pc' := 26) dX10_wayEnd_25 rfl ?_
  refine V_cvI (pc' := 29) (As := [.int ((gI h a_6 1) - 1)]) (rest := [.ref a_2]) dX10_wayEnd_26 rfl mok_X5_get bm_613 5 (by decide) rfl ha_4 rfl rfl (Nat.le_of_ble_eq_true rfl) (by decide) hf (fun q e => ct_X5_get ha_4 e) (fun q_7 hf => ?_)
  refine V_cvI (pc' := 32) (As := [.int q_7.1]) (rest := []) dX10_wayEnd_29 rfl mok_X2_toOf bm_651 2 (by decide) rfl ha_2 rfl rfl (Nat.le_of_ble_eq_true rfl) (by decide) hf (fun q e => ct_X2_toOf ha_2 e) (fun q_8 hf => ?_)
  obtain rfl := Option.some.inj hf
  exact V_iret dX10_wayEnd_32 rfl rfl rfl ⟨rfl, rfl, rfl⟩
theorem ct_X10_wayEnd {l : Launch} {S : List SHP} {h : MH} {a0 : Nat} (hs0 : S[a0]? = some (.inl 10)) {q : Int32 × MH} (hf : f_X10_wayEnd a0 h = some q) : CT l mX10_wayEnd 4 false 0 0 S [.ref a0] h (QI S q) :=
  CT_ofV (by decide) rfl (Nat.le_of_ble_eq_true rfl) (fun G B hT => v_X10_wayEnd hs0 hf)
/-! LabelStacks.on(I)I -/
theorem dX10_on_0 : decode cX10_on 0 = .ok (.aload_n 0, 1) := by decide +kernel
theorem dX10_on_1 : decode cX10_on 1 = .ok (.getfield 12, 3) := by decide +kernel
theorem dX10_on_4 : decode cX10_on 4 = .ok (.getfield 99, 3) := by decide +kernel
theorem dX10_on_7 : decode cX10_on 7 = .ok (.astore_n 2, 1) := by decide +kernel
theorem dX10_on_8 : decode cX10_on 8 = .ok (.aload_n 0, 1) := by decide +kernel
theorem dX10_on_9 : decode cX10_on 9 = .ok (.getfield 12, 3) := by decide +kernel
theorem dX10_on_12 : decode cX10_on 12 = .ok (.getfield 162, 3) := by decide +kernel
theorem dX10_on_15 : decode cX10_on 15 = .ok (.astore_n 3, 1) := by decide +kernel
theorem dX10_on_16 : decode cX10_on 16 = .ok (.aload_n 2, 1) := by decide +kernel
theorem dX10_on_17 : decode cX10_on 17 = .ok (.iload_n 1, 1) := by decide +kernel
theorem dX10_on_18 : decode cX10_on 18 = .ok (.invokevirtual 125, 3) := by decide +kernel
theorem dX10_on_21 : decode cX10_on 21 = .ok (.ifCond .eq 10, 3) := by decide +kernel
theorem dX10_on_24 : decode cX10_on 24 = .ok (.aload_n 3, 1) := by decide +kernel
theorem dX10_on_25 : decode cX10_on 25 = .ok (.invokevirtual 165, 3) := by decide +kernel
theorem dX10_on_28 : decode cX10_on 28 = .ok (.ifCond .eq 5, 3) := by decide +kernel
theorem dX10_on_31 : decode cX10_on 31 = .ok (.iconst (-1), 1) := by decide +kernel
theorem dX10_on_32 : decode cX10_on 32 = .ok (.ireturn, 1) := by decide +kernel
theorem dX10_on_33 : decode cX10_on 33 = .ok (.aload_n 3, 1) := by decide +kernel
theorem dX10_on_34 : decode cX10_on 34 = .ok (.getfield 168, 3) := by decide +kernel
theorem dX10_on_37 : decode cX10_on 37 = .ok (.ifCond .le 18, 3) := by decide +kernel
theorem dX10_on_40 : decode cX10_on 40 = .ok (.aload_n 2, 1) := by decide +kernel
theorem dX10_on_41 : decode cX10_on 41 = .ok (.getfield 171, 3) := by decide +kernel
theorem dX10_on_44 : decode cX10_on 44 = .ok (.iload_n 1, 1) := by decide +kernel
theorem dX10_on_45 : decode cX10_on 45 = .ok (.iaload, 1) := by decide +kernel
theorem dX10_on_46 : decode cX10_on 46 = .ok (.aload_n 0, 1) := by decide +kernel
theorem dX10_on_47 : decode cX10_on 47 = .ok (.invokevirtual 174, 3) := by decide +kernel
theorem dX10_on_50 : decode cX10_on 50 = .ok (.if_icmp .eq 5, 3) := by decide +kernel
theorem dX10_on_53 : decode cX10_on 53 = .ok (.iconst (-1), 1) := by decide +kernel
theorem dX10_on_54 : decode cX10_on 54 = .ok (.ireturn, 1) := by decide +kernel
theorem dX10_on_55 : decode cX10_on 55 = .ok (.aload_n 3, 1) := by decide +kernel
theorem dX10_on_56 : decode cX10_on 56 = .ok (.iload_n 1, 1) := by decide +kernel
theorem dX10_on_57 : decode cX10_on 57 = .ok (.invokevirtual 178, 3) := by decide +kernel
theorem dX10_on_60 : decode cX10_on 60 = .ok (.aload_n 3, 1) := by decide +kernel
theorem dX10_on_61 : decode cX10_on 61 = .ok (.getfield 168, 3) := by decide +kernel
theorem dX10_on_64 : decode cX10_on 64 = .ok (.ireturn, 1) := by decide +kernel
abbrev mX10_on : MI := (RX10, yX10_on, cX10_on, 4, (some .int))
theorem mok_X10_on : MOKv mX10_on 1 := ⟨⟨bm_642, bm_114, ⟨by decide, by decide⟩, by decide +kernel⟩, bm_640, bm_641⟩
def f_X10_on_55   (x1 : Int32) (a3 : Nat) (h : MH) : Option (Int32 × MH) :=
  (f_X5_add a3 x1 h).bind fun q_1 =>
  some ((gI q_1 a3 1), q_1)
def f_X10_on   (a0 : Nat) (x1 : Int32) (h : MH) : Option (Int32 × MH) :=
  (gR h a0 0).bind fun a_1 =>
  (gR h a_1 0).bind fun a_2 =>
  (gR h a0 0).bind fun a_3 =>
  (gR h a_3 6).bind fun a_4 =>
  (f_X2_hasLink a_2 x1 h).bind fun q_5 =>
  if q_5.1 = 0 then
    some ((-1 : Int32), q_5.2)
  else
    (f_X5_isFull a_4 q_5.2).bind fun q_6 =>
    if q_6.1 = 0 then
      if 0 < (gI q_6.2 a_4 1) then
        (gR q_6.2 a_2 3).bind fun a_7 =>
        (ldI q_6.2 a_7 x1).bind fun x_8 =>
        (f_X10_wayEnd a0 q_6.2).bind fun q_9 =>
        if x_8 = q_9.1 then
          f_X10_on_55 x1 a_4 q_9.2
        else
          some ((-1 : Int32), q_9.2)
      else
        f_X10_on_55 x1 a_4 q_6.2
    else
      some ((-1 : Int32), q_6.2)
set_option maxRecDepth 100000 in
set_option maxHeartbeats 4000000 in
theorem v_X10_on_55 {l : Launch} {G : GE} {B N : Nat} {S : List SHP} {o : Int32 × MH} {x1 : Int32} {a3 : Nat}    (hs3 : S[a3]? = some (.inl 5)) {h : MH} (hf : f_X10_on_55 x1 a3 h = some o) : V l G B N mX10_on (rmm 5 0 0) false 0 0 (QI S o) S 0 0 55 [(1, .int x1), (3, .ref a3)] [] h := by
  unfold f_X10_on_55 at hf
  refine V_aload_n (pc' := 56) dX10_on_55 rfl 1 rfl rfl ?_
  refine V_iload_n (pc' := 57) dX10_on_56 rfl 0 rfl rfl ?_
  refine V_cvV (pc' := 60) (As := [.int x1]) (rest := []) dX10_on_57 rfl mok_X5_add bm_655 5 (by decide) rfl hs3 rfl rfl (Nat.le_of_ble_eq_true rfl) (by decide) hf (fun q e => ct_X5_add hs3 e) (fun q_1 hf => ?_)
  refine V_aload_n (pc' := 61) dX10_on_60 rfl 1 rfl rfl ?_
  refine V_getI (pc' := 64) 5 1 dX10_on_61 rfl (by decide) (Nat.le_of_ble_eq_true rfl) bm_256 hs3 (fun _ _ _ => rfl) ?_
  obtain rfl := Option.some.inj hf
  exact V_iret dX10_on_64 rfl rfl rfl ⟨rfl, rfl, rfl⟩
set_option maxRecDepth 100000 in
set_option maxHeartbeats 4000000 in
theorem v_X10_on {l : Launch} {G : GE} {B N : Nat} {S : List SHP} {o : Int32 × MH} {a0 : Nat} {x1 : Int32}    (hs0 : S[a0]? = some (.inl 10)) {h : MH} (hf : f_X10_on a0 x1 h = some o) : V l G B N mX10_on (rmm 5 0 0) false 0 0 (QI S o) S 0 0 0 [(0, .ref a0), (1, .int x1)] [] h := by
  unfold f_X10_on at hf
  refine V_aload_n (pc' := 1) dX10_on_0 rfl 0 rfl rfl ?_
  refine V_getR (pc' := 4) 10 0 dX10_on_1 rfl (by decide) (Nat.le_of_ble_eq_true rfl) bm_458 hs0 (fun _ _ _ => rfl) rfl hf (fun a_1 ha_1 hf => ?_)
  refine V_getR (pc' := 7) 7 0 dX10_on_4 rfl (by decide) (Nat.le_of_ble_eq_true rfl) bm_263 ha_1 (fun _ _ _ => rfl) rfl hf (fun a_2 ha_2 hf => ?_)
  refine V_astore_n (lv' := [(2, .ref a_2), (0, .ref a0), (1, .int x1)]) (pc' := 8) dX10_on_7 rfl rfl (Nat.le_of_ble_eq_true rfl) rfl ?_
  refine V_aload_n (pc' := 9) dX10_on_8 rfl 1 rfl rfl ?_
  refine V_getR (pc' := 12) 10 0 dX10_on_9 rfl (by decide) (Nat.le_of_ble_eq_true rfl) bm_458 hs0 (fun _ _ _ => rfl) rfl hf (fun a_3 ha_3 hf => ?_)
  refine V_getR (pc' := 15) 7 6 dX10_on_12 rfl (by decide) (Nat.le_of_ble_eq_true rfl) bm_275 ha_3 (fun _ _ _ => rfl) rfl hf (fun a_4 ha_4 hf => ?_)
  refine V_astore_n (lv' := [(3, .ref a_4), (2, .ref a_2), (0, .ref a0), (1, .int x1)]) (pc' := 16) dX10_on_15 rfl rfl (Nat.le_of_ble_eq_true rfl) rfl ?_
  refine V_aload_n (pc' := 17) dX10_on_16 rfl 1 rfl rfl ?_
  refine V_iload_n (pc' := 18) dX10_on_17 rfl 3 rfl rfl ?_
  refine V_cvI (pc' := 21) (As := [.int x1]) (rest := []) dX10_on_18 rfl mok_X2_hasLink bm_589 2 (by decide) rfl ha_2 rfl rfl (Nat.le_of_ble_eq_true rfl) (by decide) hf (fun q e => ct_X2_hasLink ha_2 e) (fun q_5 hf => ?_)
  refine V_if_eq (tgt := 31) (pc' := 24) dX10_on_21 (by decide) rfl hf (fun hf => ?_) (fun hf => ?_)
  ·
    refine V_iconst (v := (-1)) (pc' := 32) dX10_on_31 rfl (by decide) ?_
    obtain rfl := Option.some.inj hf
    exact V_iret dX10_on_32 rfl rfl rfl ⟨rfl, rfl, rfl⟩
  ·
    refine V_aload_n (pc' := 25) dX10_on_24 rfl 0 rfl rfl ?_
    refine V_cvI (pc' := 28) (As := []) (rest := []) dX10_on_25 rfl mok_X5_isFull bm_643 5 (by decide) rfl ha_4 rfl rfl (Nat.le_of_ble_eq_true rfl) (by decide) hf (fun q e => ct_X5_isFull ha_4 e) (fun q_6 hf => ?_)
    refine V_if_eq (tgt := 33) (pc' := 31) dX10_on_28 (by decide) rfl hf (fun hf => ?_) (fun hf => ?_)
    ·
      refine V_aload_n (pc' := 34) dX10_on_33 rfl 0 rfl rfl ?_
      refine V_getI (pc' := 37) 5 1 dX10_on_34 rfl (by decide) (Nat.le_of_ble_eq_true rfl) bm_256 ha_4 (fun _ _ _ => rfl) ?_
      refine V_if_le (tgt := 55) (pc' := 40) dX10_on_37 (by decide) rfl hf (fun hf => ?_) (fun hf => ?_)
      ·
        refine V_aload_n (pc' := 41) dX10_on_40 rfl 1 rfl rfl ?_
        refine V_getR (pc' := 44) 2 3 dX10_on_41 rfl (by decide) (Nat.le_of_ble_eq_true rfl) bm_200 ha_2 (fun _ _ _ => rfl) rfl hf (fun a_7 ha_7 hf => ?_)
        refine V_iload_n (pc' := 45) dX10_on_44 rfl 3 rfl rfl ?_
        refine V_iald (pc' := 46) dX10_on_45 rfl ha_7 hf (fun x_8 hf => ?_)
        refine V_aload_n (pc' := 47) dX10_on_46 rfl 2 rfl rfl ?_
        refine V_cvI (pc' := 50) (As := []) (rest := [.int x_8]) dX10_on_47 rfl mok_X10_wayEnd bm_647 10 (by decide) rfl hs0 rfl rfl (Nat.le_of_ble_eq_true rfl) (by decide) hf (fun q e => ct_X10_wayEnd hs0 e) (fun q_9 hf => ?_)
        refine V_icmp_eq (tgt := 55) (pc' := 53) dX10_on_50 (by decide) rfl hf (fun hf => ?_) (fun hf => ?_)
        ·
          exact V_sub (lv' := [(1, .int x1), (3, .ref a_4)]) [3, 0] rfl (v_X10_on_55 ha_4 hf)
        ·
          refine V_iconst (v := (-1)) (pc' := 54) dX10_on_53 rfl (by decide) ?_
          obtain rfl := Option.some.inj hf
          exact V_iret dX10_on_54 rfl rfl rfl ⟨rfl, rfl, rfl⟩
      ·
        exact V_sub (lv' := [(1, .int x1), (3, .ref a_4)]) [3, 0] rfl (v_X10_on_55 ha_4 hf)
    ·
      refine V_iconst (v := (-1)) (pc' := 32) dX10_on_31 rfl (by decide) ?_
      obtain rfl := Option.some.inj hf
      exact V_iret dX10_on_32 rfl rfl rfl ⟨rfl, rfl, rfl⟩
theorem ct_X10_on {l : Launch} {S : List SHP} {h : MH} {a0 : Nat} {x1 : Int32} (hs0 : S[a0]? = some (.inl 10)) {q : Int32 × MH} (hf : f_X10_on a0 x1 h = some q) : CT l mX10_on 5 false 0 0 S [.ref a0, .int x1] h (QI S q) :=
  CT_ofV (by decide) rfl (Nat.le_of_ble_eq_true rfl) (fun G B hT => v_X10_on hs0 hf)
/-! LabelStacks.off(I)I -/
theorem dX10_off_0 : decode cX10_off 0 = .ok (.iload_n 1, 1) := by decide +kernel
theorem dX10_off_1 : decode cX10_off 1 = .ok (.ifCond .lt 17, 3) := by decide +kernel
theorem dX10_off_4 : decode cX10_off 4 = .ok (.iload_n 1, 1) := by decide +kernel
theorem dX10_off_5 : decode cX10_off 5 = .ok (.aload_n 0, 1) := by decide +kernel
theorem dX10_off_6 : decode cX10_off 6 = .ok (.getfield 12, 3) := by decide +kernel
theorem dX10_off_9 : decode cX10_off 9 = .ok (.getfield 162, 3) := by decide +kernel
theorem dX10_off_12 : decode cX10_off 12 = .ok (.getfield 168, 3) := by decide +kernel
theorem dX10_off_15 : decode cX10_off 15 = .ok (.if_icmp .le 5, 3) := by decide +kernel
theorem dX10_off_18 : decode cX10_off 18 = .ok (.iconst (-1), 1) := by decide +kernel
theorem dX10_off_19 : decode cX10_off 19 = .ok (.ireturn, 1) := by decide +kernel
theorem dX10_off_20 : decode cX10_off 20 = .ok (.aload_n 0, 1) := by decide +kernel
theorem dX10_off_21 : decode cX10_off 21 = .ok (.getfield 12, 3) := by decide +kernel
theorem dX10_off_24 : decode cX10_off 24 = .ok (.getfield 162, 3) := by decide +kernel
theorem dX10_off_27 : decode cX10_off 27 = .ok (.dup, 1) := by decide +kernel
theorem dX10_off_28 : decode cX10_off 28 = .ok (.getfield 168, 3) := by decide +kernel
theorem dX10_off_31 : decode cX10_off 31 = .ok (.iload_n 1, 1) := by decide +kernel
theorem dX10_off_32 : decode cX10_off 32 = .ok (.isub, 1) := by decide +kernel
theorem dX10_off_33 : decode cX10_off 33 = .ok (.putfield 168, 3) := by decide +kernel
theorem dX10_off_36 : decode cX10_off 36 = .ok (.aload_n 0, 1) := by decide +kernel
theorem dX10_off_37 : decode cX10_off 37 = .ok (.getfield 12, 3) := by decide +kernel
theorem dX10_off_40 : decode cX10_off 40 = .ok (.getfield 162, 3) := by decide +kernel
theorem dX10_off_43 : decode cX10_off 43 = .ok (.getfield 168, 3) := by decide +kernel
theorem dX10_off_46 : decode cX10_off 46 = .ok (.ireturn, 1) := by decide +kernel
abbrev mX10_off : MI := (RX10, yX10_off, cX10_off, 2, (some .int))
theorem mok_X10_off : MOKv mX10_off 1 := ⟨⟨bm_662, bm_114, ⟨by decide, by decide⟩, by decide +kernel⟩, bm_660, bm_661⟩
def f_X10_off   (a0 : Nat) (x1 : Int32) (h : MH) : Option (Int32 × MH) :=
  if x1 < 0 then
    some ((-1 : Int32), h)
  else
    (gR h a0 0).bind fun a_1 =>
    (gR h a_1 6).bind fun a_2 =>
    if (gI h a_2 1) < x1 then
      some ((-1 : Int32), h)
    else
      (gR h a0 0).bind fun a_3 =>
      (gR h a_3 6).bind fun a_4 =>
      lt (sI h a_4 1 ((gI h a_4 1) - x1)) fun h_5 =>
      (gR h_5 a0 0).bind fun a_6 =>
      (gR h_5 a_6 6).bind fun a_7 =>
      some ((gI h_5 a_7 1), h_5)
set_option maxRecDepth 100000 in
set_option maxHeartbeats 4000000 in
theorem v_X10_off {l : Launch} {G : GE} {B N : Nat} {S : List SHP} {o : Int32 × MH} {a0 : Nat} {x1 : Int32}    (hs0 : S[a0]? = some (.inl 10)) {h : MH} (hf : f_X10_off a0 x1 h = some o) : V l G B N mX10_off (rmm 3 0 0) false 0 0 (QI S o) S 0 0 0 [(0, .ref a0), (1, .int x1)] [] h := by
  unfold f_X10_off at hf
  refine V_iload_n (pc' := 1) dX10_off_0 rfl 1 rfl rfl ?_
  refine V_if_lt (tgt := 18) (pc' := 4) dX10_off_1 (by decide) rfl hf (fun hf => ?_) (fun hf => ?_)
  ·
    refine V_iconst (v := (-1)) (pc' := 19) dX10_off_18 rfl (by decide) ?_
    obtain rfl := Option.some.inj hf
    exact V_iret dX10_off_19 rfl rfl rfl ⟨rfl, rfl, rfl⟩
  ·
    refine V_iload_n (pc' := 5) dX10_off_4 rfl 1 rfl rfl ?_
    refine V_aload_n (pc' := 6) dX10_off_5 rfl 0 rfl rfl ?_
    refine V_getR (pc' := 9) 10 0 dX10_off_6 rfl (by decide) (Nat.le_of_ble_eq_true rfl) bm_458 hs0 (fun _ _ _ => rfl) rfl hf (fun a_1 ha_1 hf => ?_)
    refine V_getR (pc' := 12) 7 6 dX10_off_9 rfl (by decide) (Nat.le_of_ble_eq_true rfl) bm_275 ha_1 (fun _ _ _ => rfl) rfl hf (fun a_2 ha_2 hf => ?_)
    refine V_getI (pc' := 15) 5 1 dX10_off_12 rfl (by decide) (Nat.le_of_ble_eq_true rfl) bm_256 ha_2 (fun _ _ _ => rfl) ?_
    refine V_icmp_le (tgt := 20) (pc' := 18) dX10_off_15 (by decide) rfl hf (fun hf => ?_) (fun hf => ?_)
    ·
      refine V_iconst (v := (-1)) (pc' := 19) dX10_off_18 rfl (by decide) ?_
      obtain rfl := Option.some.inj hf
      exact V_iret dX10_off_19 rfl rfl rfl ⟨rfl, rfl, rfl⟩
    ·
      refine V_aload_n (pc' := 21) dX10_off_20 rfl 0 rfl rfl ?_
      refine V_getR (pc' := 24) 10 0 dX10_off_21 rfl (by decide) (Nat.le_of_ble_eq_true rfl) bm_458 hs0 (fun _ _ _ => rfl) rfl hf (fun a_3 ha_3 hf => ?_)
      refine V_getR (pc' := 27) 7 6 dX10_off_24 rfl (by decide) (Nat.le_of_ble_eq_true rfl) bm_275 ha_3 (fun _ _ _ => rfl) rfl hf (fun a_4 ha_4 hf => ?_)
      refine V_dup (pc' := 28) dX10_off_27 rfl rfl ?_
      refine V_getI (pc' := 31) 5 1 dX10_off_28 rfl (by decide) (Nat.le_of_ble_eq_true rfl) bm_256 ha_4 (fun _ _ _ => rfl) ?_
      refine V_iload_n (pc' := 32) dX10_off_31 rfl 1 rfl rfl ?_
      refine V_isub (pc' := 33) dX10_off_32 rfl ?_
      refine V_putI (pc' := 36) 5 1 dX10_off_33 rfl (by decide) (Nat.le_of_ble_eq_true rfl) bm_256 ha_4 (Or.inl rfl) rfl ?_
      refine V_nmH hf (fun h_5 hf => ?_)
      refine V_aload_n (pc' := 37) dX10_off_36 rfl 0 rfl rfl ?_
      refine V_getR (pc' := 40) 10 0 dX10_off_37 rfl (by decide) (Nat.le_of_ble_eq_true rfl) bm_458 hs0 (fun _ _ _ => rfl) rfl hf (fun a_6 ha_6 hf => ?_)
      refine V_getR (pc' := 43) 7 6 dX10_off_40 rfl (by decide) (Nat.le_of_ble_eq_true rfl) bm_275 ha_6 (fun _ _ _ => rfl) rfl hf (fun a_7 ha_7 hf => ?_)
      refine V_getI (pc' := 46) 5 1 dX10_off_43 rfl (by decide) (Nat.le_of_ble_eq_true rfl) bm_256 ha_7 (fun _ _ _ => rfl) ?_
      obtain rfl := Option.some.inj hf
      exact V_iret dX10_off_46 rfl rfl rfl ⟨rfl, rfl, rfl⟩
theorem ct_X10_off {l : Launch} {S : List SHP} {h : MH} {a0 : Nat} {x1 : Int32} (hs0 : S[a0]? = some (.inl 10)) {q : Int32 × MH} (hf : f_X10_off a0 x1 h = some q) : CT l mX10_off 3 false 0 0 S [.ref a0, .int x1] h (QI S q) :=
  CT_ofV (by decide) rfl (Nat.le_of_ble_eq_true rfl) (fun G B hT => v_X10_off hs0 hf)
/-! LabelStacks.isLabel(I)Z -/
theorem dX10_isLabel_0 : decode cX10_isLabel 0 = .ok (.iload_n 0, 1) := by decide +kernel
theorem dX10_isLabel_1 : decode cX10_isLabel 1 = .ok (.ifCond .lt 9, 3) := by decide +kernel
theorem dX10_isLabel_4 : decode cX10_isLabel 4 = .ok (.iload_n 0, 1) := by decide +kernel
theorem dX10_isLabel_5 : decode cX10_isLabel 5 = .ok (.bipush 10, 2) := by decide +kernel
theorem dX10_isLabel_7 : decode cX10_isLabel 7 = .ok (.if_icmp .lt 30, 3) := by decide +kernel
theorem dX10_isLabel_10 : decode cX10_isLabel 10 = .ok (.iload_n 0, 1) := by decide +kernel
theorem dX10_isLabel_11 : decode cX10_isLabel 11 = .ok (.bipush 100, 2) := by decide +kernel
theorem dX10_isLabel_13 : decode cX10_isLabel 13 = .ok (.if_icmp .lt 10, 3) := by decide +kernel
theorem dX10_isLabel_16 : decode cX10_isLabel 16 = .ok (.iload_n 0, 1) := by decide +kernel
theorem dX10_isLabel_17 : decode cX10_isLabel 17 = .ok (.sipush 130, 3) := by decide +kernel
theorem dX10_isLabel_20 : decode cX10_isLabel 20 = .ok (.if_icmp .lt 17, 3) := by decide +kernel
theorem dX10_isLabel_23 : decode cX10_isLabel 23 = .ok (.iload_n 0, 1) := by decide +kernel
theorem dX10_isLabel_24 : decode cX10_isLabel 24 = .ok (.sipush 200, 3) := by decide +kernel
theorem dX10_isLabel_27 : decode cX10_isLabel 27 = .ok (.if_icmp .lt 14, 3) := by decide +kernel
theorem dX10_isLabel_30 : decode cX10_isLabel 30 = .ok (.iload_n 0, 1) := by decide +kernel
theorem dX10_isLabel_31 : decode cX10_isLabel 31 = .ok (.sipush 206, 3) := by decide +kernel
theorem dX10_isLabel_34 : decode cX10_isLabel 34 = .ok (.if_icmp .ge 7, 3) := by decide +kernel
theorem dX10_isLabel_37 : decode cX10_isLabel 37 = .ok (.iconst 1, 1) := by decide +kernel
theorem dX10_isLabel_38 : decode cX10_isLabel 38 = .ok (.goto 4, 3) := by decide +kernel
theorem dX10_isLabel_41 : decode cX10_isLabel 41 = .ok (.iconst 0, 1) := by decide +kernel
theorem dX10_isLabel_42 : decode cX10_isLabel 42 = .ok (.ireturn, 1) := by decide +kernel
abbrev mX10_isLabel : MI := (RX10, yX10_isLabel, cX10_isLabel, 1, (some .boolean))
theorem mok_X10_isLabel : MOKs mX10_isLabel 1 := ⟨⟨bm_669, bm_114, ⟨by decide, by decide⟩, by decide +kernel⟩, bm_668⟩
def f_X10_isLabel_37    (h : MH) : Option (Int32 × MH) :=
  some (1, h)
def f_X10_isLabel_23   (x0 : Int32) (h : MH) : Option (Int32 × MH) :=
  if x0 < 200 then
    some (0, h)
  else
    if x0 < 206 then
      f_X10_isLabel_37  h
    else
      some (0, h)
def f_X10_isLabel_10   (x0 : Int32) (h : MH) : Option (Int32 × MH) :=
  if x0 < 100 then
    f_X10_isLabel_23 x0 h
  else
    if x0 < 130 then
      f_X10_isLabel_37  h
    else
      f_X10_isLabel_23 x0 h
def f_X10_isLabel   (x0 : Int32) (h : MH) : Option (Int32 × MH) :=
  if x0 < 0 then
    f_X10_isLabel_10 x0 h
  else
    if x0 < 10 then
      f_X10_isLabel_37  h
    else
      f_X10_isLabel_10 x0 h
set_option maxRecDepth 100000 in
set_option maxHeartbeats 4000000 in
theorem v_X10_isLabel_37 {l : Launch} {G : GE} {B N : Nat} {S : List SHP} {o : Int32 × MH}      {h : MH} (hf : f_X10_isLabel_37  h = some o) : V l G B N mX10_isLabel (rmm 3 0 0) false 0 0 (QI S o) S 0 0 37 [] [] h := by
  unfold f_X10_isLabel_37 at hf
  refine V_iconst (v := 1) (pc' := 38) dX10_isLabel_37 rfl (by decide) ?_
  refine V_goto (tgt := 42) dX10_isLabel_38 (by decide) ?_
  obtain rfl := Option.some.inj hf
  exact V_zretL dX10_isLabel_42 rfl rfl rfl (by decide) ⟨rfl, rfl, rfl⟩
set_option maxRecDepth 100000 in
set_option maxHeartbeats 4000000 in
theorem v_X10_isLabel_23 {l : Launch} {G : GE} {B N : Nat} {S : List SHP} {o : Int32 × MH} {x0 : Int32}     {h : MH} (hf : f_X10_isLabel_23 x0 h = some o) : V l G B N mX10_isLabel (rmm 3 0 0) false 0 0 (QI S o) S 0 0 23 [(0, .int x0)] [] h := by
  unfold f_X10_isLabel_23 at hf
  refine V_iload_n (pc' := 24) dX10_isLabel_23 rfl 0 rfl rfl ?_
  refine V_sipush (v := 200) (pc' := 27) dX10_isLabel_24 rfl (by decide) ?_
  refine V_icmp_lt (tgt := 41) (pc' := 30) dX10_isLabel_27 (by decide) rfl hf (fun hf => ?_) (fun hf => ?_)
  ·
    refine V_iconst (v := 0) (pc' := 42) dX10_isLabel_41 rfl (by decide) ?_
    obtain rfl := Option.some.inj hf
    exact V_zretL dX10_isLabel_42 rfl rfl rfl (by decide) ⟨rfl, rfl, rfl⟩
  ·
    refine V_iload_n (pc' := 31) dX10_isLabel_30 rfl 0 rfl rfl ?_
    refine V_sipush (v := 206) (pc' := 34) dX10_isLabel_31 rfl (by decide) ?_
    refine V_icmp_ge (tgt := 41) (pc' := 37) dX10_isLabel_34 (by decide) rfl hf (fun hf => ?_) (fun hf => ?_)
    ·
      exact V_sub (lv' := []) [] rfl (v_X10_isLabel_37  hf)
    ·
      refine V_iconst (v := 0) (pc' := 42) dX10_isLabel_41 rfl (by decide) ?_
      obtain rfl := Option.some.inj hf
      exact V_zretL dX10_isLabel_42 rfl rfl rfl (by decide) ⟨rfl, rfl, rfl⟩
set_option maxRecDepth 100000 in
set_option maxHeartbeats 4000000 in
theorem v_X10_isLabel_10 {l : Launch} {G : GE} {B N : Nat} {S : List SHP} {o : Int32 × MH} {x0 : Int32}     {h : MH} (hf : f_X10_isLabel_10 x0 h = some o) : V l G B N mX10_isLabel (rmm 3 0 0) false 0 0 (QI S o) S 0 0 10 [(0, .int x0)] [] h := by
  unfold f_X10_isLabel_10 at hf
  refine V_iload_n (pc' := 11) dX10_isLabel_10 rfl 0 rfl rfl ?_
  refine V_bipush (v := 100) (pc' := 13) dX10_isLabel_11 rfl (by decide) ?_
  refine V_icmp_lt (tgt := 23) (pc' := 16) dX10_isLabel_13 (by decide) rfl hf (fun hf => ?_) (fun hf => ?_)
  ·
    exact V_sub (lv' := [(0, .int x0)]) [0] rfl (v_X10_isLabel_23  hf)
  ·
    refine V_iload_n (pc' := 17) dX10_isLabel_16 rfl 0 rfl rfl ?_
    refine V_sipush (v := 130) (pc' := 20) dX10_isLabel_17 rfl (by decide) ?_
    refine V_icmp_lt (tgt := 37) (pc' := 23) dX10_isLabel_20 (by decide) rfl hf (fun hf => ?_) (fun hf => ?_)
    ·
      exact V_sub (lv' := []) [] rfl (v_X10_isLabel_37  hf)
    ·
      exact V_sub (lv' := [(0, .int x0)]) [0] rfl (v_X10_isLabel_23  hf)
set_option maxRecDepth 100000 in
set_option maxHeartbeats 4000000 in
theorem v_X10_isLabel {l : Launch} {G : GE} {B N : Nat} {S : List SHP} {o : Int32 × MH} {x0 : Int32}     {h : MH} (hf : f_X10_isLabel x0 h = some o) : V l G B N mX10_isLabel (rmm 3 0 0) false 0 0 (QI S o) S 0 0 0 [(0, .int x0)] [] h := by
  unfold f_X10_isLabel at hf
  refine V_iload_n (pc' := 1) dX10_isLabel_0 rfl 0 rfl rfl ?_
  refine V_if_lt (tgt := 10) (pc' := 4) dX10_isLabel_1 (by decide) rfl hf (fun hf => ?_) (fun hf => ?_)
  ·
    exact V_sub (lv' := [(0, .int x0)]) [0] rfl (v_X10_isLabel_10  hf)
  ·
    refine V_iload_n (pc' := 5) dX10_isLabel_4 rfl 0 rfl rfl ?_
    refine V_bipush (v := 10) (pc' := 7) dX10_isLabel_5 rfl (by decide) ?_
    refine V_icmp_lt (tgt := 37) (pc' := 10) dX10_isLabel_7 (by decide) rfl hf (fun hf => ?_) (fun hf => ?_)
    ·
      exact V_sub (lv' := []) [] rfl (v_X10_isLabel_37  hf)
    ·
      exact V_sub (lv' := [(0, .int x0)]) [0] rfl (v_X10_isLabel_10  hf)
theorem ct_X10_isLabel {l : Launch} {S : List SHP} {h : MH} {x0 : Int32}  {q : Int32 × MH} (hf : f_X10_isLabel x0 h = some q) : CT l mX10_isLabel 3 false 0 0 S [.int x0] h (QI S q) :=
  CT_ofV (by decide) rfl (Nat.le_of_ble_eq_true rfl) (fun G B hT => v_X10_isLabel  hf)
/-! LabelStacks.label(I)I -/
theorem dX10_label_0 : decode cX10_label 0 = .ok (.iload_n 1, 1) := by decide +kernel
theorem dX10_label_1 : decode cX10_label 1 = .ok (.invokestatic 181, 3) := by decide +kernel
theorem dX10_label_4 : decode cX10_label 4 = .ok (.ifCond .eq 13, 3) := by decide +kernel
theorem dX10_label_7 : decode cX10_label 7 = .ok (.aload_n 0, 1) := by decide +kernel
theorem dX10_label_8 : decode cX10_label 8 = .ok (.getfield 21, 3) := by decide +kernel
theorem dX10_label_11 : decode cX10_label 11 = .ok (.invokevirtual 165, 3) := by decide +kernel
theorem dX10_label_14 : decode cX10_label 14 = .ok (.ifCond .eq 5, 3) := by decide +kernel
theorem dX10_label_17 : decode cX10_label 17 = .ok (.iconst (-1), 1) := by decide +kernel
theorem dX10_label_18 : decode cX10_label 18 = .ok (.ireturn, 1) := by decide +kernel
theorem dX10_label_19 : decode cX10_label 19 = .ok (.aload_n 0, 1) := by decide +kernel
theorem dX10_label_20 : decode cX10_label 20 = .ok (.getfield 21, 3) := by decide +kernel
theorem dX10_label_23 : decode cX10_label 23 = .ok (.iload_n 1, 1) := by decide +kernel
theorem dX10_label_24 : decode cX10_label 24 = .ok (.invokevirtual 178, 3) := by decide +kernel
theorem dX10_label_27 : decode cX10_label 27 = .ok (.aload_n 0, 1) := by decide +kernel
theorem dX10_label_28 : decode cX10_label 28 = .ok (.getfield 21, 3) := by decide +kernel
theorem dX10_label_31 : decode cX10_label 31 = .ok (.getfield 168, 3) := by decide +kernel
theorem dX10_label_34 : decode cX10_label 34 = .ok (.ireturn, 1) := by decide +kernel
abbrev mX10_label : MI := (RX10, yX10_label, cX10_label, 2, (some .int))
theorem mok_X10_label : MOKv mX10_label 1 := ⟨⟨bm_666, bm_114, ⟨by decide, by decide⟩, by decide +kernel⟩, bm_664, bm_665⟩
def f_X10_label   (a0 : Nat) (x1 : Int32) (h : MH) : Option (Int32 × MH) :=
  (f_X10_isLabel x1 h).bind fun q_1 =>
  if q_1.1 = 0 then
    some ((-1 : Int32), q_1.2)
  else
    (gR q_1.2 a0 1).bind fun a_2 =>
    (f_X5_isFull a_2 q_1.2).bind fun q_3 =>
    if q_3.1 = 0 then
      (gR q_3.2 a0 1).bind fun a_4 =>
      (f_X5_add a_4 x1 q_3.2).bind fun q_5 =>
      (gR q_5 a0 1).bind fun a_6 =>
      some ((gI q_5 a_6 1), q_5)
    else
      some ((-1 : Int32), q_3.2)
set_option maxRecDepth 100000 in
set_option maxHeartbeats 4000000 in
theorem v_X10_label {l : Launch} {G : GE} {B N : Nat} {S : List SHP} {o : Int32 × MH} {a0 : Nat} {x1 : Int32}    (hs0 : S[a0]? = some (.inl 10)) {h : MH} (hf : f_X10_label a0 x1 h = some o) : V l G B N mX10_label (rmm 4 0 0) false 0 0 (QI S o) S 0 0 0 [(0, .ref a0), (1, .int x1)] [] h := by
  unfold f_X10_label at hf
  refine V_iload_n (pc' := 1) dX10_label_0 rfl 1 rfl rfl ?_
  refine V_csI (pc' := 4) (As := [.int x1]) (rest := []) dX10_label_1 rfl mok_X10_isLabel bm_667 rfl rfl (Nat.le_of_ble_eq_true rfl) (by decide) hf (fun q e => ct_X10_isLabel  e) (fun q_1 hf => ?_)
  refine V_if_eq (tgt := 17) (pc' := 7) dX10_label_4 (by decide) rfl hf (fun hf => ?_) (fun hf => ?_)
  ·
    refine V_iconst (v := (-1)) (pc' := 18) dX10_label_17 rfl (by decide) ?_
    obtain rfl := Option.some.inj hf
    exact V_iret dX10_label_18 rfl rfl rfl ⟨rfl, rfl, rfl⟩
  ·
    refine V_aload_n (pc' := 8) dX10_label_7 rfl 0 rfl rfl ?_
    refine V_getR (pc' := 11) 10 1 dX10_label_8 rfl (by decide) (Nat.le_of_ble_eq_true rfl) bm_459 hs0 (fun _ _ _ => rfl) rfl hf (fun a_2 ha_2 hf => ?_)
    refine V_cvI (pc' := 14) (As := []) (rest := []) dX10_label_11 rfl mok_X5_isFull bm_643 5 (by decide) rfl ha_2 rfl rfl (Nat.le_of_ble_eq_true rfl) (by decide) hf (fun q e => ct_X5_isFull ha_2 e) (fun q_3 hf => ?_)
    refine V_if_eq (tgt := 19) (pc' := 17) dX10_label_14 (by decide) rfl hf (fun hf => ?_) (fun hf => ?_)
    ·
      refine V_aload_n (pc' := 20) dX10_label_19 rfl 0 rfl rfl ?_
      refine V_getR (pc' := 23) 10 1 dX10_label_20 rfl (by decide) (Nat.le_of_ble_eq_true rfl) bm_459 hs0 (fun _ _ _ => rfl) rfl hf (fun a_4 ha_4 hf => ?_)
      refine V_iload_n (pc' := 24) dX10_label_23 rfl 1 rfl rfl ?_
      refine V_cvV (pc' := 27) (As := [.int x1]) (rest := []) dX10_label_24 rfl mok_X5_add bm_655 5 (by decide) rfl ha_4 rfl rfl (Nat.le_of_ble_eq_true rfl) (by decide) hf (fun q e => ct_X5_add ha_4 e) (fun q_5 hf => ?_)
      refine V_aload_n (pc' := 28) dX10_label_27 rfl 0 rfl rfl ?_
      refine V_getR (pc' := 31) 10 1 dX10_label_28 rfl (by decide) (Nat.le_of_ble_eq_true rfl) bm_459 hs0 (fun _ _ _ => rfl) rfl hf (fun a_6 ha_6 hf => ?_)
      refine V_getI (pc' := 34) 5 1 dX10_label_31 rfl (by decide) (Nat.le_of_ble_eq_true rfl) bm_256 ha_6 (fun _ _ _ => rfl) ?_
      obtain rfl := Option.some.inj hf
      exact V_iret dX10_label_34 rfl rfl rfl ⟨rfl, rfl, rfl⟩
    ·
      refine V_iconst (v := (-1)) (pc' := 18) dX10_label_17 rfl (by decide) ?_
      obtain rfl := Option.some.inj hf
      exact V_iret dX10_label_18 rfl rfl rfl ⟨rfl, rfl, rfl⟩
theorem ct_X10_label {l : Launch} {S : List SHP} {h : MH} {a0 : Nat} {x1 : Int32} (hs0 : S[a0]? = some (.inl 10)) {q : Int32 × MH} (hf : f_X10_label a0 x1 h = some q) : CT l mX10_label 4 false 0 0 S [.ref a0, .int x1] h (QI S q) :=
  CT_ofV (by decide) rfl (Nat.le_of_ble_eq_true rfl) (fun G B hT => v_X10_label hs0 hf)
/-! LabelStacks.pop(I)I -/
theorem dX10_pop_0 : decode cX10_pop 0 = .ok (.iload_n 1, 1) := by decide +kernel
theorem dX10_pop_1 : decode cX10_pop 1 = .ok (.ifCond .lt 14, 3) := by decide +kernel
theorem dX10_pop_4 : decode cX10_pop 4 = .ok (.iload_n 1, 1) := by decide +kernel
theorem dX10_pop_5 : decode cX10_pop 5 = .ok (.aload_n 0, 1) := by decide +kernel
theorem dX10_pop_6 : decode cX10_pop 6 = .ok (.getfield 21, 3) := by decide +kernel
theorem dX10_pop_9 : decode cX10_pop 9 = .ok (.getfield 168, 3) := by decide +kernel
theorem dX10_pop_12 : decode cX10_pop 12 = .ok (.if_icmp .le 5, 3) := by decide +kernel
theorem dX10_pop_15 : decode cX10_pop 15 = .ok (.iconst (-1), 1) := by decide +kernel
theorem dX10_pop_16 : decode cX10_pop 16 = .ok (.ireturn, 1) := by decide +kernel
theorem dX10_pop_17 : decode cX10_pop 17 = .ok (.aload_n 0, 1) := by decide +kernel
theorem dX10_pop_18 : decode cX10_pop 18 = .ok (.getfield 21, 3) := by decide +kernel
theorem dX10_pop_21 : decode cX10_pop 21 = .ok (.iload_n 1, 1) := by decide +kernel
theorem dX10_pop_22 : decode cX10_pop 22 = .ok (.invokevirtual 184, 3) := by decide +kernel
theorem dX10_pop_25 : decode cX10_pop 25 = .ok (.aload_n 0, 1) := by decide +kernel
theorem dX10_pop_26 : decode cX10_pop 26 = .ok (.getfield 21, 3) := by decide +kernel
theorem dX10_pop_29 : decode cX10_pop 29 = .ok (.getfield 168, 3) := by decide +kernel
theorem dX10_pop_32 : decode cX10_pop 32 = .ok (.ireturn, 1) := by decide +kernel
abbrev mX10_pop : MI := (RX10, yX10_pop, cX10_pop, 2, (some .int))
theorem mok_X10_pop : MOKv mX10_pop 1 := ⟨⟨bm_673, bm_114, ⟨by decide, by decide⟩, by decide +kernel⟩, bm_671, bm_672⟩
def f_X10_pop   (a0 : Nat) (x1 : Int32) (h : MH) : Option (Int32 × MH) :=
  if x1 < 0 then
    some ((-1 : Int32), h)
  else
    (gR h a0 1).bind fun a_1 =>
    if (gI h a_1 1) < x1 then
      some ((-1 : Int32), h)
    else
      (gR h a0 1).bind fun a_2 =>
      (f_X5_dropFirst a_2 x1 h).bind fun q_3 =>
      (gR q_3 a0 1).bind fun a_4 =>
      some ((gI q_3 a_4 1), q_3)
set_option maxRecDepth 100000 in
set_option maxHeartbeats 4000000 in
theorem v_X10_pop {l : Launch} {G : GE} {B N : Nat} {S : List SHP} {o : Int32 × MH} {a0 : Nat} {x1 : Int32}    (hs0 : S[a0]? = some (.inl 10)) {h : MH} (hf : f_X10_pop a0 x1 h = some o) : V l G B N mX10_pop (rmm 4 0 0) false 0 0 (QI S o) S 0 0 0 [(0, .ref a0), (1, .int x1)] [] h := by
  unfold f_X10_pop at hf
  refine V_iload_n (pc' := 1) dX10_pop_0 rfl 1 rfl rfl ?_
  refine V_if_lt (tgt := 15) (pc' := 4) dX10_pop_1 (by decide) rfl hf (fun hf => ?_) (fun hf => ?_)
  ·
    refine V_iconst (v := (-1)) (pc' := 16) dX10_pop_15 rfl (by decide) ?_
    obtain rfl := Option.some.inj hf
    exact V_iret dX10_pop_16 rfl rfl rfl ⟨rfl, rfl, rfl⟩
  ·
    refine V_iload_n (pc' := 5) dX10_pop_4 rfl 1 rfl rfl ?_
    refine V_aload_n (pc' := 6) dX10_pop_5 rfl 0 rfl rfl ?_
    refine V_getR (pc' := 9) 10 1 dX10_pop_6 rfl (by decide) (Nat.le_of_ble_eq_true rfl) bm_459 hs0 (fun _ _ _ => rfl) rfl hf (fun a_1 ha_1 hf => ?_)
    refine V_getI (pc' := 12) 5 1 dX10_pop_9 rfl (by decide) (Nat.le_of_ble_eq_true rfl) bm_256 ha_1 (fun _ _ _ => rfl) ?_
    refine V_icmp_le (tgt := 17) (pc' := 15) dX10_pop_12 (by decide) rfl hf (fun hf => ?_) (fun hf => ?_)
    ·
      refine V_iconst (v := (-1)) (pc' := 16) dX10_pop_15 rfl (by decide) ?_
      obtain rfl := Option.some.inj hf
      exact V_iret dX10_pop_16 rfl rfl rfl ⟨rfl, rfl, rfl⟩
    ·
      refine V_aload_n (pc' := 18) dX10_pop_17 rfl 0 rfl rfl ?_
      refine V_getR (pc' := 21) 10 1 dX10_pop_18 rfl (by decide) (Nat.le_of_ble_eq_true rfl) bm_459 hs0 (fun _ _ _ => rfl) rfl hf (fun a_2 ha_2 hf => ?_)
      refine V_iload_n (pc' := 22) dX10_pop_21 rfl 1 rfl rfl ?_
      refine V_cvV (pc' := 25) (As := [.int x1]) (rest := []) dX10_pop_22 rfl mok_X5_dropFirst bm_674 5 (by decide) rfl ha_2 rfl rfl (Nat.le_of_ble_eq_true rfl) (by decide) hf (fun q e => ct_X5_dropFirst ha_2 e) (fun q_3 hf => ?_)
      refine V_aload_n (pc' := 26) dX10_pop_25 rfl 0 rfl rfl ?_
      refine V_getR (pc' := 29) 10 1 dX10_pop_26 rfl (by decide) (Nat.le_of_ble_eq_true rfl) bm_459 hs0 (fun _ _ _ => rfl) rfl hf (fun a_4 ha_4 hf => ?_)
      refine V_getI (pc' := 32) 5 1 dX10_pop_29 rfl (by decide) (Nat.le_of_ble_eq_true rfl) bm_256 ha_4 (fun _ _ _ => rfl) ?_
      obtain rfl := Option.some.inj hf
      exact V_iret dX10_pop_32 rfl rfl rfl ⟨rfl, rfl, rfl⟩
theorem ct_X10_pop {l : Launch} {S : List SHP} {h : MH} {a0 : Nat} {x1 : Int32} (hs0 : S[a0]? = some (.inl 10)) {q : Int32 × MH} (hf : f_X10_pop a0 x1 h = some q) : CT l mX10_pop 4 false 0 0 S [.ref a0, .int x1] h (QI S q) :=
  CT_ofV (by decide) rfl (Nat.le_of_ble_eq_true rfl) (fun G B hT => v_X10_pop hs0 hf)
/-! LabelStacks.freshRoutes()LLabelStacks$Routes; -/
theorem dX10_freshRoutes_0 : decode cX10_freshRoutes 0 = .ok (.aload_n 0, 1) := by decide +kernel
theorem dX10_freshRoutes_1 : decode cX10_freshRoutes 1 = .ok (.getfield 69, 3) := by decide +kernel
theorem dX10_freshRoutes_4 : decode cX10_freshRoutes 4 = .ok (.ifCond .eq 23, 3) := by decide +kernel
theorem dX10_freshRoutes_7 : decode cX10_freshRoutes 7 = .ok (.aload_n 0, 1) := by decide +kernel
theorem dX10_freshRoutes_8 : decode cX10_freshRoutes 8 = .ok (.getfield 59, 3) := by decide +kernel
theorem dX10_freshRoutes_11 : decode cX10_freshRoutes 11 = .ok (.aload_n 0, 1) := by decide +kernel
theorem dX10_freshRoutes_12 : decode cX10_freshRoutes 12 = .ok (.getfield 12, 3) := by decide +kernel
theorem dX10_freshRoutes_15 : decode cX10_freshRoutes 15 = .ok (.getfield 99, 3) := by decide +kernel
theorem dX10_freshRoutes_18 : decode cX10_freshRoutes 18 = .ok (.iconst (-1), 1) := by decide +kernel
theorem dX10_freshRoutes_19 : decode cX10_freshRoutes 19 = .ok (.invokevirtual 388, 3) := by decide +kernel
theorem dX10_freshRoutes_22 : decode cX10_freshRoutes 22 = .ok (.aload_n 0, 1) := by decide +kernel
theorem dX10_freshRoutes_23 : decode cX10_freshRoutes 23 = .ok (.iconst 0, 1) := by decide +kernel
theorem dX10_freshRoutes_24 : decode cX10_freshRoutes 24 = .ok (.putfield 69, 3) := by decide +kernel
theorem dX10_freshRoutes_27 : decode cX10_freshRoutes 27 = .ok (.aload_n 0, 1) := by decide +kernel
theorem dX10_freshRoutes_28 : decode cX10_freshRoutes 28 = .ok (.getfield 59, 3) := by decide +kernel
theorem dX10_freshRoutes_31 : decode cX10_freshRoutes 31 = .ok (.areturn, 1) := by decide +kernel
abbrev mX10_freshRoutes : MI := (RX10, yX10_freshRoutes, cX10_freshRoutes, 1, (some (.object "LabelStacks$Routes")))
theorem mok_X10_freshRoutes : MOKv mX10_freshRoutes 0 := ⟨⟨bm_689, bm_114, ⟨by decide, by decide⟩, by decide +kernel⟩, bm_688, bm_4⟩
def f_X10_freshRoutes_27   (a0 : Nat) (h : MH) : Option (Nat × MH) :=
  (gR h a0 9).bind fun a_1 =>
  some (a_1, h)
def f_X10_freshRoutes   (a0 : Nat) (h : MH) : Option (Nat × MH) :=
  if (gI h a0 12) = 0 then
    f_X10_freshRoutes_27 a0 h
  else
    (gR h a0 9).bind fun a_1 =>
    (gR h a0 0).bind fun a_2 =>
    (gR h a_2 0).bind fun a_3 =>
    (f_X4_findAll a_1 a_3 (-1 : Int32) h).bind fun q_4 =>
    lt (sI q_4 a0 12 0) fun h_5 =>
    f_X10_freshRoutes_27 a0 h_5
set_option maxRecDepth 100000 in
set_option maxHeartbeats 4000000 in
theorem v_X10_freshRoutes_27 {l : Launch} {G : GE} {B N : Nat} {S : List SHP} {o : Nat × MH} {a0 : Nat}    (hs0 : S[a0]? = some (.inl 10)) {h : MH} (hf : f_X10_freshRoutes_27 a0 h = some o) : V l G B N mX10_freshRoutes (rmm 6 0 0) false 0 0 (QR S (.inl 4) o) S 0 0 27 [(0, .ref a0)] [] h := by
  unfold f_X10_freshRoutes_27 at hf
  refine V_aload_n (pc' := 28) dX10_freshRoutes_27 rfl 0 rfl rfl ?_
  refine V_getR (pc' := 31) 10 9 dX10_freshRoutes_28 rfl (by decide) (Nat.le_of_ble_eq_true rfl) bm_467 hs0 (fun _ _ _ => rfl) rfl hf (fun a_1 ha_1 hf => ?_)
  obtain rfl := Option.some.inj hf
  exact V_aret dX10_freshRoutes_31 rfl (by simp) rfl rfl ⟨rfl, rfl, rfl, ha_1⟩
set_option maxRecDepth 100000 in
set_option maxHeartbeats 4000000 in
theorem v_X10_freshRoutes {l : Launch} {G : GE} {B N : Nat} {S : List SHP} {o : Nat × MH} {a0 : Nat}    (hs0 : S[a0]? = some (.inl 10)) {h : MH} (hf : f_X10_freshRoutes a0 h = some o) : V l G B N mX10_freshRoutes (rmm 6 0 0) false 0 0 (QR S (.inl 4) o) S 0 0 0 [(0, .ref a0)] [] h := by
  unfold f_X10_freshRoutes at hf
  refine V_aload_n (pc' := 1) dX10_freshRoutes_0 rfl 0 rfl rfl ?_
  refine V_getI (pc' := 4) 10 12 dX10_freshRoutes_1 rfl (by decide) (Nat.le_of_ble_eq_true rfl) bm_470 hs0 (fun _ _ _ => rfl) ?_
  refine V_if_eq (tgt := 27) (pc' := 7) dX10_freshRoutes_4 (by decide) rfl hf (fun hf => ?_) (fun hf => ?_)
  ·
    exact V_sub (lv' := [(0, .ref a0)]) [0] rfl (v_X10_freshRoutes_27 hs0 hf)
  ·
    refine V_aload_n (pc' := 8) dX10_freshRoutes_7 rfl 0 rfl rfl ?_
    refine V_getR (pc' := 11) 10 9 dX10_freshRoutes_8 rfl (by decide) (Nat.le_of_ble_eq_true rfl) bm_467 hs0 (fun _ _ _ => rfl) rfl hf (fun a_1 ha_1 hf => ?_)
    refine V_aload_n (pc' := 12) dX10_freshRoutes_11 rfl 0 rfl rfl ?_
    refine V_getR (pc' := 15) 10 0 dX10_freshRoutes_12 rfl (by decide) (Nat.le_of_ble_eq_true rfl) bm_458 hs0 (fun _ _ _ => rfl) rfl hf (fun a_2 ha_2 hf => ?_)
    refine V_getR (pc' := 18) 7 0 dX10_freshRoutes_15 rfl (by decide) (Nat.le_of_ble_eq_true rfl) bm_263 ha_2 (fun _ _ _ => rfl) rfl hf (fun a_3 ha_3 hf => ?_)
    refine V_iconst (v := (-1)) (pc' := 19) dX10_freshRoutes_18 rfl (by decide) ?_
    refine V_cvV (pc' := 22) (As := [.ref a_3, .int (-1 : Int32)]) (rest := []) dX10_freshRoutes_19 rfl mok_X4_findAll bm_690 4 (by decide) rfl ha_1 rfl rfl (Nat.le_of_ble_eq_true rfl) (by decide) hf (fun q e => ct_X4_findAll ha_1 ha_3 e) (fun q_4 hf => ?_)
    refine V_aload_n (pc' := 23) dX10_freshRoutes_22 rfl 0 rfl rfl ?_
    refine V_iconst (v := 0) (pc' := 24) dX10_freshRoutes_23 rfl (by decide) ?_
    refine V_putZL (pc' := 27) 10 12 dX10_freshRoutes_24 rfl (by decide) (Nat.le_of_ble_eq_true rfl) bm_470 hs0 rfl rfl (by decide) ?_
    refine V_nmH hf (fun h_5 hf => ?_)
    exact V_sub (lv' := [(0, .ref a0)]) [0] rfl (v_X10_freshRoutes_27 hs0 hf)
theorem ct_X10_freshRoutes {l : Launch} {S : List SHP} {h : MH} {a0 : Nat} (hs0 : S[a0]? = some (.inl 10)) {q : Nat × MH} (hf : f_X10_freshRoutes a0 h = some q) : CT l mX10_freshRoutes 6 false 0 0 S [.ref a0] h (QR S (.inl 4) q) :=
  CT_ofV (by decide) rfl (Nat.le_of_ble_eq_true rfl) (fun G B hT => v_X10_freshRoutes hs0 hf)
/-! LabelStacks.planned(LLabelStacks$Row;)Z -/
theorem dX10_planned_0 : decode cX10_planned 0 = .ok (.aload_n 0, 1) := by decide +kernel
theorem dX10_planned_1 : decode cX10_planned 1 = .ok (.getfield 75, 3) := by decide +kernel
theorem dX10_planned_4 : decode cX10_planned 4 = .ok (.aload_n 0, 1) := by decide +kernel
theorem dX10_planned_5 : decode cX10_planned 5 = .ok (.getfield 12, 3) := by decide +kernel
theorem dX10_planned_8 : decode cX10_planned 8 = .ok (.getfield 99, 3) := by decide +kernel
theorem dX10_planned_11 : decode cX10_planned 11 = .ok (.aload_n 0, 1) := by decide +kernel
theorem dX10_planned_12 : decode cX10_planned 12 = .ok (.invokevirtual 201, 3) := by decide +kernel
theorem dX10_planned_15 : decode cX10_planned 15 = .ok (.aload_n 1, 1) := by decide +kernel
theorem dX10_planned_16 : decode cX10_planned 16 = .ok (.aload_n 0, 1) := by decide +kernel
theorem dX10_planned_17 : decode cX10_planned 17 = .ok (.getfield 25, 3) := by decide +kernel
theorem dX10_planned_20 : decode cX10_planned 20 = .ok (.invokevirtual 392, 3) := by decide +kernel
theorem dX10_planned_23 : decode cX10_planned 23 = .ok (.ireturn, 1) := by decide +kernel
abbrev mX10_planned : MI := (RX10, yX10_planned, cX10_planned, 2, (some .boolean))
theorem mok_X10_planned : MOKv mX10_planned 1 := ⟨⟨bm_685, bm_114, ⟨by decide, by decide⟩, by decide +kernel⟩, bm_684, bm_3⟩
def f_X10_planned   (a0 : Nat) (a1 : Nat) (h : MH) : Option (Int32 × MH) :=
  (gR h a0 13).bind fun a_1 =>
  (gR h a0 0).bind fun a_2 =>
  (gR h a_2 0).bind fun a_3 =>
  (f_X10_freshRoutes a0 h).bind fun q_4 =>
  (f_X9_plan a_1 a_3 q_4.1 a1 (gI q_4.2 a0 2) q_4.2).bind fun q_5 =>
  if q_5.1 = 0 ∨ q_5.1 = 1 then some (q_5.1, q_5.2) else none
set_option maxRecDepth 100000 in
set_option maxHeartbeats 4000000 in
theorem v_X10_planned {l : Launch} {G : GE} {B N : Nat} {S : List SHP} {o : Int32 × MH} {a0 : Nat} {a1 : Nat}    (hs0 : S[a0]? = some (.inl 10)) (hs1 : S[a1]? = some (.inl 5)) {h : MH} (hf : f_X10_planned a0 a1 h = some o) : V l G B N mX10_planned (rmm 8 0 0) false 0 0 (QI S o) S 0 0 0 [(0, .ref a0), (1, .ref a1)] [] h := by
  unfold f_X10_planned at hf
  refine V_aload_n (pc' := 1) dX10_planned_0 rfl 0 rfl rfl ?_
  refine V_getR (pc' := 4) 10 13 dX10_planned_1 rfl (by decide) (Nat.le_of_ble_eq_true rfl) bm_471 hs0 (fun _ _ _ => rfl) rfl hf (fun a_1 ha_1 hf => ?_)
  refine V_aload_n (pc' := 5) dX10_planned_4 rfl 0 rfl rfl ?_
  refine V_getR (pc' := 8) 10 0 dX10_planned_5 rfl (by decide) (Nat.le_of_ble_eq_true rfl) bm_458 hs0 (fun _ _ _ => rfl) rfl hf (fun a_2 ha_2 hf => ?_)
  refine V_getR (pc' := 11) 7 0 dX10_planned_8 rfl (by decide) (Nat.le_of_ble_eq_true rfl) bm_263 ha_2 (fun _ _ _ => rfl) rfl hf (fun a_3 ha_3 hf => ?_)
  refine V_aload_n (pc' := 12) dX10_planned_11 rfl 0 rfl rfl ?_
  refine V_cvR (pc' := 15) (As := []) (rest := [.ref a_3, .ref a_1]) dX10_planned_12 rfl mok_X10_freshRoutes bm_686 10 (by decide) rfl hs0 rfl rfl (Nat.le_of_ble_eq_true rfl) (by decide) hf (fun q e => ct_X10_freshRoutes hs0 e) (fun q_4 hq_4 hf => ?_)
  refine V_aload_n (pc' := 16) dX10_planned_15 rfl 1 rfl rfl ?_
  refine V_aload_n (pc' := 17) dX10_planned_16 rfl 0 rfl rfl ?_
  refine V_getI (pc' := 20) 10 2 dX10_planned_17 rfl (by decide) (Nat.le_of_ble_eq_true rfl) bm_460 hs0 (fun _ _ _ => rfl) ?_
  refine V_cvI (pc' := 23) (As := [.ref a_3, .ref q_4.1, .ref a1, .int (gI q_4.2 a0 2)]) (rest := []) dX10_planned_20 rfl mok_X9_plan bm_708 9 (by decide) rfl ha_1 rfl rfl (Nat.le_of_ble_eq_true rfl) (by decide) hf (fun q e => ct_X9_plan ha_1 ha_3 hq_4 hs1 e) (fun q_5 hf => ?_)
  refine V_zret dX10_planned_23 rfl rfl rfl hf (fun hf => ?_)
  obtain rfl := Option.some.inj hf
  exact ⟨rfl, rfl, rfl⟩
theorem ct_X10_planned {l : Launch} {S : List SHP} {h : MH} {a0 : Nat} {a1 : Nat} (hs0 : S[a0]? = some (.inl 10)) (hs1 : S[a1]? = some (.inl 5)) {q : Int32 × MH} (hf : f_X10_planned a0 a1 h = some q) : CT l mX10_planned 8 false 0 0 S [.ref a0, .ref a1] h (QI S q) :=
  CT_ofV (by decide) rfl (Nat.le_of_ble_eq_true rfl) (fun G B hT => v_X10_planned hs0 hs1 hf)
/-! LabelStacks.write()I -/
theorem dX10_write_0 : decode cX10_write 0 = .ok (.aload_n 0, 1) := by decide +kernel
theorem dX10_write_1 : decode cX10_write 1 = .ok (.getfield 12, 3) := by decide +kernel
theorem dX10_write_4 : decode cX10_write 4 = .ok (.getfield 162, 3) := by decide +kernel
theorem dX10_write_7 : decode cX10_write 7 = .ok (.getfield 168, 3) := by decide +kernel
theorem dX10_write_10 : decode cX10_write 10 = .ok (.ifCond .eq 17, 3) := by decide +kernel
theorem dX10_write_13 : decode cX10_write 13 = .ok (.aload_n 0, 1) := by decide +kernel
theorem dX10_write_14 : decode cX10_write 14 = .ok (.aload_n 0, 1) := by decide +kernel
theorem dX10_write_15 : decode cX10_write 15 = .ok (.getfield 12, 3) := by decide +kernel
theorem dX10_write_18 : decode cX10_write 18 = .ok (.getfield 162, 3) := by decide +kernel
theorem dX10_write_21 : decode cX10_write 21 = .ok (.invokevirtual 187, 3) := by decide +kernel
theorem dX10_write_24 : decode cX10_write 24 = .ok (.ifCond .ne 5, 3) := by decide +kernel
theorem dX10_write_27 : decode cX10_write 27 = .ok (.iconst (-1), 1) := by decide +kernel
theorem dX10_write_28 : decode cX10_write 28 = .ok (.ireturn, 1) := by decide +kernel
theorem dX10_write_29 : decode cX10_write 29 = .ok (.aload_n 0, 1) := by decide +kernel
theorem dX10_write_30 : decode cX10_write 30 = .ok (.getfield 75, 3) := by decide +kernel
theorem dX10_write_33 : decode cX10_write 33 = .ok (.aload_n 0, 1) := by decide +kernel
theorem dX10_write_34 : decode cX10_write 34 = .ok (.getfield 21, 3) := by decide +kernel
theorem dX10_write_37 : decode cX10_write 37 = .ok (.invokevirtual 191, 3) := by decide +kernel
theorem dX10_write_40 : decode cX10_write 40 = .ok (.aload_n 0, 1) := by decide +kernel
theorem dX10_write_41 : decode cX10_write 41 = .ok (.getfield 21, 3) := by decide +kernel
theorem dX10_write_44 : decode cX10_write 44 = .ok (.getfield 168, 3) := by decide +kernel
theorem dX10_write_47 : decode cX10_write 47 = .ok (.ireturn, 1) := by decide +kernel
abbrev mX10_write : MI := (RX10, yX10_write, cX10_write, 1, (some .int))
theorem mok_X10_write : MOKv mX10_write 0 := ⟨⟨bm_681, bm_114, ⟨by decide, by decide⟩, by decide +kernel⟩, bm_679, bm_680⟩
def f_X10_write   (a0 : Nat) (h : MH) : Option (Int32 × MH) :=
  (gR h a0 0).bind fun a_1 =>
  (gR h a_1 6).bind fun a_2 =>
  if (gI h a_2 1) = 0 then
    some ((-1 : Int32), h)
  else
    (gR h a0 0).bind fun a_3 =>
    (gR h a_3 6).bind fun a_4 =>
    (f_X10_planned a0 a_4 h).bind fun q_5 =>
    if q_5.1 = 0 then
      some ((-1 : Int32), q_5.2)
    else
      (gR q_5.2 a0 13).bind fun a_6 =>
      (gR q_5.2 a0 1).bind fun a_7 =>
      (f_X9_stackInto a_6 a_7 q_5.2).bind fun q_8 =>
      (gR q_8 a0 1).bind fun a_9 =>
      some ((gI q_8 a_9 1), q_8)
set_option maxRecDepth 100000 in
set_option maxHeartbeats 4000000 in
theorem v_X10_write {l : Launch} {G : GE} {B N : Nat} {S : List SHP} {o : Int32 × MH} {a0 : Nat}    (hs0 : S[a0]? = some (.inl 10)) {h : MH} (hf : f_X10_write a0 h = some o) : V l G B N mX10_write (rmm 9 0 0) false 0 0 (QI S o) S 0 0 0 [(0, .ref a0)] [] h := by
  unfold f_X10_write at hf
  refine V_aload_n (pc' := 1) dX10_write_0 rfl 0 rfl rfl ?_
  refine V_getR (pc' := 4) 10 0 dX10_write_1 rfl (by decide) (Nat.le_of_ble_eq_true rfl) bm_458 hs0 (fun _ _ _ => rfl) rfl hf (fun a_1 ha_1 hf => ?_)
  refine V_getR (pc' := 7) 7 6 dX10_write_4 rfl (by decide) (Nat.le_of_ble_eq_true rfl) bm_275 ha_1 (fun _ _ _ => rfl) rfl hf (fun a_2 ha_2 hf => ?_)
  refine V_getI (pc' := 10) 5 1 dX10_write_7 rfl (by decide) (Nat.le_of_ble_eq_true rfl) bm_256 ha_2 (fun _ _ _ => rfl) ?_
  refine V_if_eq (tgt := 27) (pc' := 13) dX10_write_10 (by decide) rfl hf (fun hf => ?_) (fun hf => ?_)
  ·
    refine V_iconst (v := (-1)) (pc' := 28) dX10_write_27 rfl (by decide) ?_
    obtain rfl := Option.some.inj hf
    exact V_iret dX10_write_28 rfl rfl rfl ⟨rfl, rfl, rfl⟩
  ·
    refine V_aload_n (pc' := 14) dX10_write_13 rfl 0 rfl rfl ?_
    refine V_aload_n (pc' := 15) dX10_write_14 rfl 0 rfl rfl ?_
    refine V_getR (pc' := 18) 10 0 dX10_write_15 rfl (by decide) (Nat.le_of_ble_eq_true rfl) bm_458 hs0 (fun _ _ _ => rfl) rfl hf (fun a_3 ha_3 hf => ?_)
    refine V_getR (pc' := 21) 7 6 dX10_write_18 rfl (by decide) (Nat.le_of_ble_eq_true rfl) bm_275 ha_3 (fun _ _ _ => rfl) rfl hf (fun a_4 ha_4 hf => ?_)
    refine V_cvI (pc' := 24) (As := [.ref a_4]) (rest := []) dX10_write_21 rfl mok_X10_planned bm_682 10 (by decide) rfl hs0 rfl rfl (Nat.le_of_ble_eq_true rfl) (by decide) hf (fun q e => ct_X10_planned hs0 ha_4 e) (fun q_5 hf => ?_)
    refine V_if_ne (tgt := 29) (pc' := 27) dX10_write_24 (by decide) rfl hf (fun hf => ?_) (fun hf => ?_)
    ·
      refine V_iconst (v := (-1)) (pc' := 28) dX10_write_27 rfl (by decide) ?_
      obtain rfl := Option.some.inj hf
      exact V_iret dX10_write_28 rfl rfl rfl ⟨rfl, rfl, rfl⟩
    ·
      refine V_aload_n (pc' := 30) dX10_write_29 rfl 0 rfl rfl ?_
      refine V_getR (pc' := 33) 10 13 dX10_write_30 rfl (by decide) (Nat.le_of_ble_eq_true rfl) bm_471 hs0 (fun _ _ _ => rfl) rfl hf (fun a_6 ha_6 hf => ?_)
      refine V_aload_n (pc' := 34) dX10_write_33 rfl 0 rfl rfl ?_
      refine V_getR (pc' := 37) 10 1 dX10_write_34 rfl (by decide) (Nat.le_of_ble_eq_true rfl) bm_459 hs0 (fun _ _ _ => rfl) rfl hf (fun a_7 ha_7 hf => ?_)
      refine V_cvV (pc' := 40) (As := [.ref a_7]) (rest := []) dX10_write_37 rfl mok_X9_stackInto bm_765 9 (by decide) rfl ha_6 rfl rfl (Nat.le_of_ble_eq_true rfl) (by decide) hf (fun q e => ct_X9_stackInto ha_6 ha_7 e) (fun q_8 hf => ?_)
      refine V_aload_n (pc' := 41) dX10_write_40 rfl 0 rfl rfl ?_
      refine V_getR (pc' := 44) 10 1 dX10_write_41 rfl (by decide) (Nat.le_of_ble_eq_true rfl) bm_459 hs0 (fun _ _ _ => rfl) rfl hf (fun a_9 ha_9 hf => ?_)
      refine V_getI (pc' := 47) 5 1 dX10_write_44 rfl (by decide) (Nat.le_of_ble_eq_true rfl) bm_256 ha_9 (fun _ _ _ => rfl) ?_
      obtain rfl := Option.some.inj hf
      exact V_iret dX10_write_47 rfl rfl rfl ⟨rfl, rfl, rfl⟩
theorem ct_X10_write {l : Launch} {S : List SHP} {h : MH} {a0 : Nat} (hs0 : S[a0]? = some (.inl 10)) {q : Int32 × MH} (hf : f_X10_write a0 h = some q) : CT l mX10_write 9 false 0 0 S [.ref a0] h (QI S q) :=
  CT_ofV (by decide) rfl (Nat.le_of_ble_eq_true rfl) (fun G B hT => v_X10_write hs0 hf)
/-! LabelStacks.witness()I -/
theorem dX10_witness_0 : decode cX10_witness 0 = .ok (.aload_n 0, 1) := by decide +kernel
theorem dX10_witness_1 : decode cX10_witness 1 = .ok (.getfield 12, 3) := by decide +kernel
theorem dX10_witness_4 : decode cX10_witness 4 = .ok (.getfield 162, 3) := by decide +kernel
theorem dX10_witness_7 : decode cX10_witness 7 = .ok (.getfield 168, 3) := by decide +kernel
theorem dX10_witness_10 : decode cX10_witness 10 = .ok (.ifCond .eq 17, 3) := by decide +kernel
theorem dX10_witness_13 : decode cX10_witness 13 = .ok (.aload_n 0, 1) := by decide +kernel
theorem dX10_witness_14 : decode cX10_witness 14 = .ok (.aload_n 0, 1) := by decide +kernel
theorem dX10_witness_15 : decode cX10_witness 15 = .ok (.getfield 12, 3) := by decide +kernel
theorem dX10_witness_18 : decode cX10_witness 18 = .ok (.getfield 162, 3) := by decide +kernel
theorem dX10_witness_21 : decode cX10_witness 21 = .ok (.invokevirtual 187, 3) := by decide +kernel
theorem dX10_witness_24 : decode cX10_witness 24 = .ok (.ifCond .eq 5, 3) := by decide +kernel
theorem dX10_witness_27 : decode cX10_witness 27 = .ok (.iconst (-1), 1) := by decide +kernel
theorem dX10_witness_28 : decode cX10_witness 28 = .ok (.ireturn, 1) := by decide +kernel
theorem dX10_witness_29 : decode cX10_witness 29 = .ok (.aload_n 0, 1) := by decide +kernel
theorem dX10_witness_30 : decode cX10_witness 30 = .ok (.getfield 75, 3) := by decide +kernel
theorem dX10_witness_33 : decode cX10_witness 33 = .ok (.invokevirtual 195, 3) := by decide +kernel
theorem dX10_witness_36 : decode cX10_witness 36 = .ok (.ireturn, 1) := by decide +kernel
abbrev mX10_witness : MI := (RX10, yX10_witness, cX10_witness, 1, (some .int))
theorem mok_X10_witness : MOKv mX10_witness 0 := ⟨⟨bm_774, bm_114, ⟨by decide, by decide⟩, by decide +kernel⟩, bm_772, bm_773⟩
def f_X10_witness   (a0 : Nat) (h : MH) : Option (Int32 × MH) :=
  (gR h a0 0).bind fun a_1 =>
  (gR h a_1 6).bind fun a_2 =>
  if (gI h a_2 1) = 0 then
    some ((-1 : Int32), h)
  else
    (gR h a0 0).bind fun a_3 =>
    (gR h a_3 6).bind fun a_4 =>
    (f_X10_planned a0 a_4 h).bind fun q_5 =>
    if q_5.1 = 0 then
      (gR q_5.2 a0 13).bind fun a_6 =>
      (f_X9_lastUnwritten a_6 q_5.2).bind fun q_7 =>
      some (q_7.1, q_7.2)
    else
      some ((-1 : Int32), q_5.2)
set_option maxRecDepth 100000 in
set_option maxHeartbeats 4000000 in
theorem v_X10_witness {l : Launch} {G : GE} {B N : Nat} {S : List SHP} {o : Int32 × MH} {a0 : Nat}    (hs0 : S[a0]? = some (.inl 10)) {h : MH} (hf : f_X10_witness a0 h = some o) : V l G B N mX10_witness (rmm 9 0 0) false 0 0 (QI S o) S 0 0 0 [(0, .ref a0)] [] h := by
  unfold f_X10_witness at hf
  refine V_aload_n (pc' := 1) dX10_witness_0 rfl 0 rfl rfl ?_
  refine V_getR (pc' := 4) 10 0 dX10_witness_1 rfl (by decide) (Nat.le_of_ble_eq_true rfl) bm_458 hs0 (fun _ _ _ => rfl) rfl hf (fun a_1 ha_1 hf => ?_)
  refine V_getR (pc' := 7) 7 6 dX10_witness_4 rfl (by decide) (Nat.le_of_ble_eq_true rfl) bm_275 ha_1 (fun _ _ _ => rfl) rfl hf (fun a_2 ha_2 hf => ?_)
  refine V_getI (pc' := 10) 5 1 dX10_witness_7 rfl (by decide) (Nat.le_of_ble_eq_true rfl) bm_256 ha_2 (fun _ _ _ => rfl) ?_
  refine V_if_eq (tgt := 27) (pc' := 13) dX10_witness_10 (by decide) rfl hf (fun hf => ?_) (fun hf => ?_)
  ·
    refine V_iconst (v := (-1)) (pc' := 28) dX10_witness_27 rfl (by decide) ?_
    obtain rfl := Option.some.inj hf
    exact V_iret dX10_witness_28 rfl rfl rfl ⟨rfl, rfl, rfl⟩
  ·
    refine V_aload_n (pc' := 14) dX10_witness_13 rfl 0 rfl rfl ?_
    refine V_aload_n (pc' := 15) dX10_witness_14 rfl 0 rfl rfl ?_
    refine V_getR (pc' := 18) 10 0 dX10_witness_15 rfl (by decide) (Nat.le_of_ble_eq_true rfl) bm_458 hs0 (fun _ _ _ => rfl) rfl hf (fun a_3 ha_3 hf => ?_)
    refine V_getR (pc' := 21) 7 6 dX10_witness_18 rfl (by decide) (Nat.le_of_ble_eq_true rfl) bm_275 ha_3 (fun _ _ _ => rfl) rfl hf (fun a_4 ha_4 hf => ?_)
    refine V_cvI (pc' := 24) (As := [.ref a_4]) (rest := []) dX10_witness_21 rfl mok_X10_planned bm_682 10 (by decide) rfl hs0 rfl rfl (Nat.le_of_ble_eq_true rfl) (by decide) hf (fun q e => ct_X10_planned hs0 ha_4 e) (fun q_5 hf => ?_)
    refine V_if_eq (tgt := 29) (pc' := 27) dX10_witness_24 (by decide) rfl hf (fun hf => ?_) (fun hf => ?_)
    ·
      refine V_aload_n (pc' := 30) dX10_witness_29 rfl 0 rfl rfl ?_
      refine V_getR (pc' := 33) 10 13 dX10_witness_30 rfl (by decide) (Nat.le_of_ble_eq_true rfl) bm_471 hs0 (fun _ _ _ => rfl) rfl hf (fun a_6 ha_6 hf => ?_)
      refine V_cvI (pc' := 36) (As := []) (rest := []) dX10_witness_33 rfl mok_X9_lastUnwritten bm_775 9 (by decide) rfl ha_6 rfl rfl (Nat.le_of_ble_eq_true rfl) (by decide) hf (fun q e => ct_X9_lastUnwritten ha_6 e) (fun q_7 hf => ?_)
      obtain rfl := Option.some.inj hf
      exact V_iret dX10_witness_36 rfl rfl rfl ⟨rfl, rfl, rfl⟩
    ·
      refine V_iconst (v := (-1)) (pc' := 28) dX10_witness_27 rfl (by decide) ?_
      obtain rfl := Option.some.inj hf
      exact V_iret dX10_witness_28 rfl rfl rfl ⟨rfl, rfl, rfl⟩
theorem ct_X10_witness {l : Launch} {S : List SHP} {h : MH} {a0 : Nat} (hs0 : S[a0]? = some (.inl 10)) {q : Int32 × MH} (hf : f_X10_witness a0 h = some q) : CT l mX10_witness 9 false 0 0 S [.ref a0] h (QI S q) :=
  CT_ofV (by decide) rfl (Nat.le_of_ble_eq_true rfl) (fun G B hT => v_X10_witness hs0 hf)
/-! LabelStacks.greedy()I -/
theorem dX10_greedy_0 : decode cX10_greedy 0 = .ok (.aload_n 0, 1) := by decide +kernel
theorem dX10_greedy_1 : decode cX10_greedy 1 = .ok (.getfield 75, 3) := by decide +kernel
theorem dX10_greedy_4 : decode cX10_greedy 4 = .ok (.aload_n 0, 1) := by decide +kernel
theorem dX10_greedy_5 : decode cX10_greedy 5 = .ok (.getfield 12, 3) := by decide +kernel
theorem dX10_greedy_8 : decode cX10_greedy 8 = .ok (.getfield 162, 3) := by decide +kernel
theorem dX10_greedy_11 : decode cX10_greedy 11 = .ok (.invokevirtual 198, 3) := by decide +kernel
theorem dX10_greedy_14 : decode cX10_greedy 14 = .ok (.aload_n 0, 1) := by decide +kernel
theorem dX10_greedy_15 : decode cX10_greedy 15 = .ok (.getfield 75, 3) := by decide +kernel
theorem dX10_greedy_18 : decode cX10_greedy 18 = .ok (.aload_n 0, 1) := by decide +kernel
theorem dX10_greedy_19 : decode cX10_greedy 19 = .ok (.getfield 12, 3) := by decide +kernel
theorem dX10_greedy_22 : decode cX10_greedy 22 = .ok (.getfield 99, 3) := by decide +kernel
theorem dX10_greedy_25 : decode cX10_greedy 25 = .ok (.aload_n 0, 1) := by decide +kernel
theorem dX10_greedy_26 : decode cX10_greedy 26 = .ok (.invokevirtual 201, 3) := by decide +kernel
theorem dX10_greedy_29 : decode cX10_greedy 29 = .ok (.invokevirtual 205, 3) := by decide +kernel
theorem dX10_greedy_32 : decode cX10_greedy 32 = .ok (.ireturn, 1) := by decide +kernel
abbrev mX10_greedy : MI := (RX10, yX10_greedy, cX10_greedy, 1, (some .int))
theorem mok_X10_greedy : MOKv mX10_greedy 0 := ⟨⟨bm_782, bm_114, ⟨by decide, by decide⟩, by decide +kernel⟩, bm_780, bm_781⟩
def f_X10_greedy   (a0 : Nat) (h : MH) : Option (Int32 × MH) :=
  (gR h a0 13).bind fun a_1 =>
  (gR h a0 0).bind fun a_2 =>
  (gR h a_2 6).bind fun a_3 =>
  (f_X9_hold a_1 a_3 h).bind fun q_4 =>
  (gR q_4 a0 13).bind fun a_5 =>
  (gR q_4 a0 0).bind fun a_6 =>
  (gR q_4 a_6 0).bind fun a_7 =>
  (f_X10_freshRoutes a0 q_4).bind fun q_8 =>
  (f_X9_greedyCount a_5 a_7 q_8.1 q_8.2).bind fun q_9 =>
  some (q_9.1, q_9.2)
set_option maxRecDepth 100000 in
set_option maxHeartbeats 4000000 in
theorem v_X10_greedy {l : Launch} {G : GE} {B N : Nat} {S : List SHP} {o : Int32 × MH} {a0 : Nat}    (hs0 : S[a0]? = some (.inl 10)) {h : MH} (hf : f_X10_greedy a0 h = some o) : V l G B N mX10_greedy (rmm 7 0 0) false 0 0 (QI S o) S 0 0 0 [(0, .ref a0)] [] h := by
  unfold f_X10_greedy at hf
  refine V_aload_n (pc' := 1) dX10_greedy_0 rfl 0 rfl rfl ?_
  refine V_getR (pc' := 4) 10 13 dX10_greedy_1 rfl (by decide) (Nat.le_of_ble_eq_true rfl) bm_471 hs0 (fun _ _ _ => rfl) rfl hf (fun a_1 ha_1 hf => ?_)
  refine V_aload_n (pc' := 5) dX10_greedy_4 rfl 0 rfl rfl ?_
  refine V_getR (pc' := 8) 10 0 dX10_greedy_5 rfl (by decide) (Nat.le_of_ble_eq_true rfl) bm_458 hs0 (fun _ _ _ => rfl) rfl hf (fun a_2 ha_2 hf => ?_)
  refine V_getR (pc' := 11) 7 6 dX10_greedy_8 rfl (by decide) (Nat.le_of_ble_eq_true rfl) bm_275 ha_2 (fun _ _ _ => rfl) rfl hf (fun a_3 ha_3 hf => ?_)
  refine V_cvV (pc' := 14) (As := [.ref a_3]) (rest := []) dX10_greedy_11 rfl mok_X9_hold bm_783 9 (by decide) rfl ha_1 rfl rfl (Nat.le_of_ble_eq_true rfl) (by decide) hf (fun q e => ct_X9_hold ha_1 ha_3 e) (fun q_4 hf => ?_)
  refine V_aload_n (pc' := 15) dX10_greedy_14 rfl 0 rfl rfl ?_
  refine V_getR (pc' := 18) 10 13 dX10_greedy_15 rfl (by decide) (Nat.le_of_ble_eq_true rfl) bm_471 hs0 (fun _ _ _ => rfl) rfl hf (fun a_5 ha_5 hf => ?_)
  refine V_aload_n (pc' := 19) dX10_greedy_18 rfl 0 rfl rfl ?_
  refine V_getR (pc' := 22) 10 0 dX10_greedy_19 rfl (by decide) (Nat.le_of_ble_eq_true rfl) bm_458 hs0 (fun _ _ _ => rfl) rfl hf (fun a_6 ha_6 hf => ?_)
  refine V_getR (pc' := 25) 7 0 dX10_greedy_22 rfl (by decide) (Nat.le_of_ble_eq_true rfl) bm_263 ha_6 (fun _ _ _ => rfl) rfl hf (fun a_7 ha_7 hf => ?_)
  refine V_aload_n (pc' := 26) dX10_greedy_25 rfl 0 rfl rfl ?_
  refine V_cvR (pc' := 29) (As := []) (rest := [.ref a_7, .ref a_5]) dX10_greedy_26 rfl mok_X10_freshRoutes bm_686 10 (by decide) rfl hs0 rfl rfl (Nat.le_of_ble_eq_true rfl) (by decide) hf (fun q e => ct_X10_freshRoutes hs0 e) (fun q_8 hq_8 hf => ?_)
  refine V_cvI (pc' := 32) (As := [.ref a_7, .ref q_8.1]) (rest := []) dX10_greedy_29 rfl mok_X9_greedyCount bm_784 9 (by decide) rfl ha_5 rfl rfl (Nat.le_of_ble_eq_true rfl) (by decide) hf (fun q e => ct_X9_greedyCount ha_5 ha_7 hq_8 e) (fun q_9 hf => ?_)
  obtain rfl := Option.some.inj hf
  exact V_iret dX10_greedy_32 rfl rfl rfl ⟨rfl, rfl, rfl⟩
theorem ct_X10_greedy {l : Launch} {S : List SHP} {h : MH} {a0 : Nat} (hs0 : S[a0]? = some (.inl 10)) {q : Int32 × MH} (hf : f_X10_greedy a0 h = some q) : CT l mX10_greedy 7 false 0 0 S [.ref a0] h (QI S q) :=
  CT_ofV (by decide) rfl (Nat.le_of_ble_eq_true rfl) (fun G B hT => v_X10_greedy hs0 hf)
/-! LabelStacks.covers(I)I -/
theorem dX10_covers_0 : decode cX10_covers 0 = .ok (.iload_n 1, 1) := by decide +kernel
theorem dX10_covers_1 : decode cX10_covers 1 = .ok (.ifCond .lt 17, 3) := by decide +kernel
theorem dX10_covers_4 : decode cX10_covers 4 = .ok (.iload_n 1, 1) := by decide +kernel
theorem dX10_covers_5 : decode cX10_covers 5 = .ok (.aload_n 0, 1) := by decide +kernel
theorem dX10_covers_6 : decode cX10_covers 6 = .ok (.getfield 12, 3) := by decide +kernel
theorem dX10_covers_9 : decode cX10_covers 9 = .ok (.getfield 162, 3) := by decide +kernel
theorem dX10_covers_12 : decode cX10_covers 12 = .ok (.getfield 168, 3) := by decide +kernel
theorem dX10_covers_15 : decode cX10_covers 15 = .ok (.if_icmp .lt 5, 3) := by decide +kernel
theorem dX10_covers_18 : decode cX10_covers 18 = .ok (.iconst (-1), 1) := by decide +kernel
theorem dX10_covers_19 : decode cX10_covers 19 = .ok (.ireturn, 1) := by decide +kernel
theorem dX10_covers_20 : decode cX10_covers 20 = .ok (.aload_n 0, 1) := by decide +kernel
theorem dX10_covers_21 : decode cX10_covers 21 = .ok (.getfield 75, 3) := by decide +kernel
theorem dX10_covers_24 : decode cX10_covers 24 = .ok (.aload_n 0, 1) := by decide +kernel
theorem dX10_covers_25 : decode cX10_covers 25 = .ok (.getfield 12, 3) := by decide +kernel
theorem dX10_covers_28 : decode cX10_covers 28 = .ok (.getfield 162, 3) := by decide +kernel
theorem dX10_covers_31 : decode cX10_covers 31 = .ok (.invokevirtual 198, 3) := by decide +kernel
theorem dX10_covers_34 : decode cX10_covers 34 = .ok (.aload_n 0, 1) := by decide +kernel
theorem dX10_covers_35 : decode cX10_covers 35 = .ok (.getfield 75, 3) := by decide +kernel
theorem dX10_covers_38 : decode cX10_covers 38 = .ok (.aload_n 0, 1) := by decide +kernel
theorem dX10_covers_39 : decode cX10_covers 39 = .ok (.getfield 12, 3) := by decide +kernel
theorem dX10_covers_42 : decode cX10_covers 42 = .ok (.getfield 99, 3) := by decide +kernel
theorem dX10_covers_45 : decode cX10_covers 45 = .ok (.aload_n 0, 1) := by decide +kernel
theorem dX10_covers_46 : decode cX10_covers 46 = .ok (.invokevirtual 201, 3) := by decide +kernel
theorem dX10_covers_49 : decode cX10_covers 49 = .ok (.iload_n 1, 1) := by decide +kernel
theorem dX10_covers_50 : decode cX10_covers 50 = .ok (.invokevirtual 209, 3) := by decide +kernel
theorem dX10_covers_53 : decode cX10_covers 53 = .ok (.ireturn, 1) := by decide +kernel
abbrev mX10_covers : MI := (RX10, yX10_covers, cX10_covers, 2, (some .int))
theorem mok_X10_covers : MOKv mX10_covers 1 := ⟨⟨bm_791, bm_114, ⟨by decide, by decide⟩, by decide +kernel⟩, bm_789, bm_790⟩
def f_X10_covers   (a0 : Nat) (x1 : Int32) (h : MH) : Option (Int32 × MH) :=
  if x1 < 0 then
    some ((-1 : Int32), h)
  else
    (gR h a0 0).bind fun a_1 =>
    (gR h a_1 6).bind fun a_2 =>
    if x1 < (gI h a_2 1) then
      (gR h a0 13).bind fun a_3 =>
      (gR h a0 0).bind fun a_4 =>
      (gR h a_4 6).bind fun a_5 =>
      (f_X9_hold a_3 a_5 h).bind fun q_6 =>
      (gR q_6 a0 13).bind fun a_7 =>
      (gR q_6 a0 0).bind fun a_8 =>
      (gR q_6 a_8 0).bind fun a_9 =>
      (f_X10_freshRoutes a0 q_6).bind fun q_10 =>
      (f_X9_nodeReach a_7 a_9 q_10.1 x1 q_10.2).bind fun q_11 =>
      some (q_11.1, q_11.2)
    else
      some ((-1 : Int32), h)
set_option maxRecDepth 100000 in
set_option maxHeartbeats 4000000 in
theorem v_X10_covers {l : Launch} {G : GE} {B N : Nat} {S : List SHP} {o : Int32 × MH} {a0 : Nat} {x1 : Int32}    (hs0 : S[a0]? = some (.inl 10)) {h : MH} (hf : f_X10_covers a0 x1 h = some o) : V l G B N mX10_covers (rmm 7 0 0) false 0 0 (QI S o) S 0 0 0 [(0, .ref a0), (1, .int x1)] [] h := by
  unfold f_X10_covers at hf
  refine V_iload_n (pc' := 1) dX10_covers_0 rfl 1 rfl rfl ?_
  refine V_if_lt (tgt := 18) (pc' := 4) dX10_covers_1 (by decide) rfl hf (fun hf => ?_) (fun hf => ?_)
  ·
    refine V_iconst (v := (-1)) (pc' := 19) dX10_covers_18 rfl (by decide) ?_
    obtain rfl := Option.some.inj hf
    exact V_iret dX10_covers_19 rfl rfl rfl ⟨rfl, rfl, rfl⟩
  ·
    refine V_iload_n (pc' := 5) dX10_covers_4 rfl 1 rfl rfl ?_
    refine V_aload_n (pc' := 6) dX10_covers_5 rfl 0 rfl rfl ?_
    refine V_getR (pc' := 9) 10 0 dX10_covers_6 rfl (by decide) (Nat.le_of_ble_eq_true rfl) bm_458 hs0 (fun _ _ _ => rfl) rfl hf (fun a_1 ha_1 hf => ?_)
    refine V_getR (pc' := 12) 7 6 dX10_covers_9 rfl (by decide) (Nat.le_of_ble_eq_true rfl) bm_275 ha_1 (fun _ _ _ => rfl) rfl hf (fun a_2 ha_2 hf => ?_)
    refine V_getI (pc' := 15) 5 1 dX10_covers_12 rfl (by decide) (Nat.le_of_ble_eq_true rfl) bm_256 ha_2 (fun _ _ _ => rfl) ?_
    refine V_icmp_lt (tgt := 20) (pc' := 18) dX10_covers_15 (by decide) rfl hf (fun hf => ?_) (fun hf => ?_)
    ·
      refine V_aload_n (pc' := 21) dX10_covers_20 rfl 0 rfl rfl ?_
      refine V_getR (pc' := 24) 10 13 dX10_covers_21 rfl (by decide) (Nat.le_of_ble_eq_true rfl) bm_471 hs0 (fun _ _ _ => rfl) rfl hf (fun a_3 ha_3 hf => ?_)
      refine V_aload_n (pc' := 25) dX10_covers_24 rfl 0 rfl rfl ?_
      refine V_getR (pc' := 28) 10 0 dX10_covers_25 rfl (by decide) (Nat.le_of_ble_eq_true rfl) bm_458 hs0 (fun _ _ _ => rfl) rfl hf (fun a_4 ha_4 hf => ?_)
      refine V_getR (pc' := 31) 7 6 dX10_covers_28 rfl (by decide) (Nat.le_of_ble_eq_true rfl) bm_275 ha_4 (fun _ _ _ => rfl) rfl hf (fun a_5 ha_5 hf => ?_)
      refine V_cvV (pc' := 34) (As := [.ref a_5]) (rest := []) dX10_covers_31 rfl mok_X9_hold bm_783 9 (by decide) rfl ha_3 rfl rfl (Nat.le_of_ble_eq_true rfl) (by decide) hf (fun q e => ct_X9_hold ha_3 ha_5 e) (fun q_6 hf => ?_)
      refine V_aload_n (pc' := 35) dX10_covers_34 rfl 0 rfl rfl ?_
      refine V_getR (pc' := 38) 10 13 dX10_covers_35 rfl (by decide) (Nat.le_of_ble_eq_true rfl) bm_471 hs0 (fun _ _ _ => rfl) rfl hf (fun a_7 ha_7 hf => ?_)
      refine V_aload_n (pc' := 39) dX10_covers_38 rfl 0 rfl rfl ?_
      refine V_getR (pc' := 42) 10 0 dX10_covers_39 rfl (by decide) (Nat.le_of_ble_eq_true rfl) bm_458 hs0 (fun _ _ _ => rfl) rfl hf (fun a_8 ha_8 hf => ?_)
      refine V_getR (pc' := 45) 7 0 dX10_covers_42 rfl (by decide) (Nat.le_of_ble_eq_true rfl) bm_263 ha_8 (fun _ _ _ => rfl) rfl hf (fun a_9 ha_9 hf => ?_)
      refine V_aload_n (pc' := 46) dX10_covers_45 rfl 0 rfl rfl ?_
      refine V_cvR (pc' := 49) (As := []) (rest := [.ref a_9, .ref a_7]) dX10_covers_46 rfl mok_X10_freshRoutes bm_686 10 (by decide) rfl hs0 rfl rfl (Nat.le_of_ble_eq_true rfl) (by decide) hf (fun q e => ct_X10_freshRoutes hs0 e) (fun q_10 hq_10 hf => ?_)
      refine V_iload_n (pc' := 50) dX10_covers_49 rfl 1 rfl rfl ?_
      refine V_cvI (pc' := 53) (As := [.ref a_9, .ref q_10.1, .int x1]) (rest := []) dX10_covers_50 rfl mok_X9_nodeReach bm_792 9 (by decide) rfl ha_7 rfl rfl (Nat.le_of_ble_eq_true rfl) (by decide) hf (fun q e => ct_X9_nodeReach ha_7 ha_9 hq_10 e) (fun q_11 hf => ?_)
      obtain rfl := Option.some.inj hf
      exact V_iret dX10_covers_53 rfl rfl rfl ⟨rfl, rfl, rfl⟩
    ·
      refine V_iconst (v := (-1)) (pc' := 19) dX10_covers_18 rfl (by decide) ?_
      obtain rfl := Option.some.inj hf
      exact V_iret dX10_covers_19 rfl rfl rfl ⟨rfl, rfl, rfl⟩
theorem ct_X10_covers {l : Launch} {S : List SHP} {h : MH} {a0 : Nat} {x1 : Int32} (hs0 : S[a0]? = some (.inl 10)) {q : Int32 × MH} (hf : f_X10_covers a0 x1 h = some q) : CT l mX10_covers 7 false 0 0 S [.ref a0, .int x1] h (QI S q) :=
  CT_ofV (by decide) rfl (Nat.le_of_ble_eq_true rfl) (fun G B hT => v_X10_covers hs0 hf)
/-! LabelStacks.far(II)I -/
theorem dX10_far_0 : decode cX10_far 0 = .ok (.aload_n 0, 1) := by decide +kernel
theorem dX10_far_1 : decode cX10_far 1 = .ok (.getfield 12, 3) := by decide +kernel
theorem dX10_far_4 : decode cX10_far 4 = .ok (.getfield 99, 3) := by decide +kernel
theorem dX10_far_7 : decode cX10_far 7 = .ok (.iload_n 1, 1) := by decide +kernel
theorem dX10_far_8 : decode cX10_far 8 = .ok (.invokevirtual 111, 3) := by decide +kernel
theorem dX10_far_11 : decode cX10_far 11 = .ok (.ifCond .eq 17, 3) := by decide +kernel
theorem dX10_far_14 : decode cX10_far 14 = .ok (.aload_n 0, 1) := by decide +kernel
theorem dX10_far_15 : decode cX10_far 15 = .ok (.getfield 12, 3) := by decide +kernel
theorem dX10_far_18 : decode cX10_far 18 = .ok (.getfield 99, 3) := by decide +kernel
theorem dX10_far_21 : decode cX10_far 21 = .ok (.iload_n 2, 1) := by decide +kernel
theorem dX10_far_22 : decode cX10_far 22 = .ok (.invokevirtual 111, 3) := by decide +kernel
theorem dX10_far_25 : decode cX10_far 25 = .ok (.ifCond .ne 5, 3) := by decide +kernel
theorem dX10_far_28 : decode cX10_far 28 = .ok (.iconst (-1), 1) := by decide +kernel
theorem dX10_far_29 : decode cX10_far 29 = .ok (.ireturn, 1) := by decide +kernel
theorem dX10_far_30 : decode cX10_far 30 = .ok (.aload_n 0, 1) := by decide +kernel
theorem dX10_far_31 : decode cX10_far 31 = .ok (.invokevirtual 201, 3) := by decide +kernel
theorem dX10_far_34 : decode cX10_far 34 = .ok (.iload_n 1, 1) := by decide +kernel
theorem dX10_far_35 : decode cX10_far 35 = .ok (.iload_n 2, 1) := by decide +kernel
theorem dX10_far_36 : decode cX10_far 36 = .ok (.invokevirtual 213, 3) := by decide +kernel
theorem dX10_far_39 : decode cX10_far 39 = .ok (.istore_n 3, 1) := by decide +kernel
theorem dX10_far_40 : decode cX10_far 40 = .ok (.iload_n 3, 1) := by decide +kernel
theorem dX10_far_41 : decode cX10_far 41 = .ok (.ldc 217, 2) := by decide +kernel
theorem dX10_far_43 : decode cX10_far 43 = .ok (.if_icmp .ge 7, 3) := by decide +kernel
theorem dX10_far_46 : decode cX10_far 46 = .ok (.iload_n 3, 1) := by decide +kernel
theorem dX10_far_47 : decode cX10_far 47 = .ok (.goto 4, 3) := by decide +kernel
theorem dX10_far_50 : decode cX10_far 50 = .ok (.iconst (-1), 1) := by decide +kernel
theorem dX10_far_51 : decode cX10_far 51 = .ok (.ireturn, 1) := by decide +kernel
abbrev mX10_far : MI := (RX10, yX10_far, cX10_far, 4, (some .int))
theorem mok_X10_far : MOKv mX10_far 2 := ⟨⟨bm_796, bm_114, ⟨by decide, by decide⟩, by decide +kernel⟩, bm_794, bm_795⟩
def f_X10_far   (a0 : Nat) (x1 : Int32) (x2 : Int32) (h : MH) : Option (Int32 × MH) :=
  (gR h a0 0).bind fun a_1 =>
  (gR h a_1 0).bind fun a_2 =>
  (f_X2_hasNode a_2 x1 h).bind fun q_3 =>
  if q_3.1 = 0 then
    some ((-1 : Int32), q_3.2)
  else
    (gR q_3.2 a0 0).bind fun a_4 =>
    (gR q_3.2 a_4 0).bind fun a_5 =>
    (f_X2_hasNode a_5 x2 q_3.2).bind fun q_6 =>
    if q_6.1 = 0 then
      some ((-1 : Int32), q_6.2)
    else
      (f_X10_freshRoutes a0 q_6.2).bind fun q_7 =>
      (f_X4_distance q_7.1 x1 x2 q_7.2).bind fun q_8 =>
      if q_8.1 < 1000000 then
        some (q_8.1, q_8.2)
      else
        some ((-1 : Int32), q_8.2)
set_option maxRecDepth 100000 in
set_option maxHeartbeats 4000000 in
theorem v_X10_far {l : Launch} {G : GE} {B N : Nat} {S : List SHP} {o : Int32 × MH} {a0 : Nat} {x1 : Int32} {x2 : Int32}    (hs0 : S[a0]? = some (.inl 10)) {h : MH} (hf : f_X10_far a0 x1 x2 h = some o) : V l G B N mX10_far (rmm 7 0 0) false 0 0 (QI S o) S 0 0 0 [(0, .ref a0), (1, .int x1), (2, .int x2)] [] h := by
  unfold f_X10_far at hf
  refine V_aload_n (pc' := 1) dX10_far_0 rfl 0 rfl rfl ?_
  refine V_getR (pc' := 4) 10 0 dX10_far_1 rfl (by decide) (Nat.le_of_ble_eq_true rfl) bm_458 hs0 (fun _ _ _ => rfl) rfl hf (fun a_1 ha_1 hf => ?_)
  refine V_getR (pc' := 7) 7 0 dX10_far_4 rfl (by decide) (Nat.le_of_ble_eq_true rfl) bm_263 ha_1 (fun _ _ _ => rfl) rfl hf (fun a_2 ha_2 hf => ?_)
  refine V_iload_n (pc' := 8) dX10_far_7 rfl 1 rfl rfl ?_
  refine V_cvI (pc' := 11) (As := [.int x1]) (rest := []) dX10_far_8 rfl mok_X2_hasNode bm_569 2 (by decide) rfl ha_2 rfl rfl (Nat.le_of_ble_eq_true rfl) (by decide) hf (fun q e => ct_X2_hasNode ha_2 e) (fun q_3 hf => ?_)
  refine V_if_eq (tgt := 28) (pc' := 14) dX10_far_11 (by decide) rfl hf (fun hf => ?_) (fun hf => ?_)
  ·
    refine V_iconst (v := (-1)) (pc' := 29) dX10_far_28 rfl (by decide) ?_
    obtain rfl := Option.some.inj hf
    exact V_iret dX10_far_29 rfl rfl rfl ⟨rfl, rfl, rfl⟩
  ·
    refine V_aload_n (pc' := 15) dX10_far_14 rfl 0 rfl rfl ?_
    refine V_getR (pc' := 18) 10 0 dX10_far_15 rfl (by decide) (Nat.le_of_ble_eq_true rfl) bm_458 hs0 (fun _ _ _ => rfl) rfl hf (fun a_4 ha_4 hf => ?_)
    refine V_getR (pc' := 21) 7 0 dX10_far_18 rfl (by decide) (Nat.le_of_ble_eq_true rfl) bm_263 ha_4 (fun _ _ _ => rfl) rfl hf (fun a_5 ha_5 hf => ?_)
    refine V_iload_n (pc' := 22) dX10_far_21 rfl 2 rfl rfl ?_
    refine V_cvI (pc' := 25) (As := [.int x2]) (rest := []) dX10_far_22 rfl mok_X2_hasNode bm_569 2 (by decide) rfl ha_5 rfl rfl (Nat.le_of_ble_eq_true rfl) (by decide) hf (fun q e => ct_X2_hasNode ha_5 e) (fun q_6 hf => ?_)
    refine V_if_ne (tgt := 30) (pc' := 28) dX10_far_25 (by decide) rfl hf (fun hf => ?_) (fun hf => ?_)
    ·
      refine V_iconst (v := (-1)) (pc' := 29) dX10_far_28 rfl (by decide) ?_
      obtain rfl := Option.some.inj hf
      exact V_iret dX10_far_29 rfl rfl rfl ⟨rfl, rfl, rfl⟩
    ·
      refine V_aload_n (pc' := 31) dX10_far_30 rfl 0 rfl rfl ?_
      refine V_cvR (pc' := 34) (As := []) (rest := []) dX10_far_31 rfl mok_X10_freshRoutes bm_686 10 (by decide) rfl hs0 rfl rfl (Nat.le_of_ble_eq_true rfl) (by decide) hf (fun q e => ct_X10_freshRoutes hs0 e) (fun q_7 hq_7 hf => ?_)
      refine V_iload_n (pc' := 35) dX10_far_34 rfl 1 rfl rfl ?_
      refine V_iload_n (pc' := 36) dX10_far_35 rfl 2 rfl rfl ?_
      refine V_cvI (pc' := 39) (As := [.int x1, .int x2]) (rest := []) dX10_far_36 rfl mok_X4_distance bm_797 4 (by decide) rfl hq_7 rfl rfl (Nat.le_of_ble_eq_true rfl) (by decide) hf (fun q e => ct_X4_distance hq_7 e) (fun q_8 hf => ?_)
      refine V_istore_n (lv' := [(3, .int q_8.1), (0, .ref a0), (1, .int x1), (2, .int x2)]) (pc' := 40) dX10_far_39 rfl rfl (Nat.le_of_ble_eq_true rfl) rfl ?_
      refine V_iload_n (pc' := 41) dX10_far_40 rfl 0 rfl rfl ?_
      refine V_ldc (v := 1000000) (pc' := 43) dX10_far_41 rfl bm_798 ?_
      refine V_icmp_ge (tgt := 50) (pc' := 46) dX10_far_43 (by decide) rfl hf (fun hf => ?_) (fun hf => ?_)
      ·
        refine V_iload_n (pc' := 47) dX10_far_46 rfl 0 rfl rfl ?_
        refine V_goto (tgt := 51) dX10_far_47 (by decide) ?_
        obtain rfl := Option.some.inj hf
        exact V_iret dX10_far_51 rfl rfl rfl ⟨rfl, rfl, rfl⟩
      ·
        refine V_iconst (v := (-1)) (pc' := 51) dX10_far_50 rfl (by decide) ?_
        obtain rfl := Option.some.inj hf
        exact V_iret dX10_far_51 rfl rfl rfl ⟨rfl, rfl, rfl⟩
theorem ct_X10_far {l : Launch} {S : List SHP} {h : MH} {a0 : Nat} {x1 : Int32} {x2 : Int32} (hs0 : S[a0]? = some (.inl 10)) {q : Int32 × MH} (hf : f_X10_far a0 x1 x2 h = some q) : CT l mX10_far 7 false 0 0 S [.ref a0, .int x1, .int x2] h (QI S q) :=
  CT_ofV (by decide) rfl (Nat.le_of_ble_eq_true rfl) (fun G B hT => v_X10_far hs0 hf)
/-! LabelStacks.paths(II)J -/
theorem dX10_paths_0 : decode cX10_paths 0 = .ok (.aload_n 0, 1) := by decide +kernel
theorem dX10_paths_1 : decode cX10_paths 1 = .ok (.getfield 12, 3) := by decide +kernel
theorem dX10_paths_4 : decode cX10_paths 4 = .ok (.getfield 99, 3) := by decide +kernel
theorem dX10_paths_7 : decode cX10_paths 7 = .ok (.iload_n 1, 1) := by decide +kernel
theorem dX10_paths_8 : decode cX10_paths 8 = .ok (.invokevirtual 111, 3) := by decide +kernel
theorem dX10_paths_11 : decode cX10_paths 11 = .ok (.ifCond .eq 17, 3) := by decide +kernel
theorem dX10_paths_14 : decode cX10_paths 14 = .ok (.aload_n 0, 1) := by decide +kernel
theorem dX10_paths_15 : decode cX10_paths 15 = .ok (.getfield 12, 3) := by decide +kernel
theorem dX10_paths_18 : decode cX10_paths 18 = .ok (.getfield 99, 3) := by decide +kernel
theorem dX10_paths_21 : decode cX10_paths 21 = .ok (.iload_n 2, 1) := by decide +kernel
theorem dX10_paths_22 : decode cX10_paths 22 = .ok (.invokevirtual 111, 3) := by decide +kernel
theorem dX10_paths_25 : decode cX10_paths 25 = .ok (.ifCond .ne 7, 3) := by decide +kernel
theorem dX10_paths_28 : decode cX10_paths 28 = .ok (.ldc2_w 218, 3) := by decide +kernel
theorem dX10_paths_31 : decode cX10_paths 31 = .ok (.lreturn, 1) := by decide +kernel
theorem dX10_paths_32 : decode cX10_paths 32 = .ok (.aload_n 0, 1) := by decide +kernel
theorem dX10_paths_33 : decode cX10_paths 33 = .ok (.invokevirtual 201, 3) := by decide +kernel
theorem dX10_paths_36 : decode cX10_paths 36 = .ok (.iload_n 1, 1) := by decide +kernel
theorem dX10_paths_37 : decode cX10_paths 37 = .ok (.iload_n 2, 1) := by decide +kernel
theorem dX10_paths_38 : decode cX10_paths 38 = .ok (.invokevirtual 220, 3) := by decide +kernel
theorem dX10_paths_41 : decode cX10_paths 41 = .ok (.lreturn, 1) := by decide +kernel
abbrev mX10_paths : MI := (RX10, yX10_paths, cX10_paths, 3, (some .long))
theorem mok_X10_paths : MOKv mX10_paths 2 := ⟨⟨bm_802, bm_114, ⟨by decide, by decide⟩, by decide +kernel⟩, bm_800, bm_801⟩
def f_X10_paths_28    (h : MH) : Option (Int64 × MH) :=
  some ((-1 : Int64), h)
def f_X10_paths   (a0 : Nat) (x1 : Int32) (x2 : Int32) (h : MH) : Option (Int64 × MH) :=
  (gR h a0 0).bind fun a_1 =>
  (gR h a_1 0).bind fun a_2 =>
  (f_X2_hasNode a_2 x1 h).bind fun q_3 =>
  if q_3.1 = 0 then
    f_X10_paths_28  q_3.2
  else
    (gR q_3.2 a0 0).bind fun a_4 =>
    (gR q_3.2 a_4 0).bind fun a_5 =>
    (f_X2_hasNode a_5 x2 q_3.2).bind fun q_6 =>
    if q_6.1 = 0 then
      f_X10_paths_28  q_6.2
    else
      (f_X10_freshRoutes a0 q_6.2).bind fun q_7 =>
      (f_X4_countOf q_7.1 x1 x2 q_7.2).bind fun q_8 =>
      some (q_8.1, q_8.2)
set_option maxRecDepth 100000 in
set_option maxHeartbeats 4000000 in
theorem v_X10_paths_28 {l : Launch} {G : GE} {B N : Nat} {S : List SHP} {o : Int64 × MH}      {h : MH} (hf : f_X10_paths_28  h = some o) : V l G B N mX10_paths (rmm 7 0 0) false 0 0 (QL S o) S 0 0 28 [] [] h := by
  unfold f_X10_paths_28 at hf
  refine V_ldc2 (v := (-1)) (pc' := 31) dX10_paths_28 rfl bm_803 ?_
  obtain rfl := Option.some.inj hf
  exact V_lret dX10_paths_31 rfl rfl rfl ⟨rfl, rfl, rfl⟩
set_option maxRecDepth 100000 in
set_option maxHeartbeats 4000000 in
theorem v_X10_paths {l : Launch} {G : GE} {B N : Nat} {S : List SHP} {o : Int64 × MH} {a0 : Nat} {x1 : Int32} {x2 : Int32}    (hs0 : S[a0]? = some (.inl 10)) {h : MH} (hf : f_X10_paths a0 x1 x2 h = some o) : V l G B N mX10_paths (rmm 7 0 0) false 0 0 (QL S o) S 0 0 0 [(0, .ref a0), (1, .int x1), (2, .int x2)] [] h := by
  unfold f_X10_paths at hf
  refine V_aload_n (pc' := 1) dX10_paths_0 rfl 0 rfl rfl ?_
  refine V_getR (pc' := 4) 10 0 dX10_paths_1 rfl (by decide) (Nat.le_of_ble_eq_true rfl) bm_458 hs0 (fun _ _ _ => rfl) rfl hf (fun a_1 ha_1 hf => ?_)
  refine V_getR (pc' := 7) 7 0 dX10_paths_4 rfl (by decide) (Nat.le_of_ble_eq_true rfl) bm_263 ha_1 (fun _ _ _ => rfl) rfl hf (fun a_2 ha_2 hf => ?_)
  refine V_iload_n (pc' := 8) dX10_paths_7 rfl 1 rfl rfl ?_
  refine V_cvI (pc' := 11) (As := [.int x1]) (rest := []) dX10_paths_8 rfl mok_X2_hasNode bm_569 2 (by decide) rfl ha_2 rfl rfl (Nat.le_of_ble_eq_true rfl) (by decide) hf (fun q e => ct_X2_hasNode ha_2 e) (fun q_3 hf => ?_)
  refine V_if_eq (tgt := 28) (pc' := 14) dX10_paths_11 (by decide) rfl hf (fun hf => ?_) (fun hf => ?_)
  ·
    exact V_sub (lv' := []) [] rfl (v_X10_paths_28  hf)
  ·
    refine V_aload_n (pc' := 15) dX10_paths_14 rfl 0 rfl rfl ?_
    refine V_getR (pc' := 18) 10 0 dX10_paths_15 rfl (by decide) (Nat.le_of_ble_eq_true rfl) bm_458 hs0 (fun _ _ _ => rfl) rfl hf (fun a_4 ha_4 hf => ?_)
    refine V_getR (pc' := 21) 7 0 dX10_paths_18 rfl (by decide) (Nat.le_of_ble_eq_true rfl) bm_263 ha_4 (fun _ _ _ => rfl) rfl hf (fun a_5 ha_5 hf => ?_)
    refine V_iload_n (pc' := 22) dX10_paths_21 rfl 2 rfl rfl ?_
    refine V_cvI (pc' := 25) (As := [.int x2]) (rest := []) dX10_paths_22 rfl mok_X2_hasNode bm_569 2 (by decide) rfl ha_5 rfl rfl (Nat.le_of_ble_eq_true rfl) (by decide) hf (fun q e => ct_X2_hasNode ha_5 e) (fun q_6 hf => ?_)
    refine V_if_ne (tgt := 32) (pc' := 28) dX10_paths_25 (by decide) rfl hf (fun hf => ?_) (fun hf => ?_)
    ·
      exact V_sub (lv' := []) [] rfl (v_X10_paths_28  hf)
    ·
      refine V_aload_n (pc' := 33) dX10_paths_32 rfl 0 rfl rfl ?_
      refine V_cvR (pc' := 36) (As := []) (rest := []) dX10_paths_33 rfl mok_X10_freshRoutes bm_686 10 (by decide) rfl hs0 rfl rfl (Nat.le_of_ble_eq_true rfl) (by decide) hf (fun q e => ct_X10_freshRoutes hs0 e) (fun q_7 hq_7 hf => ?_)
      refine V_iload_n (pc' := 37) dX10_paths_36 rfl 1 rfl rfl ?_
      refine V_iload_n (pc' := 38) dX10_paths_37 rfl 2 rfl rfl ?_
      refine V_cvL (pc' := 41) (As := [.int x1, .int x2]) (rest := []) dX10_paths_38 rfl mok_X4_countOf bm_804 4 (by decide) rfl hq_7 rfl rfl (Nat.le_of_ble_eq_true rfl) (by decide) hf (fun q e => ct_X4_countOf hq_7 e) (fun q_8 hf => ?_)
      obtain rfl := Option.some.inj hf
      exact V_lret dX10_paths_41 rfl rfl rfl ⟨rfl, rfl, rfl⟩
theorem ct_X10_paths {l : Launch} {S : List SHP} {h : MH} {a0 : Nat} {x1 : Int32} {x2 : Int32} (hs0 : S[a0]? = some (.inl 10)) {q : Int64 × MH} (hf : f_X10_paths a0 x1 x2 h = some q) : CT l mX10_paths 7 false 0 0 S [.ref a0, .int x1, .int x2] h (QL S q) :=
  CT_ofV (by decide) rfl (Nat.le_of_ble_eq_true rfl) (fun G B hT => v_X10_paths hs0 hf)
/-! LabelStacks.next(II)I -/
theorem dX10_next_0 : decode cX10_next 0 = .ok (.aload_n 0, 1) := by decide +kernel
theorem dX10_next_1 : decode cX10_next 1 = .ok (.getfield 12, 3) := by decide +kernel
theorem dX10_next_4 : decode cX10_next 4 = .ok (.getfield 99, 3) := by decide +kernel
theorem dX10_next_7 : decode cX10_next 7 = .ok (.iload_n 1, 1) := by decide +kernel
theorem dX10_next_8 : decode cX10_next 8 = .ok (.invokevirtual 111, 3) := by decide +kernel
theorem dX10_next_11 : decode cX10_next 11 = .ok (.ifCond .eq 17, 3) := by decide +kernel
theorem dX10_next_14 : decode cX10_next 14 = .ok (.aload_n 0, 1) := by decide +kernel
theorem dX10_next_15 : decode cX10_next 15 = .ok (.getfield 12, 3) := by decide +kernel
theorem dX10_next_18 : decode cX10_next 18 = .ok (.getfield 99, 3) := by decide +kernel
theorem dX10_next_21 : decode cX10_next 21 = .ok (.iload_n 2, 1) := by decide +kernel
theorem dX10_next_22 : decode cX10_next 22 = .ok (.invokevirtual 111, 3) := by decide +kernel
theorem dX10_next_25 : decode cX10_next 25 = .ok (.ifCond .ne 5, 3) := by decide +kernel
theorem dX10_next_28 : decode cX10_next 28 = .ok (.iconst 0, 1) := by decide +kernel
theorem dX10_next_29 : decode cX10_next 29 = .ok (.ireturn, 1) := by decide +kernel
theorem dX10_next_30 : decode cX10_next 30 = .ok (.aload_n 0, 1) := by decide +kernel
theorem dX10_next_31 : decode cX10_next 31 = .ok (.invokevirtual 201, 3) := by decide +kernel
theorem dX10_next_34 : decode cX10_next 34 = .ok (.aload_n 0, 1) := by decide +kernel
theorem dX10_next_35 : decode cX10_next 35 = .ok (.getfield 12, 3) := by decide +kernel
theorem dX10_next_38 : decode cX10_next 38 = .ok (.getfield 99, 3) := by decide +kernel
theorem dX10_next_41 : decode cX10_next 41 = .ok (.iload_n 1, 1) := by decide +kernel
theorem dX10_next_42 : decode cX10_next 42 = .ok (.iload_n 2, 1) := by decide +kernel
theorem dX10_next_43 : decode cX10_next 43 = .ok (.invokevirtual 224, 3) := by decide +kernel
theorem dX10_next_46 : decode cX10_next 46 = .ok (.ireturn, 1) := by decide +kernel
abbrev mX10_next : MI := (RX10, yX10_next, cX10_next, 3, (some .int))
theorem mok_X10_next : MOKv mX10_next 2 := ⟨⟨bm_808, bm_114, ⟨by decide, by decide⟩, by decide +kernel⟩, bm_806, bm_807⟩
def f_X10_next   (a0 : Nat) (x1 : Int32) (x2 : Int32) (h : MH) : Option (Int32 × MH) :=
  (gR h a0 0).bind fun a_1 =>
  (gR h a_1 0).bind fun a_2 =>
  (f_X2_hasNode a_2 x1 h).bind fun q_3 =>
  if q_3.1 = 0 then
    some (0, q_3.2)
  else
    (gR q_3.2 a0 0).bind fun a_4 =>
    (gR q_3.2 a_4 0).bind fun a_5 =>
    (f_X2_hasNode a_5 x2 q_3.2).bind fun q_6 =>
    if q_6.1 = 0 then
      some (0, q_6.2)
    else
      (f_X10_freshRoutes a0 q_6.2).bind fun q_7 =>
      (gR q_7.2 a0 0).bind fun a_8 =>
      (gR q_7.2 a_8 0).bind fun a_9 =>
      (f_X4_onSet q_7.1 a_9 x1 x2 q_7.2).bind fun q_10 =>
      some (q_10.1, q_10.2)
set_option maxRecDepth 100000 in
set_option maxHeartbeats 4000000 in
theorem v_X10_next {l : Launch} {G : GE} {B N : Nat} {S : List SHP} {o : Int32 × MH} {a0 : Nat} {x1 : Int32} {x2 : Int32}    (hs0 : S[a0]? = some (.inl 10)) {h : MH} (hf : f_X10_next a0 x1 x2 h = some o) : V l G B N mX10_next (rmm 7 0 0) false 0 0 (QI S o) S 0 0 0 [(0, .ref a0), (1, .int x1), (2, .int x2)] [] h := by
  unfold f_X10_next at hf
  refine V_aload_n (pc' := 1) dX10_next_0 rfl 0 rfl rfl ?_
  refine V_getR (pc' := 4) 10 0 dX10_next_1 rfl (by decide) (Nat.le_of_ble_eq_true rfl) bm_458 hs0 (fun _ _ _ => rfl) rfl hf (fun a_1 ha_1 hf => ?_)
  refine V_getR (pc' := 7) 7 0 dX10_next_4 rfl (by decide) (Nat.le_of_ble_eq_true rfl) bm_263 ha_1 (fun _ _ _ => rfl) rfl hf (fun a_2 ha_2 hf => ?_)
  refine V_iload_n (pc' := 8) dX10_next_7 rfl 1 rfl rfl ?_
  refine V_cvI (pc' := 11) (As := [.int x1]) (rest := []) dX10_next_8 rfl mok_X2_hasNode bm_569 2 (by decide) rfl ha_2 rfl rfl (Nat.le_of_ble_eq_true rfl) (by decide) hf (fun q e => ct_X2_hasNode ha_2 e) (fun q_3 hf => ?_)
  refine V_if_eq (tgt := 28) (pc' := 14) dX10_next_11 (by decide) rfl hf (fun hf => ?_) (fun hf => ?_)
  ·
    refine V_iconst (v := 0) (pc' := 29) dX10_next_28 rfl (by decide) ?_
    obtain rfl := Option.some.inj hf
    exact V_iret dX10_next_29 rfl rfl rfl ⟨rfl, rfl, rfl⟩
  ·
    refine V_aload_n (pc' := 15) dX10_next_14 rfl 0 rfl rfl ?_
    refine V_getR (pc' := 18) 10 0 dX10_next_15 rfl (by decide) (Nat.le_of_ble_eq_true rfl) bm_458 hs0 (fun _ _ _ => rfl) rfl hf (fun a_4 ha_4 hf => ?_)
    refine V_getR (pc' := 21) 7 0 dX10_next_18 rfl (by decide) (Nat.le_of_ble_eq_true rfl) bm_263 ha_4 (fun _ _ _ => rfl) rfl hf (fun a_5 ha_5 hf => ?_)
    refine V_iload_n (pc' := 22) dX10_next_21 rfl 2 rfl rfl ?_
    refine V_cvI (pc' := 25) (As := [.int x2]) (rest := []) dX10_next_22 rfl mok_X2_hasNode bm_569 2 (by decide) rfl ha_5 rfl rfl (Nat.le_of_ble_eq_true rfl) (by decide) hf (fun q e => ct_X2_hasNode ha_5 e) (fun q_6 hf => ?_)
    refine V_if_ne (tgt := 30) (pc' := 28) dX10_next_25 (by decide) rfl hf (fun hf => ?_) (fun hf => ?_)
    ·
      refine V_iconst (v := 0) (pc' := 29) dX10_next_28 rfl (by decide) ?_
      obtain rfl := Option.some.inj hf
      exact V_iret dX10_next_29 rfl rfl rfl ⟨rfl, rfl, rfl⟩
    ·
      refine V_aload_n (pc' := 31) dX10_next_30 rfl 0 rfl rfl ?_
      refine V_cvR (pc' := 34) (As := []) (rest := []) dX10_next_31 rfl mok_X10_freshRoutes bm_686 10 (by decide) rfl hs0 rfl rfl (Nat.le_of_ble_eq_true rfl) (by decide) hf (fun q e => ct_X10_freshRoutes hs0 e) (fun q_7 hq_7 hf => ?_)
      refine V_aload_n (pc' := 35) dX10_next_34 rfl 0 rfl rfl ?_
      refine V_getR (pc' := 38) 10 0 dX10_next_35 rfl (by decide) (Nat.le_of_ble_eq_true rfl) bm_458 hs0 (fun _ _ _ => rfl) rfl hf (fun a_8 ha_8 hf => ?_)
      refine V_getR (pc' := 41) 7 0 dX10_next_38 rfl (by decide) (Nat.le_of_ble_eq_true rfl) bm_263 ha_8 (fun _ _ _ => rfl) rfl hf (fun a_9 ha_9 hf => ?_)
      refine V_iload_n (pc' := 42) dX10_next_41 rfl 1 rfl rfl ?_
      refine V_iload_n (pc' := 43) dX10_next_42 rfl 2 rfl rfl ?_
      refine V_cvI (pc' := 46) (As := [.ref a_9, .int x1, .int x2]) (rest := []) dX10_next_43 rfl mok_X4_onSet bm_809 4 (by decide) rfl hq_7 rfl rfl (Nat.le_of_ble_eq_true rfl) (by decide) hf (fun q e => ct_X4_onSet hq_7 ha_9 e) (fun q_10 hf => ?_)
      obtain rfl := Option.some.inj hf
      exact V_iret dX10_next_46 rfl rfl rfl ⟨rfl, rfl, rfl⟩
theorem ct_X10_next {l : Launch} {S : List SHP} {h : MH} {a0 : Nat} {x1 : Int32} {x2 : Int32} (hs0 : S[a0]? = some (.inl 10)) {q : Int32 × MH} (hf : f_X10_next a0 x1 x2 h = some q) : CT l mX10_next 7 false 0 0 S [.ref a0, .int x1, .int x2] h (QI S q) :=
  CT_ofV (by decide) rfl (Nat.le_of_ble_eq_true rfl) (fun G B hT => v_X10_next hs0 hf)
/-! LabelStacks.sent(I)Z -/
theorem dX10_sent_0 : decode cX10_sent 0 = .ok (.aload_n 0, 1) := by decide +kernel
theorem dX10_sent_1 : decode cX10_sent 1 = .ok (.getfield 12, 3) := by decide +kernel
theorem dX10_sent_4 : decode cX10_sent 4 = .ok (.getfield 99, 3) := by decide +kernel
theorem dX10_sent_7 : decode cX10_sent 7 = .ok (.iload_n 1, 1) := by decide +kernel
theorem dX10_sent_8 : decode cX10_sent 8 = .ok (.invokevirtual 111, 3) := by decide +kernel
theorem dX10_sent_11 : decode cX10_sent 11 = .ok (.ifCond .ne 5, 3) := by decide +kernel
theorem dX10_sent_14 : decode cX10_sent 14 = .ok (.iconst 0, 1) := by decide +kernel
theorem dX10_sent_15 : decode cX10_sent 15 = .ok (.ireturn, 1) := by decide +kernel
theorem dX10_sent_16 : decode cX10_sent 16 = .ok (.aload_n 0, 1) := by decide +kernel
theorem dX10_sent_17 : decode cX10_sent 17 = .ok (.getfield 82, 3) := by decide +kernel
theorem dX10_sent_20 : decode cX10_sent 20 = .ok (.getfield 396, 3) := by decide +kernel
theorem dX10_sent_23 : decode cX10_sent 23 = .ok (.aload_n 0, 1) := by decide +kernel
theorem dX10_sent_24 : decode cX10_sent 24 = .ok (.getfield 21, 3) := by decide +kernel
theorem dX10_sent_27 : decode cX10_sent 27 = .ok (.invokevirtual 246, 3) := by decide +kernel
theorem dX10_sent_30 : decode cX10_sent 30 = .ok (.aload_n 0, 1) := by decide +kernel
theorem dX10_sent_31 : decode cX10_sent 31 = .ok (.getfield 82, 3) := by decide +kernel
theorem dX10_sent_34 : decode cX10_sent 34 = .ok (.aload_n 0, 1) := by decide +kernel
theorem dX10_sent_35 : decode cX10_sent 35 = .ok (.getfield 12, 3) := by decide +kernel
theorem dX10_sent_38 : decode cX10_sent 38 = .ok (.getfield 99, 3) := by decide +kernel
theorem dX10_sent_41 : decode cX10_sent 41 = .ok (.aload_n 0, 1) := by decide +kernel
theorem dX10_sent_42 : decode cX10_sent 42 = .ok (.invokevirtual 201, 3) := by decide +kernel
theorem dX10_sent_45 : decode cX10_sent 45 = .ok (.iload_n 1, 1) := by decide +kernel
theorem dX10_sent_46 : decode cX10_sent 46 = .ok (.invokevirtual 397, 3) := by decide +kernel
theorem dX10_sent_49 : decode cX10_sent 49 = .ok (.iconst 1, 1) := by decide +kernel
theorem dX10_sent_50 : decode cX10_sent 50 = .ok (.ireturn, 1) := by decide +kernel
abbrev mX10_sent : MI := (RX10, yX10_sent, cX10_sent, 2, (some .boolean))
theorem mok_X10_sent : MOKv mX10_sent 1 := ⟨⟨bm_821, bm_114, ⟨by decide, by decide⟩, by decide +kernel⟩, bm_820, bm_11⟩
def f_X10_sent   (a0 : Nat) (x1 : Int32) (h : MH) : Option (Int32 × MH) :=
  (gR h a0 0).bind fun a_1 =>
  (gR h a_1 0).bind fun a_2 =>
  (f_X2_hasNode a_2 x1 h).bind fun q_3 =>
  if q_3.1 = 0 then
    some (0, q_3.2)
  else
    (gR q_3.2 a0 14).bind fun a_4 =>
    (gR q_3.2 a_4 0).bind fun a_5 =>
    (gR q_3.2 a0 1).bind fun a_6 =>
    (f_X5_copyFrom a_5 a_6 q_3.2).bind fun q_7 =>
    (gR q_7 a0 14).bind fun a_8 =>
    (gR q_7 a0 0).bind fun a_9 =>
    (gR q_7 a_9 0).bind fun a_10 =>
    (f_X10_freshRoutes a0 q_7).bind fun q_11 =>
    (f_X3_run a_8 a_10 q_11.1 x1 q_11.2).bind fun q_12 =>
    some (1, q_12)
set_option maxRecDepth 100000 in
set_option maxHeartbeats 4000000 in
theorem v_X10_sent {l : Launch} {G : GE} {B N : Nat} {S : List SHP} {o : Int32 × MH} {a0 : Nat} {x1 : Int32}    (hs0 : S[a0]? = some (.inl 10)) {h : MH} (hf : f_X10_sent a0 x1 h = some o) : V l G B N mX10_sent (rmm 8 0 0) false 0 0 (QI S o) S 0 0 0 [(0, .ref a0), (1, .int x1)] [] h := by
  unfold f_X10_sent at hf
  refine V_aload_n (pc' := 1) dX10_sent_0 rfl 0 rfl rfl ?_
  refine V_getR (pc' := 4) 10 0 dX10_sent_1 rfl (by decide) (Nat.le_of_ble_eq_true rfl) bm_458 hs0 (fun _ _ _ => rfl) rfl hf (fun a_1 ha_1 hf => ?_)
  refine V_getR (pc' := 7) 7 0 dX10_sent_4 rfl (by decide) (Nat.le_of_ble_eq_true rfl) bm_263 ha_1 (fun _ _ _ => rfl) rfl hf (fun a_2 ha_2 hf => ?_)
  refine V_iload_n (pc' := 8) dX10_sent_7 rfl 1 rfl rfl ?_
  refine V_cvI (pc' := 11) (As := [.int x1]) (rest := []) dX10_sent_8 rfl mok_X2_hasNode bm_569 2 (by decide) rfl ha_2 rfl rfl (Nat.le_of_ble_eq_true rfl) (by decide) hf (fun q e => ct_X2_hasNode ha_2 e) (fun q_3 hf => ?_)
  refine V_if_ne (tgt := 16) (pc' := 14) dX10_sent_11 (by decide) rfl hf (fun hf => ?_) (fun hf => ?_)
  ·
    refine V_iconst (v := 0) (pc' := 15) dX10_sent_14 rfl (by decide) ?_
    obtain rfl := Option.some.inj hf
    exact V_zretL dX10_sent_15 rfl rfl rfl (by decide) ⟨rfl, rfl, rfl⟩
  ·
    refine V_aload_n (pc' := 17) dX10_sent_16 rfl 0 rfl rfl ?_
    refine V_getR (pc' := 20) 10 14 dX10_sent_17 rfl (by decide) (Nat.le_of_ble_eq_true rfl) bm_472 hs0 (fun _ _ _ => rfl) rfl hf (fun a_4 ha_4 hf => ?_)
    refine V_getR (pc' := 23) 3 0 dX10_sent_20 rfl (by decide) (Nat.le_of_ble_eq_true rfl) bm_414 ha_4 (fun _ _ _ => rfl) rfl hf (fun a_5 ha_5 hf => ?_)
    refine V_aload_n (pc' := 24) dX10_sent_23 rfl 0 rfl rfl ?_
    refine V_getR (pc' := 27) 10 1 dX10_sent_24 rfl (by decide) (Nat.le_of_ble_eq_true rfl) bm_459 hs0 (fun _ _ _ => rfl) rfl hf (fun a_6 ha_6 hf => ?_)
    refine V_cvV (pc' := 30) (As := [.ref a_6]) (rest := []) dX10_sent_27 rfl mok_X5_copyFrom bm_822 5 (by decide) rfl ha_5 rfl rfl (Nat.le_of_ble_eq_true rfl) (by decide) hf (fun q e => ct_X5_copyFrom ha_5 ha_6 e) (fun q_7 hf => ?_)
    refine V_aload_n (pc' := 31) dX10_sent_30 rfl 0 rfl rfl ?_
    refine V_getR (pc' := 34) 10 14 dX10_sent_31 rfl (by decide) (Nat.le_of_ble_eq_true rfl) bm_472 hs0 (fun _ _ _ => rfl) rfl hf (fun a_8 ha_8 hf => ?_)
    refine V_aload_n (pc' := 35) dX10_sent_34 rfl 0 rfl rfl ?_
    refine V_getR (pc' := 38) 10 0 dX10_sent_35 rfl (by decide) (Nat.le_of_ble_eq_true rfl) bm_458 hs0 (fun _ _ _ => rfl) rfl hf (fun a_9 ha_9 hf => ?_)
    refine V_getR (pc' := 41) 7 0 dX10_sent_38 rfl (by decide) (Nat.le_of_ble_eq_true rfl) bm_263 ha_9 (fun _ _ _ => rfl) rfl hf (fun a_10 ha_10 hf => ?_)
    refine V_aload_n (pc' := 42) dX10_sent_41 rfl 0 rfl rfl ?_
    refine V_cvR (pc' := 45) (As := []) (rest := [.ref a_10, .ref a_8]) dX10_sent_42 rfl mok_X10_freshRoutes bm_686 10 (by decide) rfl hs0 rfl rfl (Nat.le_of_ble_eq_true rfl) (by decide) hf (fun q e => ct_X10_freshRoutes hs0 e) (fun q_11 hq_11 hf => ?_)
    refine V_iload_n (pc' := 46) dX10_sent_45 rfl 1 rfl rfl ?_
    refine V_cvV (pc' := 49) (As := [.ref a_10, .ref q_11.1, .int x1]) (rest := []) dX10_sent_46 rfl mok_X3_run bm_823 3 (by decide) rfl ha_8 rfl rfl (Nat.le_of_ble_eq_true rfl) (by decide) hf (fun q e => ct_X3_run ha_8 ha_10 hq_11 e) (fun q_12 hf => ?_)
    refine V_iconst (v := 1) (pc' := 50) dX10_sent_49 rfl (by decide) ?_
    obtain rfl := Option.some.inj hf
    exact V_zretL dX10_sent_50 rfl rfl rfl (by decide) ⟨rfl, rfl, rfl⟩
theorem ct_X10_sent {l : Launch} {S : List SHP} {h : MH} {a0 : Nat} {x1 : Int32} (hs0 : S[a0]? = some (.inl 10)) {q : Int32 × MH} (hf : f_X10_sent a0 x1 h = some q) : CT l mX10_sent 8 false 0 0 S [.ref a0, .int x1] h (QI S q) :=
  CT_ofV (by decide) rfl (Nat.le_of_ble_eq_true rfl) (fun G B hT => v_X10_sent hs0 hf)
/-! LabelStacks.ends(I)I -/
theorem dX10_ends_0 : decode cX10_ends 0 = .ok (.aload_n 0, 1) := by decide +kernel
theorem dX10_ends_1 : decode cX10_ends 1 = .ok (.iload_n 1, 1) := by decide +kernel
theorem dX10_ends_2 : decode cX10_ends 2 = .ok (.invokevirtual 228, 3) := by decide +kernel
theorem dX10_ends_5 : decode cX10_ends 5 = .ok (.ifCond .eq 13, 3) := by decide +kernel
theorem dX10_ends_8 : decode cX10_ends 8 = .ok (.aload_n 0, 1) := by decide +kernel
theorem dX10_ends_9 : decode cX10_ends 9 = .ok (.getfield 82, 3) := by decide +kernel
theorem dX10_ends_12 : decode cX10_ends 12 = .ok (.invokevirtual 231, 3) := by decide +kernel
theorem dX10_ends_15 : decode cX10_ends 15 = .ok (.goto 4, 3) := by decide +kernel
theorem dX10_ends_18 : decode cX10_ends 18 = .ok (.iconst (-1), 1) := by decide +kernel
theorem dX10_ends_19 : decode cX10_ends 19 = .ok (.ireturn, 1) := by decide +kernel
abbrev mX10_ends : MI := (RX10, yX10_ends, cX10_ends, 2, (some .int))
theorem mok_X10_ends : MOKv mX10_ends 1 := ⟨⟨bm_817, bm_114, ⟨by decide, by decide⟩, by decide +kernel⟩, bm_815, bm_816⟩
def f_X10_ends   (a0 : Nat) (x1 : Int32) (h : MH) : Option (Int32 × MH) :=
  (f_X10_sent a0 x1 h).bind fun q_1 =>
  if q_1.1 = 0 then
    some ((-1 : Int32), q_1.2)
  else
    (gR q_1.2 a0 14).bind fun a_2 =>
    (f_X3_outcome a_2 q_1.2).bind fun q_3 =>
    some (q_3.1, q_3.2)
set_option maxRecDepth 100000 in
set_option maxHeartbeats 4000000 in
theorem v_X10_ends {l : Launch} {G : GE} {B N : Nat} {S : List SHP} {o : Int32 × MH} {a0 : Nat} {x1 : Int32}    (hs0 : S[a0]? = some (.inl 10)) {h : MH} (hf : f_X10_ends a0 x1 h = some o) : V l G B N mX10_ends (rmm 9 0 0) false 0 0 (QI S o) S 0 0 0 [(0, .ref a0), (1, .int x1)] [] h := by
  unfold f_X10_ends at hf
  refine V_aload_n (pc' := 1) dX10_ends_0 rfl 0 rfl rfl ?_
  refine V_iload_n (pc' := 2) dX10_ends_1 rfl 1 rfl rfl ?_
  refine V_cvI (pc' := 5) (As := [.int x1]) (rest := []) dX10_ends_2 rfl mok_X10_sent bm_818 10 (by decide) rfl hs0 rfl rfl (Nat.le_of_ble_eq_true rfl) (by decide) hf (fun q e => ct_X10_sent hs0 e) (fun q_1 hf => ?_)
  refine V_if_eq (tgt := 18) (pc' := 8) dX10_ends_5 (by decide) rfl hf (fun hf => ?_) (fun hf => ?_)
  ·
    refine V_iconst (v := (-1)) (pc' := 19) dX10_ends_18 rfl (by decide) ?_
    obtain rfl := Option.some.inj hf
    exact V_iret dX10_ends_19 rfl rfl rfl ⟨rfl, rfl, rfl⟩
  ·
    refine V_aload_n (pc' := 9) dX10_ends_8 rfl 0 rfl rfl ?_
    refine V_getR (pc' := 12) 10 14 dX10_ends_9 rfl (by decide) (Nat.le_of_ble_eq_true rfl) bm_472 hs0 (fun _ _ _ => rfl) rfl hf (fun a_2 ha_2 hf => ?_)
    refine V_cvI (pc' := 15) (As := []) (rest := []) dX10_ends_12 rfl mok_X3_outcome bm_901 3 (by decide) rfl ha_2 rfl rfl (Nat.le_of_ble_eq_true rfl) (by decide) hf (fun q e => ct_X3_outcome ha_2 e) (fun q_3 hf => ?_)
    refine V_goto (tgt := 19) dX10_ends_15 (by decide) ?_
    obtain rfl := Option.some.inj hf
    exact V_iret dX10_ends_19 rfl rfl rfl ⟨rfl, rfl, rfl⟩
theorem ct_X10_ends {l : Launch} {S : List SHP} {h : MH} {a0 : Nat} {x1 : Int32} (hs0 : S[a0]? = some (.inl 10)) {q : Int32 × MH} (hf : f_X10_ends a0 x1 h = some q) : CT l mX10_ends 9 false 0 0 S [.ref a0, .int x1] h (QI S q) :=
  CT_ofV (by decide) rfl (Nat.le_of_ble_eq_true rfl) (fun G B hT => v_X10_ends hs0 hf)
/-! LabelStacks.exact(I)I -/
theorem dX10_exact_0 : decode cX10_exact 0 = .ok (.aload_n 0, 1) := by decide +kernel
theorem dX10_exact_1 : decode cX10_exact 1 = .ok (.iload_n 1, 1) := by decide +kernel
theorem dX10_exact_2 : decode cX10_exact 2 = .ok (.invokevirtual 228, 3) := by decide +kernel
theorem dX10_exact_5 : decode cX10_exact 5 = .ok (.ifCond .ne 5, 3) := by decide +kernel
theorem dX10_exact_8 : decode cX10_exact 8 = .ok (.iconst (-1), 1) := by decide +kernel
theorem dX10_exact_9 : decode cX10_exact 9 = .ok (.ireturn, 1) := by decide +kernel
theorem dX10_exact_10 : decode cX10_exact 10 = .ok (.aload_n 0, 1) := by decide +kernel
theorem dX10_exact_11 : decode cX10_exact 11 = .ok (.getfield 82, 3) := by decide +kernel
theorem dX10_exact_14 : decode cX10_exact 14 = .ok (.getfield 234, 3) := by decide +kernel
theorem dX10_exact_17 : decode cX10_exact 17 = .ok (.ifCond .eq 7, 3) := by decide +kernel
theorem dX10_exact_20 : decode cX10_exact 20 = .ok (.iconst 1, 1) := by decide +kernel
theorem dX10_exact_21 : decode cX10_exact 21 = .ok (.goto 4, 3) := by decide +kernel
theorem dX10_exact_24 : decode cX10_exact 24 = .ok (.iconst 0, 1) := by decide +kernel
theorem dX10_exact_25 : decode cX10_exact 25 = .ok (.ireturn, 1) := by decide +kernel
abbrev mX10_exact : MI := (RX10, yX10_exact, cX10_exact, 2, (some .int))
theorem mok_X10_exact : MOKv mX10_exact 1 := ⟨⟨bm_908, bm_114, ⟨by decide, by decide⟩, by decide +kernel⟩, bm_906, bm_907⟩
def f_X10_exact   (a0 : Nat) (x1 : Int32) (h : MH) : Option (Int32 × MH) :=
  (f_X10_sent a0 x1 h).bind fun q_1 =>
  if q_1.1 = 0 then
    some ((-1 : Int32), q_1.2)
  else
    (gR q_1.2 a0 14).bind fun a_2 =>
    if (gI q_1.2 a_2 11) = 0 then
      some (0, q_1.2)
    else
      some (1, q_1.2)
set_option maxRecDepth 100000 in
set_option maxHeartbeats 4000000 in
theorem v_X10_exact {l : Launch} {G : GE} {B N : Nat} {S : List SHP} {o : Int32 × MH} {a0 : Nat} {x1 : Int32}    (hs0 : S[a0]? = some (.inl 10)) {h : MH} (hf : f_X10_exact a0 x1 h = some o) : V l G B N mX10_exact (rmm 9 0 0) false 0 0 (QI S o) S 0 0 0 [(0, .ref a0), (1, .int x1)] [] h := by
  unfold f_X10_exact at hf
  refine V_aload_n (pc' := 1) dX10_exact_0 rfl 0 rfl rfl ?_
  refine V_iload_n (pc' := 2) dX10_exact_1 rfl 1 rfl rfl ?_
  refine V_cvI (pc' := 5) (As := [.int x1]) (rest := []) dX10_exact_2 rfl mok_X10_sent bm_818 10 (by decide) rfl hs0 rfl rfl (Nat.le_of_ble_eq_true rfl) (by decide) hf (fun q e => ct_X10_sent hs0 e) (fun q_1 hf => ?_)
  refine V_if_ne (tgt := 10) (pc' := 8) dX10_exact_5 (by decide) rfl hf (fun hf => ?_) (fun hf => ?_)
  ·
    refine V_iconst (v := (-1)) (pc' := 9) dX10_exact_8 rfl (by decide) ?_
    obtain rfl := Option.some.inj hf
    exact V_iret dX10_exact_9 rfl rfl rfl ⟨rfl, rfl, rfl⟩
  ·
    refine V_aload_n (pc' := 11) dX10_exact_10 rfl 0 rfl rfl ?_
    refine V_getR (pc' := 14) 10 14 dX10_exact_11 rfl (by decide) (Nat.le_of_ble_eq_true rfl) bm_472 hs0 (fun _ _ _ => rfl) rfl hf (fun a_2 ha_2 hf => ?_)
    refine V_getI (pc' := 17) 3 11 dX10_exact_14 rfl (by decide) (Nat.le_of_ble_eq_true rfl) bm_430 ha_2 (fun _ _ _ => rfl) ?_
    refine V_if_eq (tgt := 24) (pc' := 20) dX10_exact_17 (by decide) rfl hf (fun hf => ?_) (fun hf => ?_)
    ·
      refine V_iconst (v := 0) (pc' := 25) dX10_exact_24 rfl (by decide) ?_
      obtain rfl := Option.some.inj hf
      exact V_iret dX10_exact_25 rfl rfl rfl ⟨rfl, rfl, rfl⟩
    ·
      refine V_iconst (v := 1) (pc' := 21) dX10_exact_20 rfl (by decide) ?_
      refine V_goto (tgt := 25) dX10_exact_21 (by decide) ?_
      obtain rfl := Option.some.inj hf
      exact V_iret dX10_exact_25 rfl rfl rfl ⟨rfl, rfl, rfl⟩
theorem ct_X10_exact {l : Launch} {S : List SHP} {h : MH} {a0 : Nat} {x1 : Int32} (hs0 : S[a0]? = some (.inl 10)) {q : Int32 × MH} (hf : f_X10_exact a0 x1 h = some q) : CT l mX10_exact 9 false 0 0 S [.ref a0, .int x1] h (QI S q) :=
  CT_ofV (by decide) rfl (Nat.le_of_ble_eq_true rfl) (fun G B hT => v_X10_exact hs0 hf)
/-! LabelStacks.high(I)I -/
theorem dX10_high_0 : decode cX10_high 0 = .ok (.aload_n 0, 1) := by decide +kernel
theorem dX10_high_1 : decode cX10_high 1 = .ok (.iload_n 1, 1) := by decide +kernel
theorem dX10_high_2 : decode cX10_high 2 = .ok (.invokevirtual 228, 3) := by decide +kernel
theorem dX10_high_5 : decode cX10_high 5 = .ok (.ifCond .eq 13, 3) := by decide +kernel
theorem dX10_high_8 : decode cX10_high 8 = .ok (.aload_n 0, 1) := by decide +kernel
theorem dX10_high_9 : decode cX10_high 9 = .ok (.getfield 82, 3) := by decide +kernel
theorem dX10_high_12 : decode cX10_high 12 = .ok (.getfield 237, 3) := by decide +kernel
theorem dX10_high_15 : decode cX10_high 15 = .ok (.goto 4, 3) := by decide +kernel
theorem dX10_high_18 : decode cX10_high 18 = .ok (.iconst (-1), 1) := by decide +kernel
theorem dX10_high_19 : decode cX10_high 19 = .ok (.ireturn, 1) := by decide +kernel
abbrev mX10_high : MI := (RX10, yX10_high, cX10_high, 2, (some .int))
theorem mok_X10_high : MOKv mX10_high 1 := ⟨⟨bm_912, bm_114, ⟨by decide, by decide⟩, by decide +kernel⟩, bm_910, bm_911⟩
def f_X10_high   (a0 : Nat) (x1 : Int32) (h : MH) : Option (Int32 × MH) :=
  (f_X10_sent a0 x1 h).bind fun q_1 =>
  if q_1.1 = 0 then
    some ((-1 : Int32), q_1.2)
  else
    (gR q_1.2 a0 14).bind fun a_2 =>
    some ((gI q_1.2 a_2 9), q_1.2)
set_option maxRecDepth 100000 in
set_option maxHeartbeats 4000000 in
theorem v_X10_high {l : Launch} {G : GE} {B N : Nat} {S : List SHP} {o : Int32 × MH} {a0 : Nat} {x1 : Int32}    (hs0 : S[a0]? = some (.inl 10)) {h : MH} (hf : f_X10_high a0 x1 h = some o) : V l G B N mX10_high (rmm 9 0 0) false 0 0 (QI S o) S 0 0 0 [(0, .ref a0), (1, .int x1)] [] h := by
  unfold f_X10_high at hf
  refine V_aload_n (pc' := 1) dX10_high_0 rfl 0 rfl rfl ?_
  refine V_iload_n (pc' := 2) dX10_high_1 rfl 1 rfl rfl ?_
  refine V_cvI (pc' := 5) (As := [.int x1]) (rest := []) dX10_high_2 rfl mok_X10_sent bm_818 10 (by decide) rfl hs0 rfl rfl (Nat.le_of_ble_eq_true rfl) (by decide) hf (fun q e => ct_X10_sent hs0 e) (fun q_1 hf => ?_)
  refine V_if_eq (tgt := 18) (pc' := 8) dX10_high_5 (by decide) rfl hf (fun hf => ?_) (fun hf => ?_)
  ·
    refine V_iconst (v := (-1)) (pc' := 19) dX10_high_18 rfl (by decide) ?_
    obtain rfl := Option.some.inj hf
    exact V_iret dX10_high_19 rfl rfl rfl ⟨rfl, rfl, rfl⟩
  ·
    refine V_aload_n (pc' := 9) dX10_high_8 rfl 0 rfl rfl ?_
    refine V_getR (pc' := 12) 10 14 dX10_high_9 rfl (by decide) (Nat.le_of_ble_eq_true rfl) bm_472 hs0 (fun _ _ _ => rfl) rfl hf (fun a_2 ha_2 hf => ?_)
    refine V_getI (pc' := 15) 3 9 dX10_high_12 rfl (by decide) (Nat.le_of_ble_eq_true rfl) bm_427 ha_2 (fun _ _ _ => rfl) ?_
    refine V_goto (tgt := 19) dX10_high_15 (by decide) ?_
    obtain rfl := Option.some.inj hf
    exact V_iret dX10_high_19 rfl rfl rfl ⟨rfl, rfl, rfl⟩
theorem ct_X10_high {l : Launch} {S : List SHP} {h : MH} {a0 : Nat} {x1 : Int32} (hs0 : S[a0]? = some (.inl 10)) {q : Int32 × MH} (hf : f_X10_high a0 x1 h = some q) : CT l mX10_high 9 false 0 0 S [.ref a0, .int x1] h (QI S q) :=
  CT_ofV (by decide) rfl (Nat.le_of_ble_eq_true rfl) (fun G B hT => v_X10_high hs0 hf)
/-! LabelStacks.course(I)I -/
theorem dX10_course_0 : decode cX10_course 0 = .ok (.aload_n 0, 1) := by decide +kernel
theorem dX10_course_1 : decode cX10_course 1 = .ok (.iload_n 1, 1) := by decide +kernel
theorem dX10_course_2 : decode cX10_course 2 = .ok (.invokevirtual 228, 3) := by decide +kernel
theorem dX10_course_5 : decode cX10_course 5 = .ok (.ifCond .eq 13, 3) := by decide +kernel
theorem dX10_course_8 : decode cX10_course 8 = .ok (.aload_n 0, 1) := by decide +kernel
theorem dX10_course_9 : decode cX10_course 9 = .ok (.getfield 82, 3) := by decide +kernel
theorem dX10_course_12 : decode cX10_course 12 = .ok (.getfield 234, 3) := by decide +kernel
theorem dX10_course_15 : decode cX10_course 15 = .ok (.ifCond .ne 5, 3) := by decide +kernel
theorem dX10_course_18 : decode cX10_course 18 = .ok (.iconst (-1), 1) := by decide +kernel
theorem dX10_course_19 : decode cX10_course 19 = .ok (.ireturn, 1) := by decide +kernel
theorem dX10_course_20 : decode cX10_course 20 = .ok (.aload_n 0, 1) := by decide +kernel
theorem dX10_course_21 : decode cX10_course 21 = .ok (.getfield 82, 3) := by decide +kernel
theorem dX10_course_24 : decode cX10_course 24 = .ok (.getfield 240, 3) := by decide +kernel
theorem dX10_course_27 : decode cX10_course 27 = .ok (.ifCond .eq 15, 3) := by decide +kernel
theorem dX10_course_30 : decode cX10_course 30 = .ok (.aload_n 0, 1) := by decide +kernel
theorem dX10_course_31 : decode cX10_course 31 = .ok (.getfield 82, 3) := by decide +kernel
theorem dX10_course_34 : decode cX10_course 34 = .ok (.getfield 240, 3) := by decide +kernel
theorem dX10_course_37 : decode cX10_course 37 = .ok (.bipush 16, 2) := by decide +kernel
theorem dX10_course_39 : decode cX10_course 39 = .ok (.if_icmp .le 5, 3) := by decide +kernel
theorem dX10_course_42 : decode cX10_course 42 = .ok (.iconst (-1), 1) := by decide +kernel
theorem dX10_course_43 : decode cX10_course 43 = .ok (.ireturn, 1) := by decide +kernel
theorem dX10_course_44 : decode cX10_course 44 = .ok (.aload_n 0, 1) := by decide +kernel
theorem dX10_course_45 : decode cX10_course 45 = .ok (.getfield 12, 3) := by decide +kernel
theorem dX10_course_48 : decode cX10_course 48 = .ok (.getfield 162, 3) := by decide +kernel
theorem dX10_course_51 : decode cX10_course 51 = .ok (.aload_n 0, 1) := by decide +kernel
theorem dX10_course_52 : decode cX10_course 52 = .ok (.getfield 82, 3) := by decide +kernel
theorem dX10_course_55 : decode cX10_course 55 = .ok (.getfield 243, 3) := by decide +kernel
theorem dX10_course_58 : decode cX10_course 58 = .ok (.invokevirtual 246, 3) := by decide +kernel
theorem dX10_course_61 : decode cX10_course 61 = .ok (.aload_n 0, 1) := by decide +kernel
theorem dX10_course_62 : decode cX10_course 62 = .ok (.getfield 12, 3) := by decide +kernel
theorem dX10_course_65 : decode cX10_course 65 = .ok (.getfield 162, 3) := by decide +kernel
theorem dX10_course_68 : decode cX10_course 68 = .ok (.getfield 168, 3) := by decide +kernel
theorem dX10_course_71 : decode cX10_course 71 = .ok (.ireturn, 1) := by decide +kernel
abbrev mX10_course : MI := (RX10, yX10_course, cX10_course, 2, (some .int))
theorem mok_X10_course : MOKv mX10_course 1 := ⟨⟨bm_916, bm_114, ⟨by decide, by decide⟩, by decide +kernel⟩, bm_914, bm_915⟩
def f_X10_course   (a0 : Nat) (x1 : Int32) (h : MH) : Option (Int32 × MH) :=
  (f_X10_sent a0 x1 h).bind fun q_1 =>
  if q_1.1 = 0 then
    some ((-1 : Int32), q_1.2)
  else
    (gR q_1.2 a0 14).bind fun a_2 =>
    if (gI q_1.2 a_2 11) = 0 then
      some ((-1 : Int32), q_1.2)
    else
      (gR q_1.2 a0 14).bind fun a_3 =>
      if (gI q_1.2 a_3 8) = 0 then
        some ((-1 : Int32), q_1.2)
      else
        (gR q_1.2 a0 14).bind fun a_4 =>
        if 16 < (gI q_1.2 a_4 8) then
          some ((-1 : Int32), q_1.2)
        else
          (gR q_1.2 a0 0).bind fun a_5 =>
          (gR q_1.2 a_5 6).bind fun a_6 =>
          (gR q_1.2 a0 14).bind fun a_7 =>
          (gR q_1.2 a_7 1).bind fun a_8 =>
          (f_X5_copyFrom a_6 a_8 q_1.2).bind fun q_9 =>
          (gR q_9 a0 0).bind fun a_10 =>
          (gR q_9 a_10 6).bind fun a_11 =>
          some ((gI q_9 a_11 1), q_9)
set_option maxRecDepth 100000 in
set_option maxHeartbeats 4000000 in
theorem v_X10_course {l : Launch} {G : GE} {B N : Nat} {S : List SHP} {o : Int32 × MH} {a0 : Nat} {x1 : Int32}    (hs0 : S[a0]? = some (.inl 10)) {h : MH} (hf : f_X10_course a0 x1 h = some o) : V l G B N mX10_course (rmm 9 0 0) false 0 0 (QI S o) S 0 0 0 [(0, .ref a0), (1, .int x1)] [] h := by
  unfold f_X10_course at hf
  refine V_aload_n (pc' := 1) dX10_course_0 rfl 0 rfl rfl ?_
  refine V_iload_n (pc' := 2) dX10_course_1 rfl 1 rfl rfl ?_
  refine V_cvI (pc' := 5) (As := [.int x1]) (rest := []) dX10_course_2 rfl mok_X10_sent bm_818 10 (by decide) rfl hs0 rfl rfl (Nat.le_of_ble_eq_true rfl) (by decide) hf (fun q e => ct_X10_sent hs0 e) (fun q_1 hf => ?_)
  refine V_if_eq (tgt := 18) (pc' := 8) dX10_course_5 (by decide) rfl hf (fun hf => ?_) (fun hf => ?_)
  ·
    refine V_iconst (v := (-1)) (pc' := 19) dX10_course_18 rfl (by decide) ?_
    obtain rfl := Option.some.inj hf
    exact V_iret dX10_course_19 rfl rfl rfl ⟨rfl, rfl, rfl⟩
  ·
    refine V_aload_n (pc' := 9) dX10_course_8 rfl 0 rfl rfl ?_
    refine V_getR (pc' := 12) 10 14 dX10_course_9 rfl (by decide) (Nat.le_of_ble_eq_true rfl) bm_472 hs0 (fun _ _ _ => rfl) rfl hf (fun a_2 ha_2 hf => ?_)
    refine V_getI (pc' := 15) 3 11 dX10_course_12 rfl (by decide) (Nat.le_of_ble_eq_true rfl) bm_430 ha_2 (fun _ _ _ => rfl) ?_
    refine V_if_ne (tgt := 20) (pc' := 18) dX10_course_15 (by decide) rfl hf (fun hf => ?_) (fun hf => ?_)
    ·
      refine V_iconst (v := (-1)) (pc' := 19) dX10_course_18 rfl (by decide) ?_
      obtain rfl := Option.some.inj hf
      exact V_iret dX10_course_19 rfl rfl rfl ⟨rfl, rfl, rfl⟩
    ·
      refine V_aload_n (pc' := 21) dX10_course_20 rfl 0 rfl rfl ?_
      refine V_getR (pc' := 24) 10 14 dX10_course_21 rfl (by decide) (Nat.le_of_ble_eq_true rfl) bm_472 hs0 (fun _ _ _ => rfl) rfl hf (fun a_3 ha_3 hf => ?_)
      refine V_getI (pc' := 27) 3 8 dX10_course_24 rfl (by decide) (Nat.le_of_ble_eq_true rfl) bm_425 ha_3 (fun _ _ _ => rfl) ?_
      refine V_if_eq (tgt := 42) (pc' := 30) dX10_course_27 (by decide) rfl hf (fun hf => ?_) (fun hf => ?_)
      ·
        refine V_iconst (v := (-1)) (pc' := 43) dX10_course_42 rfl (by decide) ?_
        obtain rfl := Option.some.inj hf
        exact V_iret dX10_course_43 rfl rfl rfl ⟨rfl, rfl, rfl⟩
      ·
        refine V_aload_n (pc' := 31) dX10_course_30 rfl 0 rfl rfl ?_
        refine V_getR (pc' := 34) 10 14 dX10_course_31 rfl (by decide) (Nat.le_of_ble_eq_true rfl) bm_472 hs0 (fun _ _ _ => rfl) rfl hf (fun a_4 ha_4 hf => ?_)
        refine V_getI (pc' := 37) 3 8 dX10_course_34 rfl (by decide) (Nat.le_of_ble_eq_true rfl) bm_425 ha_4 (fun _ _ _ => rfl) ?_
        refine V_bipush (v := 16) (pc' := 39) dX10_course_37 rfl (by decide) ?_
        refine V_icmp_le (tgt := 44) (pc' := 42) dX10_course_39 (by decide) rfl hf (fun hf => ?_) (fun hf => ?_)
        ·
          refine V_iconst (v := (-1)) (pc' := 43) dX10_course_42 rfl (by decide) ?_
          obtain rfl := Option.some.inj hf
          exact V_iret dX10_course_43 rfl rfl rfl ⟨rfl, rfl, rfl⟩
        ·
          refine V_aload_n (pc' := 45) dX10_course_44 rfl 0 rfl rfl ?_
          refine V_getR (pc' := 48) 10 0 dX10_course_45 rfl (by decide) (Nat.le_of_ble_eq_true rfl) bm_458 hs0 (fun _ _ _ => rfl) rfl hf (fun a_5 ha_5 hf => ?_)
          refine V_getR (pc' := 51) 7 6 dX10_course_48 rfl (by decide) (Nat.le_of_ble_eq_true rfl) bm_275 ha_5 (fun _ _ _ => rfl) rfl hf (fun a_6 ha_6 hf => ?_)
          refine V_aload_n (pc' := 52) dX10_course_51 rfl 0 rfl rfl ?_
          refine V_getR (pc' := 55) 10 14 dX10_course_52 rfl (by decide) (Nat.le_of_ble_eq_true rfl) bm_472 hs0 (fun _ _ _ => rfl) rfl hf (fun a_7 ha_7 hf => ?_)
          refine V_getR (pc' := 58) 3 1 dX10_course_55 rfl (by decide) (Nat.le_of_ble_eq_true rfl) bm_416 ha_7 (fun _ _ _ => rfl) rfl hf (fun a_8 ha_8 hf => ?_)
          refine V_cvV (pc' := 61) (As := [.ref a_8]) (rest := []) dX10_course_58 rfl mok_X5_copyFrom bm_822 5 (by decide) rfl ha_6 rfl rfl (Nat.le_of_ble_eq_true rfl) (by decide) hf (fun q e => ct_X5_copyFrom ha_6 ha_8 e) (fun q_9 hf => ?_)
          refine V_aload_n (pc' := 62) dX10_course_61 rfl 0 rfl rfl ?_
          refine V_getR (pc' := 65) 10 0 dX10_course_62 rfl (by decide) (Nat.le_of_ble_eq_true rfl) bm_458 hs0 (fun _ _ _ => rfl) rfl hf (fun a_10 ha_10 hf => ?_)
          refine V_getR (pc' := 68) 7 6 dX10_course_65 rfl (by decide) (Nat.le_of_ble_eq_true rfl) bm_275 ha_10 (fun _ _ _ => rfl) rfl hf (fun a_11 ha_11 hf => ?_)
          refine V_getI (pc' := 71) 5 1 dX10_course_68 rfl (by decide) (Nat.le_of_ble_eq_true rfl) bm_256 ha_11 (fun _ _ _ => rfl) ?_
          obtain rfl := Option.some.inj hf
          exact V_iret dX10_course_71 rfl rfl rfl ⟨rfl, rfl, rfl⟩
theorem ct_X10_course {l : Launch} {S : List SHP} {h : MH} {a0 : Nat} {x1 : Int32} (hs0 : S[a0]? = some (.inl 10)) {q : Int32 × MH} (hf : f_X10_course a0 x1 h = some q) : CT l mX10_course 9 false 0 0 S [.ref a0, .int x1] h (QI S q) :=
  CT_ofV (by decide) rfl (Nat.le_of_ble_eq_true rfl) (fun G B hT => v_X10_course hs0 hf)
/-! LabelStacks.share(III)J -/
theorem dX10_share_0 : decode cX10_share 0 = .ok (.aload_n 0, 1) := by decide +kernel
theorem dX10_share_1 : decode cX10_share 1 = .ok (.getfield 12, 3) := by decide +kernel
theorem dX10_share_4 : decode cX10_share 4 = .ok (.getfield 99, 3) := by decide +kernel
theorem dX10_share_7 : decode cX10_share 7 = .ok (.iload_n 2, 1) := by decide +kernel
theorem dX10_share_8 : decode cX10_share 8 = .ok (.invokevirtual 125, 3) := by decide +kernel
theorem dX10_share_11 : decode cX10_share 11 = .ok (.ifCond .eq 20, 3) := by decide +kernel
theorem dX10_share_14 : decode cX10_share 14 = .ok (.iload_n 3, 1) := by decide +kernel
theorem dX10_share_15 : decode cX10_share 15 = .ok (.ifCond .lt 16, 3) := by decide +kernel
theorem dX10_share_18 : decode cX10_share 18 = .ok (.iload_n 3, 1) := by decide +kernel
theorem dX10_share_19 : decode cX10_share 19 = .ok (.iconst 1, 1) := by decide +kernel
theorem dX10_share_20 : decode cX10_share 20 = .ok (.if_icmp .gt 11, 3) := by decide +kernel
theorem dX10_share_23 : decode cX10_share 23 = .ok (.aload_n 0, 1) := by decide +kernel
theorem dX10_share_24 : decode cX10_share 24 = .ok (.iload_n 1, 1) := by decide +kernel
theorem dX10_share_25 : decode cX10_share 25 = .ok (.invokevirtual 228, 3) := by decide +kernel
theorem dX10_share_28 : decode cX10_share 28 = .ok (.ifCond .ne 7, 3) := by decide +kernel
theorem dX10_share_31 : decode cX10_share 31 = .ok (.ldc2_w 218, 3) := by decide +kernel
theorem dX10_share_34 : decode cX10_share 34 = .ok (.lreturn, 1) := by decide +kernel
theorem dX10_share_35 : decode cX10_share 35 = .ok (.aload_n 0, 1) := by decide +kernel
theorem dX10_share_36 : decode cX10_share 36 = .ok (.getfield 82, 3) := by decide +kernel
theorem dX10_share_39 : decode cX10_share 39 = .ok (.getfield 249, 3) := by decide +kernel
theorem dX10_share_42 : decode cX10_share 42 = .ok (.iload_n 2, 1) := by decide +kernel
theorem dX10_share_43 : decode cX10_share 43 = .ok (.iload_n 3, 1) := by decide +kernel
theorem dX10_share_44 : decode cX10_share 44 = .ok (.invokevirtual 252, 3) := by decide +kernel
theorem dX10_share_47 : decode cX10_share 47 = .ok (.lreturn, 1) := by decide +kernel
abbrev mX10_share : MI := (RX10, yX10_share, cX10_share, 4, (some .long))
theorem mok_X10_share : MOKv mX10_share 3 := ⟨⟨bm_920, bm_114, ⟨by decide, by decide⟩, by decide +kernel⟩, bm_918, bm_919⟩
def f_X10_share_31    (h : MH) : Option (Int64 × MH) :=
  some ((-1 : Int64), h)
def f_X10_share   (a0 : Nat) (x1 : Int32) (x2 : Int32) (x3 : Int32) (h : MH) : Option (Int64 × MH) :=
  (gR h a0 0).bind fun a_1 =>
  (gR h a_1 0).bind fun a_2 =>
  (f_X2_hasLink a_2 x2 h).bind fun q_3 =>
  if q_3.1 = 0 then
    f_X10_share_31  q_3.2
  else
    if x3 < 0 then
      f_X10_share_31  q_3.2
    else
      if 1 < x3 then
        f_X10_share_31  q_3.2
      else
        (f_X10_sent a0 x1 q_3.2).bind fun q_4 =>
        if q_4.1 = 0 then
          f_X10_share_31  q_4.2
        else
          (gR q_4.2 a0 14).bind fun a_5 =>
          (gR q_4.2 a_5 2).bind fun a_6 =>
          (f_X1_get a_6 x2 x3 q_4.2).bind fun q_7 =>
          some (q_7.1, q_7.2)
set_option maxRecDepth 100000 in
set_option maxHeartbeats 4000000 in
theorem v_X10_share_31 {l : Launch} {G : GE} {B N : Nat} {S : List SHP} {o : Int64 × MH}      {h : MH} (hf : f_X10_share_31  h = some o) : V l G B N mX10_share (rmm 9 0 0) false 0 0 (QL S o) S 0 0 31 [] [] h := by
  unfold f_X10_share_31 at hf
  refine V_ldc2 (v := (-1)) (pc' := 34) dX10_share_31 rfl bm_803 ?_
  obtain rfl := Option.some.inj hf
  exact V_lret dX10_share_34 rfl rfl rfl ⟨rfl, rfl, rfl⟩
set_option maxRecDepth 100000 in
set_option maxHeartbeats 4000000 in
theorem v_X10_share {l : Launch} {G : GE} {B N : Nat} {S : List SHP} {o : Int64 × MH} {a0 : Nat} {x1 : Int32} {x2 : Int32} {x3 : Int32}    (hs0 : S[a0]? = some (.inl 10)) {h : MH} (hf : f_X10_share a0 x1 x2 x3 h = some o) : V l G B N mX10_share (rmm 9 0 0) false 0 0 (QL S o) S 0 0 0 [(0, .ref a0), (1, .int x1), (2, .int x2), (3, .int x3)] [] h := by
  unfold f_X10_share at hf
  refine V_aload_n (pc' := 1) dX10_share_0 rfl 0 rfl rfl ?_
  refine V_getR (pc' := 4) 10 0 dX10_share_1 rfl (by decide) (Nat.le_of_ble_eq_true rfl) bm_458 hs0 (fun _ _ _ => rfl) rfl hf (fun a_1 ha_1 hf => ?_)
  refine V_getR (pc' := 7) 7 0 dX10_share_4 rfl (by decide) (Nat.le_of_ble_eq_true rfl) bm_263 ha_1 (fun _ _ _ => rfl) rfl hf (fun a_2 ha_2 hf => ?_)
  refine V_iload_n (pc' := 8) dX10_share_7 rfl 2 rfl rfl ?_
  refine V_cvI (pc' := 11) (As := [.int x2]) (rest := []) dX10_share_8 rfl mok_X2_hasLink bm_589 2 (by decide) rfl ha_2 rfl rfl (Nat.le_of_ble_eq_true rfl) (by decide) hf (fun q e => ct_X2_hasLink ha_2 e) (fun q_3 hf => ?_)
  refine V_if_eq (tgt := 31) (pc' := 14) dX10_share_11 (by decide) rfl hf (fun hf => ?_) (fun hf => ?_)
  ·
    exact V_sub (lv' := []) [] rfl (v_X10_share_31  hf)
  ·
    refine V_iload_n (pc' := 15) dX10_share_14 rfl 3 rfl rfl ?_
    refine V_if_lt (tgt := 31) (pc' := 18) dX10_share_15 (by decide) rfl hf (fun hf => ?_) (fun hf => ?_)
    ·
      exact V_sub (lv' := []) [] rfl (v_X10_share_31  hf)
    ·
      refine V_iload_n (pc' := 19) dX10_share_18 rfl 3 rfl rfl ?_
      refine V_iconst (v := 1) (pc' := 20) dX10_share_19 rfl (by decide) ?_
      refine V_icmp_gt (tgt := 31) (pc' := 23) dX10_share_20 (by decide) rfl hf (fun hf => ?_) (fun hf => ?_)
      ·
        exact V_sub (lv' := []) [] rfl (v_X10_share_31  hf)
      ·
        refine V_aload_n (pc' := 24) dX10_share_23 rfl 0 rfl rfl ?_
        refine V_iload_n (pc' := 25) dX10_share_24 rfl 1 rfl rfl ?_
        refine V_cvI (pc' := 28) (As := [.int x1]) (rest := []) dX10_share_25 rfl mok_X10_sent bm_818 10 (by decide) rfl hs0 rfl rfl (Nat.le_of_ble_eq_true rfl) (by decide) hf (fun q e => ct_X10_sent hs0 e) (fun q_4 hf => ?_)
        refine V_if_ne (tgt := 35) (pc' := 31) dX10_share_28 (by decide) rfl hf (fun hf => ?_) (fun hf => ?_)
        ·
          exact V_sub (lv' := []) [] rfl (v_X10_share_31  hf)
        ·
          refine V_aload_n (pc' := 36) dX10_share_35 rfl 0 rfl rfl ?_
          refine V_getR (pc' := 39) 10 14 dX10_share_36 rfl (by decide) (Nat.le_of_ble_eq_true rfl) bm_472 hs0 (fun _ _ _ => rfl) rfl hf (fun a_5 ha_5 hf => ?_)
          refine V_getR (pc' := 42) 3 2 dX10_share_39 rfl (by decide) (Nat.le_of_ble_eq_true rfl) bm_418 ha_5 (fun _ _ _ => rfl) rfl hf (fun a_6 ha_6 hf => ?_)
          refine V_iload_n (pc' := 43) dX10_share_42 rfl 2 rfl rfl ?_
          refine V_iload_n (pc' := 44) dX10_share_43 rfl 3 rfl rfl ?_
          refine V_cvL (pc' := 47) (As := [.int x2, .int x3]) (rest := []) dX10_share_44 rfl mok_X1_get bm_921 1 (by decide) rfl ha_6 rfl rfl (Nat.le_of_ble_eq_true rfl) (by decide) hf (fun q e => ct_X1_get ha_6 e) (fun q_7 hf => ?_)
          obtain rfl := Option.some.inj hf
          exact V_lret dX10_share_47 rfl rfl rfl ⟨rfl, rfl, rfl⟩
theorem ct_X10_share {l : Launch} {S : List SHP} {h : MH} {a0 : Nat} {x1 : Int32} {x2 : Int32} {x3 : Int32} (hs0 : S[a0]? = some (.inl 10)) {q : Int64 × MH} (hf : f_X10_share a0 x1 x2 x3 h = some q) : CT l mX10_share 9 false 0 0 S [.ref a0, .int x1, .int x2, .int x3] h (QL S q) :=
  CT_ofV (by decide) rfl (Nat.le_of_ble_eq_true rfl) (fun G B hT => v_X10_share hs0 hf)
/-! LabelStacks.isDemand(I)Z -/
theorem dX10_isDemand_0 : decode cX10_isDemand 0 = .ok (.iload_n 0, 1) := by decide +kernel
theorem dX10_isDemand_1 : decode cX10_isDemand 1 = .ok (.ifCond .lt 13, 3) := by decide +kernel
theorem dX10_isDemand_4 : decode cX10_isDemand 4 = .ok (.iload_n 0, 1) := by decide +kernel
theorem dX10_isDemand_5 : decode cX10_isDemand 5 = .ok (.bipush 8, 2) := by decide +kernel
theorem dX10_isDemand_7 : decode cX10_isDemand 7 = .ok (.if_icmp .ge 7, 3) := by decide +kernel
theorem dX10_isDemand_10 : decode cX10_isDemand 10 = .ok (.iconst 1, 1) := by decide +kernel
theorem dX10_isDemand_11 : decode cX10_isDemand 11 = .ok (.goto 4, 3) := by decide +kernel
theorem dX10_isDemand_14 : decode cX10_isDemand 14 = .ok (.iconst 0, 1) := by decide +kernel
theorem dX10_isDemand_15 : decode cX10_isDemand 15 = .ok (.ireturn, 1) := by decide +kernel
abbrev mX10_isDemand : MI := (RX10, yX10_isDemand, cX10_isDemand, 1, (some .boolean))
theorem mok_X10_isDemand : MOKs mX10_isDemand 1 := ⟨⟨bm_932, bm_114, ⟨by decide, by decide⟩, by decide +kernel⟩, bm_931⟩
def f_X10_isDemand   (x0 : Int32) (h : MH) : Option (Int32 × MH) :=
  if x0 < 0 then
    some (0, h)
  else
    if x0 < 8 then
      some (1, h)
    else
      some (0, h)
set_option maxRecDepth 100000 in
set_option maxHeartbeats 4000000 in
theorem v_X10_isDemand {l : Launch} {G : GE} {B N : Nat} {S : List SHP} {o : Int32 × MH} {x0 : Int32}     {h : MH} (hf : f_X10_isDemand x0 h = some o) : V l G B N mX10_isDemand (rmm 3 0 0) false 0 0 (QI S o) S 0 0 0 [(0, .int x0)] [] h := by
  unfold f_X10_isDemand at hf
  refine V_iload_n (pc' := 1) dX10_isDemand_0 rfl 0 rfl rfl ?_
  refine V_if_lt (tgt := 14) (pc' := 4) dX10_isDemand_1 (by decide) rfl hf (fun hf => ?_) (fun hf => ?_)
  ·
    refine V_iconst (v := 0) (pc' := 15) dX10_isDemand_14 rfl (by decide) ?_
    obtain rfl := Option.some.inj hf
    exact V_zretL dX10_isDemand_15 rfl rfl rfl (by decide) ⟨rfl, rfl, rfl⟩
  ·
    refine V_iload_n (pc' := 5) dX10_isDemand_4 rfl 0 rfl rfl ?_
    refine V_bipush (v := 8) (pc' := 7) dX10_isDemand_5 rfl (by decide) ?_
    refine V_icmp_ge (tgt := 14) (pc' := 10) dX10_isDemand_7 (by decide) rfl hf (fun hf => ?_) (fun hf => ?_)
    ·
      refine V_iconst (v := 1) (pc' := 11) dX10_isDemand_10 rfl (by decide) ?_
      refine V_goto (tgt := 15) dX10_isDemand_11 (by decide) ?_
      obtain rfl := Option.some.inj hf
      exact V_zretL dX10_isDemand_15 rfl rfl rfl (by decide) ⟨rfl, rfl, rfl⟩
    ·
      refine V_iconst (v := 0) (pc' := 15) dX10_isDemand_14 rfl (by decide) ?_
      obtain rfl := Option.some.inj hf
      exact V_zretL dX10_isDemand_15 rfl rfl rfl (by decide) ⟨rfl, rfl, rfl⟩
theorem ct_X10_isDemand {l : Launch} {S : List SHP} {h : MH} {x0 : Int32}  {q : Int32 × MH} (hf : f_X10_isDemand x0 h = some q) : CT l mX10_isDemand 3 false 0 0 S [.int x0] h (QI S q) :=
  CT_ofV (by decide) rfl (Nat.le_of_ble_eq_true rfl) (fun G B hT => v_X10_isDemand  hf)
