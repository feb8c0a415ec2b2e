/-! LabelStacks$Network.copyFrom(LLabelStacks$Network;)V -/
theorem dX2_copyFrom_0 : decode cX2_copyFrom 0 = .ok (.aload_n 0, 1) := by decide +kernel
theorem dX2_copyFrom_1 : decode cX2_copyFrom 1 = .ok (.aload_n 1, 1) := by decide +kernel
theorem dX2_copyFrom_2 : decode cX2_copyFrom 2 = .ok (.getfield 9, 3) := by decide +kernel
theorem dX2_copyFrom_5 : decode cX2_copyFrom 5 = .ok (.putfield 9, 3) := by decide +kernel
theorem dX2_copyFrom_8 : decode cX2_copyFrom 8 = .ok (.aload_n 0, 1) := by decide +kernel
theorem dX2_copyFrom_9 : decode cX2_copyFrom 9 = .ok (.aload_n 1, 1) := by decide +kernel
theorem dX2_copyFrom_10 : decode cX2_copyFrom 10 = .ok (.getfield 41, 3) := by decide +kernel
theorem dX2_copyFrom_13 : decode cX2_copyFrom 13 = .ok (.putfield 41, 3) := by decide +kernel
theorem dX2_copyFrom_16 : decode cX2_copyFrom 16 = .ok (.aload_n 0, 1) := by decide +kernel
theorem dX2_copyFrom_17 : decode cX2_copyFrom 17 = .ok (.aload_n 1, 1) := by decide +kernel
theorem dX2_copyFrom_18 : decode cX2_copyFrom 18 = .ok (.getfield 44, 3) := by decide +kernel
theorem dX2_copyFrom_21 : decode cX2_copyFrom 21 = .ok (.putfield 44, 3) := by decide +kernel
theorem dX2_copyFrom_24 : decode cX2_copyFrom 24 = .ok (.aload_n 1, 1) := by decide +kernel
theorem dX2_copyFrom_25 : decode cX2_copyFrom 25 = .ok (.getfield 15, 3) := by decide +kernel
theorem dX2_copyFrom_28 : decode cX2_copyFrom 28 = .ok (.iconst 0, 1) := by decide +kernel
theorem dX2_copyFrom_29 : decode cX2_copyFrom 29 = .ok (.aload_n 0, 1) := by decide +kernel
theorem dX2_copyFrom_30 : decode cX2_copyFrom 30 = .ok (.getfield 15, 3) := by decide +kernel
theorem dX2_copyFrom_33 : decode cX2_copyFrom 33 = .ok (.iconst 0, 1) := by decide +kernel
theorem dX2_copyFrom_34 : decode cX2_copyFrom 34 = .ok (.bipush 30, 2) := by decide +kernel
theorem dX2_copyFrom_36 : decode cX2_copyFrom 36 = .ok (.invokestatic 76, 3) := by decide +kernel
theorem dX2_copyFrom_39 : decode cX2_copyFrom 39 = .ok (.aload_n 1, 1) := by decide +kernel
theorem dX2_copyFrom_40 : decode cX2_copyFrom 40 = .ok (.getfield 19, 3) := by decide +kernel
theorem dX2_copyFrom_43 : decode cX2_copyFrom 43 = .ok (.iconst 0, 1) := by decide +kernel
theorem dX2_copyFrom_44 : decode cX2_copyFrom 44 = .ok (.aload_n 0, 1) := by decide +kernel
theorem dX2_copyFrom_45 : decode cX2_copyFrom 45 = .ok (.getfield 19, 3) := by decide +kernel
theorem dX2_copyFrom_48 : decode cX2_copyFrom 48 = .ok (.iconst 0, 1) := by decide +kernel
theorem dX2_copyFrom_49 : decode cX2_copyFrom 49 = .ok (.bipush 30, 2) := by decide +kernel
theorem dX2_copyFrom_51 : decode cX2_copyFrom 51 = .ok (.invokestatic 76, 3) := by decide +kernel
theorem dX2_copyFrom_54 : decode cX2_copyFrom 54 = .ok (.aload_n 1, 1) := by decide +kernel
theorem dX2_copyFrom_55 : decode cX2_copyFrom 55 = .ok (.getfield 22, 3) := by decide +kernel
theorem dX2_copyFrom_58 : decode cX2_copyFrom 58 = .ok (.iconst 0, 1) := by decide +kernel
theorem dX2_copyFrom_59 : decode cX2_copyFrom 59 = .ok (.aload_n 0, 1) := by decide +kernel
theorem dX2_copyFrom_60 : decode cX2_copyFrom 60 = .ok (.getfield 22, 3) := by decide +kernel
theorem dX2_copyFrom_63 : decode cX2_copyFrom 63 = .ok (.iconst 0, 1) := by decide +kernel
theorem dX2_copyFrom_64 : decode cX2_copyFrom 64 = .ok (.bipush 30, 2) := by decide +kernel
theorem dX2_copyFrom_66 : decode cX2_copyFrom 66 = .ok (.invokestatic 76, 3) := by decide +kernel
theorem dX2_copyFrom_69 : decode cX2_copyFrom 69 = .ok (.aload_n 1, 1) := by decide +kernel
theorem dX2_copyFrom_70 : decode cX2_copyFrom 70 = .ok (.getfield 29, 3) := by decide +kernel
theorem dX2_copyFrom_73 : decode cX2_copyFrom 73 = .ok (.iconst 0, 1) := by decide +kernel
theorem dX2_copyFrom_74 : decode cX2_copyFrom 74 = .ok (.aload_n 0, 1) := by decide +kernel
theorem dX2_copyFrom_75 : decode cX2_copyFrom 75 = .ok (.getfield 29, 3) := by decide +kernel
theorem dX2_copyFrom_78 : decode cX2_copyFrom 78 = .ok (.iconst 0, 1) := by decide +kernel
theorem dX2_copyFrom_79 : decode cX2_copyFrom 79 = .ok (.bipush 6, 2) := by decide +kernel
theorem dX2_copyFrom_81 : decode cX2_copyFrom 81 = .ok (.invokestatic 76, 3) := by decide +kernel
theorem dX2_copyFrom_84 : decode cX2_copyFrom 84 = .ok (.aload_n 0, 1) := by decide +kernel
theorem dX2_copyFrom_85 : decode cX2_copyFrom 85 = .ok (.getfield 37, 3) := by decide +kernel
theorem dX2_copyFrom_88 : decode cX2_copyFrom 88 = .ok (.aload_n 1, 1) := by decide +kernel
theorem dX2_copyFrom_89 : decode cX2_copyFrom 89 = .ok (.getfield 37, 3) := by decide +kernel
theorem dX2_copyFrom_92 : decode cX2_copyFrom 92 = .ok (.invokevirtual 82, 3) := by decide +kernel
theorem dX2_copyFrom_95 : decode cX2_copyFrom 95 = .ok (.return_, 1) := by decide +kernel
abbrev mX2_copyFrom : MI := (RX2, yX2_copyFrom, cX2_copyFrom, 2, none)
theorem mok_X2_copyFrom : MOKv mX2_copyFrom 1 := ⟨⟨bm_529, bm_116, ⟨by decide, by decide⟩, by decide +kernel⟩, bm_527, bm_528⟩
def f_X2_copyFrom   (a0 : Nat) (a1 : Nat) (h : MH) : Option (MH) :=
  lt (sI h a0 0 (gI h a1 0)) fun h_1 =>
  lt (sI h_1 a0 1 (gI h_1 a1 1)) fun h_2 =>
  lt (sI h_2 a0 2 (gI h_2 a1 2)) fun h_3 =>
  (gR h_3 a1 3).bind fun a_4 =>
  (gR h_3 a0 3).bind fun a_5 =>
  (cpI h_3 a_4 0 a_5 0 30).bind fun h_6 =>
  (gR h_6 a1 4).bind fun a_7 =>
  (gR h_6 a0 4).bind fun a_8 =>
  (cpI h_6 a_7 0 a_8 0 30).bind fun h_9 =>
  (gR h_9 a1 5).bind fun a_10 =>
  (gR h_9 a0 5).bind fun a_11 =>
  (cpI h_9 a_10 0 a_11 0 30).bind fun h_12 =>
  (gR h_12 a1 6).bind fun a_13 =>
  (gR h_12 a0 6).bind fun a_14 =>
  (cpI h_12 a_13 0 a_14 0 6).bind fun h_15 =>
  (gR h_15 a0 7).bind fun a_16 =>
  (gR h_15 a1 7).bind fun a_17 =>
  (f_X6_copyFrom a_16 a_17 h_15).bind fun q_18 =>
  some q_18
set_option maxRecDepth 100000 in
set_option maxHeartbeats 4000000 in
theorem v_X2_copyFrom {l : Launch} {G : GE} {B N : Nat} {S : List SHP} {o : MH} {a0 : Nat} {a1 : Nat}    (hs0 : S[a0]? = some (.inl 2)) (hs1 : S[a1]? = some (.inl 2)) {h : MH} (hf : f_X2_copyFrom a0 a1 h = some o) : V l G B N mX2_copyFrom (rmm 4 0 0) false 0 0 (QV S o) S 0 0 0 [(0, .ref a0), (1, .ref a1)] [] h := by
  unfold f_X2_copyFrom at hf
  refine V_aload_n (pc' := 1) dX2_copyFrom_0 rfl 0 rfl rfl ?_
  refine V_aload_n (pc' := 2) dX2_copyFrom_1 rfl 1 rfl rfl ?_
  refine V_getI (pc' := 5) 2 0 dX2_copyFrom_2 rfl (by decide) (Nat.le_of_ble_eq_true rfl) bm_183 hs1 (fun _ _ _ => rfl) ?_
  refine V_putI (pc' := 8) 2 0 dX2_copyFrom_5 rfl (by decide) (Nat.le_of_ble_eq_true rfl) bm_183 hs0 (Or.inl rfl) rfl ?_
  refine V_nmH hf (fun h_1 hf => ?_)
  refine V_aload_n (pc' := 9) dX2_copyFrom_8 rfl 0 rfl rfl ?_
  refine V_aload_n (pc' := 10) dX2_copyFrom_9 rfl 1 rfl rfl ?_
  refine V_getI (pc' := 13) 2 1 dX2_copyFrom_10 rfl (by decide) (Nat.le_of_ble_eq_true rfl) bm_188 hs1 (fun _ _ _ => rfl) ?_
  refine V_putI (pc' := 16) 2 1 dX2_copyFrom_13 rfl (by decide) (Nat.le_of_ble_eq_true rfl) bm_188 hs0 (Or.inl rfl) rfl ?_
  refine V_nmH hf (fun h_2 hf => ?_)
  refine V_aload_n (pc' := 17) dX2_copyFrom_16 rfl 0 rfl rfl ?_
  refine V_aload_n (pc' := 18) dX2_copyFrom_17 rfl 1 rfl rfl ?_
  refine V_getI (pc' := 21) 2 2 dX2_copyFrom_18 rfl (by decide) (Nat.le_of_ble_eq_true rfl) bm_194 hs1 (fun _ _ _ => rfl) ?_
  refine V_putI (pc' := 24) 2 2 dX2_copyFrom_21 rfl (by decide) (Nat.le_of_ble_eq_true rfl) bm_194 hs0 (Or.inl rfl) rfl ?_
  refine V_nmH hf (fun h_3 hf => ?_)
  refine V_aload_n (pc' := 25) dX2_copyFrom_24 rfl 1 rfl rfl ?_
  refine V_getR (pc' := 28) 2 3 dX2_copyFrom_25 rfl (by decide) (Nat.le_of_ble_eq_true rfl) bm_197 hs1 (fun _ _ _ => rfl) rfl hf (fun a_4 ha_4 hf => ?_)
  refine V_iconst (v := 0) (pc' := 29) dX2_copyFrom_28 rfl (by decide) ?_
  refine V_aload_n (pc' := 30) dX2_copyFrom_29 rfl 0 rfl rfl ?_
  refine V_getR (pc' := 33) 2 3 dX2_copyFrom_30 rfl (by decide) (Nat.le_of_ble_eq_true rfl) bm_197 hs0 (fun _ _ _ => rfl) rfl hf (fun a_5 ha_5 hf => ?_)
  refine V_iconst (v := 0) (pc' := 34) dX2_copyFrom_33 rfl (by decide) ?_
  refine V_bipush (v := 30) (pc' := 36) dX2_copyFrom_34 rfl (by decide) ?_
  refine V_cpI (pc' := 39) dX2_copyFrom_36 rfl bm_530 ha_4 ha_5 (Nat.le_of_ble_eq_true rfl) (by decide) hf (fun h_6 hf => ?_)
  refine V_aload_n (pc' := 40) dX2_copyFrom_39 rfl 1 rfl rfl ?_
  refine V_getR (pc' := 43) 2 4 dX2_copyFrom_40 rfl (by decide) (Nat.le_of_ble_eq_true rfl) bm_202 hs1 (fun _ _ _ => rfl) rfl hf (fun a_7 ha_7 hf => ?_)
  refine V_iconst (v := 0) (pc' := 44) dX2_copyFrom_43 rfl (by decide) ?_
  refine V_aload_n (pc' := 45) dX2_copyFrom_44 rfl 0 rfl rfl ?_
  refine V_getR (pc' := 48) 2 4 dX2_copyFrom_45 rfl (by decide) (Nat.le_of_ble_eq_true rfl) bm_202 hs0 (fun _ _ _ => rfl) rfl hf (fun a_8 ha_8 hf => ?_)
  refine V_iconst (v := 0) (pc' := 49) dX2_copyFrom_48 rfl (by decide) ?_
  refine V_bipush (v := 30) (pc' := 51) dX2_copyFrom_49 rfl (by decide) ?_
  refine V_cpI (pc' := 54) dX2_copyFrom_51 rfl bm_530 ha_7 ha_8 (Nat.le_of_ble_eq_true rfl) (by decide) hf (fun h_9 hf => ?_)
  refine V_aload_n (pc' := 55) dX2_copyFrom_54 rfl 1 rfl rfl ?_
  refine V_getR (pc' := 58) 2 5 dX2_copyFrom_55 rfl (by decide) (Nat.le_of_ble_eq_true rfl) bm_207 hs1 (fun _ _ _ => rfl) rfl hf (fun a_10 ha_10 hf => ?_)
  refine V_iconst (v := 0) (pc' := 59) dX2_copyFrom_58 rfl (by decide) ?_
  refine V_aload_n (pc' := 60) dX2_copyFrom_59 rfl 0 rfl rfl ?_
  refine V_getR (pc' := 63) 2 5 dX2_copyFrom_60 rfl (by decide) (Nat.le_of_ble_eq_true rfl) bm_207 hs0 (fun _ _ _ => rfl) rfl hf (fun a_11 ha_11 hf => ?_)
  refine V_iconst (v := 0) (pc' := 64) dX2_copyFrom_63 rfl (by decide) ?_
  refine V_bipush (v := 30) (pc' := 66) dX2_copyFrom_64 rfl (by decide) ?_
  refine V_cpI (pc' := 69) dX2_copyFrom_66 rfl bm_530 ha_10 ha_11 (Nat.le_of_ble_eq_true rfl) (by decide) hf (fun h_12 hf => ?_)
  refine V_aload_n (pc' := 70) dX2_copyFrom_69 rfl 1 rfl rfl ?_
  refine V_getR (pc' := 73) 2 6 dX2_copyFrom_70 rfl (by decide) (Nat.le_of_ble_eq_true rfl) bm_210 hs1 (fun _ _ _ => rfl) rfl hf (fun a_13 ha_13 hf => ?_)
  refine V_iconst (v := 0) (pc' := 74) dX2_copyFrom_73 rfl (by decide) ?_
  refine V_aload_n (pc' := 75) dX2_copyFrom_74 rfl 0 rfl rfl ?_
  refine V_getR (pc' := 78) 2 6 dX2_copyFrom_75 rfl (by decide) (Nat.le_of_ble_eq_true rfl) bm_210 hs0 (fun _ _ _ => rfl) rfl hf (fun a_14 ha_14 hf => ?_)
  refine V_iconst (v := 0) (pc' := 79) dX2_copyFrom_78 rfl (by decide) ?_
  refine V_bipush (v := 6) (pc' := 81) dX2_copyFrom_79 rfl (by decide) ?_
  refine V_cpI (pc' := 84) dX2_copyFrom_81 rfl bm_530 ha_13 ha_14 (Nat.le_of_ble_eq_true rfl) (by decide) hf (fun h_15 hf => ?_)
  refine V_aload_n (pc' := 85) dX2_copyFrom_84 rfl 0 rfl rfl ?_
  refine V_getR (pc' := 88) 2 7 dX2_copyFrom_85 rfl (by decide) (Nat.le_of_ble_eq_true rfl) bm_215 hs0 (fun _ _ _ => rfl) rfl hf (fun a_16 ha_16 hf => ?_)
  refine V_aload_n (pc' := 89) dX2_copyFrom_88 rfl 1 rfl rfl ?_
  refine V_getR (pc' := 92) 2 7 dX2_copyFrom_89 rfl (by decide) (Nat.le_of_ble_eq_true rfl) bm_215 hs1 (fun _ _ _ => rfl) rfl hf (fun a_17 ha_17 hf => ?_)
  refine V_cvV (pc' := 95) (As := [.ref a_17]) (rest := []) dX2_copyFrom_92 rfl mok_X6_copyFrom bm_533 6 (by decide) rfl ha_16 rfl rfl (Nat.le_of_ble_eq_true rfl) (by decide) hf (fun q e => ct_X6_copyFrom ha_16 ha_17 e) (fun q_18 hf => ?_)
  obtain rfl := Option.some.inj hf
  exact V_vret dX2_copyFrom_95 rfl rfl rfl ⟨rfl, rfl, rfl⟩
theorem ct_X2_copyFrom {l : Launch} {S : List SHP} {h : MH} {a0 : Nat} {a1 : Nat} (hs0 : S[a0]? = some (.inl 2)) (hs1 : S[a1]? = some (.inl 2)) {q : MH} (hf : f_X2_copyFrom a0 a1 h = some q) : CT l mX2_copyFrom 4 false 0 0 S [.ref a0, .ref a1] h (QV S q) :=
  CT_ofV (by decide) rfl (Nat.le_of_ble_eq_true rfl) (fun G B hT => v_X2_copyFrom hs0 hs1 hf)
/-! LabelStacks$Network.hasNode(I)Z -/
theorem dX2_hasNode_0 : decode cX2_hasNode 0 = .ok (.iload_n 1, 1) := by decide +kernel
theorem dX2_hasNode_1 : decode cX2_hasNode 1 = .ok (.ifCond .lt 15, 3) := by decide +kernel
theorem dX2_hasNode_4 : decode cX2_hasNode 4 = .ok (.iload_n 1, 1) := by decide +kernel
theorem dX2_hasNode_5 : decode cX2_hasNode 5 = .ok (.aload_n 0, 1) := by decide +kernel
theorem dX2_hasNode_6 : decode cX2_hasNode 6 = .ok (.getfield 9, 3) := by decide +kernel
theorem dX2_hasNode_9 : decode cX2_hasNode 9 = .ok (.if_icmp .ge 7, 3) := by decide +kernel
theorem dX2_hasNode_12 : decode cX2_hasNode 12 = .ok (.iconst 1, 1) := by decide +kernel
theorem dX2_hasNode_13 : decode cX2_hasNode 13 = .ok (.goto 4, 3) := by decide +kernel
theorem dX2_hasNode_16 : decode cX2_hasNode 16 = .ok (.iconst 0, 1) := by decide +kernel
theorem dX2_hasNode_17 : decode cX2_hasNode 17 = .ok (.ireturn, 1) := by decide +kernel
abbrev mX2_hasNode : MI := (RX2, yX2_hasNode, cX2_hasNode, 2, (some .boolean))
theorem mok_X2_hasNode : MOKv mX2_hasNode 1 := ⟨⟨bm_572, bm_116, ⟨by decide, by decide⟩, by decide +kernel⟩, bm_570, bm_571⟩
def f_X2_hasNode   (a0 : Nat) (x1 : Int32) (h : MH) : Option (Int32 × MH) :=
  if x1 < 0 then
    some (0, h)
  else
    if x1 < (gI h a0 0) then
      some (1, h)
    else
      some (0, h)
set_option maxRecDepth 100000 in
set_option maxHeartbeats 4000000 in
theorem v_X2_hasNode {l : Launch} {G : GE} {B N : Nat} {S : List SHP} {o : Int32 × MH} {a0 : Nat} {x1 : Int32}    (hs0 : S[a0]? = some (.inl 2)) {h : MH} (hf : f_X2_hasNode a0 x1 h = some o) : V l G B N mX2_hasNode (rmm 3 0 0) false 0 0 (QI S o) S 0 0 0 [(0, .ref a0), (1, .int x1)] [] h := by
  unfold f_X2_hasNode at hf
  refine V_iload_n (pc' := 1) dX2_hasNode_0 rfl 1 rfl rfl ?_
  refine V_if_lt (tgt := 16) (pc' := 4) dX2_hasNode_1 (by decide) rfl hf (fun hf => ?_) (fun hf => ?_)
  ·
    refine V_iconst (v := 0) (pc' := 17) dX2_hasNode_16 rfl (by decide) ?_
    obtain rfl := Option.some.inj hf
    exact V_zretL dX2_hasNode_17 rfl rfl rfl (by decide) ⟨rfl, rfl, rfl⟩
  ·
    refine V_iload_n (pc' := 5) dX2_hasNode_4 rfl 1 rfl rfl ?_
    refine V_aload_n (pc' := 6) dX2_hasNode_5 rfl 0 rfl rfl ?_
    refine V_getI (pc' := 9) 2 0 dX2_hasNode_6 rfl (by decide) (Nat.le_of_ble_eq_true rfl) bm_183 hs0 (fun _ _ _ => rfl) ?_
    refine V_icmp_ge (tgt := 16) (pc' := 12) dX2_hasNode_9 (by decide) rfl hf (fun hf => ?_) (fun hf => ?_)
    ·
      refine V_iconst (v := 1) (pc' := 13) dX2_hasNode_12 rfl (by decide) ?_
      refine V_goto (tgt := 17) dX2_hasNode_13 (by decide) ?_
      obtain rfl := Option.some.inj hf
      exact V_zretL dX2_hasNode_17 rfl rfl rfl (by decide) ⟨rfl, rfl, rfl⟩
    ·
      refine V_iconst (v := 0) (pc' := 17) dX2_hasNode_16 rfl (by decide) ?_
      obtain rfl := Option.some.inj hf
      exact V_zretL dX2_hasNode_17 rfl rfl rfl (by decide) ⟨rfl, rfl, rfl⟩
theorem ct_X2_hasNode {l : Launch} {S : List SHP} {h : MH} {a0 : Nat} {x1 : Int32} (hs0 : S[a0]? = some (.inl 2)) {q : Int32 × MH} (hf : f_X2_hasNode a0 x1 h = some q) : CT l mX2_hasNode 3 false 0 0 S [.ref a0, .int x1] h (QI S q) :=
  CT_ofV (by decide) rfl (Nat.le_of_ble_eq_true rfl) (fun G B hT => v_X2_hasNode hs0 hf)
/-! LabelStacks$Network.hasLink(I)Z -/
theorem dX2_hasLink_0 : decode cX2_hasLink 0 = .ok (.iload_n 1, 1) := by decide +kernel
theorem dX2_hasLink_1 : decode cX2_hasLink 1 = .ok (.ifCond .lt 15, 3) := by decide +kernel
theorem dX2_hasLink_4 : decode cX2_hasLink 4 = .ok (.iload_n 1, 1) := by decide +kernel
theorem dX2_hasLink_5 : decode cX2_hasLink 5 = .ok (.aload_n 0, 1) := by decide +kernel
theorem dX2_hasLink_6 : decode cX2_hasLink 6 = .ok (.getfield 41, 3) := by decide +kernel
theorem dX2_hasLink_9 : decode cX2_hasLink 9 = .ok (.if_icmp .ge 7, 3) := by decide +kernel
theorem dX2_hasLink_12 : decode cX2_hasLink 12 = .ok (.iconst 1, 1) := by decide +kernel
theorem dX2_hasLink_13 : decode cX2_hasLink 13 = .ok (.goto 4, 3) := by decide +kernel
theorem dX2_hasLink_16 : decode cX2_hasLink 16 = .ok (.iconst 0, 1) := by decide +kernel
theorem dX2_hasLink_17 : decode cX2_hasLink 17 = .ok (.ireturn, 1) := by decide +kernel
abbrev mX2_hasLink : MI := (RX2, yX2_hasLink, cX2_hasLink, 2, (some .boolean))
theorem mok_X2_hasLink : MOKv mX2_hasLink 1 := ⟨⟨bm_592, bm_116, ⟨by decide, by decide⟩, by decide +kernel⟩, bm_590, bm_591⟩
def f_X2_hasLink   (a0 : Nat) (x1 : Int32) (h : MH) : Option (Int32 × MH) :=
  if x1 < 0 then
    some (0, h)
  else
    if x1 < (gI h a0 1) then
      some (1, h)
    else
      some (0, h)
set_option maxRecDepth 100000 in
set_option maxHeartbeats 4000000 in
theorem v_X2_hasLink {l : Launch} {G : GE} {B N : Nat} {S : List SHP} {o : Int32 × MH} {a0 : Nat} {x1 : Int32}    (hs0 : S[a0]? = some (.inl 2)) {h : MH} (hf : f_X2_hasLink a0 x1 h = some o) : V l G B N mX2_hasLink (rmm 3 0 0) false 0 0 (QI S o) S 0 0 0 [(0, .ref a0), (1, .int x1)] [] h := by
  unfold f_X2_hasLink at hf
  refine V_iload_n (pc' := 1) dX2_hasLink_0 rfl 1 rfl rfl ?_
  refine V_if_lt (tgt := 16) (pc' := 4) dX2_hasLink_1 (by decide) rfl hf (fun hf => ?_) (fun hf => ?_)
  ·
    refine V_iconst (v := 0) (pc' := 17) dX2_hasLink_16 rfl (by decide) ?_
    obtain rfl := Option.some.inj hf
    exact V_zretL dX2_hasLink_17 rfl rfl rfl (by decide) ⟨rfl, rfl, rfl⟩
  ·
    refine V_iload_n (pc' := 5) dX2_hasLink_4 rfl 1 rfl rfl ?_
    refine V_aload_n (pc' := 6) dX2_hasLink_5 rfl 0 rfl rfl ?_
    refine V_getI (pc' := 9) 2 1 dX2_hasLink_6 rfl (by decide) (Nat.le_of_ble_eq_true rfl) bm_188 hs0 (fun _ _ _ => rfl) ?_
    refine V_icmp_ge (tgt := 16) (pc' := 12) dX2_hasLink_9 (by decide) rfl hf (fun hf => ?_) (fun hf => ?_)
    ·
      refine V_iconst (v := 1) (pc' := 13) dX2_hasLink_12 rfl (by decide) ?_
      refine V_goto (tgt := 17) dX2_hasLink_13 (by decide) ?_
      obtain rfl := Option.some.inj hf
      exact V_zretL dX2_hasLink_17 rfl rfl rfl (by decide) ⟨rfl, rfl, rfl⟩
    ·
      refine V_iconst (v := 0) (pc' := 17) dX2_hasLink_16 rfl (by decide) ?_
      obtain rfl := Option.some.inj hf
      exact V_zretL dX2_hasLink_17 rfl rfl rfl (by decide) ⟨rfl, rfl, rfl⟩
theorem ct_X2_hasLink {l : Launch} {S : List SHP} {h : MH} {a0 : Nat} {x1 : Int32} (hs0 : S[a0]? = some (.inl 2)) {q : Int32 × MH} (hf : f_X2_hasLink a0 x1 h = some q) : CT l mX2_hasLink 3 false 0 0 S [.ref a0, .int x1] h (QI S q) :=
  CT_ofV (by decide) rfl (Nat.le_of_ble_eq_true rfl) (fun G B hT => v_X2_hasLink hs0 hf)
/-! LabelStacks$Network.isUp(I)Z -/
theorem dX2_isUp_0 : decode cX2_isUp 0 = .ok (.iload_n 1, 1) := by decide +kernel
theorem dX2_isUp_1 : decode cX2_isUp 1 = .ok (.ifCond .lt 26, 3) := by decide +kernel
theorem dX2_isUp_4 : decode cX2_isUp 4 = .ok (.iload_n 1, 1) := by decide +kernel
theorem dX2_isUp_5 : decode cX2_isUp 5 = .ok (.aload_n 0, 1) := by decide +kernel
theorem dX2_isUp_6 : decode cX2_isUp 6 = .ok (.getfield 41, 3) := by decide +kernel
theorem dX2_isUp_9 : decode cX2_isUp 9 = .ok (.if_icmp .ge 18, 3) := by decide +kernel
theorem dX2_isUp_12 : decode cX2_isUp 12 = .ok (.aload_n 0, 1) := by decide +kernel
theorem dX2_isUp_13 : decode cX2_isUp 13 = .ok (.getfield 44, 3) := by decide +kernel
theorem dX2_isUp_16 : decode cX2_isUp 16 = .ok (.iload_n 1, 1) := by decide +kernel
theorem dX2_isUp_17 : decode cX2_isUp 17 = .ok (.iushr, 1) := by decide +kernel
theorem dX2_isUp_18 : decode cX2_isUp 18 = .ok (.iconst 1, 1) := by decide +kernel
theorem dX2_isUp_19 : decode cX2_isUp 19 = .ok (.iand, 1) := by decide +kernel
theorem dX2_isUp_20 : decode cX2_isUp 20 = .ok (.ifCond .eq 7, 3) := by decide +kernel
theorem dX2_isUp_23 : decode cX2_isUp 23 = .ok (.iconst 1, 1) := by decide +kernel
theorem dX2_isUp_24 : decode cX2_isUp 24 = .ok (.goto 4, 3) := by decide +kernel
theorem dX2_isUp_27 : decode cX2_isUp 27 = .ok (.iconst 0, 1) := by decide +kernel
theorem dX2_isUp_28 : decode cX2_isUp 28 = .ok (.ireturn, 1) := by decide +kernel
abbrev mX2_isUp : MI := (RX2, yX2_isUp, cX2_isUp, 2, (some .boolean))
theorem mok_X2_isUp : MOKv mX2_isUp 1 := ⟨⟨bm_596, bm_116, ⟨by decide, by decide⟩, by decide +kernel⟩, bm_594, bm_595⟩
def f_X2_isUp   (a0 : Nat) (x1 : Int32) (h : MH) : Option (Int32 × MH) :=
  if x1 < 0 then
    some (0, h)
  else
    if x1 < (gI h a0 1) then
      if ((ush (gI h a0 2) x1) &&& 1) = 0 then
        some (0, h)
      else
        some (1, h)
    else
      some (0, h)
set_option maxRecDepth 100000 in
set_option maxHeartbeats 4000000 in
theorem v_X2_isUp {l : Launch} {G : GE} {B N : Nat} {S : List SHP} {o : Int32 × MH} {a0 : Nat} {x1 : Int32}    (hs0 : S[a0]? = some (.inl 2)) {h : MH} (hf : f_X2_isUp a0 x1 h = some o) : V l G B N mX2_isUp (rmm 3 0 0) false 0 0 (QI S o) S 0 0 0 [(0, .ref a0), (1, .int x1)] [] h := by
  unfold f_X2_isUp at hf
  refine V_iload_n (pc' := 1) dX2_isUp_0 rfl 1 rfl rfl ?_
  refine V_if_lt (tgt := 27) (pc' := 4) dX2_isUp_1 (by decide) rfl hf (fun hf => ?_) (fun hf => ?_)
  ·
    refine V_iconst (v := 0) (pc' := 28) dX2_isUp_27 rfl (by decide) ?_
    obtain rfl := Option.some.inj hf
    exact V_zretL dX2_isUp_28 rfl rfl rfl (by decide) ⟨rfl, rfl, rfl⟩
  ·
    refine V_iload_n (pc' := 5) dX2_isUp_4 rfl 1 rfl rfl ?_
    refine V_aload_n (pc' := 6) dX2_isUp_5 rfl 0 rfl rfl ?_
    refine V_getI (pc' := 9) 2 1 dX2_isUp_6 rfl (by decide) (Nat.le_of_ble_eq_true rfl) bm_188 hs0 (fun _ _ _ => rfl) ?_
    refine V_icmp_ge (tgt := 27) (pc' := 12) dX2_isUp_9 (by decide) rfl hf (fun hf => ?_) (fun hf => ?_)
    ·
      refine V_aload_n (pc' := 13) dX2_isUp_12 rfl 0 rfl rfl ?_
      refine V_getI (pc' := 16) 2 2 dX2_isUp_13 rfl (by decide) (Nat.le_of_ble_eq_true rfl) bm_194 hs0 (fun _ _ _ => rfl) ?_
      refine V_iload_n (pc' := 17) dX2_isUp_16 rfl 1 rfl rfl ?_
      refine V_iushr (pc' := 18) dX2_isUp_17 rfl ?_
      refine V_iconst (v := 1) (pc' := 19) dX2_isUp_18 rfl (by decide) ?_
      refine V_iand (pc' := 20) dX2_isUp_19 rfl ?_
      refine V_if_eq (tgt := 27) (pc' := 23) dX2_isUp_20 (by decide) rfl hf (fun hf => ?_) (fun hf => ?_)
      ·
        refine V_iconst (v := 0) (pc' := 28) dX2_isUp_27 rfl (by decide) ?_
        obtain rfl := Option.some.inj hf
        exact V_zretL dX2_isUp_28 rfl rfl rfl (by decide) ⟨rfl, rfl, rfl⟩
      ·
        refine V_iconst (v := 1) (pc' := 24) dX2_isUp_23 rfl (by decide) ?_
        refine V_goto (tgt := 28) dX2_isUp_24 (by decide) ?_
        obtain rfl := Option.some.inj hf
        exact V_zretL dX2_isUp_28 rfl rfl rfl (by decide) ⟨rfl, rfl, rfl⟩
    ·
      refine V_iconst (v := 0) (pc' := 28) dX2_isUp_27 rfl (by decide) ?_
      obtain rfl := Option.some.inj hf
      exact V_zretL dX2_isUp_28 rfl rfl rfl (by decide) ⟨rfl, rfl, rfl⟩
theorem ct_X2_isUp {l : Launch} {S : List SHP} {h : MH} {a0 : Nat} {x1 : Int32} (hs0 : S[a0]? = some (.inl 2)) {q : Int32 × MH} (hf : f_X2_isUp a0 x1 h = some q) : CT l mX2_isUp 3 false 0 0 S [.ref a0, .int x1] h (QI S q) :=
  CT_ofV (by decide) rfl (Nat.le_of_ble_eq_true rfl) (fun G B hT => v_X2_isUp hs0 hf)
/-! LabelStacks$Network.setUp(IZ)V -/
theorem dX2_setUp_0 : decode cX2_setUp 0 = .ok (.aload_n 0, 1) := by decide +kernel
theorem dX2_setUp_1 : decode cX2_setUp 1 = .ok (.iload_n 2, 1) := by decide +kernel
theorem dX2_setUp_2 : decode cX2_setUp 2 = .ok (.ifCond .eq 14, 3) := by decide +kernel
theorem dX2_setUp_5 : decode cX2_setUp 5 = .ok (.aload_n 0, 1) := by decide +kernel
theorem dX2_setUp_6 : decode cX2_setUp 6 = .ok (.getfield 44, 3) := by decide +kernel
theorem dX2_setUp_9 : decode cX2_setUp 9 = .ok (.iconst 1, 1) := by decide +kernel
theorem dX2_setUp_10 : decode cX2_setUp 10 = .ok (.iload_n 1, 1) := by decide +kernel
theorem dX2_setUp_11 : decode cX2_setUp 11 = .ok (.ishl, 1) := by decide +kernel
theorem dX2_setUp_12 : decode cX2_setUp 12 = .ok (.ior, 1) := by decide +kernel
theorem dX2_setUp_13 : decode cX2_setUp 13 = .ok (.goto 13, 3) := by decide +kernel
theorem dX2_setUp_16 : decode cX2_setUp 16 = .ok (.aload_n 0, 1) := by decide +kernel
theorem dX2_setUp_17 : decode cX2_setUp 17 = .ok (.getfield 44, 3) := by decide +kernel
theorem dX2_setUp_20 : decode cX2_setUp 20 = .ok (.iconst 1, 1) := by decide +kernel
theorem dX2_setUp_21 : decode cX2_setUp 21 = .ok (.iload_n 1, 1) := by decide +kernel
theorem dX2_setUp_22 : decode cX2_setUp 22 = .ok (.ishl, 1) := by decide +kernel
theorem dX2_setUp_23 : decode cX2_setUp 23 = .ok (.iconst (-1), 1) := by decide +kernel
theorem dX2_setUp_24 : decode cX2_setUp 24 = .ok (.ixor, 1) := by decide +kernel
theorem dX2_setUp_25 : decode cX2_setUp 25 = .ok (.iand, 1) := by decide +kernel
theorem dX2_setUp_26 : decode cX2_setUp 26 = .ok (.putfield 44, 3) := by decide +kernel
theorem dX2_setUp_29 : decode cX2_setUp 29 = .ok (.return_, 1) := by decide +kernel
abbrev mX2_setUp : MI := (RX2, yX2_setUp, cX2_setUp, 3, none)
theorem mok_X2_setUp : MOKv mX2_setUp 2 := ⟨⟨bm_584, bm_116, ⟨by decide, by decide⟩, by decide +kernel⟩, bm_582, bm_583⟩
def f_X2_setUp_26   (t0 : Nat) (t1 : Int32) (h : MH) : Option (MH) :=
  lt (sI h t0 2 t1) fun h_1 =>
  some h_1
def f_X2_setUp   (a0 : Nat) (x1 : Int32) (x2 : Int32) (h : MH) : Option (MH) :=
  if x2 = 0 then
    f_X2_setUp_26 a0 ((gI h a0 2) &&& (((1 : Int32) <<< (x1 &&& 31)) ^^^ (-1 : Int32))) h
  else
    f_X2_setUp_26 a0 ((gI h a0 2) ||| ((1 : Int32) <<< (x1 &&& 31))) h
set_option maxRecDepth 100000 in
set_option maxHeartbeats 4000000 in
theorem v_X2_setUp_26 {l : Launch} {G : GE} {B N : Nat} {S : List SHP} {o : MH} {t0 : Nat} {t1 : Int32}    (ht0 : S[t0]? = some (.inl 2)) {h : MH} (hf : f_X2_setUp_26 t0 t1 h = some o) : V l G B N mX2_setUp (rmm 3 0 0) false 0 0 (QV S o) S 0 0 26 [] [.int t1, .ref t0] h := by
  unfold f_X2_setUp_26 at hf
  refine V_putI (pc' := 29) 2 2 dX2_setUp_26 rfl (by decide) (Nat.le_of_ble_eq_true rfl) bm_194 ht0 (Or.inl rfl) rfl ?_
  refine V_nmH hf (fun h_1 hf => ?_)
  obtain rfl := Option.some.inj hf
  exact V_vret dX2_setUp_29 rfl rfl rfl ⟨rfl, rfl, rfl⟩
set_option maxRecDepth 100000 in
set_option maxHeartbeats 4000000 in
theorem v_X2_setUp {l : Launch} {G : GE} {B N : Nat} {S : List SHP} {o : MH} {a0 : Nat} {x1 : Int32} {x2 : Int32}    (hs0 : S[a0]? = some (.inl 2)) {h : MH} (hf : f_X2_setUp a0 x1 x2 h = some o) : V l G B N mX2_setUp (rmm 3 0 0) false 0 0 (QV S o) S 0 0 0 [(0, .ref a0), (1, .int x1), (2, .int x2)] [] h := by
  unfold f_X2_setUp at hf
  refine V_aload_n (pc' := 1) dX2_setUp_0 rfl 0 rfl rfl ?_
  refine V_iload_n (pc' := 2) dX2_setUp_1 rfl 2 rfl rfl ?_
  refine V_if_eq (tgt := 16) (pc' := 5) dX2_setUp_2 (by decide) rfl hf (fun hf => ?_) (fun hf => ?_)
  ·
    refine V_aload_n (pc' := 17) dX2_setUp_16 rfl 0 rfl rfl ?_
    refine V_getI (pc' := 20) 2 2 dX2_setUp_17 rfl (by decide) (Nat.le_of_ble_eq_true rfl) bm_194 hs0 (fun _ _ _ => rfl) ?_
    refine V_iconst (v := 1) (pc' := 21) dX2_setUp_20 rfl (by decide) ?_
    refine V_iload_n (pc' := 22) dX2_setUp_21 rfl 1 rfl rfl ?_
    refine V_ishl (pc' := 23) dX2_setUp_22 rfl ?_
    refine V_iconst (v := (-1)) (pc' := 24) dX2_setUp_23 rfl (by decide) ?_
    refine V_ixor (pc' := 25) dX2_setUp_24 rfl ?_
    refine V_iand (pc' := 26) dX2_setUp_25 rfl ?_
    exact V_sub (lv' := []) [] rfl (v_X2_setUp_26 hs0 hf)
  ·
    refine V_aload_n (pc' := 6) dX2_setUp_5 rfl 0 rfl rfl ?_
    refine V_getI (pc' := 9) 2 2 dX2_setUp_6 rfl (by decide) (Nat.le_of_ble_eq_true rfl) bm_194 hs0 (fun _ _ _ => rfl) ?_
    refine V_iconst (v := 1) (pc' := 10) dX2_setUp_9 rfl (by decide) ?_
    refine V_iload_n (pc' := 11) dX2_setUp_10 rfl 1 rfl rfl ?_
    refine V_ishl (pc' := 12) dX2_setUp_11 rfl ?_
    refine V_ior (pc' := 13) dX2_setUp_12 rfl ?_
    refine V_goto (tgt := 26) dX2_setUp_13 (by decide) ?_
    exact V_sub (lv' := []) [] rfl (v_X2_setUp_26 hs0 hf)
theorem ct_X2_setUp {l : Launch} {S : List SHP} {h : MH} {a0 : Nat} {x1 : Int32} {x2 : Int32} (hs0 : S[a0]? = some (.inl 2)) {q : MH} (hf : f_X2_setUp a0 x1 x2 h = some q) : CT l mX2_setUp 3 false 0 0 S [.ref a0, .int x1, .int x2] h (QV S q) :=
  CT_ofV (by decide) rfl (Nat.le_of_ble_eq_true rfl) (fun G B hT => v_X2_setUp hs0 hf)
/-! LabelStacks$Network.fromOf(I)I -/
theorem dX2_fromOf_0 : decode cX2_fromOf 0 = .ok (.iload_n 1, 1) := by decide +kernel
theorem dX2_fromOf_1 : decode cX2_fromOf 1 = .ok (.ifCond .lt 20, 3) := by decide +kernel
theorem dX2_fromOf_4 : decode cX2_fromOf 4 = .ok (.iload_n 1, 1) := by decide +kernel
theorem dX2_fromOf_5 : decode cX2_fromOf 5 = .ok (.aload_n 0, 1) := by decide +kernel
theorem dX2_fromOf_6 : decode cX2_fromOf 6 = .ok (.getfield 41, 3) := by decide +kernel
theorem dX2_fromOf_9 : decode cX2_fromOf 9 = .ok (.if_icmp .ge 12, 3) := by decide +kernel
theorem dX2_fromOf_12 : decode cX2_fromOf 12 = .ok (.aload_n 0, 1) := by decide +kernel
theorem dX2_fromOf_13 : decode cX2_fromOf 13 = .ok (.getfield 15, 3) := by decide +kernel
theorem dX2_fromOf_16 : decode cX2_fromOf 16 = .ok (.iload_n 1, 1) := by decide +kernel
theorem dX2_fromOf_17 : decode cX2_fromOf 17 = .ok (.iaload, 1) := by decide +kernel
theorem dX2_fromOf_18 : decode cX2_fromOf 18 = .ok (.goto 4, 3) := by decide +kernel
theorem dX2_fromOf_21 : decode cX2_fromOf 21 = .ok (.iconst (-1), 1) := by decide +kernel
theorem dX2_fromOf_22 : decode cX2_fromOf 22 = .ok (.ireturn, 1) := by decide +kernel
abbrev mX2_fromOf : MI := (RX2, yX2_fromOf, cX2_fromOf, 2, (some .int))
theorem mok_X2_fromOf : MOKv mX2_fromOf 1 := ⟨⟨bm_729, bm_116, ⟨by decide, by decide⟩, by decide +kernel⟩, bm_727, bm_728⟩
def f_X2_fromOf   (a0 : Nat) (x1 : Int32) (h : MH) : Option (Int32 × MH) :=
  if x1 < 0 then
    some ((-1 : Int32), h)
  else
    if x1 < (gI h a0 1) then
      (gR h a0 3).bind fun a_1 =>
      (ldI h a_1 x1).bind fun x_2 =>
      some (x_2, h)
    else
      some ((-1 : Int32), h)
set_option maxRecDepth 100000 in
set_option maxHeartbeats 4000000 in
theorem v_X2_fromOf {l : Launch} {G : GE} {B N : Nat} {S : List SHP} {o : Int32 × MH} {a0 : Nat} {x1 : Int32}    (hs0 : S[a0]? = some (.inl 2)) {h : MH} (hf : f_X2_fromOf a0 x1 h = some o) : V l G B N mX2_fromOf (rmm 3 0 0) false 0 0 (QI S o) S 0 0 0 [(0, .ref a0), (1, .int x1)] [] h := by
  unfold f_X2_fromOf at hf
  refine V_iload_n (pc' := 1) dX2_fromOf_0 rfl 1 rfl rfl ?_
  refine V_if_lt (tgt := 21) (pc' := 4) dX2_fromOf_1 (by decide) rfl hf (fun hf => ?_) (fun hf => ?_)
  ·
    refine V_iconst (v := (-1)) (pc' := 22) dX2_fromOf_21 rfl (by decide) ?_
    obtain rfl := Option.some.inj hf
    exact V_iret dX2_fromOf_22 rfl rfl rfl ⟨rfl, rfl, rfl⟩
  ·
    refine V_iload_n (pc' := 5) dX2_fromOf_4 rfl 1 rfl rfl ?_
    refine V_aload_n (pc' := 6) dX2_fromOf_5 rfl 0 rfl rfl ?_
    refine V_getI (pc' := 9) 2 1 dX2_fromOf_6 rfl (by decide) (Nat.le_of_ble_eq_true rfl) bm_188 hs0 (fun _ _ _ => rfl) ?_
    refine V_icmp_ge (tgt := 21) (pc' := 12) dX2_fromOf_9 (by decide) rfl hf (fun hf => ?_) (fun hf => ?_)
    ·
      refine V_aload_n (pc' := 13) dX2_fromOf_12 rfl 0 rfl rfl ?_
      refine V_getR (pc' := 16) 2 3 dX2_fromOf_13 rfl (by decide) (Nat.le_of_ble_eq_true rfl) bm_197 hs0 (fun _ _ _ => rfl) rfl hf (fun a_1 ha_1 hf => ?_)
      refine V_iload_n (pc' := 17) dX2_fromOf_16 rfl 1 rfl rfl ?_
      refine V_iald (pc' := 18) dX2_fromOf_17 rfl ha_1 hf (fun x_2 hf => ?_)
      refine V_goto (tgt := 22) dX2_fromOf_18 (by decide) ?_
      obtain rfl := Option.some.inj hf
      exact V_iret dX2_fromOf_22 rfl rfl rfl ⟨rfl, rfl, rfl⟩
    ·
      refine V_iconst (v := (-1)) (pc' := 22) dX2_fromOf_21 rfl (by decide) ?_
      obtain rfl := Option.some.inj hf
      exact V_iret dX2_fromOf_22 rfl rfl rfl ⟨rfl, rfl, rfl⟩
theorem ct_X2_fromOf {l : Launch} {S : List SHP} {h : MH} {a0 : Nat} {x1 : Int32} (hs0 : S[a0]? = some (.inl 2)) {q : Int32 × MH} (hf : f_X2_fromOf a0 x1 h = some q) : CT l mX2_fromOf 3 false 0 0 S [.ref a0, .int x1] h (QI S q) :=
  CT_ofV (by decide) rfl (Nat.le_of_ble_eq_true rfl) (fun G B hT => v_X2_fromOf hs0 hf)
/-! LabelStacks$Network.toOf(I)I -/
theorem dX2_toOf_0 : decode cX2_toOf 0 = .ok (.iload_n 1, 1) := by decide +kernel
theorem dX2_toOf_1 : decode cX2_toOf 1 = .ok (.ifCond .lt 20, 3) := by decide +kernel
theorem dX2_toOf_4 : decode cX2_toOf 4 = .ok (.iload_n 1, 1) := by decide +kernel
theorem dX2_toOf_5 : decode cX2_toOf 5 = .ok (.aload_n 0, 1) := by decide +kernel
theorem dX2_toOf_6 : decode cX2_toOf 6 = .ok (.getfield 41, 3) := by decide +kernel
theorem dX2_toOf_9 : decode cX2_toOf 9 = .ok (.if_icmp .ge 12, 3) := by decide +kernel
theorem dX2_toOf_12 : decode cX2_toOf 12 = .ok (.aload_n 0, 1) := by decide +kernel
theorem dX2_toOf_13 : decode cX2_toOf 13 = .ok (.getfield 19, 3) := by decide +kernel
theorem dX2_toOf_16 : decode cX2_toOf 16 = .ok (.iload_n 1, 1) := by decide +kernel
theorem dX2_toOf_17 : decode cX2_toOf 17 = .ok (.iaload, 1) := by decide +kernel
theorem dX2_toOf_18 : decode cX2_toOf 18 = .ok (.goto 4, 3) := by decide +kernel
theorem dX2_toOf_21 : decode cX2_toOf 21 = .ok (.iconst (-1), 1) := by decide +kernel
theorem dX2_toOf_22 : decode cX2_toOf 22 = .ok (.ireturn, 1) := by decide +kernel
abbrev mX2_toOf : MI := (RX2, yX2_toOf, cX2_toOf, 2, (some .int))
theorem mok_X2_toOf : MOKv mX2_toOf 1 := ⟨⟨bm_654, bm_116, ⟨by decide, by decide⟩, by decide +kernel⟩, bm_652, bm_653⟩
def f_X2_toOf   (a0 : Nat) (x1 : Int32) (h : MH) : Option (Int32 × MH) :=
  if x1 < 0 then
    some ((-1 : Int32), h)
  else
    if x1 < (gI h a0 1) then
      (gR h a0 4).bind fun a_1 =>
      (ldI h a_1 x1).bind fun x_2 =>
      some (x_2, h)
    else
      some ((-1 : Int32), h)
set_option maxRecDepth 100000 in
set_option maxHeartbeats 4000000 in
theorem v_X2_toOf {l : Launch} {G : GE} {B N : Nat} {S : List SHP} {o : Int32 × MH} {a0 : Nat} {x1 : Int32}    (hs0 : S[a0]? = some (.inl 2)) {h : MH} (hf : f_X2_toOf a0 x1 h = some o) : V l G B N mX2_toOf (rmm 3 0 0) false 0 0 (QI S o) S 0 0 0 [(0, .ref a0), (1, .int x1)] [] h := by
  unfold f_X2_toOf at hf
  refine V_iload_n (pc' := 1) dX2_toOf_0 rfl 1 rfl rfl ?_
  refine V_if_lt (tgt := 21) (pc' := 4) dX2_toOf_1 (by decide) rfl hf (fun hf => ?_) (fun hf => ?_)
  ·
    refine V_iconst (v := (-1)) (pc' := 22) dX2_toOf_21 rfl (by decide) ?_
    obtain rfl := Option.some.inj hf
    exact V_iret dX2_toOf_22 rfl rfl rfl ⟨rfl, rfl, rfl⟩
  ·
    refine V_iload_n (pc' := 5) dX2_toOf_4 rfl 1 rfl rfl ?_
    refine V_aload_n (pc' := 6) dX2_toOf_5 rfl 0 rfl rfl ?_
    refine V_getI (pc' := 9) 2 1 dX2_toOf_6 rfl (by decide) (Nat.le_of_ble_eq_true rfl) bm_188 hs0 (fun _ _ _ => rfl) ?_
    refine V_icmp_ge (tgt := 21) (pc' := 12) dX2_toOf_9 (by decide) rfl hf (fun hf => ?_) (fun hf => ?_)
    ·
      refine V_aload_n (pc' := 13) dX2_toOf_12 rfl 0 rfl rfl ?_
      refine V_getR (pc' := 16) 2 4 dX2_toOf_13 rfl (by decide) (Nat.le_of_ble_eq_true rfl) bm_202 hs0 (fun _ _ _ => rfl) rfl hf (fun a_1 ha_1 hf => ?_)
      refine V_iload_n (pc' := 17) dX2_toOf_16 rfl 1 rfl rfl ?_
      refine V_iald (pc' := 18) dX2_toOf_17 rfl ha_1 hf (fun x_2 hf => ?_)
      refine V_goto (tgt := 22) dX2_toOf_18 (by decide) ?_
      obtain rfl := Option.some.inj hf
      exact V_iret dX2_toOf_22 rfl rfl rfl ⟨rfl, rfl, rfl⟩
    ·
      refine V_iconst (v := (-1)) (pc' := 22) dX2_toOf_21 rfl (by decide) ?_
      obtain rfl := Option.some.inj hf
      exact V_iret dX2_toOf_22 rfl rfl rfl ⟨rfl, rfl, rfl⟩
theorem ct_X2_toOf {l : Launch} {S : List SHP} {h : MH} {a0 : Nat} {x1 : Int32} (hs0 : S[a0]? = some (.inl 2)) {q : Int32 × MH} (hf : f_X2_toOf a0 x1 h = some q) : CT l mX2_toOf 3 false 0 0 S [.ref a0, .int x1] h (QI S q) :=
  CT_ofV (by decide) rfl (Nat.le_of_ble_eq_true rfl) (fun G B hT => v_X2_toOf hs0 hf)
/-! LabelStacks$Network.priceOf(I)I -/
theorem dX2_priceOf_0 : decode cX2_priceOf 0 = .ok (.iload_n 1, 1) := by decide +kernel
theorem dX2_priceOf_1 : decode cX2_priceOf 1 = .ok (.ifCond .lt 20, 3) := by decide +kernel
theorem dX2_priceOf_4 : decode cX2_priceOf 4 = .ok (.iload_n 1, 1) := by decide +kernel
theorem dX2_priceOf_5 : decode cX2_priceOf 5 = .ok (.aload_n 0, 1) := by decide +kernel
theorem dX2_priceOf_6 : decode cX2_priceOf 6 = .ok (.getfield 41, 3) := by decide +kernel
theorem dX2_priceOf_9 : decode cX2_priceOf 9 = .ok (.if_icmp .ge 12, 3) := by decide +kernel
theorem dX2_priceOf_12 : decode cX2_priceOf 12 = .ok (.aload_n 0, 1) := by decide +kernel
theorem dX2_priceOf_13 : decode cX2_priceOf 13 = .ok (.getfield 22, 3) := by decide +kernel
theorem dX2_priceOf_16 : decode cX2_priceOf 16 = .ok (.iload_n 1, 1) := by decide +kernel
theorem dX2_priceOf_17 : decode cX2_priceOf 17 = .ok (.iaload, 1) := by decide +kernel
theorem dX2_priceOf_18 : decode cX2_priceOf 18 = .ok (.goto 4, 3) := by decide +kernel
theorem dX2_priceOf_21 : decode cX2_priceOf 21 = .ok (.iconst 0, 1) := by decide +kernel
theorem dX2_priceOf_22 : decode cX2_priceOf 22 = .ok (.ireturn, 1) := by decide +kernel
abbrev mX2_priceOf : MI := (RX2, yX2_priceOf, cX2_priceOf, 2, (some .int))
theorem mok_X2_priceOf : MOKv mX2_priceOf 1 := ⟨⟨bm_734, bm_116, ⟨by decide, by decide⟩, by decide +kernel⟩, bm_732, bm_733⟩
def f_X2_priceOf   (a0 : Nat) (x1 : Int32) (h : MH) : Option (Int32 × MH) :=
  if x1 < 0 then
    some (0, h)
  else
    if x1 < (gI h a0 1) then
      (gR h a0 5).bind fun a_1 =>
      (ldI h a_1 x1).bind fun x_2 =>
      some (x_2, h)
    else
      some (0, h)
set_option maxRecDepth 100000 in
set_option maxHeartbeats 4000000 in
theorem v_X2_priceOf {l : Launch} {G : GE} {B N : Nat} {S : List SHP} {o : Int32 × MH} {a0 : Nat} {x1 : Int32}    (hs0 : S[a0]? = some (.inl 2)) {h : MH} (hf : f_X2_priceOf a0 x1 h = some o) : V l G B N mX2_priceOf (rmm 3 0 0) false 0 0 (QI S o) S 0 0 0 [(0, .ref a0), (1, .int x1)] [] h := by
  unfold f_X2_priceOf at hf
  refine V_iload_n (pc' := 1) dX2_priceOf_0 rfl 1 rfl rfl ?_
  refine V_if_lt (tgt := 21) (pc' := 4) dX2_priceOf_1 (by decide) rfl hf (fun hf => ?_) (fun hf => ?_)
  ·
    refine V_iconst (v := 0) (pc' := 22) dX2_priceOf_21 rfl (by decide) ?_
    obtain rfl := Option.some.inj hf
    exact V_iret dX2_priceOf_22 rfl rfl rfl ⟨rfl, rfl, rfl⟩
  ·
    refine V_iload_n (pc' := 5) dX2_priceOf_4 rfl 1 rfl rfl ?_
    refine V_aload_n (pc' := 6) dX2_priceOf_5 rfl 0 rfl rfl ?_
    refine V_getI (pc' := 9) 2 1 dX2_priceOf_6 rfl (by decide) (Nat.le_of_ble_eq_true rfl) bm_188 hs0 (fun _ _ _ => rfl) ?_
    refine V_icmp_ge (tgt := 21) (pc' := 12) dX2_priceOf_9 (by decide) rfl hf (fun hf => ?_) (fun hf => ?_)
    ·
      refine V_aload_n (pc' := 13) dX2_priceOf_12 rfl 0 rfl rfl ?_
      refine V_getR (pc' := 16) 2 5 dX2_priceOf_13 rfl (by decide) (Nat.le_of_ble_eq_true rfl) bm_207 hs0 (fun _ _ _ => rfl) rfl hf (fun a_1 ha_1 hf => ?_)
      refine V_iload_n (pc' := 17) dX2_priceOf_16 rfl 1 rfl rfl ?_
      refine V_iald (pc' := 18) dX2_priceOf_17 rfl ha_1 hf (fun x_2 hf => ?_)
      refine V_goto (tgt := 22) dX2_priceOf_18 (by decide) ?_
      obtain rfl := Option.some.inj hf
      exact V_iret dX2_priceOf_22 rfl rfl rfl ⟨rfl, rfl, rfl⟩
    ·
      refine V_iconst (v := 0) (pc' := 22) dX2_priceOf_21 rfl (by decide) ?_
      obtain rfl := Option.some.inj hf
      exact V_iret dX2_priceOf_22 rfl rfl rfl ⟨rfl, rfl, rfl⟩
theorem ct_X2_priceOf {l : Launch} {S : List SHP} {h : MH} {a0 : Nat} {x1 : Int32} (hs0 : S[a0]? = some (.inl 2)) {q : Int32 × MH} (hf : f_X2_priceOf a0 x1 h = some q) : CT l mX2_priceOf 3 false 0 0 S [.ref a0, .int x1] h (QI S q) :=
  CT_ofV (by decide) rfl (Nat.le_of_ble_eq_true rfl) (fun G B hT => v_X2_priceOf hs0 hf)
/-! LabelStacks$Network.costOf(LLabelStacks$Row;)I -/
theorem dX2_costOf_0 : decode cX2_costOf 0 = .ok (.iconst 0, 1) := by decide +kernel
theorem dX2_costOf_1 : decode cX2_costOf 1 = .ok (.istore_n 2, 1) := by decide +kernel
theorem dX2_costOf_2 : decode cX2_costOf 2 = .ok (.iconst 0, 1) := by decide +kernel
theorem dX2_costOf_3 : decode cX2_costOf 3 = .ok (.istore_n 3, 1) := by decide +kernel
theorem dX2_costOf_4 : decode cX2_costOf 4 = .ok (.iload_n 3, 1) := by decide +kernel
theorem dX2_costOf_5 : decode cX2_costOf 5 = .ok (.aload_n 1, 1) := by decide +kernel
theorem dX2_costOf_6 : decode cX2_costOf 6 = .ok (.getfield 47, 3) := by decide +kernel
theorem dX2_costOf_9 : decode cX2_costOf 9 = .ok (.if_icmp .ge 21, 3) := by decide +kernel
theorem dX2_costOf_12 : decode cX2_costOf 12 = .ok (.iload_n 2, 1) := by decide +kernel
theorem dX2_costOf_13 : decode cX2_costOf 13 = .ok (.aload_n 0, 1) := by decide +kernel
theorem dX2_costOf_14 : decode cX2_costOf 14 = .ok (.aload_n 1, 1) := by decide +kernel
theorem dX2_costOf_15 : decode cX2_costOf 15 = .ok (.iload_n 3, 1) := by decide +kernel
theorem dX2_costOf_16 : decode cX2_costOf 16 = .ok (.invokevirtual 52, 3) := by decide +kernel
theorem dX2_costOf_19 : decode cX2_costOf 19 = .ok (.invokevirtual 56, 3) := by decide +kernel
theorem dX2_costOf_22 : decode cX2_costOf 22 = .ok (.iadd, 1) := by decide +kernel
theorem dX2_costOf_23 : decode cX2_costOf 23 = .ok (.istore_n 2, 1) := by decide +kernel
theorem dX2_costOf_24 : decode cX2_costOf 24 = .ok (.iinc 3 1, 3) := by decide +kernel
theorem dX2_costOf_27 : decode cX2_costOf 27 = .ok (.goto (-23), 3) := by decide +kernel
theorem dX2_costOf_30 : decode cX2_costOf 30 = .ok (.iload_n 2, 1) := by decide +kernel
theorem dX2_costOf_31 : decode cX2_costOf 31 = .ok (.ireturn, 1) := by decide +kernel
abbrev mX2_costOf : MI := (RX2, yX2_costOf, cX2_costOf, 4, (some .int))
theorem mok_X2_costOf : MOKv mX2_costOf 1 := ⟨⟨bm_987, bm_116, ⟨by decide, by decide⟩, by decide +kernel⟩, bm_985, bm_986⟩
def f_X2_costOf_4b   (a0 : Nat) (a1 : Nat) (k4 : Int32 × Int32 → MH → Option (Int32 × MH)) (p : Int32 × Int32) (h : MH) : Option (Int32 × MH) :=
  if p.2 < (gI h a1 1) then
    (f_X5_get a1 p.2 h).bind fun q_1 =>
    (f_X2_priceOf a0 q_1.1 q_1.2).bind fun q_2 =>
    lt (p.1 + q_2.1) fun x_3 =>
    k4 (x_3, (p.2 + 1)) q_2.2
  else
    some (p.1, h)
def f_X2_costOf_4   (a0 : Nat) (a1 : Nat) : Nat → Int32 × Int32 → MH → Option (Int32 × MH) := lp (f_X2_costOf_4b a0 a1)
def f_X2_costOf   (a0 : Nat) (a1 : Nat) (h : MH) : Option (Int32 × MH) :=
  f_X2_costOf_4 a0 a1 FU (0, 0) h
set_option maxRecDepth 100000 in
set_option maxHeartbeats 4000000 in
theorem v_X2_costOf_4b {l : Launch} {G : GE} {B N : Nat} {S : List SHP} {o : Int32 × MH} {a0 : Nat} {a1 : Nat}    (hs0 : S[a0]? = some (.inl 2)) (hs1 : S[a1]? = some (.inl 5)) {k4 : Int32 × Int32 → MH → Option (Int32 × MH)} (hk4 : ∀ (p : Int32 × Int32) (h : MH), k4 p h = some o → V l G B N mX2_costOf (rmm 4 0 0) false 0 0 (QI S o) S 0 0 4 [(0, .ref a0), (1, .ref a1), (2, .int p.1), (3, .int p.2)] [] h) {p : Int32 × Int32} {h : MH} (hf : f_X2_costOf_4b a0 a1 k4 p h = some o) : V l G B N mX2_costOf (rmm 4 0 0) false 0 0 (QI S o) S 0 0 4 [(0, .ref a0), (1, .ref a1), (2, .int p.1), (3, .int p.2)] [] h := by
  unfold f_X2_costOf_4b at hf
  refine V_iload_n (pc' := 5) dX2_costOf_4 rfl 3 rfl rfl ?_
  refine V_aload_n (pc' := 6) dX2_costOf_5 rfl 1 rfl rfl ?_
  refine V_getI (pc' := 9) 5 1 dX2_costOf_6 rfl (by decide) (Nat.le_of_ble_eq_true rfl) bm_255 hs1 (fun _ _ _ => rfl) ?_
  refine V_icmp_ge (tgt := 30) (pc' := 12) dX2_costOf_9 (by decide) rfl hf (fun hf => ?_) (fun hf => ?_)
  ·
    refine V_iload_n (pc' := 13) dX2_costOf_12 rfl 2 rfl rfl ?_
    refine V_aload_n (pc' := 14) dX2_costOf_13 rfl 0 rfl rfl ?_
    refine V_aload_n (pc' := 15) dX2_costOf_14 rfl 1 rfl rfl ?_
    refine V_iload_n (pc' := 16) dX2_costOf_15 rfl 3 rfl rfl ?_
    refine V_cvI (pc' := 19) (As := [.int p.2]) (rest := [.ref a0, .int p.1]) dX2_costOf_16 rfl mok_X5_get bm_988 5 (by decide) rfl hs1 rfl rfl (Nat.le_of_ble_eq_true rfl) (by decide) hf (fun q e => ct_X5_get hs1 e) (fun q_1 hf => ?_)
    refine V_cvI (pc' := 22) (As := [.int q_1.1]) (rest := [.int p.1]) dX2_costOf_19 rfl mok_X2_priceOf bm_989 2 (by decide) rfl hs0 rfl rfl (Nat.le_of_ble_eq_true rfl) (by decide) hf (fun q e => ct_X2_priceOf hs0 e) (fun q_2 hf => ?_)
    refine V_iadd (pc' := 23) dX2_costOf_22 rfl ?_
    refine V_nmI hf (fun x_3 hf => ?_)
    refine V_istore_n (lv' := [(2, .int x_3), (0, .ref a0), (1, .ref a1), (3, .int p.2)]) (pc' := 24) dX2_costOf_23 rfl rfl (Nat.le_of_ble_eq_true rfl) rfl ?_
    refine V_iinc (v := (p.2 + 1)) (lv' := [(3, .int (p.2 + 1)), (2, .int x_3), (0, .ref a0), (1, .ref a1)]) (pc' := 27) dX2_costOf_24 rfl 3 rfl rfl (Nat.le_of_ble_eq_true rfl) rfl ?_
    refine V_goto (tgt := 4) dX2_costOf_27 (by decide) ?_
    exact V_sub (lv' := [(0, .ref a0), (1, .ref a1), (2, .int x_3), (3, .int (p.2 + 1))]) [2, 3, 1, 0] rfl (hk4 (x_3, (p.2 + 1)) q_2.2 hf)
  ·
    refine V_iload_n (pc' := 31) dX2_costOf_30 rfl 2 rfl rfl ?_
    obtain rfl := Option.some.inj hf
    exact V_iret dX2_costOf_31 rfl rfl rfl ⟨rfl, rfl, rfl⟩
theorem v_X2_costOf_4 {l : Launch} {G : GE} {B N : Nat} {S : List SHP} {o : Int32 × MH} {a0 : Nat} {a1 : Nat}    (hs0 : S[a0]? = some (.inl 2)) (hs1 : S[a1]? = some (.inl 5)) {n : Nat} {p : Int32 × Int32} {h : MH} (hf : f_X2_costOf_4 a0 a1 n p h = some o) : V l G B N mX2_costOf (rmm 4 0 0) false 0 0 (QI S o) S 0 0 4 [(0, .ref a0), (1, .ref a1), (2, .int p.1), (3, .int p.2)] [] h :=
  V_lp (VV := fun p h => V l G B N mX2_costOf (rmm 4 0 0) false 0 0 (QI S o) S 0 0 4 [(0, .ref a0), (1, .ref a1), (2, .int p.1), (3, .int p.2)] [] h) (fun _ hk _ _ hf => v_X2_costOf_4b hs0 hs1 hk hf) n p h hf
set_option maxRecDepth 100000 in
set_option maxHeartbeats 4000000 in
theorem v_X2_costOf {l : Launch} {G : GE} {B N : Nat} {S : List SHP} {o : Int32 × MH} {a0 : Nat} {a1 : Nat}    (hs0 : S[a0]? = some (.inl 2)) (hs1 : S[a1]? = some (.inl 5)) {h : MH} (hf : f_X2_costOf a0 a1 h = some o) : V l G B N mX2_costOf (rmm 4 0 0) false 0 0 (QI S o) S 0 0 0 [(0, .ref a0), (1, .ref a1)] [] h := by
  unfold f_X2_costOf at hf
  refine V_iconst (v := 0) (pc' := 1) dX2_costOf_0 rfl (by decide) ?_
  refine V_istore_n (lv' := [(2, .int 0), (0, .ref a0), (1, .ref a1)]) (pc' := 2) dX2_costOf_1 rfl rfl (Nat.le_of_ble_eq_true rfl) rfl ?_
  refine V_iconst (v := 0) (pc' := 3) dX2_costOf_2 rfl (by decide) ?_
  refine V_istore_n (lv' := [(3, .int 0), (2, .int 0), (0, .ref a0), (1, .ref a1)]) (pc' := 4) dX2_costOf_3 rfl rfl (Nat.le_of_ble_eq_true rfl) rfl ?_
  exact V_sub (lv' := [(0, .ref a0), (1, .ref a1), (2, .int 0), (3, .int 0)]) [2, 3, 1, 0] rfl (v_X2_costOf_4 hs0 hs1 hf)
theorem ct_X2_costOf {l : Launch} {S : List SHP} {h : MH} {a0 : Nat} {a1 : Nat} (hs0 : S[a0]? = some (.inl 2)) (hs1 : S[a1]? = some (.inl 5)) {q : Int32 × MH} (hf : f_X2_costOf a0 a1 h = some q) : CT l mX2_costOf 4 false 0 0 S [.ref a0, .ref a1] h (QI S q) :=
  CT_ofV (by decide) rfl (Nat.le_of_ble_eq_true rfl) (fun G B hT => v_X2_costOf hs0 hs1 hf)
/-! LabelStacks$Network.addLink(IIIZ)I -/
theorem dX2_addLink_0 : decode cX2_addLink 0 = .ok (.aload_n 0, 1) := by decide +kernel
theorem dX2_addLink_1 : decode cX2_addLink 1 = .ok (.getfield 41, 3) := by decide +kernel
theorem dX2_addLink_4 : decode cX2_addLink 4 = .ok (.bipush 30, 2) := by decide +kernel
theorem dX2_addLink_6 : decode cX2_addLink 6 = .ok (.if_icmp .ge 19, 3) := by decide +kernel
theorem dX2_addLink_9 : decode cX2_addLink 9 = .ok (.aload_n 0, 1) := by decide +kernel
theorem dX2_addLink_10 : decode cX2_addLink 10 = .ok (.iload_n 1, 1) := by decide +kernel
theorem dX2_addLink_11 : decode cX2_addLink 11 = .ok (.invokevirtual 59, 3) := by decide +kernel
theorem dX2_addLink_14 : decode cX2_addLink 14 = .ok (.ifCond .eq 11, 3) := by decide +kernel
theorem dX2_addLink_17 : decode cX2_addLink 17 = .ok (.aload_n 0, 1) := by decide +kernel
theorem dX2_addLink_18 : decode cX2_addLink 18 = .ok (.iload_n 2, 1) := by decide +kernel
theorem dX2_addLink_19 : decode cX2_addLink 19 = .ok (.invokevirtual 59, 3) := by decide +kernel
theorem dX2_addLink_22 : decode cX2_addLink 22 = .ok (.ifCond .ne 5, 3) := by decide +kernel
theorem dX2_addLink_25 : decode cX2_addLink 25 = .ok (.iconst (-1), 1) := by decide +kernel
theorem dX2_addLink_26 : decode cX2_addLink 26 = .ok (.ireturn, 1) := by decide +kernel
theorem dX2_addLink_27 : decode cX2_addLink 27 = .ok (.aload_n 0, 1) := by decide +kernel
theorem dX2_addLink_28 : decode cX2_addLink 28 = .ok (.getfield 41, 3) := by decide +kernel
theorem dX2_addLink_31 : decode cX2_addLink 31 = .ok (.istore 5, 2) := by decide +kernel
theorem dX2_addLink_33 : decode cX2_addLink 33 = .ok (.aload_n 0, 1) := by decide +kernel
theorem dX2_addLink_34 : decode cX2_addLink 34 = .ok (.getfield 15, 3) := by decide +kernel
theorem dX2_addLink_37 : decode cX2_addLink 37 = .ok (.iload 5, 2) := by decide +kernel
theorem dX2_addLink_39 : decode cX2_addLink 39 = .ok (.iload_n 1, 1) := by decide +kernel
theorem dX2_addLink_40 : decode cX2_addLink 40 = .ok (.iastore, 1) := by decide +kernel
theorem dX2_addLink_41 : decode cX2_addLink 41 = .ok (.aload_n 0, 1) := by decide +kernel
theorem dX2_addLink_42 : decode cX2_addLink 42 = .ok (.getfield 19, 3) := by decide +kernel
theorem dX2_addLink_45 : decode cX2_addLink 45 = .ok (.iload 5, 2) := by decide +kernel
theorem dX2_addLink_47 : decode cX2_addLink 47 = .ok (.iload_n 2, 1) := by decide +kernel
theorem dX2_addLink_48 : decode cX2_addLink 48 = .ok (.iastore, 1) := by decide +kernel
theorem dX2_addLink_49 : decode cX2_addLink 49 = .ok (.aload_n 0, 1) := by decide +kernel
theorem dX2_addLink_50 : decode cX2_addLink 50 = .ok (.getfield 22, 3) := by decide +kernel
theorem dX2_addLink_53 : decode cX2_addLink 53 = .ok (.iload 5, 2) := by decide +kernel
theorem dX2_addLink_55 : decode cX2_addLink 55 = .ok (.iload_n 3, 1) := by decide +kernel
theorem dX2_addLink_56 : decode cX2_addLink 56 = .ok (.iastore, 1) := by decide +kernel
theorem dX2_addLink_57 : decode cX2_addLink 57 = .ok (.aload_n 0, 1) := by decide +kernel
theorem dX2_addLink_58 : decode cX2_addLink 58 = .ok (.dup, 1) := by decide +kernel
theorem dX2_addLink_59 : decode cX2_addLink 59 = .ok (.getfield 41, 3) := by decide +kernel
theorem dX2_addLink_62 : decode cX2_addLink 62 = .ok (.iconst 1, 1) := by decide +kernel
theorem dX2_addLink_63 : decode cX2_addLink 63 = .ok (.iadd, 1) := by decide +kernel
theorem dX2_addLink_64 : decode cX2_addLink 64 = .ok (.putfield 41, 3) := by decide +kernel
theorem dX2_addLink_67 : decode cX2_addLink 67 = .ok (.aload_n 0, 1) := by decide +kernel
theorem dX2_addLink_68 : decode cX2_addLink 68 = .ok (.iload 5, 2) := by decide +kernel
theorem dX2_addLink_70 : decode cX2_addLink 70 = .ok (.iload 4, 2) := by decide +kernel
theorem dX2_addLink_72 : decode cX2_addLink 72 = .ok (.invokevirtual 63, 3) := by decide +kernel
theorem dX2_addLink_75 : decode cX2_addLink 75 = .ok (.iload 5, 2) := by decide +kernel
theorem dX2_addLink_77 : decode cX2_addLink 77 = .ok (.ireturn, 1) := by decide +kernel
abbrev mX2_addLink : MI := (RX2, yX2_addLink, cX2_addLink, 6, (some .int))
theorem mok_X2_addLink : MOKv mX2_addLink 4 := ⟨⟨bm_579, bm_116, ⟨by decide, by decide⟩, by decide +kernel⟩, bm_577, bm_578⟩
def f_X2_addLink   (a0 : Nat) (x1 : Int32) (x2 : Int32) (x3 : Int32) (x4 : Int32) (h : MH) : Option (Int32 × MH) :=
  if (gI h a0 1) < 30 then
    (f_X2_hasNode a0 x1 h).bind fun q_1 =>
    if q_1.1 = 0 then
      some ((-1 : Int32), q_1.2)
    else
      (f_X2_hasNode a0 x2 q_1.2).bind fun q_2 =>
      if q_2.1 = 0 then
        some ((-1 : Int32), q_2.2)
      else
        lt (gI q_2.2 a0 1) fun x_3 =>
        (gR q_2.2 a0 3).bind fun a_4 =>
        (stI q_2.2 a_4 x_3 x1).bind fun h_5 =>
        (gR h_5 a0 4).bind fun a_6 =>
        (stI h_5 a_6 x_3 x2).bind fun h_7 =>
        (gR h_7 a0 5).bind fun a_8 =>
        (stI h_7 a_8 x_3 x3).bind fun h_9 =>
        lt (sI h_9 a0 1 ((gI h_9 a0 1) + 1)) fun h_10 =>
        (f_X2_setUp a0 x_3 x4 h_10).bind fun q_11 =>
        some (x_3, q_11)
  else
    some ((-1 : Int32), h)
set_option maxRecDepth 100000 in
set_option maxHeartbeats 4000000 in
theorem v_X2_addLink {l : Launch} {G : GE} {B N : Nat} {S : List SHP} {o : Int32 × MH} {a0 : Nat} {x1 : Int32} {x2 : Int32} {x3 : Int32} {x4 : Int32}    (hs0 : S[a0]? = some (.inl 2)) {h : MH} (hf : f_X2_addLink a0 x1 x2 x3 x4 h = some o) : V l G B N mX2_addLink (rmm 4 0 0) false 0 0 (QI S o) S 0 0 0 [(0, .ref a0), (1, .int x1), (2, .int x2), (3, .int x3), (4, .int x4)] [] h := by
  unfold f_X2_addLink at hf
  refine V_aload_n (pc' := 1) dX2_addLink_0 rfl 0 rfl rfl ?_
  refine V_getI (pc' := 4) 2 1 dX2_addLink_1 rfl (by decide) (Nat.le_of_ble_eq_true rfl) bm_188 hs0 (fun _ _ _ => rfl) ?_
  refine V_bipush (v := 30) (pc' := 6) dX2_addLink_4 rfl (by decide) ?_
  refine V_icmp_ge (tgt := 25) (pc' := 9) dX2_addLink_6 (by decide) rfl hf (fun hf => ?_) (fun hf => ?_)
  ·
    refine V_aload_n (pc' := 10) dX2_addLink_9 rfl 0 rfl rfl ?_
    refine V_iload_n (pc' := 11) dX2_addLink_10 rfl 1 rfl rfl ?_
    refine V_cvI (pc' := 14) (As := [.int x1]) (rest := []) dX2_addLink_11 rfl mok_X2_hasNode bm_580 2 (by decide) rfl hs0 rfl rfl (Nat.le_of_ble_eq_true rfl) (by decide) hf (fun q e => ct_X2_hasNode hs0 e) (fun q_1 hf => ?_)
    refine V_if_eq (tgt := 25) (pc' := 17) dX2_addLink_14 (by decide) rfl hf (fun hf => ?_) (fun hf => ?_)
    ·
      refine V_iconst (v := (-1)) (pc' := 26) dX2_addLink_25 rfl (by decide) ?_
      obtain rfl := Option.some.inj hf
      exact V_iret dX2_addLink_26 rfl rfl rfl ⟨rfl, rfl, rfl⟩
    ·
      refine V_aload_n (pc' := 18) dX2_addLink_17 rfl 0 rfl rfl ?_
      refine V_iload_n (pc' := 19) dX2_addLink_18 rfl 2 rfl rfl ?_
      refine V_cvI (pc' := 22) (As := [.int x2]) (rest := []) dX2_addLink_19 rfl mok_X2_hasNode bm_580 2 (by decide) rfl hs0 rfl rfl (Nat.le_of_ble_eq_true rfl) (by decide) hf (fun q e => ct_X2_hasNode hs0 e) (fun q_2 hf => ?_)
      refine V_if_ne (tgt := 27) (pc' := 25) dX2_addLink_22 (by decide) rfl hf (fun hf => ?_) (fun hf => ?_)
      ·
        refine V_iconst (v := (-1)) (pc' := 26) dX2_addLink_25 rfl (by decide) ?_
        obtain rfl := Option.some.inj hf
        exact V_iret dX2_addLink_26 rfl rfl rfl ⟨rfl, rfl, rfl⟩
      ·
        refine V_aload_n (pc' := 28) dX2_addLink_27 rfl 0 rfl rfl ?_
        refine V_getI (pc' := 31) 2 1 dX2_addLink_28 rfl (by decide) (Nat.le_of_ble_eq_true rfl) bm_188 hs0 (fun _ _ _ => rfl) ?_
        refine V_nmI hf (fun x_3 hf => ?_)
        refine V_istore (lv' := [(5, .int x_3), (0, .ref a0), (1, .int x1), (2, .int x2), (3, .int x3), (4, .int x4)]) (pc' := 33) dX2_addLink_31 rfl (Nat.le_of_ble_eq_true rfl) rfl ?_
        refine V_aload_n (pc' := 34) dX2_addLink_33 rfl 1 rfl rfl ?_
        refine V_getR (pc' := 37) 2 3 dX2_addLink_34 rfl (by decide) (Nat.le_of_ble_eq_true rfl) bm_197 hs0 (fun _ _ _ => rfl) rfl hf (fun a_4 ha_4 hf => ?_)
        refine V_iload (pc' := 39) dX2_addLink_37 rfl 0 rfl ?_
        refine V_iload_n (pc' := 40) dX2_addLink_39 rfl 2 rfl rfl ?_
        refine V_iast (pc' := 41) dX2_addLink_40 rfl ha_4 hf (fun h_5 hf => ?_)
        refine V_aload_n (pc' := 42) dX2_addLink_41 rfl 1 rfl rfl ?_
        refine V_getR (pc' := 45) 2 4 dX2_addLink_42 rfl (by decide) (Nat.le_of_ble_eq_true rfl) bm_202 hs0 (fun _ _ _ => rfl) rfl hf (fun a_6 ha_6 hf => ?_)
        refine V_iload (pc' := 47) dX2_addLink_45 rfl 0 rfl ?_
        refine V_iload_n (pc' := 48) dX2_addLink_47 rfl 3 rfl rfl ?_
        refine V_iast (pc' := 49) dX2_addLink_48 rfl ha_6 hf (fun h_7 hf => ?_)
        refine V_aload_n (pc' := 50) dX2_addLink_49 rfl 1 rfl rfl ?_
        refine V_getR (pc' := 53) 2 5 dX2_addLink_50 rfl (by decide) (Nat.le_of_ble_eq_true rfl) bm_207 hs0 (fun _ _ _ => rfl) rfl hf (fun a_8 ha_8 hf => ?_)
        refine V_iload (pc' := 55) dX2_addLink_53 rfl 0 rfl ?_
        refine V_iload_n (pc' := 56) dX2_addLink_55 rfl 4 rfl rfl ?_
        refine V_iast (pc' := 57) dX2_addLink_56 rfl ha_8 hf (fun h_9 hf => ?_)
        refine V_aload_n (pc' := 58) dX2_addLink_57 rfl 1 rfl rfl ?_
        refine V_dup (pc' := 59) dX2_addLink_58 rfl rfl ?_
        refine V_getI (pc' := 62) 2 1 dX2_addLink_59 rfl (by decide) (Nat.le_of_ble_eq_true rfl) bm_188 hs0 (fun _ _ _ => rfl) ?_
        refine V_iconst (v := 1) (pc' := 63) dX2_addLink_62 rfl (by decide) ?_
        refine V_iadd (pc' := 64) dX2_addLink_63 rfl ?_
        refine V_putI (pc' := 67) 2 1 dX2_addLink_64 rfl (by decide) (Nat.le_of_ble_eq_true rfl) bm_188 hs0 (Or.inl rfl) rfl ?_
        refine V_nmH hf (fun h_10 hf => ?_)
        refine V_aload_n (pc' := 68) dX2_addLink_67 rfl 1 rfl rfl ?_
        refine V_iload (pc' := 70) dX2_addLink_68 rfl 0 rfl ?_
        refine V_iload (pc' := 72) dX2_addLink_70 rfl 5 rfl ?_
        refine V_cvV (pc' := 75) (As := [.int x_3, .int x4]) (rest := []) dX2_addLink_72 rfl mok_X2_setUp bm_581 2 (by decide) rfl hs0 rfl rfl (Nat.le_of_ble_eq_true rfl) (by decide) hf (fun q e => ct_X2_setUp hs0 e) (fun q_11 hf => ?_)
        refine V_iload (pc' := 77) dX2_addLink_75 rfl 0 rfl ?_
        obtain rfl := Option.some.inj hf
        exact V_iret dX2_addLink_77 rfl rfl rfl ⟨rfl, rfl, rfl⟩
  ·
    refine V_iconst (v := (-1)) (pc' := 26) dX2_addLink_25 rfl (by decide) ?_
    obtain rfl := Option.some.inj hf
    exact V_iret dX2_addLink_26 rfl rfl rfl ⟨rfl, rfl, rfl⟩
theorem ct_X2_addLink {l : Launch} {S : List SHP} {h : MH} {a0 : Nat} {x1 : Int32} {x2 : Int32} {x3 : Int32} {x4 : Int32} (hs0 : S[a0]? = some (.inl 2)) {q : Int32 × MH} (hf : f_X2_addLink a0 x1 x2 x3 x4 h = some q) : CT l mX2_addLink 4 false 0 0 S [.ref a0, .int x1, .int x2, .int x3, .int x4] h (QI S q) :=
  CT_ofV (by decide) rfl (Nat.le_of_ble_eq_true rfl) (fun G B hT => v_X2_addLink hs0 hf)
/-! LabelStacks$Network.reset(I)V -/
theorem dX2_reset_0 : decode cX2_reset 0 = .ok (.aload_n 0, 1) := by decide +kernel
theorem dX2_reset_1 : decode cX2_reset 1 = .ok (.iload_n 1, 1) := by decide +kernel
theorem dX2_reset_2 : decode cX2_reset 2 = .ok (.putfield 9, 3) := by decide +kernel
theorem dX2_reset_5 : decode cX2_reset 5 = .ok (.aload_n 0, 1) := by decide +kernel
theorem dX2_reset_6 : decode cX2_reset 6 = .ok (.iconst 0, 1) := by decide +kernel
theorem dX2_reset_7 : decode cX2_reset 7 = .ok (.putfield 41, 3) := by decide +kernel
theorem dX2_reset_10 : decode cX2_reset 10 = .ok (.aload_n 0, 1) := by decide +kernel
theorem dX2_reset_11 : decode cX2_reset 11 = .ok (.iconst 0, 1) := by decide +kernel
theorem dX2_reset_12 : decode cX2_reset 12 = .ok (.putfield 44, 3) := by decide +kernel
theorem dX2_reset_15 : decode cX2_reset 15 = .ok (.aload_n 0, 1) := by decide +kernel
theorem dX2_reset_16 : decode cX2_reset 16 = .ok (.getfield 29, 3) := by decide +kernel
theorem dX2_reset_19 : decode cX2_reset 19 = .ok (.iconst (-1), 1) := by decide +kernel
theorem dX2_reset_20 : decode cX2_reset 20 = .ok (.invokestatic 67, 3) := by decide +kernel
theorem dX2_reset_23 : decode cX2_reset 23 = .ok (.aload_n 0, 1) := by decide +kernel
theorem dX2_reset_24 : decode cX2_reset 24 = .ok (.getfield 37, 3) := by decide +kernel
theorem dX2_reset_27 : decode cX2_reset 27 = .ok (.invokevirtual 73, 3) := by decide +kernel
theorem dX2_reset_30 : decode cX2_reset 30 = .ok (.return_, 1) := by decide +kernel
abbrev mX2_reset : MI := (RX2, yX2_reset, cX2_reset, 2, none)
theorem mok_X2_reset : MOKv mX2_reset 1 := ⟨⟨bm_552, bm_116, ⟨by decide, by decide⟩, by decide +kernel⟩, bm_550, bm_551⟩
def f_X2_reset   (a0 : Nat) (x1 : Int32) (h : MH) : Option (MH) :=
  lt (sI h a0 0 x1) fun h_1 =>
  lt (sI h_1 a0 1 0) fun h_2 =>
  lt (sI h_2 a0 2 0) fun h_3 =>
  (gR h_3 a0 6).bind fun a_4 =>
  (f_J7_fill_53178 a_4 (-1 : Int32) h_3).bind fun q_5 =>
  (gR q_5 a0 7).bind fun a_6 =>
  (f_X6_emptyAll a_6 q_5).bind fun q_7 =>
  some q_7
set_option maxRecDepth 100000 in
set_option maxHeartbeats 4000000 in
theorem v_X2_reset {l : Launch} {G : GE} {B N : Nat} {S : List SHP} {o : MH} {a0 : Nat} {x1 : Int32}    (hs0 : S[a0]? = some (.inl 2)) {h : MH} (hf : f_X2_reset a0 x1 h = some o) : V l G B N mX2_reset (rmm 5 0 0) false 0 0 (QV S o) S 0 0 0 [(0, .ref a0), (1, .int x1)] [] h := by
  unfold f_X2_reset at hf
  refine V_aload_n (pc' := 1) dX2_reset_0 rfl 0 rfl rfl ?_
  refine V_iload_n (pc' := 2) dX2_reset_1 rfl 1 rfl rfl ?_
  refine V_putI (pc' := 5) 2 0 dX2_reset_2 rfl (by decide) (Nat.le_of_ble_eq_true rfl) bm_183 hs0 (Or.inl rfl) rfl ?_
  refine V_nmH hf (fun h_1 hf => ?_)
  refine V_aload_n (pc' := 6) dX2_reset_5 rfl 0 rfl rfl ?_
  refine V_iconst (v := 0) (pc' := 7) dX2_reset_6 rfl (by decide) ?_
  refine V_putI (pc' := 10) 2 1 dX2_reset_7 rfl (by decide) (Nat.le_of_ble_eq_true rfl) bm_188 hs0 (Or.inl rfl) rfl ?_
  refine V_nmH hf (fun h_2 hf => ?_)
  refine V_aload_n (pc' := 11) dX2_reset_10 rfl 0 rfl rfl ?_
  refine V_iconst (v := 0) (pc' := 12) dX2_reset_11 rfl (by decide) ?_
  refine V_putI (pc' := 15) 2 2 dX2_reset_12 rfl (by decide) (Nat.le_of_ble_eq_true rfl) bm_194 hs0 (Or.inl rfl) rfl ?_
  refine V_nmH hf (fun h_3 hf => ?_)
  refine V_aload_n (pc' := 16) dX2_reset_15 rfl 0 rfl rfl ?_
  refine V_getR (pc' := 19) 2 6 dX2_reset_16 rfl (by decide) (Nat.le_of_ble_eq_true rfl) bm_210 hs0 (fun _ _ _ => rfl) rfl hf (fun a_4 ha_4 hf => ?_)
  refine V_iconst (v := (-1)) (pc' := 20) dX2_reset_19 rfl (by decide) ?_
  refine V_csV (pc' := 23) (As := [.ref a_4, .int (-1 : Int32)]) (rest := []) dX2_reset_20 rfl mok_J7_fill_53178 bm_553 rfl rfl (Nat.le_of_ble_eq_true rfl) (by decide) hf (fun q e => ct_J7_fill_53178 ha_4 e) (fun q_5 hf => ?_)
  refine V_aload_n (pc' := 24) dX2_reset_23 rfl 0 rfl rfl ?_
  refine V_getR (pc' := 27) 2 7 dX2_reset_24 rfl (by decide) (Nat.le_of_ble_eq_true rfl) bm_215 hs0 (fun _ _ _ => rfl) rfl hf (fun a_6 ha_6 hf => ?_)
  refine V_cvV (pc' := 30) (As := []) (rest := []) dX2_reset_27 rfl mok_X6_emptyAll bm_554 6 (by decide) rfl ha_6 rfl rfl (Nat.le_of_ble_eq_true rfl) (by decide) hf (fun q e => ct_X6_emptyAll ha_6 e) (fun q_7 hf => ?_)
  obtain rfl := Option.some.inj hf
  exact V_vret dX2_reset_30 rfl rfl rfl ⟨rfl, rfl, rfl⟩
theorem ct_X2_reset {l : Launch} {S : List SHP} {h : MH} {a0 : Nat} {x1 : Int32} (hs0 : S[a0]? = some (.inl 2)) {q : MH} (hf : f_X2_reset a0 x1 h = some q) : CT l mX2_reset 5 false 0 0 S [.ref a0, .int x1] h (QV S q) :=
  CT_ofV (by decide) rfl (Nat.le_of_ble_eq_true rfl) (fun G B hT => v_X2_reset hs0 hf)
/-! LabelStacks$Routes.distance(II)I -/
theorem dX4_distance_0 : decode cX4_distance 0 = .ok (.iload_n 1, 1) := by decide +kernel
theorem dX4_distance_1 : decode cX4_distance 1 = .ok (.ifCond .lt 23, 3) := by decide +kernel
theorem dX4_distance_4 : decode cX4_distance 4 = .ok (.iload_n 1, 1) := by decide +kernel
theorem dX4_distance_5 : decode cX4_distance 5 = .ok (.bipush 10, 2) := by decide +kernel
theorem dX4_distance_7 : decode cX4_distance 7 = .ok (.if_icmp .ge 17, 3) := by decide +kernel
theorem dX4_distance_10 : decode cX4_distance 10 = .ok (.iload_n 2, 1) := by decide +kernel
theorem dX4_distance_11 : decode cX4_distance 11 = .ok (.ifCond .lt 13, 3) := by decide +kernel
theorem dX4_distance_14 : decode cX4_distance 14 = .ok (.iload_n 2, 1) := by decide +kernel
theorem dX4_distance_15 : decode cX4_distance 15 = .ok (.bipush 10, 2) := by decide +kernel
theorem dX4_distance_17 : decode cX4_distance 17 = .ok (.if_icmp .ge 7, 3) := by decide +kernel
theorem dX4_distance_20 : decode cX4_distance 20 = .ok (.iconst 1, 1) := by decide +kernel
theorem dX4_distance_21 : decode cX4_distance 21 = .ok (.goto 4, 3) := by decide +kernel
theorem dX4_distance_24 : decode cX4_distance 24 = .ok (.iconst 0, 1) := by decide +kernel
theorem dX4_distance_25 : decode cX4_distance 25 = .ok (.istore_n 3, 1) := by decide +kernel
theorem dX4_distance_26 : decode cX4_distance 26 = .ok (.iload_n 3, 1) := by decide +kernel
theorem dX4_distance_27 : decode cX4_distance 27 = .ok (.ifCond .eq 17, 3) := by decide +kernel
theorem dX4_distance_30 : decode cX4_distance 30 = .ok (.aload_n 0, 1) := by decide +kernel
theorem dX4_distance_31 : decode cX4_distance 31 = .ok (.getfield 9, 3) := by decide +kernel
theorem dX4_distance_34 : decode cX4_distance 34 = .ok (.iload_n 2, 1) := by decide +kernel
theorem dX4_distance_35 : decode cX4_distance 35 = .ok (.bipush 10, 2) := by decide +kernel
theorem dX4_distance_37 : decode cX4_distance 37 = .ok (.imul, 1) := by decide +kernel
theorem dX4_distance_38 : decode cX4_distance 38 = .ok (.iload_n 1, 1) := by decide +kernel
theorem dX4_distance_39 : decode cX4_distance 39 = .ok (.iadd, 1) := by decide +kernel
theorem dX4_distance_40 : decode cX4_distance 40 = .ok (.iaload, 1) := by decide +kernel
theorem dX4_distance_41 : decode cX4_distance 41 = .ok (.goto 5, 3) := by decide +kernel
theorem dX4_distance_44 : decode cX4_distance 44 = .ok (.ldc 19, 2) := by decide +kernel
theorem dX4_distance_46 : decode cX4_distance 46 = .ok (.ireturn, 1) := by decide +kernel
abbrev mX4_distance : MI := (RX4, yX4_distance, cX4_distance, 4, (some .int))
theorem mok_X4_distance : MOKv mX4_distance 2 := ⟨⟨bm_739, bm_123, ⟨by decide, by decide⟩, by decide +kernel⟩, bm_737, bm_738⟩
def f_X4_distance_25   (a0 : Nat) (x1 : Int32) (x2 : Int32) (t0 : Int32) (h : MH) : Option (Int32 × MH) :=
  if t0 = 0 then
    some (1000000, h)
  else
    (gR h a0 0).bind fun a_1 =>
    (ldI h a_1 ((x2 * 10) + x1)).bind fun x_2 =>
    some (x_2, h)
def f_X4_distance_24   (a0 : Nat) (x1 : Int32) (x2 : Int32) (h : MH) : Option (Int32 × MH) :=
  f_X4_distance_25 a0 x1 x2 0 h
def f_X4_distance   (a0 : Nat) (x1 : Int32) (x2 : Int32) (h : MH) : Option (Int32 × MH) :=
  if x1 < 0 then
    f_X4_distance_24 a0 x1 x2 h
  else
    if x1 < 10 then
      if x2 < 0 then
        f_X4_distance_24 a0 x1 x2 h
      else
        if x2 < 10 then
          f_X4_distance_25 a0 x1 x2 1 h
        else
          f_X4_distance_24 a0 x1 x2 h
    else
      f_X4_distance_24 a0 x1 x2 h
set_option maxRecDepth 100000 in
set_option maxHeartbeats 4000000 in
theorem v_X4_distance_25 {l : Launch} {G : GE} {B N : Nat} {S : List SHP} {o : Int32 × MH} {a0 : Nat} {x1 : Int32} {x2 : Int32} {t0 : Int32}    (hs0 : S[a0]? = some (.inl 4)) {h : MH} (hf : f_X4_distance_25 a0 x1 x2 t0 h = some o) : V l G B N mX4_distance (rmm 3 0 0) false 0 0 (QI S o) S 0 0 25 [(0, .ref a0), (1, .int x1), (2, .int x2)] [.int t0] h := by
  unfold f_X4_distance_25 at hf
  refine V_istore_n (lv' := [(3, .int t0), (0, .ref a0), (1, .int x1), (2, .int x2)]) (pc' := 26) dX4_distance_25 rfl rfl (Nat.le_of_ble_eq_true rfl) rfl ?_
  refine V_iload_n (pc' := 27) dX4_distance_26 rfl 0 rfl rfl ?_
  refine V_if_eq (tgt := 44) (pc' := 30) dX4_distance_27 (by decide) rfl hf (fun hf => ?_) (fun hf => ?_)
  ·
    refine V_ldc (v := 1000000) (pc' := 46) dX4_distance_44 rfl bm_699 ?_
    obtain rfl := Option.some.inj hf
    exact V_iret dX4_distance_46 rfl rfl rfl ⟨rfl, rfl, rfl⟩
  ·
    refine V_aload_n (pc' := 31) dX4_distance_30 rfl 1 rfl rfl ?_
    refine V_getR (pc' := 34) 4 0 dX4_distance_31 rfl (by decide) (Nat.le_of_ble_eq_true rfl) bm_348 hs0 (fun _ _ _ => rfl) rfl hf (fun a_1 ha_1 hf => ?_)
    refine V_iload_n (pc' := 35) dX4_distance_34 rfl 3 rfl rfl ?_
    refine V_bipush (v := 10) (pc' := 37) dX4_distance_35 rfl (by decide) ?_
    refine V_imul (pc' := 38) dX4_distance_37 rfl ?_
    refine V_iload_n (pc' := 39) dX4_distance_38 rfl 2 rfl rfl ?_
    refine V_iadd (pc' := 40) dX4_distance_39 rfl ?_
    refine V_iald (pc' := 41) dX4_distance_40 rfl ha_1 hf (fun x_2 hf => ?_)
    refine V_goto (tgt := 46) dX4_distance_41 (by decide) ?_
    obtain rfl := Option.some.inj hf
    exact V_iret dX4_distance_46 rfl rfl rfl ⟨rfl, rfl, rfl⟩
set_option maxRecDepth 100000 in
set_option maxHeartbeats 4000000 in
theorem v_X4_distance_24 {l : Launch} {G : GE} {B N : Nat} {S : List SHP} {o : Int32 × MH} {a0 : Nat} {x1 : Int32} {x2 : Int32}    (hs0 : S[a0]? = some (.inl 4)) {h : MH} (hf : f_X4_distance_24 a0 x1 x2 h = some o) : V l G B N mX4_distance (rmm 3 0 0) false 0 0 (QI S o) S 0 0 24 [(0, .ref a0), (1, .int x1), (2, .int x2)] [] h := by
  unfold f_X4_distance_24 at hf
  refine V_iconst (v := 0) (pc' := 25) dX4_distance_24 rfl (by decide) ?_
  exact V_sub (lv' := [(0, .ref a0), (1, .int x1), (2, .int x2)]) [0, 1, 2] rfl (v_X4_distance_25 hs0 hf)
set_option maxRecDepth 100000 in
set_option maxHeartbeats 4000000 in
theorem v_X4_distance {l : Launch} {G : GE} {B N : Nat} {S : List SHP} {o : Int32 × MH} {a0 : Nat} {x1 : Int32} {x2 : Int32}    (hs0 : S[a0]? = some (.inl 4)) {h : MH} (hf : f_X4_distance a0 x1 x2 h = some o) : V l G B N mX4_distance (rmm 3 0 0) false 0 0 (QI S o) S 0 0 0 [(0, .ref a0), (1, .int x1), (2, .int x2)] [] h := by
  unfold f_X4_distance at hf
  refine V_iload_n (pc' := 1) dX4_distance_0 rfl 1 rfl rfl ?_
  refine V_if_lt (tgt := 24) (pc' := 4) dX4_distance_1 (by decide) rfl hf (fun hf => ?_) (fun hf => ?_)
  ·
    exact V_sub (lv' := [(0, .ref a0), (1, .int x1), (2, .int x2)]) [0, 1, 2] rfl (v_X4_distance_24 hs0 hf)
  ·
    refine V_iload_n (pc' := 5) dX4_distance_4 rfl 1 rfl rfl ?_
    refine V_bipush (v := 10) (pc' := 7) dX4_distance_5 rfl (by decide) ?_
    refine V_icmp_ge (tgt := 24) (pc' := 10) dX4_distance_7 (by decide) rfl hf (fun hf => ?_) (fun hf => ?_)
    ·
      refine V_iload_n (pc' := 11) dX4_distance_10 rfl 2 rfl rfl ?_
      refine V_if_lt (tgt := 24) (pc' := 14) dX4_distance_11 (by decide) rfl hf (fun hf => ?_) (fun hf => ?_)
      ·
        exact V_sub (lv' := [(0, .ref a0), (1, .int x1), (2, .int x2)]) [0, 1, 2] rfl (v_X4_distance_24 hs0 hf)
      ·
        refine V_iload_n (pc' := 15) dX4_distance_14 rfl 2 rfl rfl ?_
        refine V_bipush (v := 10) (pc' := 17) dX4_distance_15 rfl (by decide) ?_
        refine V_icmp_ge (tgt := 24) (pc' := 20) dX4_distance_17 (by decide) rfl hf (fun hf => ?_) (fun hf => ?_)
        ·
          refine V_iconst (v := 1) (pc' := 21) dX4_distance_20 rfl (by decide) ?_
          refine V_goto (tgt := 25) dX4_distance_21 (by decide) ?_
          exact V_sub (lv' := [(0, .ref a0), (1, .int x1), (2, .int x2)]) [0, 1, 2] rfl (v_X4_distance_25 hs0 hf)
        ·
          exact V_sub (lv' := [(0, .ref a0), (1, .int x1), (2, .int x2)]) [0, 1, 2] rfl (v_X4_distance_24 hs0 hf)
    ·
      exact V_sub (lv' := [(0, .ref a0), (1, .int x1), (2, .int x2)]) [0, 1, 2] rfl (v_X4_distance_24 hs0 hf)
theorem ct_X4_distance {l : Launch} {S : List SHP} {h : MH} {a0 : Nat} {x1 : Int32} {x2 : Int32} (hs0 : S[a0]? = some (.inl 4)) {q : Int32 × MH} (hf : f_X4_distance a0 x1 x2 h = some q) : CT l mX4_distance 3 false 0 0 S [.ref a0, .int x1, .int x2] h (QI S q) :=
  CT_ofV (by decide) rfl (Nat.le_of_ble_eq_true rfl) (fun G B hT => v_X4_distance hs0 hf)
/-! LabelStacks$Routes.countOf(II)J -/
theorem dX4_countOf_0 : decode cX4_countOf 0 = .ok (.iload_n 1, 1) := by decide +kernel
theorem dX4_countOf_1 : decode cX4_countOf 1 = .ok (.ifCond .lt 23, 3) := by decide +kernel
theorem dX4_countOf_4 : decode cX4_countOf 4 = .ok (.iload_n 1, 1) := by decide +kernel
theorem dX4_countOf_5 : decode cX4_countOf 5 = .ok (.bipush 10, 2) := by decide +kernel
theorem dX4_countOf_7 : decode cX4_countOf 7 = .ok (.if_icmp .ge 17, 3) := by decide +kernel
theorem dX4_countOf_10 : decode cX4_countOf 10 = .ok (.iload_n 2, 1) := by decide +kernel
theorem dX4_countOf_11 : decode cX4_countOf 11 = .ok (.ifCond .lt 13, 3) := by decide +kernel
theorem dX4_countOf_14 : decode cX4_countOf 14 = .ok (.iload_n 2, 1) := by decide +kernel
theorem dX4_countOf_15 : decode cX4_countOf 15 = .ok (.bipush 10, 2) := by decide +kernel
theorem dX4_countOf_17 : decode cX4_countOf 17 = .ok (.if_icmp .ge 7, 3) := by decide +kernel
theorem dX4_countOf_20 : decode cX4_countOf 20 = .ok (.iconst 1, 1) := by decide +kernel
theorem dX4_countOf_21 : decode cX4_countOf 21 = .ok (.goto 4, 3) := by decide +kernel
theorem dX4_countOf_24 : decode cX4_countOf 24 = .ok (.iconst 0, 1) := by decide +kernel
theorem dX4_countOf_25 : decode cX4_countOf 25 = .ok (.istore_n 3, 1) := by decide +kernel
theorem dX4_countOf_26 : decode cX4_countOf 26 = .ok (.iload_n 3, 1) := by decide +kernel
theorem dX4_countOf_27 : decode cX4_countOf 27 = .ok (.ifCond .eq 17, 3) := by decide +kernel
theorem dX4_countOf_30 : decode cX4_countOf 30 = .ok (.aload_n 0, 1) := by decide +kernel
theorem dX4_countOf_31 : decode cX4_countOf 31 = .ok (.getfield 15, 3) := by decide +kernel
theorem dX4_countOf_34 : decode cX4_countOf 34 = .ok (.iload_n 2, 1) := by decide +kernel
theorem dX4_countOf_35 : decode cX4_countOf 35 = .ok (.bipush 10, 2) := by decide +kernel
theorem dX4_countOf_37 : decode cX4_countOf 37 = .ok (.imul, 1) := by decide +kernel
theorem dX4_countOf_38 : decode cX4_countOf 38 = .ok (.iload_n 1, 1) := by decide +kernel
theorem dX4_countOf_39 : decode cX4_countOf 39 = .ok (.iadd, 1) := by decide +kernel
theorem dX4_countOf_40 : decode cX4_countOf 40 = .ok (.laload, 1) := by decide +kernel
theorem dX4_countOf_41 : decode cX4_countOf 41 = .ok (.goto 4, 3) := by decide +kernel
theorem dX4_countOf_44 : decode cX4_countOf 44 = .ok (.lconst 0, 1) := by decide +kernel
theorem dX4_countOf_45 : decode cX4_countOf 45 = .ok (.lreturn, 1) := by decide +kernel
abbrev mX4_countOf : MI := (RX4, yX4_countOf, cX4_countOf, 4, (some .long))
theorem mok_X4_countOf : MOKv mX4_countOf 2 := ⟨⟨bm_743, bm_123, ⟨by decide, by decide⟩, by decide +kernel⟩, bm_741, bm_742⟩
def f_X4_countOf_25   (a0 : Nat) (x1 : Int32) (x2 : Int32) (t0 : Int32) (h : MH) : Option (Int64 × MH) :=
  if t0 = 0 then
    some (0, h)
  else
    (gR h a0 1).bind fun a_1 =>
    (ldL h a_1 ((x2 * 10) + x1)).bind fun l_2 =>
    some (l_2, h)
def f_X4_countOf_24   (a0 : Nat) (x1 : Int32) (x2 : Int32) (h : MH) : Option (Int64 × MH) :=
  f_X4_countOf_25 a0 x1 x2 0 h
def f_X4_countOf   (a0 : Nat) (x1 : Int32) (x2 : Int32) (h : MH) : Option (Int64 × MH) :=
  if x1 < 0 then
    f_X4_countOf_24 a0 x1 x2 h
  else
    if x1 < 10 then
      if x2 < 0 then
        f_X4_countOf_24 a0 x1 x2 h
      else
        if x2 < 10 then
          f_X4_countOf_25 a0 x1 x2 1 h
        else
          f_X4_countOf_24 a0 x1 x2 h
    else
      f_X4_countOf_24 a0 x1 x2 h
set_option maxRecDepth 100000 in
set_option maxHeartbeats 4000000 in
theorem v_X4_countOf_25 {l : Launch} {G : GE} {B N : Nat} {S : List SHP} {o : Int64 × MH} {a0 : Nat} {x1 : Int32} {x2 : Int32} {t0 : Int32}    (hs0 : S[a0]? = some (.inl 4)) {h : MH} (hf : f_X4_countOf_25 a0 x1 x2 t0 h = some o) : V l G B N mX4_countOf (rmm 3 0 0) false 0 0 (QL S o) S 0 0 25 [(0, .ref a0), (1, .int x1), (2, .int x2)] [.int t0] h := by
  unfold f_X4_countOf_25 at hf
  refine V_istore_n (lv' := [(3, .int t0), (0, .ref a0), (1, .int x1), (2, .int x2)]) (pc' := 26) dX4_countOf_25 rfl rfl (Nat.le_of_ble_eq_true rfl) rfl ?_
  refine V_iload_n (pc' := 27) dX4_countOf_26 rfl 0 rfl rfl ?_
  refine V_if_eq (tgt := 44) (pc' := 30) dX4_countOf_27 (by decide) rfl hf (fun hf => ?_) (fun hf => ?_)
  ·
    refine V_lconst (v := 0) (pc' := 45) dX4_countOf_44 rfl (by decide) ?_
    obtain rfl := Option.some.inj hf
    exact V_lret dX4_countOf_45 rfl rfl rfl ⟨rfl, rfl, rfl⟩
  ·
    refine V_aload_n (pc' := 31) dX4_countOf_30 rfl 1 rfl rfl ?_
    refine V_getR (pc' := 34) 4 1 dX4_countOf_31 rfl (by decide) (Nat.le_of_ble_eq_true rfl) bm_349 hs0 (fun _ _ _ => rfl) rfl hf (fun a_1 ha_1 hf => ?_)
    refine V_iload_n (pc' := 35) dX4_countOf_34 rfl 3 rfl rfl ?_
    refine V_bipush (v := 10) (pc' := 37) dX4_countOf_35 rfl (by decide) ?_
    refine V_imul (pc' := 38) dX4_countOf_37 rfl ?_
    refine V_iload_n (pc' := 39) dX4_countOf_38 rfl 2 rfl rfl ?_
    refine V_iadd (pc' := 40) dX4_countOf_39 rfl ?_
    refine V_lald (pc' := 41) dX4_countOf_40 rfl ha_1 hf (fun l_2 hf => ?_)
    refine V_goto (tgt := 45) dX4_countOf_41 (by decide) ?_
    obtain rfl := Option.some.inj hf
    exact V_lret dX4_countOf_45 rfl rfl rfl ⟨rfl, rfl, rfl⟩
set_option maxRecDepth 100000 in
set_option maxHeartbeats 4000000 in
theorem v_X4_countOf_24 {l : Launch} {G : GE} {B N : Nat} {S : List SHP} {o : Int64 × MH} {a0 : Nat} {x1 : Int32} {x2 : Int32}    (hs0 : S[a0]? = some (.inl 4)) {h : MH} (hf : f_X4_countOf_24 a0 x1 x2 h = some o) : V l G B N mX4_countOf (rmm 3 0 0) false 0 0 (QL S o) S 0 0 24 [(0, .ref a0), (1, .int x1), (2, .int x2)] [] h := by
  unfold f_X4_countOf_24 at hf
  refine V_iconst (v := 0) (pc' := 25) dX4_countOf_24 rfl (by decide) ?_
  exact V_sub (lv' := [(0, .ref a0), (1, .int x1), (2, .int x2)]) [0, 1, 2] rfl (v_X4_countOf_25 hs0 hf)
set_option maxRecDepth 100000 in
set_option maxHeartbeats 4000000 in
theorem v_X4_countOf {l : Launch} {G : GE} {B N : Nat} {S : List SHP} {o : Int64 × MH} {a0 : Nat} {x1 : Int32} {x2 : Int32}    (hs0 : S[a0]? = some (.inl 4)) {h : MH} (hf : f_X4_countOf a0 x1 x2 h = some o) : V l G B N mX4_countOf (rmm 3 0 0) false 0 0 (QL S o) S 0 0 0 [(0, .ref a0), (1, .int x1), (2, .int x2)] [] h := by
  unfold f_X4_countOf at hf
  refine V_iload_n (pc' := 1) dX4_countOf_0 rfl 1 rfl rfl ?_
  refine V_if_lt (tgt := 24) (pc' := 4) dX4_countOf_1 (by decide) rfl hf (fun hf => ?_) (fun hf => ?_)
  ·
    exact V_sub (lv' := [(0, .ref a0), (1, .int x1), (2, .int x2)]) [0, 1, 2] rfl (v_X4_countOf_24 hs0 hf)
  ·
    refine V_iload_n (pc' := 5) dX4_countOf_4 rfl 1 rfl rfl ?_
    refine V_bipush (v := 10) (pc' := 7) dX4_countOf_5 rfl (by decide) ?_
    refine V_icmp_ge (tgt := 24) (pc' := 10) dX4_countOf_7 (by decide) rfl hf (fun hf => ?_) (fun hf => ?_)
    ·
      refine V_iload_n (pc' := 11) dX4_countOf_10 rfl 2 rfl rfl ?_
      refine V_if_lt (tgt := 24) (pc' := 14) dX4_countOf_11 (by decide) rfl hf (fun hf => ?_) (fun hf => ?_)
      ·
        exact V_sub (lv' := [(0, .ref a0), (1, .int x1), (2, .int x2)]) [0, 1, 2] rfl (v_X4_countOf_24 hs0 hf)
      ·
        refine V_iload_n (pc' := 15) dX4_countOf_14 rfl 2 rfl rfl ?_
        refine V_bipush (v := 10) (pc' := 17) dX4_countOf_15 rfl (by decide) ?_
        refine V_icmp_ge (tgt := 24) (pc' := 20) dX4_countOf_17 (by decide) rfl hf (fun hf => ?_) (fun hf => ?_)
        ·
          refine V_iconst (v := 1) (pc' := 21) dX4_countOf_20 rfl (by decide) ?_
          refine V_goto (tgt := 25) dX4_countOf_21 (by decide) ?_
          exact V_sub (lv' := [(0, .ref a0), (1, .int x1), (2, .int x2)]) [0, 1, 2] rfl (v_X4_countOf_25 hs0 hf)
        ·
          exact V_sub (lv' := [(0, .ref a0), (1, .int x1), (2, .int x2)]) [0, 1, 2] rfl (v_X4_countOf_24 hs0 hf)
    ·
      exact V_sub (lv' := [(0, .ref a0), (1, .int x1), (2, .int x2)]) [0, 1, 2] rfl (v_X4_countOf_24 hs0 hf)
theorem ct_X4_countOf {l : Launch} {S : List SHP} {h : MH} {a0 : Nat} {x1 : Int32} {x2 : Int32} (hs0 : S[a0]? = some (.inl 4)) {q : Int64 × MH} (hf : f_X4_countOf a0 x1 x2 h = some q) : CT l mX4_countOf 3 false 0 0 S [.ref a0, .int x1, .int x2] h (QL S q) :=
  CT_ofV (by decide) rfl (Nat.le_of_ble_eq_true rfl) (fun G B hT => v_X4_countOf hs0 hf)
/-! LabelStacks$Routes.onSet(LLabelStacks$Network;II)I -/
theorem dX4_onSet_0 : decode cX4_onSet 0 = .ok (.aload_n 0, 1) := by decide +kernel
theorem dX4_onSet_1 : decode cX4_onSet 1 = .ok (.iload_n 2, 1) := by decide +kernel
theorem dX4_onSet_2 : decode cX4_onSet 2 = .ok (.iload_n 3, 1) := by decide +kernel
theorem dX4_onSet_3 : decode cX4_onSet 3 = .ok (.invokevirtual 20, 3) := by decide +kernel
theorem dX4_onSet_6 : decode cX4_onSet 6 = .ok (.istore 4, 2) := by decide +kernel
theorem dX4_onSet_8 : decode cX4_onSet 8 = .ok (.iconst 0, 1) := by decide +kernel
theorem dX4_onSet_9 : decode cX4_onSet 9 = .ok (.istore 5, 2) := by decide +kernel
theorem dX4_onSet_11 : decode cX4_onSet 11 = .ok (.iconst 0, 1) := by decide +kernel
theorem dX4_onSet_12 : decode cX4_onSet 12 = .ok (.istore 6, 2) := by decide +kernel
theorem dX4_onSet_14 : decode cX4_onSet 14 = .ok (.iload 6, 2) := by decide +kernel
theorem dX4_onSet_16 : decode cX4_onSet 16 = .ok (.aload_n 1, 1) := by decide +kernel
theorem dX4_onSet_17 : decode cX4_onSet 17 = .ok (.getfield 24, 3) := by decide +kernel
theorem dX4_onSet_20 : decode cX4_onSet 20 = .ok (.if_icmp .ge 85, 3) := by decide +kernel
theorem dX4_onSet_23 : decode cX4_onSet 23 = .ok (.iload 4, 2) := by decide +kernel
theorem dX4_onSet_25 : decode cX4_onSet 25 = .ok (.ldc 19, 2) := by decide +kernel
theorem dX4_onSet_27 : decode cX4_onSet 27 = .ok (.if_icmp .ge 78, 3) := by decide +kernel
theorem dX4_onSet_30 : decode cX4_onSet 30 = .ok (.aload_n 1, 1) := by decide +kernel
theorem dX4_onSet_31 : decode cX4_onSet 31 = .ok (.getfield 30, 3) := by decide +kernel
theorem dX4_onSet_34 : decode cX4_onSet 34 = .ok (.iload 6, 2) := by decide +kernel
theorem dX4_onSet_36 : decode cX4_onSet 36 = .ok (.iaload, 1) := by decide +kernel
theorem dX4_onSet_37 : decode cX4_onSet 37 = .ok (.iload_n 2, 1) := by decide +kernel
theorem dX4_onSet_38 : decode cX4_onSet 38 = .ok (.if_icmp .ne 19, 3) := by decide +kernel
theorem dX4_onSet_41 : decode cX4_onSet 41 = .ok (.aload_n 1, 1) := by decide +kernel
theorem dX4_onSet_42 : decode cX4_onSet 42 = .ok (.getfield 33, 3) := by decide +kernel
theorem dX4_onSet_45 : decode cX4_onSet 45 = .ok (.iload 6, 2) := by decide +kernel
theorem dX4_onSet_47 : decode cX4_onSet 47 = .ok (.iushr, 1) := by decide +kernel
theorem dX4_onSet_48 : decode cX4_onSet 48 = .ok (.iconst 1, 1) := by decide +kernel
theorem dX4_onSet_49 : decode cX4_onSet 49 = .ok (.iand, 1) := by decide +kernel
theorem dX4_onSet_50 : decode cX4_onSet 50 = .ok (.ifCond .eq 7, 3) := by decide +kernel
theorem dX4_onSet_53 : decode cX4_onSet 53 = .ok (.iconst 1, 1) := by decide +kernel
theorem dX4_onSet_54 : decode cX4_onSet 54 = .ok (.goto 4, 3) := by decide +kernel
theorem dX4_onSet_57 : decode cX4_onSet 57 = .ok (.iconst 0, 1) := by decide +kernel
theorem dX4_onSet_58 : decode cX4_onSet 58 = .ok (.istore 7, 2) := by decide +kernel
theorem dX4_onSet_60 : decode cX4_onSet 60 = .ok (.iload 7, 2) := by decide +kernel
theorem dX4_onSet_62 : decode cX4_onSet 62 = .ok (.ifCond .eq 37, 3) := by decide +kernel
theorem dX4_onSet_65 : decode cX4_onSet 65 = .ok (.aload_n 1, 1) := by decide +kernel
theorem dX4_onSet_66 : decode cX4_onSet 66 = .ok (.getfield 36, 3) := by decide +kernel
theorem dX4_onSet_69 : decode cX4_onSet 69 = .ok (.iload 6, 2) := by decide +kernel
theorem dX4_onSet_71 : decode cX4_onSet 71 = .ok (.iaload, 1) := by decide +kernel
theorem dX4_onSet_72 : decode cX4_onSet 72 = .ok (.aload_n 0, 1) := by decide +kernel
theorem dX4_onSet_73 : decode cX4_onSet 73 = .ok (.aload_n 1, 1) := by decide +kernel
theorem dX4_onSet_74 : decode cX4_onSet 74 = .ok (.getfield 39, 3) := by decide +kernel
theorem dX4_onSet_77 : decode cX4_onSet 77 = .ok (.iload 6, 2) := by decide +kernel
theorem dX4_onSet_79 : decode cX4_onSet 79 = .ok (.iaload, 1) := by decide +kernel
theorem dX4_onSet_80 : decode cX4_onSet 80 = .ok (.iload_n 3, 1) := by decide +kernel
theorem dX4_onSet_81 : decode cX4_onSet 81 = .ok (.invokevirtual 20, 3) := by decide +kernel
theorem dX4_onSet_84 : decode cX4_onSet 84 = .ok (.iadd, 1) := by decide +kernel
theorem dX4_onSet_85 : decode cX4_onSet 85 = .ok (.iload 4, 2) := by decide +kernel
theorem dX4_onSet_87 : decode cX4_onSet 87 = .ok (.if_icmp .ne 12, 3) := by decide +kernel
theorem dX4_onSet_90 : decode cX4_onSet 90 = .ok (.iload 5, 2) := by decide +kernel
theorem dX4_onSet_92 : decode cX4_onSet 92 = .ok (.iconst 1, 1) := by decide +kernel
theorem dX4_onSet_93 : decode cX4_onSet 93 = .ok (.iload 6, 2) := by decide +kernel
theorem dX4_onSet_95 : decode cX4_onSet 95 = .ok (.ishl, 1) := by decide +kernel
theorem dX4_onSet_96 : decode cX4_onSet 96 = .ok (.ior, 1) := by decide +kernel
theorem dX4_onSet_97 : decode cX4_onSet 97 = .ok (.istore 5, 2) := by decide +kernel
theorem dX4_onSet_99 : decode cX4_onSet 99 = .ok (.iinc 6 1, 3) := by decide +kernel
theorem dX4_onSet_102 : decode cX4_onSet 102 = .ok (.goto (-88), 3) := by decide +kernel
theorem dX4_onSet_105 : decode cX4_onSet 105 = .ok (.iload 5, 2) := by decide +kernel
theorem dX4_onSet_107 : decode cX4_onSet 107 = .ok (.ireturn, 1) := by decide +kernel
abbrev mX4_onSet : MI := (RX4, yX4_onSet, cX4_onSet, 8, (some .int))
theorem mok_X4_onSet : MOKv mX4_onSet 3 := ⟨⟨bm_812, bm_123, ⟨by decide, by decide⟩, by decide +kernel⟩, bm_810, bm_811⟩
def f_X4_onSet_99  (k14 : Int32 × Int32 → MH → Option (Int32 × MH)) (a0 : Nat) (a1 : Nat) (x2 : Int32) (x3 : Int32) (x4 : Int32) (x5 : Int32) (x6 : Int32) (h : MH) : Option (Int32 × MH) :=
  k14 (x5, (x6 + 1)) h
def f_X4_onSet_58  (k14 : Int32 × Int32 → MH → Option (Int32 × MH)) (a0 : Nat) (a1 : Nat) (x2 : Int32) (x3 : Int32) (x4 : Int32) (x5 : Int32) (x6 : Int32) (t0 : Int32) (h : MH) : Option (Int32 × MH) :=
  if t0 = 0 then
    f_X4_onSet_99 k14 a0 a1 x2 x3 x4 x5 x6 h
  else
    (gR h a1 5).bind fun a_1 =>
    (ldI h a_1 x6).bind fun x_2 =>
    (gR h a1 4).bind fun a_3 =>
    (ldI h a_3 x6).bind fun x_4 =>
    (f_X4_distance a0 x_4 x3 h).bind fun q_5 =>
    if (x_2 + q_5.1) = x4 then
      lt (x5 ||| ((1 : Int32) <<< (x6 &&& 31))) fun x_6 =>
      f_X4_onSet_99 k14 a0 a1 x2 x3 x4 x_6 x6 q_5.2
    else
      f_X4_onSet_99 k14 a0 a1 x2 x3 x4 x5 x6 q_5.2
def f_X4_onSet_57  (k14 : Int32 × Int32 → MH → Option (Int32 × MH)) (a0 : Nat) (a1 : Nat) (x2 : Int32) (x3 : Int32) (x4 : Int32) (x5 : Int32) (x6 : Int32) (h : MH) : Option (Int32 × MH) :=
  f_X4_onSet_58 k14 a0 a1 x2 x3 x4 x5 x6 0 h
def f_X4_onSet_14b   (a0 : Nat) (a1 : Nat) (x2 : Int32) (x3 : Int32) (x4 : Int32) (k14 : Int32 × Int32 → MH → Option (Int32 × MH)) (p : Int32 × Int32) (h : MH) : Option (Int32 × MH) :=
  if p.2 < (gI h a1 1) then
    if x4 < 1000000 then
      (gR h a1 3).bind fun a_1 =>
      (ldI h a_1 p.2).bind fun x_2 =>
      if x_2 = x2 then
        if ((ush (gI h a1 2) p.2) &&& 1) = 0 then
          f_X4_onSet_57 k14 a0 a1 x2 x3 x4 p.1 p.2 h
        else
          f_X4_onSet_58 k14 a0 a1 x2 x3 x4 p.1 p.2 1 h
      else
        f_X4_onSet_57 k14 a0 a1 x2 x3 x4 p.1 p.2 h
    else
      some (p.1, h)
  else
    some (p.1, h)
def f_X4_onSet_14   (a0 : Nat) (a1 : Nat) (x2 : Int32) (x3 : Int32) (x4 : Int32) : Nat → Int32 × Int32 → MH → Option (Int32 × MH) := lp (f_X4_onSet_14b a0 a1 x2 x3 x4)
def f_X4_onSet   (a0 : Nat) (a1 : Nat) (x2 : Int32) (x3 : Int32) (h : MH) : Option (Int32 × MH) :=
  (f_X4_distance a0 x2 x3 h).bind fun q_1 =>
  f_X4_onSet_14 a0 a1 x2 x3 q_1.1 FU (0, 0) q_1.2
set_option maxRecDepth 100000 in
set_option maxHeartbeats 4000000 in
theorem v_X4_onSet_99 {l : Launch} {G : GE} {B N : Nat} {S : List SHP} {o : Int32 × MH} {a0 : Nat} {a1 : Nat} {x2 : Int32} {x3 : Int32} {x4 : Int32} {x5 : Int32} {x6 : Int32}  {k14 : Int32 × Int32 → MH → Option (Int32 × MH)} (hk14 : ∀ (p : Int32 × Int32) (h : MH), k14 p h = some o → V l G B N mX4_onSet (rmm 4 0 0) false 0 0 (QI S o) S 0 0 14 [(0, .ref a0), (1, .ref a1), (2, .int x2), (3, .int x3), (4, .int x4), (5, .int p.1), (6, .int p.2)] [] h) (hs0 : S[a0]? = some (.inl 4)) (hs1 : S[a1]? = some (.inl 2)) {h : MH} (hf : f_X4_onSet_99 k14 a0 a1 x2 x3 x4 x5 x6 h = some o) : V l G B N mX4_onSet (rmm 4 0 0) false 0 0 (QI S o) S 0 0 99 [(0, .ref a0), (1, .ref a1), (2, .int x2), (3, .int x3), (4, .int x4), (5, .int x5), (6, .int x6)] [] h := by
  unfold f_X4_onSet_99 at hf
  refine V_iinc (v := (x6 + 1)) (lv' := [(6, .int (x6 + 1)), (0, .ref a0), (1, .ref a1), (2, .int x2), (3, .int x3), (4, .int x4), (5, .int x5)]) (pc' := 102) dX4_onSet_99 rfl 6 rfl rfl (Nat.le_of_ble_eq_true rfl) rfl ?_
  refine V_goto (tgt := 14) dX4_onSet_102 (by decide) ?_
  exact V_sub (lv' := [(0, .ref a0), (1, .ref a1), (2, .int x2), (3, .int x3), (4, .int x4), (5, .int x5), (6, .int (x6 + 1))]) [1, 2, 3, 4, 5, 6, 0] rfl (hk14 (x5, (x6 + 1)) h hf)
set_option maxRecDepth 100000 in
set_option maxHeartbeats 4000000 in
theorem v_X4_onSet_58 {l : Launch} {G : GE} {B N : Nat} {S : List SHP} {o : Int32 × MH} {a0 : Nat} {a1 : Nat} {x2 : Int32} {x3 : Int32} {x4 : Int32} {x5 : Int32} {x6 : Int32} {t0 : Int32}  {k14 : Int32 × Int32 → MH → Option (Int32 × MH)} (hk14 : ∀ (p : Int32 × Int32) (h : MH), k14 p h = some o → V l G B N mX4_onSet (rmm 4 0 0) false 0 0 (QI S o) S 0 0 14 [(0, .ref a0), (1, .ref a1), (2, .int x2), (3, .int x3), (4, .int x4), (5, .int p.1), (6, .int p.2)] [] h) (hs0 : S[a0]? = some (.inl 4)) (hs1 : S[a1]? = some (.inl 2)) {h : MH} (hf : f_X4_onSet_58 k14 a0 a1 x2 x3 x4 x5 x6 t0 h = some o) : V l G B N mX4_onSet (rmm 4 0 0) false 0 0 (QI S o) S 0 0 58 [(0, .ref a0), (1, .ref a1), (2, .int x2), (3, .int x3), (4, .int x4), (5, .int x5), (6, .int x6)] [.int t0] h := by
  unfold f_X4_onSet_58 at hf
  refine V_istore (lv' := [(7, .int t0), (0, .ref a0), (1, .ref a1), (2, .int x2), (3, .int x3), (4, .int x4), (5, .int x5), (6, .int x6)]) (pc' := 60) dX4_onSet_58 rfl (Nat.le_of_ble_eq_true rfl) rfl ?_
  refine V_iload (pc' := 62) dX4_onSet_60 rfl 0 rfl ?_
  refine V_if_eq (tgt := 99) (pc' := 65) dX4_onSet_62 (by decide) rfl hf (fun hf => ?_) (fun hf => ?_)
  ·
    exact V_sub (lv' := [(0, .ref a0), (1, .ref a1), (2, .int x2), (3, .int x3), (4, .int x4), (5, .int x5), (6, .int x6)]) [1, 2, 3, 4, 5, 6, 7] rfl (v_X4_onSet_99 hk14 hs0 hs1 hf)
  ·
    refine V_aload_n (pc' := 66) dX4_onSet_65 rfl 2 rfl rfl ?_
    refine V_getR (pc' := 69) 2 5 dX4_onSet_66 rfl (by decide) (Nat.le_of_ble_eq_true rfl) bm_208 hs1 (fun _ _ _ => rfl) rfl hf (fun a_1 ha_1 hf => ?_)
    refine V_iload (pc' := 71) dX4_onSet_69 rfl 7 rfl ?_
    refine V_iald (pc' := 72) dX4_onSet_71 rfl ha_1 hf (fun x_2 hf => ?_)
    refine V_aload_n (pc' := 73) dX4_onSet_72 rfl 1 rfl rfl ?_
    refine V_aload_n (pc' := 74) dX4_onSet_73 rfl 2 rfl rfl ?_
    refine V_getR (pc' := 77) 2 4 dX4_onSet_74 rfl (by decide) (Nat.le_of_ble_eq_true rfl) bm_203 hs1 (fun _ _ _ => rfl) rfl hf (fun a_3 ha_3 hf => ?_)
    refine V_iload (pc' := 79) dX4_onSet_77 rfl 7 rfl ?_
    refine V_iald (pc' := 80) dX4_onSet_79 rfl ha_3 hf (fun x_4 hf => ?_)
    refine V_iload_n (pc' := 81) dX4_onSet_80 rfl 4 rfl rfl ?_
    refine V_cvI (pc' := 84) (As := [.int x_4, .int x3]) (rest := [.int x_2]) dX4_onSet_81 rfl mok_X4_distance bm_813 4 (by decide) rfl hs0 rfl rfl (Nat.le_of_ble_eq_true rfl) (by decide) hf (fun q e => ct_X4_distance hs0 e) (fun q_5 hf => ?_)
    refine V_iadd (pc' := 85) dX4_onSet_84 rfl ?_
    refine V_iload (pc' := 87) dX4_onSet_85 rfl 5 rfl ?_
    refine V_icmp_ne (tgt := 99) (pc' := 90) dX4_onSet_87 (by decide) rfl hf (fun hf => ?_) (fun hf => ?_)
    ·
      refine V_iload (pc' := 92) dX4_onSet_90 rfl 6 rfl ?_
      refine V_iconst (v := 1) (pc' := 93) dX4_onSet_92 rfl (by decide) ?_
      refine V_iload (pc' := 95) dX4_onSet_93 rfl 7 rfl ?_
      refine V_ishl (pc' := 96) dX4_onSet_95 rfl ?_
      refine V_ior (pc' := 97) dX4_onSet_96 rfl ?_
      refine V_nmI hf (fun x_6 hf => ?_)
      refine V_istore (lv' := [(5, .int x_6), (7, .int t0), (0, .ref a0), (1, .ref a1), (2, .int x2), (3, .int x3), (4, .int x4), (6, .int x6)]) (pc' := 99) dX4_onSet_97 rfl (Nat.le_of_ble_eq_true rfl) rfl ?_
      exact V_sub (lv' := [(0, .ref a0), (1, .ref a1), (2, .int x2), (3, .int x3), (4, .int x4), (5, .int x_6), (6, .int x6)]) [2, 3, 4, 5, 6, 0, 7] rfl (v_X4_onSet_99 hk14 hs0 hs1 hf)
    ·
      exact V_sub (lv' := [(0, .ref a0), (1, .ref a1), (2, .int x2), (3, .int x3), (4, .int x4), (5, .int x5), (6, .int x6)]) [1, 2, 3, 4, 5, 6, 7] rfl (v_X4_onSet_99 hk14 hs0 hs1 hf)
set_option maxRecDepth 100000 in
set_option maxHeartbeats 4000000 in
theorem v_X4_onSet_57 {l : Launch} {G : GE} {B N : Nat} {S : List SHP} {o : Int32 × MH} {a0 : Nat} {a1 : Nat} {x2 : Int32} {x3 : Int32} {x4 : Int32} {x5 : Int32} {x6 : Int32}  {k14 : Int32 × Int32 → MH → Option (Int32 × MH)} (hk14 : ∀ (p : Int32 × Int32) (h : MH), k14 p h = some o → V l G B N mX4_onSet (rmm 4 0 0) false 0 0 (QI S o) S 0 0 14 [(0, .ref a0), (1, .ref a1), (2, .int x2), (3, .int x3), (4, .int x4), (5, .int p.1), (6, .int p.2)] [] h) (hs0 : S[a0]? = some (.inl 4)) (hs1 : S[a1]? = some (.inl 2)) {h : MH} (hf : f_X4_onSet_57 k14 a0 a1 x2 x3 x4 x5 x6 h = some o) : V l G B N mX4_onSet (rmm 4 0 0) false 0 0 (QI S o) S 0 0 57 [(0, .ref a0), (1, .ref a1), (2, .int x2), (3, .int x3), (4, .int x4), (5, .int x5), (6, .int x6)] [] h := by
  unfold f_X4_onSet_57 at hf
  refine V_iconst (v := 0) (pc' := 58) dX4_onSet_57 rfl (by decide) ?_
  exact V_sub (lv' := [(0, .ref a0), (1, .ref a1), (2, .int x2), (3, .int x3), (4, .int x4), (5, .int x5), (6, .int x6)]) [0, 1, 2, 3, 4, 5, 6] rfl (v_X4_onSet_58 hk14 hs0 hs1 hf)
set_option maxRecDepth 100000 in
set_option maxHeartbeats 4000000 in
theorem v_X4_onSet_14b {l : Launch} {G : GE} {B N : Nat} {S : List SHP} {o : Int32 × MH} {a0 : Nat} {a1 : Nat} {x2 : Int32} {x3 : Int32} {x4 : Int32}    (hs0 : S[a0]? = some (.inl 4)) (hs1 : S[a1]? = some (.inl 2)) {k14 : Int32 × Int32 → MH → Option (Int32 × MH)} (hk14 : ∀ (p : Int32 × Int32) (h : MH), k14 p h = some o → V l G B N mX4_onSet (rmm 4 0 0) false 0 0 (QI S o) S 0 0 14 [(0, .ref a0), (1, .ref a1), (2, .int x2), (3, .int x3), (4, .int x4), (5, .int p.1), (6, .int p.2)] [] h) {p : Int32 × Int32} {h : MH} (hf : f_X4_onSet_14b a0 a1 x2 x3 x4 k14 p h = some o) : V l G B N mX4_onSet (rmm 4 0 0) false 0 0 (QI S o) S 0 0 14 [(0, .ref a0), (1, .ref a1), (2, .int x2), (3, .int x3), (4, .int x4), (5, .int p.1), (6, .int p.2)] [] h := by
  unfold f_X4_onSet_14b at hf
  refine V_iload (pc' := 16) dX4_onSet_14 rfl 6 rfl ?_
  refine V_aload_n (pc' := 17) dX4_onSet_16 rfl 1 rfl rfl ?_
  refine V_getI (pc' := 20) 2 1 dX4_onSet_17 rfl (by decide) (Nat.le_of_ble_eq_true rfl) bm_190 hs1 (fun _ _ _ => rfl) ?_
  refine V_icmp_ge (tgt := 105) (pc' := 23) dX4_onSet_20 (by decide) rfl hf (fun hf => ?_) (fun hf => ?_)
  ·
    refine V_iload (pc' := 25) dX4_onSet_23 rfl 4 rfl ?_
    refine V_ldc (v := 1000000) (pc' := 27) dX4_onSet_25 rfl bm_699 ?_
    refine V_icmp_ge (tgt := 105) (pc' := 30) dX4_onSet_27 (by decide) rfl hf (fun hf => ?_) (fun hf => ?_)
    ·
      refine V_aload_n (pc' := 31) dX4_onSet_30 rfl 1 rfl rfl ?_
      refine V_getR (pc' := 34) 2 3 dX4_onSet_31 rfl (by decide) (Nat.le_of_ble_eq_true rfl) bm_198 hs1 (fun _ _ _ => rfl) rfl hf (fun a_1 ha_1 hf => ?_)
      refine V_iload (pc' := 36) dX4_onSet_34 rfl 6 rfl ?_
      refine V_iald (pc' := 37) dX4_onSet_36 rfl ha_1 hf (fun x_2 hf => ?_)
      refine V_iload_n (pc' := 38) dX4_onSet_37 rfl 2 rfl rfl ?_
      refine V_icmp_ne (tgt := 57) (pc' := 41) dX4_onSet_38 (by decide) rfl hf (fun hf => ?_) (fun hf => ?_)
      ·
        refine V_aload_n (pc' := 42) dX4_onSet_41 rfl 1 rfl rfl ?_
        refine V_getI (pc' := 45) 2 2 dX4_onSet_42 rfl (by decide) (Nat.le_of_ble_eq_true rfl) bm_195 hs1 (fun _ _ _ => rfl) ?_
        refine V_iload (pc' := 47) dX4_onSet_45 rfl 6 rfl ?_
        refine V_iushr (pc' := 48) dX4_onSet_47 rfl ?_
        refine V_iconst (v := 1) (pc' := 49) dX4_onSet_48 rfl (by decide) ?_
        refine V_iand (pc' := 50) dX4_onSet_49 rfl ?_
        refine V_if_eq (tgt := 57) (pc' := 53) dX4_onSet_50 (by decide) rfl hf (fun hf => ?_) (fun hf => ?_)
        ·
          exact V_sub (lv' := [(0, .ref a0), (1, .ref a1), (2, .int x2), (3, .int x3), (4, .int x4), (5, .int p.1), (6, .int p.2)]) [0, 1, 2, 3, 4, 5, 6] rfl (v_X4_onSet_57 hk14 hs0 hs1 hf)
        ·
          refine V_iconst (v := 1) (pc' := 54) dX4_onSet_53 rfl (by decide) ?_
          refine V_goto (tgt := 58) dX4_onSet_54 (by decide) ?_
          exact V_sub (lv' := [(0, .ref a0), (1, .ref a1), (2, .int x2), (3, .int x3), (4, .int x4), (5, .int p.1), (6, .int p.2)]) [0, 1, 2, 3, 4, 5, 6] rfl (v_X4_onSet_58 hk14 hs0 hs1 hf)
      ·
        exact V_sub (lv' := [(0, .ref a0), (1, .ref a1), (2, .int x2), (3, .int x3), (4, .int x4), (5, .int p.1), (6, .int p.2)]) [0, 1, 2, 3, 4, 5, 6] rfl (v_X4_onSet_57 hk14 hs0 hs1 hf)
    ·
      refine V_iload (pc' := 107) dX4_onSet_105 rfl 5 rfl ?_
      obtain rfl := Option.some.inj hf
      exact V_iret dX4_onSet_107 rfl rfl rfl ⟨rfl, rfl, rfl⟩
  ·
    refine V_iload (pc' := 107) dX4_onSet_105 rfl 5 rfl ?_
    obtain rfl := Option.some.inj hf
    exact V_iret dX4_onSet_107 rfl rfl rfl ⟨rfl, rfl, rfl⟩
theorem v_X4_onSet_14 {l : Launch} {G : GE} {B N : Nat} {S : List SHP} {o : Int32 × MH} {a0 : Nat} {a1 : Nat} {x2 : Int32} {x3 : Int32} {x4 : Int32}    (hs0 : S[a0]? = some (.inl 4)) (hs1 : S[a1]? = some (.inl 2)) {n : Nat} {p : Int32 × Int32} {h : MH} (hf : f_X4_onSet_14 a0 a1 x2 x3 x4 n p h = some o) : V l G B N mX4_onSet (rmm 4 0 0) false 0 0 (QI S o) S 0 0 14 [(0, .ref a0), (1, .ref a1), (2, .int x2), (3, .int x3), (4, .int x4), (5, .int p.1), (6, .int p.2)] [] h :=
  V_lp (VV := fun p h => V l G B N mX4_onSet (rmm 4 0 0) false 0 0 (QI S o) S 0 0 14 [(0, .ref a0), (1, .ref a1), (2, .int x2), (3, .int x3), (4, .int x4), (5, .int p.1), (6, .int p.2)] [] h) (fun _ hk _ _ hf => v_X4_onSet_14b hs0 hs1 hk hf) n p h hf
set_option maxRecDepth 100000 in
set_option maxHeartbeats 4000000 in
theorem v_X4_onSet {l : Launch} {G : GE} {B N : Nat} {S : List SHP} {o : Int32 × MH} {a0 : Nat} {a1 : Nat} {x2 : Int32} {x3 : Int32}    (hs0 : S[a0]? = some (.inl 4)) (hs1 : S[a1]? = some (.inl 2)) {h : MH} (hf : f_X4_onSet a0 a1 x2 x3 h = some o) : V l G B N mX4_onSet (rmm 4 0 0) false 0 0 (QI S o) S 0 0 0 [(0, .ref a0), (1, .ref a1), (2, .int x2), (3, .int x3)] [] h := by
  unfold f_X4_onSet at hf
  refine V_aload_n (pc' := 1) dX4_onSet_0 rfl 0 rfl rfl ?_
  refine V_iload_n (pc' := 2) dX4_onSet_1 rfl 2 rfl rfl ?_
  refine V_iload_n (pc' := 3) dX4_onSet_2 rfl 3 rfl rfl ?_
  refine V_cvI (pc' := 6) (As := [.int x2, .int x3]) (rest := []) dX4_onSet_3 rfl mok_X4_distance bm_813 4 (by decide) rfl hs0 rfl rfl (Nat.le_of_ble_eq_true rfl) (by decide) hf (fun q e => ct_X4_distance hs0 e) (fun q_1 hf => ?_)
  refine V_istore (lv' := [(4, .int q_1.1), (0, .ref a0), (1, .ref a1), (2, .int x2), (3, .int x3)]) (pc' := 8) dX4_onSet_6 rfl (Nat.le_of_ble_eq_true rfl) rfl ?_
  refine V_iconst (v := 0) (pc' := 9) dX4_onSet_8 rfl (by decide) ?_
  refine V_istore (lv' := [(5, .int 0), (4, .int q_1.1), (0, .ref a0), (1, .ref a1), (2, .int x2), (3, .int x3)]) (pc' := 11) dX4_onSet_9 rfl (Nat.le_of_ble_eq_true rfl) rfl ?_
  refine V_iconst (v := 0) (pc' := 12) dX4_onSet_11 rfl (by decide) ?_
  refine V_istore (lv' := [(6, .int 0), (5, .int 0), (4, .int q_1.1), (0, .ref a0), (1, .ref a1), (2, .int x2), (3, .int x3)]) (pc' := 14) dX4_onSet_12 rfl (Nat.le_of_ble_eq_true rfl) rfl ?_
  exact V_sub (lv' := [(0, .ref a0), (1, .ref a1), (2, .int x2), (3, .int x3), (4, .int q_1.1), (5, .int 0), (6, .int 0)]) [3, 4, 5, 6, 2, 1, 0] rfl (v_X4_onSet_14 hs0 hs1 hf)
theorem ct_X4_onSet {l : Launch} {S : List SHP} {h : MH} {a0 : Nat} {a1 : Nat} {x2 : Int32} {x3 : Int32} (hs0 : S[a0]? = some (.inl 4)) (hs1 : S[a1]? = some (.inl 2)) {q : Int32 × MH} (hf : f_X4_onSet a0 a1 x2 x3 h = some q) : CT l mX4_onSet 4 false 0 0 S [.ref a0, .ref a1, .int x2, .int x3] h (QI S q) :=
  CT_ofV (by decide) rfl (Nat.le_of_ble_eq_true rfl) (fun G B hT => v_X4_onSet hs0 hs1 hf)
/-! LabelStacks$Routes.nearest(II)I -/
theorem dX4_nearest_0 : decode cX4_nearest 0 = .ok (.iconst (-1), 1) := by decide +kernel
theorem dX4_nearest_1 : decode cX4_nearest 1 = .ok (.istore_n 3, 1) := by decide +kernel
theorem dX4_nearest_2 : decode cX4_nearest 2 = .ok (.ldc 19, 2) := by decide +kernel
theorem dX4_nearest_4 : decode cX4_nearest 4 = .ok (.istore 4, 2) := by decide +kernel
theorem dX4_nearest_6 : decode cX4_nearest 6 = .ok (.iconst 0, 1) := by decide +kernel
theorem dX4_nearest_7 : decode cX4_nearest 7 = .ok (.istore 5, 2) := by decide +kernel
theorem dX4_nearest_9 : decode cX4_nearest 9 = .ok (.iload 5, 2) := by decide +kernel
theorem dX4_nearest_11 : decode cX4_nearest 11 = .ok (.bipush 10, 2) := by decide +kernel
theorem dX4_nearest_13 : decode cX4_nearest 13 = .ok (.if_icmp .ge 46, 3) := by decide +kernel
theorem dX4_nearest_16 : decode cX4_nearest 16 = .ok (.iload_n 2, 1) := by decide +kernel
theorem dX4_nearest_17 : decode cX4_nearest 17 = .ok (.iload 5, 2) := by decide +kernel
theorem dX4_nearest_19 : decode cX4_nearest 19 = .ok (.iushr, 1) := by decide +kernel
theorem dX4_nearest_20 : decode cX4_nearest 20 = .ok (.iconst 1, 1) := by decide +kernel
theorem dX4_nearest_21 : decode cX4_nearest 21 = .ok (.iand, 1) := by decide +kernel
theorem dX4_nearest_22 : decode cX4_nearest 22 = .ok (.ifCond .eq 31, 3) := by decide +kernel
theorem dX4_nearest_25 : decode cX4_nearest 25 = .ok (.aload_n 0, 1) := by decide +kernel
theorem dX4_nearest_26 : decode cX4_nearest 26 = .ok (.getfield 9, 3) := by decide +kernel
theorem dX4_nearest_29 : decode cX4_nearest 29 = .ok (.iload_n 1, 1) := by decide +kernel
theorem dX4_nearest_30 : decode cX4_nearest 30 = .ok (.iload 5, 2) := by decide +kernel
theorem dX4_nearest_32 : decode cX4_nearest 32 = .ok (.iadd, 1) := by decide +kernel
theorem dX4_nearest_33 : decode cX4_nearest 33 = .ok (.iaload, 1) := by decide +kernel
theorem dX4_nearest_34 : decode cX4_nearest 34 = .ok (.iload 4, 2) := by decide +kernel
theorem dX4_nearest_36 : decode cX4_nearest 36 = .ok (.if_icmp .ge 17, 3) := by decide +kernel
theorem dX4_nearest_39 : decode cX4_nearest 39 = .ok (.iload 5, 2) := by decide +kernel
theorem dX4_nearest_41 : decode cX4_nearest 41 = .ok (.istore_n 3, 1) := by decide +kernel
theorem dX4_nearest_42 : decode cX4_nearest 42 = .ok (.aload_n 0, 1) := by decide +kernel
theorem dX4_nearest_43 : decode cX4_nearest 43 = .ok (.getfield 9, 3) := by decide +kernel
theorem dX4_nearest_46 : decode cX4_nearest 46 = .ok (.iload_n 1, 1) := by decide +kernel
theorem dX4_nearest_47 : decode cX4_nearest 47 = .ok (.iload 5, 2) := by decide +kernel
theorem dX4_nearest_49 : decode cX4_nearest 49 = .ok (.iadd, 1) := by decide +kernel
theorem dX4_nearest_50 : decode cX4_nearest 50 = .ok (.iaload, 1) := by decide +kernel
theorem dX4_nearest_51 : decode cX4_nearest 51 = .ok (.istore 4, 2) := by decide +kernel
theorem dX4_nearest_53 : decode cX4_nearest 53 = .ok (.iinc 5 1, 3) := by decide +kernel
theorem dX4_nearest_56 : decode cX4_nearest 56 = .ok (.goto (-47), 3) := by decide +kernel
theorem dX4_nearest_59 : decode cX4_nearest 59 = .ok (.iload_n 3, 1) := by decide +kernel
theorem dX4_nearest_60 : decode cX4_nearest 60 = .ok (.ireturn, 1) := by decide +kernel
abbrev mX4_nearest : MI := (RX4, yX4_nearest, cX4_nearest, 6, (some .int))
theorem mok_X4_nearest : MOKv mX4_nearest 2 := ⟨⟨bm_703, bm_123, ⟨by decide, by decide⟩, by decide +kernel⟩, bm_702, bm_5⟩
def f_X4_nearest_53  (k9 : Int32 × Int32 × Int32 → MH → Option (Int32 × MH)) (a0 : Nat) (x1 : Int32) (x2 : Int32) (x3 : Int32) (x4 : Int32) (x5 : Int32) (h : MH) : Option (Int32 × MH) :=
  k9 (x3, x4, (x5 + 1)) h
def f_X4_nearest_9b   (a0 : Nat) (x1 : Int32) (x2 : Int32) (k9 : Int32 × Int32 × Int32 → MH → Option (Int32 × MH)) (p : Int32 × Int32 × Int32) (h : MH) : Option (Int32 × MH) :=
  if p.2.2 < 10 then
    if ((ush x2 p.2.2) &&& 1) = 0 then
      f_X4_nearest_53 k9 a0 x1 x2 p.1 p.2.1 p.2.2 h
    else
      (gR h a0 0).bind fun a_1 =>
      (ldI h a_1 (x1 + p.2.2)).bind fun x_2 =>
      if x_2 < p.2.1 then
        (gR h a0 0).bind fun a_3 =>
        (ldI h a_3 (x1 + p.2.2)).bind fun x_4 =>
        f_X4_nearest_53 k9 a0 x1 x2 p.2.2 x_4 p.2.2 h
      else
        f_X4_nearest_53 k9 a0 x1 x2 p.1 p.2.1 p.2.2 h
  else
    some (p.1, h)
def f_X4_nearest_9   (a0 : Nat) (x1 : Int32) (x2 : Int32) : Nat → Int32 × Int32 × Int32 → MH → Option (Int32 × MH) := lp (f_X4_nearest_9b a0 x1 x2)
def f_X4_nearest   (a0 : Nat) (x1 : Int32) (x2 : Int32) (h : MH) : Option (Int32 × MH) :=
  f_X4_nearest_9 a0 x1 x2 FU ((-1 : Int32), 1000000, 0) h
set_option maxRecDepth 100000 in
set_option maxHeartbeats 4000000 in
theorem v_X4_nearest_53 {l : Launch} {G : GE} {B N : Nat} {S : List SHP} {o : Int32 × MH} {a0 : Nat} {x1 : Int32} {x2 : Int32} {x3 : Int32} {x4 : Int32} {x5 : Int32}  {k9 : Int32 × Int32 × Int32 → MH → Option (Int32 × MH)} (hk9 : ∀ (p : Int32 × Int32 × Int32) (h : MH), k9 p h = some o → V l G B N mX4_nearest (rmm 3 0 0) false 0 0 (QI S o) S 0 0 9 [(0, .ref a0), (1, .int x1), (2, .int x2), (3, .int p.1), (4, .int p.2.1), (5, .int p.2.2)] [] h) (hs0 : S[a0]? = some (.inl 4)) {h : MH} (hf : f_X4_nearest_53 k9 a0 x1 x2 x3 x4 x5 h = some o) : V l G B N mX4_nearest (rmm 3 0 0) false 0 0 (QI S o) S 0 0 53 [(0, .ref a0), (1, .int x1), (2, .int x2), (3, .int x3), (4, .int x4), (5, .int x5)] [] h := by
  unfold f_X4_nearest_53 at hf
  refine V_iinc (v := (x5 + 1)) (lv' := [(5, .int (x5 + 1)), (0, .ref a0), (1, .int x1), (2, .int x2), (3, .int x3), (4, .int x4)]) (pc' := 56) dX4_nearest_53 rfl 5 rfl rfl (Nat.le_of_ble_eq_true rfl) rfl ?_
  refine V_goto (tgt := 9) dX4_nearest_56 (by decide) ?_
  exact V_sub (lv' := [(0, .ref a0), (1, .int x1), (2, .int x2), (3, .int x3), (4, .int x4), (5, .int (x5 + 1))]) [1, 2, 3, 4, 5, 0] rfl (hk9 (x3, x4, (x5 + 1)) h hf)
set_option maxRecDepth 100000 in
set_option maxHeartbeats 4000000 in
theorem v_X4_nearest_9b {l : Launch} {G : GE} {B N : Nat} {S : List SHP} {o : Int32 × MH} {a0 : Nat} {x1 : Int32} {x2 : Int32}    (hs0 : S[a0]? = some (.inl 4)) {k9 : Int32 × Int32 × Int32 → MH → Option (Int32 × MH)} (hk9 : ∀ (p : Int32 × Int32 × Int32) (h : MH), k9 p h = some o → V l G B N mX4_nearest (rmm 3 0 0) false 0 0 (QI S o) S 0 0 9 [(0, .ref a0), (1, .int x1), (2, .int x2), (3, .int p.1), (4, .int p.2.1), (5, .int p.2.2)] [] h) {p : Int32 × Int32 × Int32} {h : MH} (hf : f_X4_nearest_9b a0 x1 x2 k9 p h = some o) : V l G B N mX4_nearest (rmm 3 0 0) false 0 0 (QI S o) S 0 0 9 [(0, .ref a0), (1, .int x1), (2, .int x2), (3, .int p.1), (4, .int p.2.1), (5, .int p.2.2)] [] h := by
  unfold f_X4_nearest_9b at hf
  refine V_iload (pc' := 11) dX4_nearest_9 rfl 5 rfl ?_
  refine V_bipush (v := 10) (pc' := 13) dX4_nearest_11 rfl (by decide) ?_
  refine V_icmp_ge (tgt := 59) (pc' := 16) dX4_nearest_13 (by decide) rfl hf (fun hf => ?_) (fun hf => ?_)
  ·
    refine V_iload_n (pc' := 17) dX4_nearest_16 rfl 2 rfl rfl ?_
    refine V_iload (pc' := 19) dX4_nearest_17 rfl 5 rfl ?_
    refine V_iushr (pc' := 20) dX4_nearest_19 rfl ?_
    refine V_iconst (v := 1) (pc' := 21) dX4_nearest_20 rfl (by decide) ?_
    refine V_iand (pc' := 22) dX4_nearest_21 rfl ?_
    refine V_if_eq (tgt := 53) (pc' := 25) dX4_nearest_22 (by decide) rfl hf (fun hf => ?_) (fun hf => ?_)
    ·
      exact V_sub (lv' := [(0, .ref a0), (1, .int x1), (2, .int x2), (3, .int p.1), (4, .int p.2.1), (5, .int p.2.2)]) [0, 1, 2, 3, 4, 5] rfl (v_X4_nearest_53 hk9 hs0 hf)
    ·
      refine V_aload_n (pc' := 26) dX4_nearest_25 rfl 0 rfl rfl ?_
      refine V_getR (pc' := 29) 4 0 dX4_nearest_26 rfl (by decide) (Nat.le_of_ble_eq_true rfl) bm_348 hs0 (fun _ _ _ => rfl) rfl hf (fun a_1 ha_1 hf => ?_)
      refine V_iload_n (pc' := 30) dX4_nearest_29 rfl 1 rfl rfl ?_
      refine V_iload (pc' := 32) dX4_nearest_30 rfl 5 rfl ?_
      refine V_iadd (pc' := 33) dX4_nearest_32 rfl ?_
      refine V_iald (pc' := 34) dX4_nearest_33 rfl ha_1 hf (fun x_2 hf => ?_)
      refine V_iload (pc' := 36) dX4_nearest_34 rfl 4 rfl ?_
      refine V_icmp_ge (tgt := 53) (pc' := 39) dX4_nearest_36 (by decide) rfl hf (fun hf => ?_) (fun hf => ?_)
      ·
        refine V_iload (pc' := 41) dX4_nearest_39 rfl 5 rfl ?_
        refine V_istore_n (lv' := [(3, .int p.2.2), (0, .ref a0), (1, .int x1), (2, .int x2), (4, .int p.2.1), (5, .int p.2.2)]) (pc' := 42) dX4_nearest_41 rfl rfl (Nat.le_of_ble_eq_true rfl) rfl ?_
        refine V_aload_n (pc' := 43) dX4_nearest_42 rfl 1 rfl rfl ?_
        refine V_getR (pc' := 46) 4 0 dX4_nearest_43 rfl (by decide) (Nat.le_of_ble_eq_true rfl) bm_348 hs0 (fun _ _ _ => rfl) rfl hf (fun a_3 ha_3 hf => ?_)
        refine V_iload_n (pc' := 47) dX4_nearest_46 rfl 2 rfl rfl ?_
        refine V_iload (pc' := 49) dX4_nearest_47 rfl 5 rfl ?_
        refine V_iadd (pc' := 50) dX4_nearest_49 rfl ?_
        refine V_iald (pc' := 51) dX4_nearest_50 rfl ha_3 hf (fun x_4 hf => ?_)
        refine V_istore (lv' := [(4, .int x_4), (3, .int p.2.2), (0, .ref a0), (1, .int x1), (2, .int x2), (5, .int p.2.2)]) (pc' := 53) dX4_nearest_51 rfl (Nat.le_of_ble_eq_true rfl) rfl ?_
        exact V_sub (lv' := [(0, .ref a0), (1, .int x1), (2, .int x2), (3, .int p.2.2), (4, .int x_4), (5, .int p.2.2)]) [2, 3, 4, 1, 0, 5] rfl (v_X4_nearest_53 hk9 hs0 hf)
      ·
        exact V_sub (lv' := [(0, .ref a0), (1, .int x1), (2, .int x2), (3, .int p.1), (4, .int p.2.1), (5, .int p.2.2)]) [0, 1, 2, 3, 4, 5] rfl (v_X4_nearest_53 hk9 hs0 hf)
  ·
    refine V_iload_n (pc' := 60) dX4_nearest_59 rfl 3 rfl rfl ?_
    obtain rfl := Option.some.inj hf
    exact V_iret dX4_nearest_60 rfl rfl rfl ⟨rfl, rfl, rfl⟩
theorem v_X4_nearest_9 {l : Launch} {G : GE} {B N : Nat} {S : List SHP} {o : Int32 × MH} {a0 : Nat} {x1 : Int32} {x2 : Int32}    (hs0 : S[a0]? = some (.inl 4)) {n : Nat} {p : Int32 × Int32 × Int32} {h : MH} (hf : f_X4_nearest_9 a0 x1 x2 n p h = some o) : V l G B N mX4_nearest (rmm 3 0 0) false 0 0 (QI S o) S 0 0 9 [(0, .ref a0), (1, .int x1), (2, .int x2), (3, .int p.1), (4, .int p.2.1), (5, .int p.2.2)] [] h :=
  V_lp (VV := fun p h => V l G B N mX4_nearest (rmm 3 0 0) false 0 0 (QI S o) S 0 0 9 [(0, .ref a0), (1, .int x1), (2, .int x2), (3, .int p.1), (4, .int p.2.1), (5, .int p.2.2)] [] h) (fun _ hk _ _ hf => v_X4_nearest_9b hs0 hk hf) n p h hf
set_option maxRecDepth 100000 in
set_option maxHeartbeats 4000000 in
theorem v_X4_nearest {l : Launch} {G : GE} {B N : Nat} {S : List SHP} {o : Int32 × MH} {a0 : Nat} {x1 : Int32} {x2 : Int32}    (hs0 : S[a0]? = some (.inl 4)) {h : MH} (hf : f_X4_nearest a0 x1 x2 h = some o) : V l G B N mX4_nearest (rmm 3 0 0) false 0 0 (QI S o) S 0 0 0 [(0, .ref a0), (1, .int x1), (2, .int x2)] [] h := by
  unfold f_X4_nearest at hf
  refine V_iconst (v := (-1)) (pc' := 1) dX4_nearest_0 rfl (by decide) ?_
  refine V_istore_n (lv' := [(3, .int (-1 : Int32)), (0, .ref a0), (1, .int x1), (2, .int x2)]) (pc' := 2) dX4_nearest_1 rfl rfl (Nat.le_of_ble_eq_true rfl) rfl ?_
  refine V_ldc (v := 1000000) (pc' := 4) dX4_nearest_2 rfl bm_699 ?_
  refine V_istore (lv' := [(4, .int 1000000), (3, .int (-1 : Int32)), (0, .ref a0), (1, .int x1), (2, .int x2)]) (pc' := 6) dX4_nearest_4 rfl (Nat.le_of_ble_eq_true rfl) rfl ?_
  refine V_iconst (v := 0) (pc' := 7) dX4_nearest_6 rfl (by decide) ?_
  refine V_istore (lv' := [(5, .int 0), (4, .int 1000000), (3, .int (-1 : Int32)), (0, .ref a0), (1, .int x1), (2, .int x2)]) (pc' := 9) dX4_nearest_7 rfl (Nat.le_of_ble_eq_true rfl) rfl ?_
  exact V_sub (lv' := [(0, .ref a0), (1, .int x1), (2, .int x2), (3, .int (-1 : Int32)), (4, .int 1000000), (5, .int 0)]) [3, 4, 5, 2, 1, 0] rfl (v_X4_nearest_9 hs0 hf)
theorem ct_X4_nearest {l : Launch} {S : List SHP} {h : MH} {a0 : Nat} {x1 : Int32} {x2 : Int32} (hs0 : S[a0]? = some (.inl 4)) {q : Int32 × MH} (hf : f_X4_nearest a0 x1 x2 h = some q) : CT l mX4_nearest 3 false 0 0 S [.ref a0, .int x1, .int x2] h (QI S q) :=
  CT_ofV (by decide) rfl (Nat.le_of_ble_eq_true rfl) (fun G B hT => v_X4_nearest hs0 hf)
/-! LabelStacks$Routes.comeInto(LLabelStacks$Network;III)V -/
theorem dX4_comeInto_0 : decode cX4_comeInto 0 = .ok (.iconst 0, 1) := by decide +kernel
theorem dX4_comeInto_1 : decode cX4_comeInto 1 = .ok (.istore 5, 2) := by decide +kernel
theorem dX4_comeInto_3 : decode cX4_comeInto 3 = .ok (.iload 5, 2) := by decide +kernel
theorem dX4_comeInto_5 : decode cX4_comeInto 5 = .ok (.aload_n 1, 1) := by decide +kernel
theorem dX4_comeInto_6 : decode cX4_comeInto 6 = .ok (.getfield 24, 3) := by decide +kernel
theorem dX4_comeInto_9 : decode cX4_comeInto 9 = .ok (.if_icmp .ge 140, 3) := by decide +kernel
theorem dX4_comeInto_12 : decode cX4_comeInto 12 = .ok (.aload_n 1, 1) := by decide +kernel
theorem dX4_comeInto_13 : decode cX4_comeInto 13 = .ok (.getfield 39, 3) := by decide +kernel
theorem dX4_comeInto_16 : decode cX4_comeInto 16 = .ok (.iload 5, 2) := by decide +kernel
theorem dX4_comeInto_18 : decode cX4_comeInto 18 = .ok (.iaload, 1) := by decide +kernel
theorem dX4_comeInto_19 : decode cX4_comeInto 19 = .ok (.iload_n 3, 1) := by decide +kernel
theorem dX4_comeInto_20 : decode cX4_comeInto 20 = .ok (.if_icmp .ne 123, 3) := by decide +kernel
theorem dX4_comeInto_23 : decode cX4_comeInto 23 = .ok (.iload 5, 2) := by decide +kernel
theorem dX4_comeInto_25 : decode cX4_comeInto 25 = .ok (.iload 4, 2) := by decide +kernel
theorem dX4_comeInto_27 : decode cX4_comeInto 27 = .ok (.if_icmp .eq 116, 3) := by decide +kernel
theorem dX4_comeInto_30 : decode cX4_comeInto 30 = .ok (.aload_n 1, 1) := by decide +kernel
theorem dX4_comeInto_31 : decode cX4_comeInto 31 = .ok (.getfield 33, 3) := by decide +kernel
theorem dX4_comeInto_34 : decode cX4_comeInto 34 = .ok (.iload 5, 2) := by decide +kernel
theorem dX4_comeInto_36 : decode cX4_comeInto 36 = .ok (.iushr, 1) := by decide +kernel
theorem dX4_comeInto_37 : decode cX4_comeInto 37 = .ok (.iconst 1, 1) := by decide +kernel
theorem dX4_comeInto_38 : decode cX4_comeInto 38 = .ok (.iand, 1) := by decide +kernel
theorem dX4_comeInto_39 : decode cX4_comeInto 39 = .ok (.ifCond .ne 6, 3) := by decide +kernel
theorem dX4_comeInto_42 : decode cX4_comeInto 42 = .ok (.goto 101, 3) := by decide +kernel
theorem dX4_comeInto_45 : decode cX4_comeInto 45 = .ok (.iload_n 2, 1) := by decide +kernel
theorem dX4_comeInto_46 : decode cX4_comeInto 46 = .ok (.aload_n 1, 1) := by decide +kernel
theorem dX4_comeInto_47 : decode cX4_comeInto 47 = .ok (.getfield 30, 3) := by decide +kernel
theorem dX4_comeInto_50 : decode cX4_comeInto 50 = .ok (.iload 5, 2) := by decide +kernel
theorem dX4_comeInto_52 : decode cX4_comeInto 52 = .ok (.iaload, 1) := by decide +kernel
theorem dX4_comeInto_53 : decode cX4_comeInto 53 = .ok (.iadd, 1) := by decide +kernel
theorem dX4_comeInto_54 : decode cX4_comeInto 54 = .ok (.istore 6, 2) := by decide +kernel
theorem dX4_comeInto_56 : decode cX4_comeInto 56 = .ok (.aload_n 1, 1) := by decide +kernel
theorem dX4_comeInto_57 : decode cX4_comeInto 57 = .ok (.getfield 36, 3) := by decide +kernel
theorem dX4_comeInto_60 : decode cX4_comeInto 60 = .ok (.iload 5, 2) := by decide +kernel
theorem dX4_comeInto_62 : decode cX4_comeInto 62 = .ok (.iaload, 1) := by decide +kernel
theorem dX4_comeInto_63 : decode cX4_comeInto 63 = .ok (.aload_n 0, 1) := by decide +kernel
theorem dX4_comeInto_64 : decode cX4_comeInto 64 = .ok (.getfield 9, 3) := by decide +kernel
theorem dX4_comeInto_67 : decode cX4_comeInto 67 = .ok (.iload_n 2, 1) := by decide +kernel
theorem dX4_comeInto_68 : decode cX4_comeInto 68 = .ok (.iload_n 3, 1) := by decide +kernel
theorem dX4_comeInto_69 : decode cX4_comeInto 69 = .ok (.iadd, 1) := by decide +kernel
theorem dX4_comeInto_70 : decode cX4_comeInto 70 = .ok (.iaload, 1) := by decide +kernel
theorem dX4_comeInto_71 : decode cX4_comeInto 71 = .ok (.iadd, 1) := by decide +kernel
theorem dX4_comeInto_72 : decode cX4_comeInto 72 = .ok (.istore 7, 2) := by decide +kernel
theorem dX4_comeInto_74 : decode cX4_comeInto 74 = .ok (.iload 7, 2) := by decide +kernel
theorem dX4_comeInto_76 : decode cX4_comeInto 76 = .ok (.aload_n 0, 1) := by decide +kernel
theorem dX4_comeInto_77 : decode cX4_comeInto 77 = .ok (.getfield 9, 3) := by decide +kernel
theorem dX4_comeInto_80 : decode cX4_comeInto 80 = .ok (.iload 6, 2) := by decide +kernel
theorem dX4_comeInto_82 : decode cX4_comeInto 82 = .ok (.iaload, 1) := by decide +kernel
theorem dX4_comeInto_83 : decode cX4_comeInto 83 = .ok (.if_icmp .ge 30, 3) := by decide +kernel
theorem dX4_comeInto_86 : decode cX4_comeInto 86 = .ok (.aload_n 0, 1) := by decide +kernel
theorem dX4_comeInto_87 : decode cX4_comeInto 87 = .ok (.getfield 9, 3) := by decide +kernel
theorem dX4_comeInto_90 : decode cX4_comeInto 90 = .ok (.iload 6, 2) := by decide +kernel
theorem dX4_comeInto_92 : decode cX4_comeInto 92 = .ok (.iload 7, 2) := by decide +kernel
theorem dX4_comeInto_94 : decode cX4_comeInto 94 = .ok (.iastore, 1) := by decide +kernel
theorem dX4_comeInto_95 : decode cX4_comeInto 95 = .ok (.aload_n 0, 1) := by decide +kernel
theorem dX4_comeInto_96 : decode cX4_comeInto 96 = .ok (.getfield 15, 3) := by decide +kernel
theorem dX4_comeInto_99 : decode cX4_comeInto 99 = .ok (.iload 6, 2) := by decide +kernel
theorem dX4_comeInto_101 : decode cX4_comeInto 101 = .ok (.aload_n 0, 1) := by decide +kernel
theorem dX4_comeInto_102 : decode cX4_comeInto 102 = .ok (.getfield 15, 3) := by decide +kernel
theorem dX4_comeInto_105 : decode cX4_comeInto 105 = .ok (.iload_n 2, 1) := by decide +kernel
theorem dX4_comeInto_106 : decode cX4_comeInto 106 = .ok (.iload_n 3, 1) := by decide +kernel
theorem dX4_comeInto_107 : decode cX4_comeInto 107 = .ok (.iadd, 1) := by decide +kernel
theorem dX4_comeInto_108 : decode cX4_comeInto 108 = .ok (.laload, 1) := by decide +kernel
theorem dX4_comeInto_109 : decode cX4_comeInto 109 = .ok (.lastore, 1) := by decide +kernel
theorem dX4_comeInto_110 : decode cX4_comeInto 110 = .ok (.goto 33, 3) := by decide +kernel
theorem dX4_comeInto_113 : decode cX4_comeInto 113 = .ok (.iload 7, 2) := by decide +kernel
theorem dX4_comeInto_115 : decode cX4_comeInto 115 = .ok (.aload_n 0, 1) := by decide +kernel
theorem dX4_comeInto_116 : decode cX4_comeInto 116 = .ok (.getfield 9, 3) := by decide +kernel
theorem dX4_comeInto_119 : decode cX4_comeInto 119 = .ok (.iload 6, 2) := by decide +kernel
theorem dX4_comeInto_121 : decode cX4_comeInto 121 = .ok (.iaload, 1) := by decide +kernel
theorem dX4_comeInto_122 : decode cX4_comeInto 122 = .ok (.if_icmp .ne 21, 3) := by decide +kernel
theorem dX4_comeInto_125 : decode cX4_comeInto 125 = .ok (.aload_n 0, 1) := by decide +kernel
theorem dX4_comeInto_126 : decode cX4_comeInto 126 = .ok (.getfield 15, 3) := by decide +kernel
theorem dX4_comeInto_129 : decode cX4_comeInto 129 = .ok (.iload 6, 2) := by decide +kernel
theorem dX4_comeInto_131 : decode cX4_comeInto 131 = .ok (.dup2, 1) := by decide +kernel
theorem dX4_comeInto_132 : decode cX4_comeInto 132 = .ok (.laload, 1) := by decide +kernel
theorem dX4_comeInto_133 : decode cX4_comeInto 133 = .ok (.aload_n 0, 1) := by decide +kernel
theorem dX4_comeInto_134 : decode cX4_comeInto 134 = .ok (.getfield 15, 3) := by decide +kernel
theorem dX4_comeInto_137 : decode cX4_comeInto 137 = .ok (.iload_n 2, 1) := by decide +kernel
theorem dX4_comeInto_138 : decode cX4_comeInto 138 = .ok (.iload_n 3, 1) := by decide +kernel
theorem dX4_comeInto_139 : decode cX4_comeInto 139 = .ok (.iadd, 1) := by decide +kernel
theorem dX4_comeInto_140 : decode cX4_comeInto 140 = .ok (.laload, 1) := by decide +kernel
theorem dX4_comeInto_141 : decode cX4_comeInto 141 = .ok (.ladd, 1) := by decide +kernel
theorem dX4_comeInto_142 : decode cX4_comeInto 142 = .ok (.lastore, 1) := by decide +kernel
theorem dX4_comeInto_143 : decode cX4_comeInto 143 = .ok (.iinc 5 1, 3) := by decide +kernel
theorem dX4_comeInto_146 : decode cX4_comeInto 146 = .ok (.goto (-143), 3) := by decide +kernel
theorem dX4_comeInto_149 : decode cX4_comeInto 149 = .ok (.return_, 1) := by decide +kernel
abbrev mX4_comeInto : MI := (RX4, yX4_comeInto, cX4_comeInto, 8, none)
theorem mok_X4_comeInto : MOKv mX4_comeInto 4 := ⟨⟨bm_707, bm_123, ⟨by decide, by decide⟩, by decide +kernel⟩, bm_706, bm_6⟩
def f_X4_comeInto_143  (k3 : Int32 → MH → Option (MH)) (a0 : Nat) (a1 : Nat) (x2 : Int32) (x3 : Int32) (x4 : Int32) (x5 : Int32) (h : MH) : Option (MH) :=
  k3 (x5 + 1) h
def f_X4_comeInto_3b   (a0 : Nat) (a1 : Nat) (x2 : Int32) (x3 : Int32) (x4 : Int32) (k3 : Int32 → MH → Option (MH)) (p : Int32) (h : MH) : Option (MH) :=
  if p < (gI h a1 1) then
    (gR h a1 4).bind fun a_1 =>
    (ldI h a_1 p).bind fun x_2 =>
    if x_2 = x3 then
      if p = x4 then
        f_X4_comeInto_143 k3 a0 a1 x2 x3 x4 p h
      else
        if ((ush (gI h a1 2) p) &&& 1) = 0 then
          f_X4_comeInto_143 k3 a0 a1 x2 x3 x4 p h
        else
          (gR h a1 3).bind fun a_3 =>
          (ldI h a_3 p).bind fun x_4 =>
          lt (x2 + x_4) fun x_5 =>
          (gR h a1 5).bind fun a_6 =>
          (ldI h a_6 p).bind fun x_7 =>
          (gR h a0 0).bind fun a_8 =>
          (ldI h a_8 (x2 + x3)).bind fun x_9 =>
          lt (x_7 + x_9) fun x_10 =>
          (gR h a0 0).bind fun a_11 =>
          (ldI h a_11 x_5).bind fun x_12 =>
          if x_10 < x_12 then
            (gR h a0 0).bind fun a_13 =>
            (stI h a_13 x_5 x_10).bind fun h_14 =>
            (gR h_14 a0 1).bind fun a_15 =>
            (gR h_14 a0 1).bind fun a_16 =>
            (ldL h_14 a_16 (x2 + x3)).bind fun l_17 =>
            (stL h_14 a_15 x_5 l_17).bind fun h_18 =>
            f_X4_comeInto_143 k3 a0 a1 x2 x3 x4 p h_18
          else
            (gR h a0 0).bind fun a_19 =>
            (ldI h a_19 x_5).bind fun x_20 =>
            if x_10 = x_20 then
              (gR h a0 1).bind fun a_21 =>
              (ldL h a_21 x_5).bind fun l_22 =>
              (gR h a0 1).bind fun a_23 =>
              (ldL h a_23 (x2 + x3)).bind fun l_24 =>
              (stL h a_21 x_5 (l_22 + l_24)).bind fun h_25 =>
              f_X4_comeInto_143 k3 a0 a1 x2 x3 x4 p h_25
            else
              f_X4_comeInto_143 k3 a0 a1 x2 x3 x4 p h
    else
      f_X4_comeInto_143 k3 a0 a1 x2 x3 x4 p h
  else
    some h
def f_X4_comeInto_3   (a0 : Nat) (a1 : Nat) (x2 : Int32) (x3 : Int32) (x4 : Int32) : Nat → Int32 → MH → Option (MH) := lp (f_X4_comeInto_3b a0 a1 x2 x3 x4)
def f_X4_comeInto   (a0 : Nat) (a1 : Nat) (x2 : Int32) (x3 : Int32) (x4 : Int32) (h : MH) : Option (MH) :=
  f_X4_comeInto_3 a0 a1 x2 x3 x4 FU 0 h
set_option maxRecDepth 100000 in
set_option maxHeartbeats 4000000 in
theorem v_X4_comeInto_143 {l : Launch} {G : GE} {B N : Nat} {S : List SHP} {o : MH} {a0 : Nat} {a1 : Nat} {x2 : Int32} {x3 : Int32} {x4 : Int32} {x5 : Int32}  {k3 : Int32 → MH → Option (MH)} (hk3 : ∀ (p : Int32) (h : MH), k3 p h = some o → V l G B N mX4_comeInto (rmm 3 0 0) false 0 0 (QV S o) S 0 0 3 [(0, .ref a0), (1, .ref a1), (2, .int x2), (3, .int x3), (4, .int x4), (5, .int p)] [] h) (hs0 : S[a0]? = some (.inl 4)) (hs1 : S[a1]? = some (.inl 2)) {h : MH} (hf : f_X4_comeInto_143 k3 a0 a1 x2 x3 x4 x5 h = some o) : V l G B N mX4_comeInto (rmm 3 0 0) false 0 0 (QV S o) S 0 0 143 [(0, .ref a0), (1, .ref a1), (2, .int x2), (3, .int x3), (4, .int x4), (5, .int x5)] [] h := by
  unfold f_X4_comeInto_143 at hf
  refine V_iinc (v := (x5 + 1)) (lv' := [(5, .int (x5 + 1)), (0, .ref a0), (1, .ref a1), (2, .int x2), (3, .int x3), (4, .int x4)]) (pc' := 146) dX4_comeInto_143 rfl 5 rfl rfl (Nat.le_of_ble_eq_true rfl) rfl ?_
  refine V_goto (tgt := 3) dX4_comeInto_146 (by decide) ?_
  exact V_sub (lv' := [(0, .ref a0), (1, .ref a1), (2, .int x2), (3, .int x3), (4, .int x4), (5, .int (x5 + 1))]) [1, 2, 3, 4, 5, 0] rfl (hk3 (x5 + 1) h hf)
set_option maxRecDepth 100000 in
set_option maxHeartbeats 4000000 in
theorem v_X4_comeInto_3b {l : Launch} {G : GE} {B N : Nat} {S : List SHP} {o : MH} {a0 : Nat} {a1 : Nat} {x2 : Int32} {x3 : Int32} {x4 : Int32}    (hs0 : S[a0]? = some (.inl 4)) (hs1 : S[a1]? = some (.inl 2)) {k3 : Int32 → MH → Option (MH)} (hk3 : ∀ (p : Int32) (h : MH), k3 p h = some o → V l G B N mX4_comeInto (rmm 3 0 0) false 0 0 (QV S o) S 0 0 3 [(0, .ref a0), (1, .ref a1), (2, .int x2), (3, .int x3), (4, .int x4), (5, .int p)] [] h) {p : Int32} {h : MH} (hf : f_X4_comeInto_3b a0 a1 x2 x3 x4 k3 p h = some o) : V l G B N mX4_comeInto (rmm 3 0 0) false 0 0 (QV S o) S 0 0 3 [(0, .ref a0), (1, .ref a1), (2, .int x2), (3, .int x3), (4, .int x4), (5, .int p)] [] h := by
  unfold f_X4_comeInto_3b at hf
  refine V_iload (pc' := 5) dX4_comeInto_3 rfl 5 rfl ?_
  refine V_aload_n (pc' := 6) dX4_comeInto_5 rfl 1 rfl rfl ?_
  refine V_getI (pc' := 9) 2 1 dX4_comeInto_6 rfl (by decide) (Nat.le_of_ble_eq_true rfl) bm_190 hs1 (fun _ _ _ => rfl) ?_
  refine V_icmp_ge (tgt := 149) (pc' := 12) dX4_comeInto_9 (by decide) rfl hf (fun hf => ?_) (fun hf => ?_)
  ·
    refine V_aload_n (pc' := 13) dX4_comeInto_12 rfl 1 rfl rfl ?_
    refine V_getR (pc' := 16) 2 4 dX4_comeInto_13 rfl (by decide) (Nat.le_of_ble_eq_true rfl) bm_203 hs1 (fun _ _ _ => rfl) rfl hf (fun a_1 ha_1 hf => ?_)
    refine V_iload (pc' := 18) dX4_comeInto_16 rfl 5 rfl ?_
    refine V_iald (pc' := 19) dX4_comeInto_18 rfl ha_1 hf (fun x_2 hf => ?_)
    refine V_iload_n (pc' := 20) dX4_comeInto_19 rfl 3 rfl rfl ?_
    refine V_icmp_ne (tgt := 143) (pc' := 23) dX4_comeInto_20 (by decide) rfl hf (fun hf => ?_) (fun hf => ?_)
    ·
      refine V_iload (pc' := 25) dX4_comeInto_23 rfl 5 rfl ?_
      refine V_iload (pc' := 27) dX4_comeInto_25 rfl 4 rfl ?_
      refine V_icmp_eq (tgt := 143) (pc' := 30) dX4_comeInto_27 (by decide) rfl hf (fun hf => ?_) (fun hf => ?_)
      ·
        exact V_sub (lv' := [(0, .ref a0), (1, .ref a1), (2, .int x2), (3, .int x3), (4, .int x4), (5, .int p)]) [0, 1, 2, 3, 4, 5] rfl (v_X4_comeInto_143 hk3 hs0 hs1 hf)
      ·
        refine V_aload_n (pc' := 31) dX4_comeInto_30 rfl 1 rfl rfl ?_
        refine V_getI (pc' := 34) 2 2 dX4_comeInto_31 rfl (by decide) (Nat.le_of_ble_eq_true rfl) bm_195 hs1 (fun _ _ _ => rfl) ?_
        refine V_iload (pc' := 36) dX4_comeInto_34 rfl 5 rfl ?_
        refine V_iushr (pc' := 37) dX4_comeInto_36 rfl ?_
        refine V_iconst (v := 1) (pc' := 38) dX4_comeInto_37 rfl (by decide) ?_
        refine V_iand (pc' := 39) dX4_comeInto_38 rfl ?_
        refine V_if_ne (tgt := 45) (pc' := 42) dX4_comeInto_39 (by decide) rfl hf (fun hf => ?_) (fun hf => ?_)
        ·
          refine V_goto (tgt := 143) dX4_comeInto_42 (by decide) ?_
          exact V_sub (lv' := [(0, .ref a0), (1, .ref a1), (2, .int x2), (3, .int x3), (4, .int x4), (5, .int p)]) [0, 1, 2, 3, 4, 5] rfl (v_X4_comeInto_143 hk3 hs0 hs1 hf)
        ·
          refine V_iload_n (pc' := 46) dX4_comeInto_45 rfl 2 rfl rfl ?_
          refine V_aload_n (pc' := 47) dX4_comeInto_46 rfl 1 rfl rfl ?_
          refine V_getR (pc' := 50) 2 3 dX4_comeInto_47 rfl (by decide) (Nat.le_of_ble_eq_true rfl) bm_198 hs1 (fun _ _ _ => rfl) rfl hf (fun a_3 ha_3 hf => ?_)
          refine V_iload (pc' := 52) dX4_comeInto_50 rfl 5 rfl ?_
          refine V_iald (pc' := 53) dX4_comeInto_52 rfl ha_3 hf (fun x_4 hf => ?_)
          refine V_iadd (pc' := 54) dX4_comeInto_53 rfl ?_
          refine V_nmI hf (fun x_5 hf => ?_)
          refine V_istore (lv' := [(6, .int x_5), (0, .ref a0), (1, .ref a1), (2, .int x2), (3, .int x3), (4, .int x4), (5, .int p)]) (pc' := 56) dX4_comeInto_54 rfl (Nat.le_of_ble_eq_true rfl) rfl ?_
          refine V_aload_n (pc' := 57) dX4_comeInto_56 rfl 2 rfl rfl ?_
          refine V_getR (pc' := 60) 2 5 dX4_comeInto_57 rfl (by decide) (Nat.le_of_ble_eq_true rfl) bm_208 hs1 (fun _ _ _ => rfl) rfl hf (fun a_6 ha_6 hf => ?_)
          refine V_iload (pc' := 62) dX4_comeInto_60 rfl 6 rfl ?_
          refine V_iald (pc' := 63) dX4_comeInto_62 rfl ha_6 hf (fun x_7 hf => ?_)
          refine V_aload_n (pc' := 64) dX4_comeInto_63 rfl 1 rfl rfl ?_
          refine V_getR (pc' := 67) 4 0 dX4_comeInto_64 rfl (by decide) (Nat.le_of_ble_eq_true rfl) bm_348 hs0 (fun _ _ _ => rfl) rfl hf (fun a_8 ha_8 hf => ?_)
          refine V_iload_n (pc' := 68) dX4_comeInto_67 rfl 3 rfl rfl ?_
          refine V_iload_n (pc' := 69) dX4_comeInto_68 rfl 4 rfl rfl ?_
          refine V_iadd (pc' := 70) dX4_comeInto_69 rfl ?_
          refine V_iald (pc' := 71) dX4_comeInto_70 rfl ha_8 hf (fun x_9 hf => ?_)
          refine V_iadd (pc' := 72) dX4_comeInto_71 rfl ?_
          refine V_nmI hf (fun x_10 hf => ?_)
          refine V_istore (lv' := [(7, .int x_10), (6, .int x_5), (0, .ref a0), (1, .ref a1), (2, .int x2), (3, .int x3), (4, .int x4), (5, .int p)]) (pc' := 74) dX4_comeInto_72 rfl (Nat.le_of_ble_eq_true rfl) rfl ?_
          refine V_iload (pc' := 76) dX4_comeInto_74 rfl 0 rfl ?_
          refine V_aload_n (pc' := 77) dX4_comeInto_76 rfl 2 rfl rfl ?_
          refine V_getR (pc' := 80) 4 0 dX4_comeInto_77 rfl (by decide) (Nat.le_of_ble_eq_true rfl) bm_348 hs0 (fun _ _ _ => rfl) rfl hf (fun a_11 ha_11 hf => ?_)
          refine V_iload (pc' := 82) dX4_comeInto_80 rfl 1 rfl ?_
          refine V_iald (pc' := 83) dX4_comeInto_82 rfl ha_11 hf (fun x_12 hf => ?_)
          refine V_icmp_ge (tgt := 113) (pc' := 86) dX4_comeInto_83 (by decide) rfl hf (fun hf => ?_) (fun hf => ?_)
          ·
            refine V_aload_n (pc' := 87) dX4_comeInto_86 rfl 2 rfl rfl ?_
            refine V_getR (pc' := 90) 4 0 dX4_comeInto_87 rfl (by decide) (Nat.le_of_ble_eq_true rfl) bm_348 hs0 (fun _ _ _ => rfl) rfl hf (fun a_13 ha_13 hf => ?_)
            refine V_iload (pc' := 92) dX4_comeInto_90 rfl 1 rfl ?_
            refine V_iload (pc' := 94) dX4_comeInto_92 rfl 0 rfl ?_
            refine V_iast (pc' := 95) dX4_comeInto_94 rfl ha_13 hf (fun h_14 hf => ?_)
            refine V_aload_n (pc' := 96) dX4_comeInto_95 rfl 2 rfl rfl ?_
            refine V_getR (pc' := 99) 4 1 dX4_comeInto_96 rfl (by decide) (Nat.le_of_ble_eq_true rfl) bm_349 hs0 (fun _ _ _ => rfl) rfl hf (fun a_15 ha_15 hf => ?_)
            refine V_iload (pc' := 101) dX4_comeInto_99 rfl 1 rfl ?_
            refine V_aload_n (pc' := 102) dX4_comeInto_101 rfl 2 rfl rfl ?_
            refine V_getR (pc' := 105) 4 1 dX4_comeInto_102 rfl (by decide) (Nat.le_of_ble_eq_true rfl) bm_349 hs0 (fun _ _ _ => rfl) rfl hf (fun a_16 ha_16 hf => ?_)
            refine V_iload_n (pc' := 106) dX4_comeInto_105 rfl 4 rfl rfl ?_
            refine V_iload_n (pc' := 107) dX4_comeInto_106 rfl 5 rfl rfl ?_
            refine V_iadd (pc' := 108) dX4_comeInto_107 rfl ?_
            refine V_lald (pc' := 109) dX4_comeInto_108 rfl ha_16 hf (fun l_17 hf => ?_)
            refine V_last (pc' := 110) dX4_comeInto_109 rfl ha_15 hf (fun h_18 hf => ?_)
            refine V_goto (tgt := 143) dX4_comeInto_110 (by decide) ?_
            exact V_sub (lv' := [(0, .ref a0), (1, .ref a1), (2, .int x2), (3, .int x3), (4, .int x4), (5, .int p)]) [2, 3, 4, 5, 6, 7] rfl (v_X4_comeInto_143 hk3 hs0 hs1 hf)
          ·
            refine V_iload (pc' := 115) dX4_comeInto_113 rfl 0 rfl ?_
            refine V_aload_n (pc' := 116) dX4_comeInto_115 rfl 2 rfl rfl ?_
            refine V_getR (pc' := 119) 4 0 dX4_comeInto_116 rfl (by decide) (Nat.le_of_ble_eq_true rfl) bm_348 hs0 (fun _ _ _ => rfl) rfl hf (fun a_19 ha_19 hf => ?_)
            refine V_iload (pc' := 121) dX4_comeInto_119 rfl 1 rfl ?_
            refine V_iald (pc' := 122) dX4_comeInto_121 rfl ha_19 hf (fun x_20 hf => ?_)
            refine V_icmp_ne (tgt := 143) (pc' := 125) dX4_comeInto_122 (by decide) rfl hf (fun hf => ?_) (fun hf => ?_)
            ·
              refine V_aload_n (pc' := 126) dX4_comeInto_125 rfl 2 rfl rfl ?_
              refine V_getR (pc' := 129) 4 1 dX4_comeInto_126 rfl (by decide) (Nat.le_of_ble_eq_true rfl) bm_349 hs0 (fun _ _ _ => rfl) rfl hf (fun a_21 ha_21 hf => ?_)
              refine V_iload (pc' := 131) dX4_comeInto_129 rfl 1 rfl ?_
              refine V_dup2 (pc' := 132) dX4_comeInto_131 rfl rfl rfl ?_
              refine V_lald (pc' := 133) dX4_comeInto_132 rfl ha_21 hf (fun l_22 hf => ?_)
              refine V_aload_n (pc' := 134) dX4_comeInto_133 rfl 2 rfl rfl ?_
              refine V_getR (pc' := 137) 4 1 dX4_comeInto_134 rfl (by decide) (Nat.le_of_ble_eq_true rfl) bm_349 hs0 (fun _ _ _ => rfl) rfl hf (fun a_23 ha_23 hf => ?_)
              refine V_iload_n (pc' := 138) dX4_comeInto_137 rfl 4 rfl rfl ?_
              refine V_iload_n (pc' := 139) dX4_comeInto_138 rfl 5 rfl rfl ?_
              refine V_iadd (pc' := 140) dX4_comeInto_139 rfl ?_
              refine V_lald (pc' := 141) dX4_comeInto_140 rfl ha_23 hf (fun l_24 hf => ?_)
              refine V_ladd (pc' := 142) dX4_comeInto_141 rfl ?_
              refine V_last (pc' := 143) dX4_comeInto_142 rfl ha_21 hf (fun h_25 hf => ?_)
              exact V_sub (lv' := [(0, .ref a0), (1, .ref a1), (2, .int x2), (3, .int x3), (4, .int x4), (5, .int p)]) [2, 3, 4, 5, 6, 7] rfl (v_X4_comeInto_143 hk3 hs0 hs1 hf)
            ·
              exact V_sub (lv' := [(0, .ref a0), (1, .ref a1), (2, .int x2), (3, .int x3), (4, .int x4), (5, .int p)]) [2, 3, 4, 5, 6, 7] rfl (v_X4_comeInto_143 hk3 hs0 hs1 hf)
    ·
      exact V_sub (lv' := [(0, .ref a0), (1, .ref a1), (2, .int x2), (3, .int x3), (4, .int x4), (5, .int p)]) [0, 1, 2, 3, 4, 5] rfl (v_X4_comeInto_143 hk3 hs0 hs1 hf)
  ·
    obtain rfl := Option.some.inj hf
    exact V_vret dX4_comeInto_149 rfl rfl rfl ⟨rfl, rfl, rfl⟩
theorem v_X4_comeInto_3 {l : Launch} {G : GE} {B N : Nat} {S : List SHP} {o : MH} {a0 : Nat} {a1 : Nat} {x2 : Int32} {x3 : Int32} {x4 : Int32}    (hs0 : S[a0]? = some (.inl 4)) (hs1 : S[a1]? = some (.inl 2)) {n : Nat} {p : Int32} {h : MH} (hf : f_X4_comeInto_3 a0 a1 x2 x3 x4 n p h = some o) : V l G B N mX4_comeInto (rmm 3 0 0) false 0 0 (QV S o) S 0 0 3 [(0, .ref a0), (1, .ref a1), (2, .int x2), (3, .int x3), (4, .int x4), (5, .int p)] [] h :=
  V_lp (VV := fun p h => V l G B N mX4_comeInto (rmm 3 0 0) false 0 0 (QV S o) S 0 0 3 [(0, .ref a0), (1, .ref a1), (2, .int x2), (3, .int x3), (4, .int x4), (5, .int p)] [] h) (fun _ hk _ _ hf => v_X4_comeInto_3b hs0 hs1 hk hf) n p h hf
set_option maxRecDepth 100000 in
set_option maxHeartbeats 4000000 in
theorem v_X4_comeInto {l : Launch} {G : GE} {B N : Nat} {S : List SHP} {o : MH} {a0 : Nat} {a1 : Nat} {x2 : Int32} {x3 : Int32} {x4 : Int32}    (hs0 : S[a0]? = some (.inl 4)) (hs1 : S[a1]? = some (.inl 2)) {h : MH} (hf : f_X4_comeInto a0 a1 x2 x3 x4 h = some o) : V l G B N mX4_comeInto (rmm 3 0 0) false 0 0 (QV S o) S 0 0 0 [(0, .ref a0), (1, .ref a1), (2, .int x2), (3, .int x3), (4, .int x4)] [] h := by
  unfold f_X4_comeInto at hf
  refine V_iconst (v := 0) (pc' := 1) dX4_comeInto_0 rfl (by decide) ?_
  refine V_istore (lv' := [(5, .int 0), (0, .ref a0), (1, .ref a1), (2, .int x2), (3, .int x3), (4, .int x4)]) (pc' := 3) dX4_comeInto_1 rfl (Nat.le_of_ble_eq_true rfl) rfl ?_
  exact V_sub (lv' := [(0, .ref a0), (1, .ref a1), (2, .int x2), (3, .int x3), (4, .int x4), (5, .int 0)]) [1, 2, 3, 4, 5, 0] rfl (v_X4_comeInto_3 hs0 hs1 hf)
theorem ct_X4_comeInto {l : Launch} {S : List SHP} {h : MH} {a0 : Nat} {a1 : Nat} {x2 : Int32} {x3 : Int32} {x4 : Int32} (hs0 : S[a0]? = some (.inl 4)) (hs1 : S[a1]? = some (.inl 2)) {q : MH} (hf : f_X4_comeInto a0 a1 x2 x3 x4 h = some q) : CT l mX4_comeInto 3 false 0 0 S [.ref a0, .ref a1, .int x2, .int x3, .int x4] h (QV S q) :=
  CT_ofV (by decide) rfl (Nat.le_of_ble_eq_true rfl) (fun G B hT => v_X4_comeInto hs0 hs1 hf)
/-! LabelStacks$Routes.findToward(LLabelStacks$Network;II)V -/
theorem dX4_findToward_0 : decode cX4_findToward 0 = .ok (.aload_n 1, 1) := by decide +kernel
theorem dX4_findToward_1 : decode cX4_findToward 1 = .ok (.iload_n 2, 1) := by decide +kernel
theorem dX4_findToward_2 : decode cX4_findToward 2 = .ok (.invokevirtual 49, 3) := by decide +kernel
theorem dX4_findToward_5 : decode cX4_findToward 5 = .ok (.ifCond .ne 4, 3) := by decide +kernel
theorem dX4_findToward_8 : decode cX4_findToward 8 = .ok (.return_, 1) := by decide +kernel
theorem dX4_findToward_9 : decode cX4_findToward 9 = .ok (.iload_n 2, 1) := by decide +kernel
theorem dX4_findToward_10 : decode cX4_findToward 10 = .ok (.bipush 10, 2) := by decide +kernel
theorem dX4_findToward_12 : decode cX4_findToward 12 = .ok (.imul, 1) := by decide +kernel
theorem dX4_findToward_13 : decode cX4_findToward 13 = .ok (.istore 4, 2) := by decide +kernel
theorem dX4_findToward_15 : decode cX4_findToward 15 = .ok (.iconst 0, 1) := by decide +kernel
theorem dX4_findToward_16 : decode cX4_findToward 16 = .ok (.istore 5, 2) := by decide +kernel
theorem dX4_findToward_18 : decode cX4_findToward 18 = .ok (.iload 5, 2) := by decide +kernel
theorem dX4_findToward_20 : decode cX4_findToward 20 = .ok (.bipush 10, 2) := by decide +kernel
theorem dX4_findToward_22 : decode cX4_findToward 22 = .ok (.if_icmp .ge 32, 3) := by decide +kernel
theorem dX4_findToward_25 : decode cX4_findToward 25 = .ok (.aload_n 0, 1) := by decide +kernel
theorem dX4_findToward_26 : decode cX4_findToward 26 = .ok (.getfield 9, 3) := by decide +kernel
theorem dX4_findToward_29 : decode cX4_findToward 29 = .ok (.iload 4, 2) := by decide +kernel
theorem dX4_findToward_31 : decode cX4_findToward 31 = .ok (.iload 5, 2) := by decide +kernel
theorem dX4_findToward_33 : decode cX4_findToward 33 = .ok (.iadd, 1) := by decide +kernel
theorem dX4_findToward_34 : decode cX4_findToward 34 = .ok (.ldc 19, 2) := by decide +kernel
theorem dX4_findToward_36 : decode cX4_findToward 36 = .ok (.iastore, 1) := by decide +kernel
theorem dX4_findToward_37 : decode cX4_findToward 37 = .ok (.aload_n 0, 1) := by decide +kernel
theorem dX4_findToward_38 : decode cX4_findToward 38 = .ok (.getfield 15, 3) := by decide +kernel
theorem dX4_findToward_41 : decode cX4_findToward 41 = .ok (.iload 4, 2) := by decide +kernel
theorem dX4_findToward_43 : decode cX4_findToward 43 = .ok (.iload 5, 2) := by decide +kernel
theorem dX4_findToward_45 : decode cX4_findToward 45 = .ok (.iadd, 1) := by decide +kernel
theorem dX4_findToward_46 : decode cX4_findToward 46 = .ok (.lconst 0, 1) := by decide +kernel
theorem dX4_findToward_47 : decode cX4_findToward 47 = .ok (.lastore, 1) := by decide +kernel
theorem dX4_findToward_48 : decode cX4_findToward 48 = .ok (.iinc 5 1, 3) := by decide +kernel
theorem dX4_findToward_51 : decode cX4_findToward 51 = .ok (.goto (-33), 3) := by decide +kernel
theorem dX4_findToward_54 : decode cX4_findToward 54 = .ok (.aload_n 0, 1) := by decide +kernel
theorem dX4_findToward_55 : decode cX4_findToward 55 = .ok (.getfield 9, 3) := by decide +kernel
theorem dX4_findToward_58 : decode cX4_findToward 58 = .ok (.iload 4, 2) := by decide +kernel
theorem dX4_findToward_60 : decode cX4_findToward 60 = .ok (.iload_n 2, 1) := by decide +kernel
theorem dX4_findToward_61 : decode cX4_findToward 61 = .ok (.iadd, 1) := by decide +kernel
theorem dX4_findToward_62 : decode cX4_findToward 62 = .ok (.iconst 0, 1) := by decide +kernel
theorem dX4_findToward_63 : decode cX4_findToward 63 = .ok (.iastore, 1) := by decide +kernel
theorem dX4_findToward_64 : decode cX4_findToward 64 = .ok (.aload_n 0, 1) := by decide +kernel
theorem dX4_findToward_65 : decode cX4_findToward 65 = .ok (.getfield 15, 3) := by decide +kernel
theorem dX4_findToward_68 : decode cX4_findToward 68 = .ok (.iload 4, 2) := by decide +kernel
theorem dX4_findToward_70 : decode cX4_findToward 70 = .ok (.iload_n 2, 1) := by decide +kernel
theorem dX4_findToward_71 : decode cX4_findToward 71 = .ok (.iadd, 1) := by decide +kernel
theorem dX4_findToward_72 : decode cX4_findToward 72 = .ok (.lconst 1, 1) := by decide +kernel
theorem dX4_findToward_73 : decode cX4_findToward 73 = .ok (.lastore, 1) := by decide +kernel
theorem dX4_findToward_74 : decode cX4_findToward 74 = .ok (.iconst 1, 1) := by decide +kernel
theorem dX4_findToward_75 : decode cX4_findToward 75 = .ok (.aload_n 1, 1) := by decide +kernel
theorem dX4_findToward_76 : decode cX4_findToward 76 = .ok (.getfield 42, 3) := by decide +kernel
theorem dX4_findToward_79 : decode cX4_findToward 79 = .ok (.ishl, 1) := by decide +kernel
theorem dX4_findToward_80 : decode cX4_findToward 80 = .ok (.iconst 1, 1) := by decide +kernel
theorem dX4_findToward_81 : decode cX4_findToward 81 = .ok (.isub, 1) := by decide +kernel
theorem dX4_findToward_82 : decode cX4_findToward 82 = .ok (.istore 5, 2) := by decide +kernel
theorem dX4_findToward_84 : decode cX4_findToward 84 = .ok (.iconst 0, 1) := by decide +kernel
theorem dX4_findToward_85 : decode cX4_findToward 85 = .ok (.istore 6, 2) := by decide +kernel
theorem dX4_findToward_87 : decode cX4_findToward 87 = .ok (.iload 6, 2) := by decide +kernel
theorem dX4_findToward_89 : decode cX4_findToward 89 = .ok (.aload_n 1, 1) := by decide +kernel
theorem dX4_findToward_90 : decode cX4_findToward 90 = .ok (.getfield 42, 3) := by decide +kernel
theorem dX4_findToward_93 : decode cX4_findToward 93 = .ok (.if_icmp .ge 47, 3) := by decide +kernel
theorem dX4_findToward_96 : decode cX4_findToward 96 = .ok (.aload_n 0, 1) := by decide +kernel
theorem dX4_findToward_97 : decode cX4_findToward 97 = .ok (.iload 4, 2) := by decide +kernel
theorem dX4_findToward_99 : decode cX4_findToward 99 = .ok (.iload 5, 2) := by decide +kernel
theorem dX4_findToward_101 : decode cX4_findToward 101 = .ok (.invokevirtual 53, 3) := by decide +kernel
theorem dX4_findToward_104 : decode cX4_findToward 104 = .ok (.istore 7, 2) := by decide +kernel
theorem dX4_findToward_106 : decode cX4_findToward 106 = .ok (.iload 7, 2) := by decide +kernel
theorem dX4_findToward_108 : decode cX4_findToward 108 = .ok (.iconst (-1), 1) := by decide +kernel
theorem dX4_findToward_109 : decode cX4_findToward 109 = .ok (.if_icmp .ne 4, 3) := by decide +kernel
theorem dX4_findToward_112 : decode cX4_findToward 112 = .ok (.return_, 1) := by decide +kernel
theorem dX4_findToward_113 : decode cX4_findToward 113 = .ok (.iload 5, 2) := by decide +kernel
theorem dX4_findToward_115 : decode cX4_findToward 115 = .ok (.iconst 1, 1) := by decide +kernel
theorem dX4_findToward_116 : decode cX4_findToward 116 = .ok (.iload 7, 2) := by decide +kernel
theorem dX4_findToward_118 : decode cX4_findToward 118 = .ok (.ishl, 1) := by decide +kernel
theorem dX4_findToward_119 : decode cX4_findToward 119 = .ok (.iconst (-1), 1) := by decide +kernel
theorem dX4_findToward_120 : decode cX4_findToward 120 = .ok (.ixor, 1) := by decide +kernel
theorem dX4_findToward_121 : decode cX4_findToward 121 = .ok (.iand, 1) := by decide +kernel
theorem dX4_findToward_122 : decode cX4_findToward 122 = .ok (.istore 5, 2) := by decide +kernel
theorem dX4_findToward_124 : decode cX4_findToward 124 = .ok (.aload_n 0, 1) := by decide +kernel
theorem dX4_findToward_125 : decode cX4_findToward 125 = .ok (.aload_n 1, 1) := by decide +kernel
theorem dX4_findToward_126 : decode cX4_findToward 126 = .ok (.iload 4, 2) := by decide +kernel
theorem dX4_findToward_128 : decode cX4_findToward 128 = .ok (.iload 7, 2) := by decide +kernel
theorem dX4_findToward_130 : decode cX4_findToward 130 = .ok (.iload_n 3, 1) := by decide +kernel
theorem dX4_findToward_131 : decode cX4_findToward 131 = .ok (.invokevirtual 56, 3) := by decide +kernel
theorem dX4_findToward_134 : decode cX4_findToward 134 = .ok (.iinc 6 1, 3) := by decide +kernel
theorem dX4_findToward_137 : decode cX4_findToward 137 = .ok (.goto (-50), 3) := by decide +kernel
theorem dX4_findToward_140 : decode cX4_findToward 140 = .ok (.return_, 1) := by decide +kernel
abbrev mX4_findToward : MI := (RX4, yX4_findToward, cX4_findToward, 8, none)
theorem mok_X4_findToward : MOKv mX4_findToward 3 := ⟨⟨bm_697, bm_123, ⟨by decide, by decide⟩, by decide +kernel⟩, bm_695, bm_696⟩
def f_X4_findToward_87b   (a0 : Nat) (a1 : Nat) (x3 : Int32) (x4 : Int32) (k87 : Int32 × Int32 → MH → Option (MH)) (p : Int32 × Int32) (h : MH) : Option (MH) :=
  if p.2 < (gI h a1 0) then
    (f_X4_nearest a0 x4 p.1 h).bind fun q_1 =>
    if q_1.1 = (-1 : Int32) then
      some q_1.2
    else
      lt (p.1 &&& (((1 : Int32) <<< (q_1.1 &&& 31)) ^^^ (-1 : Int32))) fun x_2 =>
      (f_X4_comeInto a0 a1 x4 q_1.1 x3 q_1.2).bind fun q_3 =>
      k87 (x_2, (p.2 + 1)) q_3
  else
    some h
def f_X4_findToward_87   (a0 : Nat) (a1 : Nat) (x3 : Int32) (x4 : Int32) : Nat → Int32 × Int32 → MH → Option (MH) := lp (f_X4_findToward_87b a0 a1 x3 x4)
def f_X4_findToward_18b   (a0 : Nat) (a1 : Nat) (x2 : Int32) (x3 : Int32) (x4 : Int32) (k18 : Int32 → MH → Option (MH)) (p : Int32) (h : MH) : Option (MH) :=
  if p < 10 then
    (gR h a0 0).bind fun a_1 =>
    (stI h a_1 (x4 + p) 1000000).bind fun h_2 =>
    (gR h_2 a0 1).bind fun a_3 =>
    (stL h_2 a_3 (x4 + p) 0).bind fun h_4 =>
    k18 (p + 1) h_4
  else
    (gR h a0 0).bind fun a_5 =>
    (stI h a_5 (x4 + x2) 0).bind fun h_6 =>
    (gR h_6 a0 1).bind fun a_7 =>
    (stL h_6 a_7 (x4 + x2) 1).bind fun h_8 =>
    lt (((1 : Int32) <<< ((gI h_8 a1 0) &&& 31)) - 1) fun x_9 =>
    f_X4_findToward_87 a0 a1 x3 x4 FU (x_9, 0) h_8
def f_X4_findToward_18   (a0 : Nat) (a1 : Nat) (x2 : Int32) (x3 : Int32) (x4 : Int32) : Nat → Int32 → MH → Option (MH) := lp (f_X4_findToward_18b a0 a1 x2 x3 x4)
def f_X4_findToward   (a0 : Nat) (a1 : Nat) (x2 : Int32) (x3 : Int32) (h : MH) : Option (MH) :=
  (f_X2_hasNode a1 x2 h).bind fun q_1 =>
  if q_1.1 = 0 then
    some q_1.2
  else
    lt (x2 * 10) fun x_2 =>
    f_X4_findToward_18 a0 a1 x2 x3 x_2 FU 0 q_1.2
set_option maxRecDepth 100000 in
set_option maxHeartbeats 4000000 in
theorem v_X4_findToward_87b {l : Launch} {G : GE} {B N : Nat} {S : List SHP} {o : MH} {a0 : Nat} {a1 : Nat} {x3 : Int32} {x4 : Int32}    (hs0 : S[a0]? = some (.inl 4)) (hs1 : S[a1]? = some (.inl 2)) {k87 : Int32 × Int32 → MH → Option (MH)} (hk87 : ∀ (p : Int32 × Int32) (h : MH), k87 p h = some o → V l G B N mX4_findToward (rmm 4 0 0) false 0 0 (QV S o) S 0 0 87 [(0, .ref a0), (1, .ref a1), (3, .int x3), (4, .int x4), (5, .int p.1), (6, .int p.2)] [] h) {p : Int32 × Int32} {h : MH} (hf : f_X4_findToward_87b a0 a1 x3 x4 k87 p h = some o) : V l G B N mX4_findToward (rmm 4 0 0) false 0 0 (QV S o) S 0 0 87 [(0, .ref a0), (1, .ref a1), (3, .int x3), (4, .int x4), (5, .int p.1), (6, .int p.2)] [] h := by
  unfold f_X4_findToward_87b at hf
  refine V_iload (pc' := 89) dX4_findToward_87 rfl 5 rfl ?_
  refine V_aload_n (pc' := 90) dX4_findToward_89 rfl 1 rfl rfl ?_
  refine V_getI (pc' := 93) 2 0 dX4_findToward_90 rfl (by decide) (Nat.le_of_ble_eq_true rfl) bm_184 hs1 (fun _ _ _ => rfl) ?_
  refine V_icmp_ge (tgt := 140) (pc' := 96) dX4_findToward_93 (by decide) rfl hf (fun hf => ?_) (fun hf => ?_)
  ·
    refine V_aload_n (pc' := 97) dX4_findToward_96 rfl 0 rfl rfl ?_
    refine V_iload (pc' := 99) dX4_findToward_97 rfl 3 rfl ?_
    refine V_iload (pc' := 101) dX4_findToward_99 rfl 4 rfl ?_
    refine V_cvI (pc' := 104) (As := [.int x4, .int p.1]) (rest := []) dX4_findToward_101 rfl mok_X4_nearest bm_700 4 (by decide) rfl hs0 rfl rfl (Nat.le_of_ble_eq_true rfl) (by decide) hf (fun q e => ct_X4_nearest hs0 e) (fun q_1 hf => ?_)
    refine V_istore (lv' := [(7, .int q_1.1), (0, .ref a0), (1, .ref a1), (3, .int x3), (4, .int x4), (5, .int p.1), (6, .int p.2)]) (pc' := 106) dX4_findToward_104 rfl (Nat.le_of_ble_eq_true rfl) rfl ?_
    refine V_iload (pc' := 108) dX4_findToward_106 rfl 0 rfl ?_
    refine V_iconst (v := (-1)) (pc' := 109) dX4_findToward_108 rfl (by decide) ?_
    refine V_icmp_ne (tgt := 113) (pc' := 112) dX4_findToward_109 (by decide) rfl hf (fun hf => ?_) (fun hf => ?_)
    ·
      obtain rfl := Option.some.inj hf
      exact V_vret dX4_findToward_112 rfl rfl rfl ⟨rfl, rfl, rfl⟩
    ·
      refine V_iload (pc' := 115) dX4_findToward_113 rfl 5 rfl ?_
      refine V_iconst (v := 1) (pc' := 116) dX4_findToward_115 rfl (by decide) ?_
      refine V_iload (pc' := 118) dX4_findToward_116 rfl 0 rfl ?_
      refine V_ishl (pc' := 119) dX4_findToward_118 rfl ?_
      refine V_iconst (v := (-1)) (pc' := 120) dX4_findToward_119 rfl (by decide) ?_
      refine V_ixor (pc' := 121) dX4_findToward_120 rfl ?_
      refine V_iand (pc' := 122) dX4_findToward_121 rfl ?_
      refine V_nmI hf (fun x_2 hf => ?_)
      refine V_istore (lv' := [(5, .int x_2), (7, .int q_1.1), (0, .ref a0), (1, .ref a1), (3, .int x3), (4, .int x4), (6, .int p.2)]) (pc' := 124) dX4_findToward_122 rfl (Nat.le_of_ble_eq_true rfl) rfl ?_
      refine V_aload_n (pc' := 125) dX4_findToward_124 rfl 2 rfl rfl ?_
      refine V_aload_n (pc' := 126) dX4_findToward_125 rfl 3 rfl rfl ?_
      refine V_iload (pc' := 128) dX4_findToward_126 rfl 5 rfl ?_
      refine V_iload (pc' := 130) dX4_findToward_128 rfl 1 rfl ?_
      refine V_iload_n (pc' := 131) dX4_findToward_130 rfl 4 rfl rfl ?_
      refine V_cvV (pc' := 134) (As := [.ref a1, .int x4, .int q_1.1, .int x3]) (rest := []) dX4_findToward_131 rfl mok_X4_comeInto bm_704 4 (by decide) rfl hs0 rfl rfl (Nat.le_of_ble_eq_true rfl) (by decide) hf (fun q e => ct_X4_comeInto hs0 hs1 e) (fun q_3 hf => ?_)
      refine V_iinc (v := (p.2 + 1)) (lv' := [(6, .int (p.2 + 1)), (5, .int x_2), (7, .int q_1.1), (0, .ref a0), (1, .ref a1), (3, .int x3), (4, .int x4)]) (pc' := 137) dX4_findToward_134 rfl 6 rfl rfl (Nat.le_of_ble_eq_true rfl) rfl ?_
      refine V_goto (tgt := 87) dX4_findToward_137 (by decide) ?_
      exact V_sub (lv' := [(0, .ref a0), (1, .ref a1), (3, .int x3), (4, .int x4), (5, .int x_2), (6, .int (p.2 + 1))]) [3, 4, 5, 6, 1, 0] rfl (hk87 (x_2, (p.2 + 1)) q_3 hf)
  ·
    obtain rfl := Option.some.inj hf
    exact V_vret dX4_findToward_140 rfl rfl rfl ⟨rfl, rfl, rfl⟩
theorem v_X4_findToward_87 {l : Launch} {G : GE} {B N : Nat} {S : List SHP} {o : MH} {a0 : Nat} {a1 : Nat} {x3 : Int32} {x4 : Int32}    (hs0 : S[a0]? = some (.inl 4)) (hs1 : S[a1]? = some (.inl 2)) {n : Nat} {p : Int32 × Int32} {h : MH} (hf : f_X4_findToward_87 a0 a1 x3 x4 n p h = some o) : V l G B N mX4_findToward (rmm 4 0 0) false 0 0 (QV S o) S 0 0 87 [(0, .ref a0), (1, .ref a1), (3, .int x3), (4, .int x4), (5, .int p.1), (6, .int p.2)] [] h :=
  V_lp (VV := fun p h => V l G B N mX4_findToward (rmm 4 0 0) false 0 0 (QV S o) S 0 0 87 [(0, .ref a0), (1, .ref a1), (3, .int x3), (4, .int x4), (5, .int p.1), (6, .int p.2)] [] h) (fun _ hk _ _ hf => v_X4_findToward_87b hs0 hs1 hk hf) n p h hf
set_option maxRecDepth 100000 in
set_option maxHeartbeats 4000000 in
theorem v_X4_findToward_18b {l : Launch} {G : GE} {B N : Nat} {S : List SHP} {o : MH} {a0 : Nat} {a1 : Nat} {x2 : Int32} {x3 : Int32} {x4 : Int32}    (hs0 : S[a0]? = some (.inl 4)) (hs1 : S[a1]? = some (.inl 2)) {k18 : Int32 → MH → Option (MH)} (hk18 : ∀ (p : Int32) (h : MH), k18 p h = some o → V l G B N mX4_findToward (rmm 4 0 0) false 0 0 (QV S o) S 0 0 18 [(0, .ref a0), (1, .ref a1), (2, .int x2), (3, .int x3), (4, .int x4), (5, .int p)] [] h) {p : Int32} {h : MH} (hf : f_X4_findToward_18b a0 a1 x2 x3 x4 k18 p h = some o) : V l G B N mX4_findToward (rmm 4 0 0) false 0 0 (QV S o) S 0 0 18 [(0, .ref a0), (1, .ref a1), (2, .int x2), (3, .int x3), (4, .int x4), (5, .int p)] [] h := by
  unfold f_X4_findToward_18b at hf
  refine V_iload (pc' := 20) dX4_findToward_18 rfl 5 rfl ?_
  refine V_bipush (v := 10) (pc' := 22) dX4_findToward_20 rfl (by decide) ?_
  refine V_icmp_ge (tgt := 54) (pc' := 25) dX4_findToward_22 (by decide) rfl hf (fun hf => ?_) (fun hf => ?_)
  ·
    refine V_aload_n (pc' := 26) dX4_findToward_25 rfl 0 rfl rfl ?_
    refine V_getR (pc' := 29) 4 0 dX4_findToward_26 rfl (by decide) (Nat.le_of_ble_eq_true rfl) bm_348 hs0 (fun _ _ _ => rfl) rfl hf (fun a_1 ha_1 hf => ?_)
    refine V_iload (pc' := 31) dX4_findToward_29 rfl 4 rfl ?_
    refine V_iload (pc' := 33) dX4_findToward_31 rfl 5 rfl ?_
    refine V_iadd (pc' := 34) dX4_findToward_33 rfl ?_
    refine V_ldc (v := 1000000) (pc' := 36) dX4_findToward_34 rfl bm_699 ?_
    refine V_iast (pc' := 37) dX4_findToward_36 rfl ha_1 hf (fun h_2 hf => ?_)
    refine V_aload_n (pc' := 38) dX4_findToward_37 rfl 0 rfl rfl ?_
    refine V_getR (pc' := 41) 4 1 dX4_findToward_38 rfl (by decide) (Nat.le_of_ble_eq_true rfl) bm_349 hs0 (fun _ _ _ => rfl) rfl hf (fun a_3 ha_3 hf => ?_)
    refine V_iload (pc' := 43) dX4_findToward_41 rfl 4 rfl ?_
    refine V_iload (pc' := 45) dX4_findToward_43 rfl 5 rfl ?_
    refine V_iadd (pc' := 46) dX4_findToward_45 rfl ?_
    refine V_lconst (v := 0) (pc' := 47) dX4_findToward_46 rfl (by decide) ?_
    refine V_last (pc' := 48) dX4_findToward_47 rfl ha_3 hf (fun h_4 hf => ?_)
    refine V_iinc (v := (p + 1)) (lv' := [(5, .int (p + 1)), (0, .ref a0), (1, .ref a1), (2, .int x2), (3, .int x3), (4, .int x4)]) (pc' := 51) dX4_findToward_48 rfl 5 rfl rfl (Nat.le_of_ble_eq_true rfl) rfl ?_
    refine V_goto (tgt := 18) dX4_findToward_51 (by decide) ?_
    exact V_sub (lv' := [(0, .ref a0), (1, .ref a1), (2, .int x2), (3, .int x3), (4, .int x4), (5, .int (p + 1))]) [1, 2, 3, 4, 5, 0] rfl (hk18 (p + 1) h_4 hf)
  ·
    refine V_aload_n (pc' := 55) dX4_findToward_54 rfl 0 rfl rfl ?_
    refine V_getR (pc' := 58) 4 0 dX4_findToward_55 rfl (by decide) (Nat.le_of_ble_eq_true rfl) bm_348 hs0 (fun _ _ _ => rfl) rfl hf (fun a_5 ha_5 hf => ?_)
    refine V_iload (pc' := 60) dX4_findToward_58 rfl 4 rfl ?_
    refine V_iload_n (pc' := 61) dX4_findToward_60 rfl 2 rfl rfl ?_
    refine V_iadd (pc' := 62) dX4_findToward_61 rfl ?_
    refine V_iconst (v := 0) (pc' := 63) dX4_findToward_62 rfl (by decide) ?_
    refine V_iast (pc' := 64) dX4_findToward_63 rfl ha_5 hf (fun h_6 hf => ?_)
    refine V_aload_n (pc' := 65) dX4_findToward_64 rfl 0 rfl rfl ?_
    refine V_getR (pc' := 68) 4 1 dX4_findToward_65 rfl (by decide) (Nat.le_of_ble_eq_true rfl) bm_349 hs0 (fun _ _ _ => rfl) rfl hf (fun a_7 ha_7 hf => ?_)
    refine V_iload (pc' := 70) dX4_findToward_68 rfl 4 rfl ?_
    refine V_iload_n (pc' := 71) dX4_findToward_70 rfl 2 rfl rfl ?_
    refine V_iadd (pc' := 72) dX4_findToward_71 rfl ?_
    refine V_lconst (v := 1) (pc' := 73) dX4_findToward_72 rfl (by decide) ?_
    refine V_last (pc' := 74) dX4_findToward_73 rfl ha_7 hf (fun h_8 hf => ?_)
    refine V_iconst (v := 1) (pc' := 75) dX4_findToward_74 rfl (by decide) ?_
    refine V_aload_n (pc' := 76) dX4_findToward_75 rfl 1 rfl rfl ?_
    refine V_getI (pc' := 79) 2 0 dX4_findToward_76 rfl (by decide) (Nat.le_of_ble_eq_true rfl) bm_184 hs1 (fun _ _ _ => rfl) ?_
    refine V_ishl (pc' := 80) dX4_findToward_79 rfl ?_
    refine V_iconst (v := 1) (pc' := 81) dX4_findToward_80 rfl (by decide) ?_
    refine V_isub (pc' := 82) dX4_findToward_81 rfl ?_
    refine V_nmI hf (fun x_9 hf => ?_)
    refine V_istore (lv' := [(5, .int x_9), (0, .ref a0), (1, .ref a1), (2, .int x2), (3, .int x3), (4, .int x4)]) (pc' := 84) dX4_findToward_82 rfl (Nat.le_of_ble_eq_true rfl) rfl ?_
    refine V_iconst (v := 0) (pc' := 85) dX4_findToward_84 rfl (by decide) ?_
    refine V_istore (lv' := [(6, .int 0), (5, .int x_9), (0, .ref a0), (1, .ref a1), (2, .int x2), (3, .int x3), (4, .int x4)]) (pc' := 87) dX4_findToward_85 rfl (Nat.le_of_ble_eq_true rfl) rfl ?_
    exact V_sub (lv' := [(0, .ref a0), (1, .ref a1), (3, .int x3), (4, .int x4), (5, .int x_9), (6, .int 0)]) [2, 3, 5, 6, 1, 0] rfl (v_X4_findToward_87 hs0 hs1 hf)
theorem v_X4_findToward_18 {l : Launch} {G : GE} {B N : Nat} {S : List SHP} {o : MH} {a0 : Nat} {a1 : Nat} {x2 : Int32} {x3 : Int32} {x4 : Int32}    (hs0 : S[a0]? = some (.inl 4)) (hs1 : S[a1]? = some (.inl 2)) {n : Nat} {p : Int32} {h : MH} (hf : f_X4_findToward_18 a0 a1 x2 x3 x4 n p h = some o) : V l G B N mX4_findToward (rmm 4 0 0) false 0 0 (QV S o) S 0 0 18 [(0, .ref a0), (1, .ref a1), (2, .int x2), (3, .int x3), (4, .int x4), (5, .int p)] [] h :=
  V_lp (VV := fun p h => V l G B N mX4_findToward (rmm 4 0 0) false 0 0 (QV S o) S 0 0 18 [(0, .ref a0), (1, .ref a1), (2, .int x2), (3, .int x3), (4, .int x4), (5, .int p)] [] h) (fun _ hk _ _ hf => v_X4_findToward_18b hs0 hs1 hk hf) n p h hf
set_option maxRecDepth 100000 in
set_option maxHeartbeats 4000000 in
theorem v_X4_findToward {l : Launch} {G : GE} {B N : Nat} {S : List SHP} {o : MH} {a0 : Nat} {a1 : Nat} {x2 : Int32} {x3 : Int32}    (hs0 : S[a0]? = some (.inl 4)) (hs1 : S[a1]? = some (.inl 2)) {h : MH} (hf : f_X4_findToward a0 a1 x2 x3 h = some o) : V l G B N mX4_findToward (rmm 4 0 0) false 0 0 (QV S o) S 0 0 0 [(0, .ref a0), (1, .ref a1), (2, .int x2), (3, .int x3)] [] h := by
  unfold f_X4_findToward at hf
  refine V_aload_n (pc' := 1) dX4_findToward_0 rfl 1 rfl rfl ?_
  refine V_iload_n (pc' := 2) dX4_findToward_1 rfl 2 rfl rfl ?_
  refine V_cvI (pc' := 5) (As := [.int x2]) (rest := []) dX4_findToward_2 rfl mok_X2_hasNode bm_698 2 (by decide) rfl hs1 rfl rfl (Nat.le_of_ble_eq_true rfl) (by decide) hf (fun q e => ct_X2_hasNode hs1 e) (fun q_1 hf => ?_)
  refine V_if_ne (tgt := 9) (pc' := 8) dX4_findToward_5 (by decide) rfl hf (fun hf => ?_) (fun hf => ?_)
  ·
    obtain rfl := Option.some.inj hf
    exact V_vret dX4_findToward_8 rfl rfl rfl ⟨rfl, rfl, rfl⟩
  ·
    refine V_iload_n (pc' := 10) dX4_findToward_9 rfl 2 rfl rfl ?_
    refine V_bipush (v := 10) (pc' := 12) dX4_findToward_10 rfl (by decide) ?_
    refine V_imul (pc' := 13) dX4_findToward_12 rfl ?_
    refine V_nmI hf (fun x_2 hf => ?_)
    refine V_istore (lv' := [(4, .int x_2), (0, .ref a0), (1, .ref a1), (2, .int x2), (3, .int x3)]) (pc' := 15) dX4_findToward_13 rfl (Nat.le_of_ble_eq_true rfl) rfl ?_
    refine V_iconst (v := 0) (pc' := 16) dX4_findToward_15 rfl (by decide) ?_
    refine V_istore (lv' := [(5, .int 0), (4, .int x_2), (0, .ref a0), (1, .ref a1), (2, .int x2), (3, .int x3)]) (pc' := 18) dX4_findToward_16 rfl (Nat.le_of_ble_eq_true rfl) rfl ?_
    exact V_sub (lv' := [(0, .ref a0), (1, .ref a1), (2, .int x2), (3, .int x3), (4, .int x_2), (5, .int 0)]) [2, 3, 4, 5, 1, 0] rfl (v_X4_findToward_18 hs0 hs1 hf)
theorem ct_X4_findToward {l : Launch} {S : List SHP} {h : MH} {a0 : Nat} {a1 : Nat} {x2 : Int32} {x3 : Int32} (hs0 : S[a0]? = some (.inl 4)) (hs1 : S[a1]? = some (.inl 2)) {q : MH} (hf : f_X4_findToward a0 a1 x2 x3 h = some q) : CT l mX4_findToward 4 false 0 0 S [.ref a0, .ref a1, .int x2, .int x3] h (QV S q) :=
  CT_ofV (by decide) rfl (Nat.le_of_ble_eq_true rfl) (fun G B hT => v_X4_findToward hs0 hs1 hf)
/-! LabelStacks$Routes.findAll(LLabelStacks$Network;I)V -/
theorem dX4_findAll_0 : decode cX4_findAll 0 = .ok (.iconst 0, 1) := by decide +kernel
theorem dX4_findAll_1 : decode cX4_findAll 1 = .ok (.istore_n 3, 1) := by decide +kernel
theorem dX4_findAll_2 : decode cX4_findAll 2 = .ok (.iload_n 3, 1) := by decide +kernel
theorem dX4_findAll_3 : decode cX4_findAll 3 = .ok (.aload_n 1, 1) := by decide +kernel
theorem dX4_findAll_4 : decode cX4_findAll 4 = .ok (.getfield 42, 3) := by decide +kernel
theorem dX4_findAll_7 : decode cX4_findAll 7 = .ok (.if_icmp .ge 16, 3) := by decide +kernel
theorem dX4_findAll_10 : decode cX4_findAll 10 = .ok (.aload_n 0, 1) := by decide +kernel
theorem dX4_findAll_11 : decode cX4_findAll 11 = .ok (.aload_n 1, 1) := by decide +kernel
theorem dX4_findAll_12 : decode cX4_findAll 12 = .ok (.iload_n 3, 1) := by decide +kernel
theorem dX4_findAll_13 : decode cX4_findAll 13 = .ok (.iload_n 2, 1) := by decide +kernel
theorem dX4_findAll_14 : decode cX4_findAll 14 = .ok (.invokevirtual 45, 3) := by decide +kernel
theorem dX4_findAll_17 : decode cX4_findAll 17 = .ok (.iinc 3 1, 3) := by decide +kernel
theorem dX4_findAll_20 : decode cX4_findAll 20 = .ok (.goto (-18), 3) := by decide +kernel
theorem dX4_findAll_23 : decode cX4_findAll 23 = .ok (.return_, 1) := by decide +kernel
abbrev mX4_findAll : MI := (RX4, yX4_findAll, cX4_findAll, 4, none)
theorem mok_X4_findAll : MOKv mX4_findAll 2 := ⟨⟨bm_693, bm_123, ⟨by decide, by decide⟩, by decide +kernel⟩, bm_691, bm_692⟩
def f_X4_findAll_2b   (a0 : Nat) (a1 : Nat) (x2 : Int32) (k2 : Int32 → MH → Option (MH)) (p : Int32) (h : MH) : Option (MH) :=
  if p < (gI h a1 0) then
    (f_X4_findToward a0 a1 p x2 h).bind fun q_1 =>
    k2 (p + 1) q_1
  else
    some h
def f_X4_findAll_2   (a0 : Nat) (a1 : Nat) (x2 : Int32) : Nat → Int32 → MH → Option (MH) := lp (f_X4_findAll_2b a0 a1 x2)
def f_X4_findAll   (a0 : Nat) (a1 : Nat) (x2 : Int32) (h : MH) : Option (MH) :=
  f_X4_findAll_2 a0 a1 x2 FU 0 h
set_option maxRecDepth 100000 in
set_option maxHeartbeats 4000000 in
theorem v_X4_findAll_2b {l : Launch} {G : GE} {B N : Nat} {S : List SHP} {o : MH} {a0 : Nat} {a1 : Nat} {x2 : Int32}    (hs0 : S[a0]? = some (.inl 4)) (hs1 : S[a1]? = some (.inl 2)) {k2 : Int32 → MH → Option (MH)} (hk2 : ∀ (p : Int32) (h : MH), k2 p h = some o → V l G B N mX4_findAll (rmm 5 0 0) false 0 0 (QV S o) S 0 0 2 [(0, .ref a0), (1, .ref a1), (2, .int x2), (3, .int p)] [] h) {p : Int32} {h : MH} (hf : f_X4_findAll_2b a0 a1 x2 k2 p h = some o) : V l G B N mX4_findAll (rmm 5 0 0) false 0 0 (QV S o) S 0 0 2 [(0, .ref a0), (1, .ref a1), (2, .int x2), (3, .int p)] [] h := by
  unfold f_X4_findAll_2b at hf
  refine V_iload_n (pc' := 3) dX4_findAll_2 rfl 3 rfl rfl ?_
  refine V_aload_n (pc' := 4) dX4_findAll_3 rfl 1 rfl rfl ?_
  refine V_getI (pc' := 7) 2 0 dX4_findAll_4 rfl (by decide) (Nat.le_of_ble_eq_true rfl) bm_184 hs1 (fun _ _ _ => rfl) ?_
  refine V_icmp_ge (tgt := 23) (pc' := 10) dX4_findAll_7 (by decide) rfl hf (fun hf => ?_) (fun hf => ?_)
  ·
    refine V_aload_n (pc' := 11) dX4_findAll_10 rfl 0 rfl rfl ?_
    refine V_aload_n (pc' := 12) dX4_findAll_11 rfl 1 rfl rfl ?_
    refine V_iload_n (pc' := 13) dX4_findAll_12 rfl 3 rfl rfl ?_
    refine V_iload_n (pc' := 14) dX4_findAll_13 rfl 2 rfl rfl ?_
    refine V_cvV (pc' := 17) (As := [.ref a1, .int p, .int x2]) (rest := []) dX4_findAll_14 rfl mok_X4_findToward bm_694 4 (by decide) rfl hs0 rfl rfl (Nat.le_of_ble_eq_true rfl) (by decide) hf (fun q e => ct_X4_findToward hs0 hs1 e) (fun q_1 hf => ?_)
    refine V_iinc (v := (p + 1)) (lv' := [(3, .int (p + 1)), (0, .ref a0), (1, .ref a1), (2, .int x2)]) (pc' := 20) dX4_findAll_17 rfl 3 rfl rfl (Nat.le_of_ble_eq_true rfl) rfl ?_
    refine V_goto (tgt := 2) dX4_findAll_20 (by decide) ?_
    exact V_sub (lv' := [(0, .ref a0), (1, .ref a1), (2, .int x2), (3, .int (p + 1))]) [1, 2, 3, 0] rfl (hk2 (p + 1) q_1 hf)
  ·
    obtain rfl := Option.some.inj hf
    exact V_vret dX4_findAll_23 rfl rfl rfl ⟨rfl, rfl, rfl⟩
theorem v_X4_findAll_2 {l : Launch} {G : GE} {B N : Nat} {S : List SHP} {o : MH} {a0 : Nat} {a1 : Nat} {x2 : Int32}    (hs0 : S[a0]? = some (.inl 4)) (hs1 : S[a1]? = some (.inl 2)) {n : Nat} {p : Int32} {h : MH} (hf : f_X4_findAll_2 a0 a1 x2 n p h = some o) : V l G B N mX4_findAll (rmm 5 0 0) false 0 0 (QV S o) S 0 0 2 [(0, .ref a0), (1, .ref a1), (2, .int x2), (3, .int p)] [] h :=
  V_lp (VV := fun p h => V l G B N mX4_findAll (rmm 5 0 0) false 0 0 (QV S o) S 0 0 2 [(0, .ref a0), (1, .ref a1), (2, .int x2), (3, .int p)] [] h) (fun _ hk _ _ hf => v_X4_findAll_2b hs0 hs1 hk hf) n p h hf
set_option maxRecDepth 100000 in
set_option maxHeartbeats 4000000 in
theorem v_X4_findAll {l : Launch} {G : GE} {B N : Nat} {S : List SHP} {o : MH} {a0 : Nat} {a1 : Nat} {x2 : Int32}    (hs0 : S[a0]? = some (.inl 4)) (hs1 : S[a1]? = some (.inl 2)) {h : MH} (hf : f_X4_findAll a0 a1 x2 h = some o) : V l G B N mX4_findAll (rmm 5 0 0) false 0 0 (QV S o) S 0 0 0 [(0, .ref a0), (1, .ref a1), (2, .int x2)] [] h := by
  unfold f_X4_findAll at hf
  refine V_iconst (v := 0) (pc' := 1) dX4_findAll_0 rfl (by decide) ?_
  refine V_istore_n (lv' := [(3, .int 0), (0, .ref a0), (1, .ref a1), (2, .int x2)]) (pc' := 2) dX4_findAll_1 rfl rfl (Nat.le_of_ble_eq_true rfl) rfl ?_
  exact V_sub (lv' := [(0, .ref a0), (1, .ref a1), (2, .int x2), (3, .int 0)]) [1, 2, 3, 0] rfl (v_X4_findAll_2 hs0 hs1 hf)
theorem ct_X4_findAll {l : Launch} {S : List SHP} {h : MH} {a0 : Nat} {a1 : Nat} {x2 : Int32} (hs0 : S[a0]? = some (.inl 4)) (hs1 : S[a1]? = some (.inl 2)) {q : MH} (hf : f_X4_findAll a0 a1 x2 h = some q) : CT l mX4_findAll 5 false 0 0 S [.ref a0, .ref a1, .int x2] h (QV S q) :=
  CT_ofV (by decide) rfl (Nat.le_of_ble_eq_true rfl) (fun G B hT => v_X4_findAll hs0 hs1 hf)
/-! LabelStacks$Routes.join(LLabelStacks$Routes;LLabelStacks$Network;I)V -/
theorem dX4_join_0 : decode cX4_join 0 = .ok (.aload_n 2, 1) := by decide +kernel
theorem dX4_join_1 : decode cX4_join 1 = .ok (.getfield 30, 3) := by decide +kernel
theorem dX4_join_4 : decode cX4_join 4 = .ok (.iload_n 3, 1) := by decide +kernel
theorem dX4_join_5 : decode cX4_join 5 = .ok (.iaload, 1) := by decide +kernel
theorem dX4_join_6 : decode cX4_join 6 = .ok (.istore 4, 2) := by decide +kernel
theorem dX4_join_8 : decode cX4_join 8 = .ok (.aload_n 2, 1) := by decide +kernel
theorem dX4_join_9 : decode cX4_join 9 = .ok (.getfield 39, 3) := by decide +kernel
theorem dX4_join_12 : decode cX4_join 12 = .ok (.iload_n 3, 1) := by decide +kernel
theorem dX4_join_13 : decode cX4_join 13 = .ok (.iaload, 1) := by decide +kernel
theorem dX4_join_14 : decode cX4_join 14 = .ok (.istore 5, 2) := by decide +kernel
theorem dX4_join_16 : decode cX4_join 16 = .ok (.iconst 0, 1) := by decide +kernel
theorem dX4_join_17 : decode cX4_join 17 = .ok (.istore 6, 2) := by decide +kernel
theorem dX4_join_19 : decode cX4_join 19 = .ok (.iload 6, 2) := by decide +kernel
theorem dX4_join_21 : decode cX4_join 21 = .ok (.aload_n 2, 1) := by decide +kernel
theorem dX4_join_22 : decode cX4_join 22 = .ok (.getfield 42, 3) := by decide +kernel
theorem dX4_join_25 : decode cX4_join 25 = .ok (.if_icmp .ge 142, 3) := by decide +kernel
theorem dX4_join_28 : decode cX4_join 28 = .ok (.iconst 0, 1) := by decide +kernel
theorem dX4_join_29 : decode cX4_join 29 = .ok (.istore 7, 2) := by decide +kernel
theorem dX4_join_31 : decode cX4_join 31 = .ok (.iload 7, 2) := by decide +kernel
theorem dX4_join_33 : decode cX4_join 33 = .ok (.aload_n 2, 1) := by decide +kernel
theorem dX4_join_34 : decode cX4_join 34 = .ok (.getfield 42, 3) := by decide +kernel
theorem dX4_join_37 : decode cX4_join 37 = .ok (.if_icmp .ge 124, 3) := by decide +kernel
theorem dX4_join_40 : decode cX4_join 40 = .ok (.iload 6, 2) := by decide +kernel
theorem dX4_join_42 : decode cX4_join 42 = .ok (.bipush 10, 2) := by decide +kernel
theorem dX4_join_44 : decode cX4_join 44 = .ok (.imul, 1) := by decide +kernel
theorem dX4_join_45 : decode cX4_join 45 = .ok (.iload 7, 2) := by decide +kernel
theorem dX4_join_47 : decode cX4_join 47 = .ok (.iadd, 1) := by decide +kernel
theorem dX4_join_48 : decode cX4_join 48 = .ok (.istore 8, 2) := by decide +kernel
theorem dX4_join_50 : decode cX4_join 50 = .ok (.aload_n 1, 1) := by decide +kernel
theorem dX4_join_51 : decode cX4_join 51 = .ok (.getfield 9, 3) := by decide +kernel
theorem dX4_join_54 : decode cX4_join 54 = .ok (.iload 8, 2) := by decide +kernel
theorem dX4_join_56 : decode cX4_join 56 = .ok (.iaload, 1) := by decide +kernel
theorem dX4_join_57 : decode cX4_join 57 = .ok (.istore 9, 2) := by decide +kernel
theorem dX4_join_59 : decode cX4_join 59 = .ok (.aload_n 1, 1) := by decide +kernel
theorem dX4_join_60 : decode cX4_join 60 = .ok (.getfield 15, 3) := by decide +kernel
theorem dX4_join_63 : decode cX4_join 63 = .ok (.iload 8, 2) := by decide +kernel
theorem dX4_join_65 : decode cX4_join 65 = .ok (.laload, 1) := by decide +kernel
theorem dX4_join_66 : decode cX4_join 66 = .ok (.lstore 10, 2) := by decide +kernel
theorem dX4_join_68 : decode cX4_join 68 = .ok (.aload_n 1, 1) := by decide +kernel
theorem dX4_join_69 : decode cX4_join 69 = .ok (.iload 7, 2) := by decide +kernel
theorem dX4_join_71 : decode cX4_join 71 = .ok (.iload 4, 2) := by decide +kernel
theorem dX4_join_73 : decode cX4_join 73 = .ok (.invokevirtual 20, 3) := by decide +kernel
theorem dX4_join_76 : decode cX4_join 76 = .ok (.aload_n 2, 1) := by decide +kernel
theorem dX4_join_77 : decode cX4_join 77 = .ok (.getfield 36, 3) := by decide +kernel
theorem dX4_join_80 : decode cX4_join 80 = .ok (.iload_n 3, 1) := by decide +kernel
theorem dX4_join_81 : decode cX4_join 81 = .ok (.iaload, 1) := by decide +kernel
theorem dX4_join_82 : decode cX4_join 82 = .ok (.iadd, 1) := by decide +kernel
theorem dX4_join_83 : decode cX4_join 83 = .ok (.aload_n 1, 1) := by decide +kernel
theorem dX4_join_84 : decode cX4_join 84 = .ok (.iload 5, 2) := by decide +kernel
theorem dX4_join_86 : decode cX4_join 86 = .ok (.iload 6, 2) := by decide +kernel
theorem dX4_join_88 : decode cX4_join 88 = .ok (.invokevirtual 20, 3) := by decide +kernel
theorem dX4_join_91 : decode cX4_join 91 = .ok (.iadd, 1) := by decide +kernel
theorem dX4_join_92 : decode cX4_join 92 = .ok (.istore 12, 2) := by decide +kernel
theorem dX4_join_94 : decode cX4_join 94 = .ok (.iload 12, 2) := by decide +kernel
theorem dX4_join_96 : decode cX4_join 96 = .ok (.iload 9, 2) := by decide +kernel
theorem dX4_join_98 : decode cX4_join 98 = .ok (.if_icmp .ge 10, 3) := by decide +kernel
theorem dX4_join_101 : decode cX4_join 101 = .ok (.iload 12, 2) := by decide +kernel
theorem dX4_join_103 : decode cX4_join 103 = .ok (.istore 9, 2) := by decide +kernel
theorem dX4_join_105 : decode cX4_join 105 = .ok (.lconst 0, 1) := by decide +kernel
theorem dX4_join_106 : decode cX4_join 106 = .ok (.lstore 10, 2) := by decide +kernel
theorem dX4_join_108 : decode cX4_join 108 = .ok (.iload 12, 2) := by decide +kernel
theorem dX4_join_110 : decode cX4_join 110 = .ok (.iload 9, 2) := by decide +kernel
theorem dX4_join_112 : decode cX4_join 112 = .ok (.if_icmp .ne 25, 3) := by decide +kernel
theorem dX4_join_115 : decode cX4_join 115 = .ok (.lload 10, 2) := by decide +kernel
theorem dX4_join_117 : decode cX4_join 117 = .ok (.aload_n 1, 1) := by decide +kernel
theorem dX4_join_118 : decode cX4_join 118 = .ok (.iload 7, 2) := by decide +kernel
theorem dX4_join_120 : decode cX4_join 120 = .ok (.iload 4, 2) := by decide +kernel
theorem dX4_join_122 : decode cX4_join 122 = .ok (.invokevirtual 60, 3) := by decide +kernel
theorem dX4_join_125 : decode cX4_join 125 = .ok (.aload_n 1, 1) := by decide +kernel
theorem dX4_join_126 : decode cX4_join 126 = .ok (.iload 5, 2) := by decide +kernel
theorem dX4_join_128 : decode cX4_join 128 = .ok (.iload 6, 2) := by decide +kernel
theorem dX4_join_130 : decode cX4_join 130 = .ok (.invokevirtual 60, 3) := by decide +kernel
theorem dX4_join_133 : decode cX4_join 133 = .ok (.lmul, 1) := by decide +kernel
theorem dX4_join_134 : decode cX4_join 134 = .ok (.ladd, 1) := by decide +kernel
theorem dX4_join_135 : decode cX4_join 135 = .ok (.lstore 10, 2) := by decide +kernel
theorem dX4_join_137 : decode cX4_join 137 = .ok (.aload_n 0, 1) := by decide +kernel
theorem dX4_join_138 : decode cX4_join 138 = .ok (.getfield 9, 3) := by decide +kernel
theorem dX4_join_141 : decode cX4_join 141 = .ok (.iload 8, 2) := by decide +kernel
theorem dX4_join_143 : decode cX4_join 143 = .ok (.iload 9, 2) := by decide +kernel
theorem dX4_join_145 : decode cX4_join 145 = .ok (.iastore, 1) := by decide +kernel
theorem dX4_join_146 : decode cX4_join 146 = .ok (.aload_n 0, 1) := by decide +kernel
theorem dX4_join_147 : decode cX4_join 147 = .ok (.getfield 15, 3) := by decide +kernel
theorem dX4_join_150 : decode cX4_join 150 = .ok (.iload 8, 2) := by decide +kernel
theorem dX4_join_152 : decode cX4_join 152 = .ok (.lload 10, 2) := by decide +kernel
theorem dX4_join_154 : decode cX4_join 154 = .ok (.lastore, 1) := by decide +kernel
theorem dX4_join_155 : decode cX4_join 155 = .ok (.iinc 7 1, 3) := by decide +kernel
theorem dX4_join_158 : decode cX4_join 158 = .ok (.goto (-127), 3) := by decide +kernel
theorem dX4_join_161 : decode cX4_join 161 = .ok (.iinc 6 1, 3) := by decide +kernel
theorem dX4_join_164 : decode cX4_join 164 = .ok (.goto (-145), 3) := by decide +kernel
theorem dX4_join_167 : decode cX4_join 167 = .ok (.return_, 1) := by decide +kernel
abbrev mX4_join : MI := (RX4, yX4_join, cX4_join, 13, none)
theorem mok_X4_join : MOKv mX4_join 3 := ⟨⟨bm_1018, bm_123, ⟨by decide, by decide⟩, by decide +kernel⟩, bm_1016, bm_1017⟩
def f_X4_join_137  (k19 : Int32 → MH → Option (MH)) (k31 : Int32 → MH → Option (MH)) (a0 : Nat) (a1 : Nat) (a2 : Nat) (x3 : Int32) (x4 : Int32) (x5 : Int32) (x6 : Int32) (x7 : Int32) (x8 : Int32) (x9 : Int32) (l10 : Int64) (h : MH) : Option (MH) :=
  (gR h a0 0).bind fun a_1 =>
  (stI h a_1 x8 x9).bind fun h_2 =>
  (gR h_2 a0 1).bind fun a_3 =>
  (stL h_2 a_3 x8 l10).bind fun h_4 =>
  k31 (x7 + 1) h_4
def f_X4_join_108  (k19 : Int32 → MH → Option (MH)) (k31 : Int32 → MH → Option (MH)) (a0 : Nat) (a1 : Nat) (a2 : Nat) (x3 : Int32) (x4 : Int32) (x5 : Int32) (x6 : Int32) (x7 : Int32) (x8 : Int32) (x9 : Int32) (l10 : Int64) (x12 : Int32) (h : MH) : Option (MH) :=
  if x12 = x9 then
    (f_X4_countOf a1 x7 x4 h).bind fun q_1 =>
    (f_X4_countOf a1 x5 x6 q_1.2).bind fun q_2 =>
    lt (l10 + (q_1.1 * q_2.1)) fun l_3 =>
    f_X4_join_137 k19 k31 a0 a1 a2 x3 x4 x5 x6 x7 x8 x9 l_3 q_2.2
  else
    f_X4_join_137 k19 k31 a0 a1 a2 x3 x4 x5 x6 x7 x8 x9 l10 h
def f_X4_join_31b  (k19 : Int32 → MH → Option (MH)) (a0 : Nat) (a1 : Nat) (a2 : Nat) (x3 : Int32) (x4 : Int32) (x5 : Int32) (x6 : Int32) (k31 : Int32 → MH → Option (MH)) (p : Int32) (h : MH) : Option (MH) :=
  if p < (gI h a2 0) then
    lt ((x6 * 10) + p) fun x_1 =>
    (gR h a1 0).bind fun a_2 =>
    (ldI h a_2 x_1).bind fun x_3 =>
    (gR h a1 1).bind fun a_4 =>
    (ldL h a_4 x_1).bind fun l_5 =>
    (f_X4_distance a1 p x4 h).bind fun q_6 =>
    (gR q_6.2 a2 5).bind fun a_7 =>
    (ldI q_6.2 a_7 x3).bind fun x_8 =>
    (f_X4_distance a1 x5 x6 q_6.2).bind fun q_9 =>
    lt ((q_6.1 + x_8) + q_9.1) fun x_10 =>
    if x_10 < x_3 then
      f_X4_join_108 k19 k31 a0 a1 a2 x3 x4 x5 x6 p x_1 x_10 0 x_10 q_9.2
    else
      f_X4_join_108 k19 k31 a0 a1 a2 x3 x4 x5 x6 p x_1 x_3 l_5 x_10 q_9.2
  else
    k19 (x6 + 1) h
def f_X4_join_31  (k19 : Int32 → MH → Option (MH)) (a0 : Nat) (a1 : Nat) (a2 : Nat) (x3 : Int32) (x4 : Int32) (x5 : Int32) (x6 : Int32) : Nat → Int32 → MH → Option (MH) := lp (f_X4_join_31b k19 a0 a1 a2 x3 x4 x5 x6)
def f_X4_join_19b   (a0 : Nat) (a1 : Nat) (a2 : Nat) (x3 : Int32) (x4 : Int32) (x5 : Int32) (k19 : Int32 → MH → Option (MH)) (p : Int32) (h : MH) : Option (MH) :=
  if p < (gI h a2 0) then
    f_X4_join_31 k19 a0 a1 a2 x3 x4 x5 p FU 0 h
  else
    some h
def f_X4_join_19   (a0 : Nat) (a1 : Nat) (a2 : Nat) (x3 : Int32) (x4 : Int32) (x5 : Int32) : Nat → Int32 → MH → Option (MH) := lp (f_X4_join_19b a0 a1 a2 x3 x4 x5)
def f_X4_join   (a0 : Nat) (a1 : Nat) (a2 : Nat) (x3 : Int32) (h : MH) : Option (MH) :=
  (gR h a2 3).bind fun a_1 =>
  (ldI h a_1 x3).bind fun x_2 =>
  (gR h a2 4).bind fun a_3 =>
  (ldI h a_3 x3).bind fun x_4 =>
  f_X4_join_19 a0 a1 a2 x3 x_2 x_4 FU 0 h
set_option maxRecDepth 100000 in
set_option maxHeartbeats 4000000 in
theorem v_X4_join_137 {l : Launch} {G : GE} {B N : Nat} {S : List SHP} {o : MH} {a0 : Nat} {a1 : Nat} {a2 : Nat} {x3 : Int32} {x4 : Int32} {x5 : Int32} {x6 : Int32} {x7 : Int32} {x8 : Int32} {x9 : Int32} {l10 : Int64}  {k19 : Int32 → MH → Option (MH)} {k31 : Int32 → MH → Option (MH)} (hk19 : ∀ (p : Int32) (h : MH), k19 p h = some o → V l G B N mX4_join (rmm 4 0 0) false 0 0 (QV S o) S 0 0 19 [(0, .ref a0), (1, .ref a1), (2, .ref a2), (3, .int x3), (4, .int x4), (5, .int x5), (6, .int p)] [] h) (hk31 : ∀ (p : Int32) (h : MH), k31 p h = some o → V l G B N mX4_join (rmm 4 0 0) false 0 0 (QV S o) S 0 0 31 [(0, .ref a0), (1, .ref a1), (2, .ref a2), (3, .int x3), (4, .int x4), (5, .int x5), (6, .int x6), (7, .int p)] [] h) (hs0 : S[a0]? = some (.inl 4)) (hs1 : S[a1]? = some (.inl 4)) (hs2 : S[a2]? = some (.inl 2)) {h : MH} (hf : f_X4_join_137 k19 k31 a0 a1 a2 x3 x4 x5 x6 x7 x8 x9 l10 h = some o) : V l G B N mX4_join (rmm 4 0 0) false 0 0 (QV S o) S 0 0 137 [(0, .ref a0), (1, .ref a1), (2, .ref a2), (3, .int x3), (4, .int x4), (5, .int x5), (6, .int x6), (7, .int x7), (8, .int x8), (9, .int x9), (10, .long l10)] [] h := by
  unfold f_X4_join_137 at hf
  refine V_aload_n (pc' := 138) dX4_join_137 rfl 0 rfl rfl ?_
  refine V_getR (pc' := 141) 4 0 dX4_join_138 rfl (by decide) (Nat.le_of_ble_eq_true rfl) bm_348 hs0 (fun _ _ _ => rfl) rfl hf (fun a_1 ha_1 hf => ?_)
  refine V_iload (pc' := 143) dX4_join_141 rfl 8 rfl ?_
  refine V_iload (pc' := 145) dX4_join_143 rfl 9 rfl ?_
  refine V_iast (pc' := 146) dX4_join_145 rfl ha_1 hf (fun h_2 hf => ?_)
  refine V_aload_n (pc' := 147) dX4_join_146 rfl 0 rfl rfl ?_
  refine V_getR (pc' := 150) 4 1 dX4_join_147 rfl (by decide) (Nat.le_of_ble_eq_true rfl) bm_349 hs0 (fun _ _ _ => rfl) rfl hf (fun a_3 ha_3 hf => ?_)
  refine V_iload (pc' := 152) dX4_join_150 rfl 8 rfl ?_
  refine V_lload (pc' := 154) dX4_join_152 rfl 10 rfl ?_
  refine V_last (pc' := 155) dX4_join_154 rfl ha_3 hf (fun h_4 hf => ?_)
  refine V_iinc (v := (x7 + 1)) (lv' := [(7, .int (x7 + 1)), (0, .ref a0), (1, .ref a1), (2, .ref a2), (3, .int x3), (4, .int x4), (5, .int x5), (6, .int x6), (8, .int x8), (9, .int x9), (10, .long l10)]) (pc' := 158) dX4_join_155 rfl 7 rfl rfl (Nat.le_of_ble_eq_true rfl) rfl ?_
  refine V_goto (tgt := 31) dX4_join_158 (by decide) ?_
  exact V_sub (lv' := [(0, .ref a0), (1, .ref a1), (2, .ref a2), (3, .int x3), (4, .int x4), (5, .int x5), (6, .int x6), (7, .int (x7 + 1))]) [1, 2, 3, 4, 5, 6, 7, 0] rfl (hk31 (x7 + 1) h_4 hf)
set_option maxRecDepth 100000 in
set_option maxHeartbeats 4000000 in
theorem v_X4_join_108 {l : Launch} {G : GE} {B N : Nat} {S : List SHP} {o : MH} {a0 : Nat} {a1 : Nat} {a2 : Nat} {x3 : Int32} {x4 : Int32} {x5 : Int32} {x6 : Int32} {x7 : Int32} {x8 : Int32} {x9 : Int32} {l10 : Int64} {x12 : Int32}  {k19 : Int32 → MH → Option (MH)} {k31 : Int32 → MH → Option (MH)} (hk19 : ∀ (p : Int32) (h : MH), k19 p h = some o → V l G B N mX4_join (rmm 4 0 0) false 0 0 (QV S o) S 0 0 19 [(0, .ref a0), (1, .ref a1), (2, .ref a2), (3, .int x3), (4, .int x4), (5, .int x5), (6, .int p)] [] h) (hk31 : ∀ (p : Int32) (h : MH), k31 p h = some o → V l G B N mX4_join (rmm 4 0 0) false 0 0 (QV S o) S 0 0 31 [(0, .ref a0), (1, .ref a1), (2, .ref a2), (3, .int x3), (4, .int x4), (5, .int x5), (6, .int x6), (7, .int p)] [] h) (hs0 : S[a0]? = some (.inl 4)) (hs1 : S[a1]? = some (.inl 4)) (hs2 : S[a2]? = some (.inl 2)) {h : MH} (hf : f_X4_join_108 k19 k31 a0 a1 a2 x3 x4 x5 x6 x7 x8 x9 l10 x12 h = some o) : V l G B N mX4_join (rmm 4 0 0) false 0 0 (QV S o) S 0 0 108 [(0, .ref a0), (1, .ref a1), (2, .ref a2), (3, .int x3), (4, .int x4), (5, .int x5), (6, .int x6), (7, .int x7), (8, .int x8), (9, .int x9), (10, .long l10), (12, .int x12)] [] h := by
  unfold f_X4_join_108 at hf
  refine V_iload (pc' := 110) dX4_join_108 rfl 11 rfl ?_
  refine V_iload (pc' := 112) dX4_join_110 rfl 9 rfl ?_
  refine V_icmp_ne (tgt := 137) (pc' := 115) dX4_join_112 (by decide) rfl hf (fun hf => ?_) (fun hf => ?_)
  ·
    refine V_lload (pc' := 117) dX4_join_115 rfl 10 rfl ?_
    refine V_aload_n (pc' := 118) dX4_join_117 rfl 1 rfl rfl ?_
    refine V_iload (pc' := 120) dX4_join_118 rfl 7 rfl ?_
    refine V_iload (pc' := 122) dX4_join_120 rfl 4 rfl ?_
    refine V_cvL (pc' := 125) (As := [.int x7, .int x4]) (rest := [.long l10]) dX4_join_122 rfl mok_X4_countOf bm_1019 4 (by decide) rfl hs1 rfl rfl (Nat.le_of_ble_eq_true rfl) (by decide) hf (fun q e => ct_X4_countOf hs1 e) (fun q_1 hf => ?_)
    refine V_aload_n (pc' := 126) dX4_join_125 rfl 1 rfl rfl ?_
    refine V_iload (pc' := 128) dX4_join_126 rfl 5 rfl ?_
    refine V_iload (pc' := 130) dX4_join_128 rfl 6 rfl ?_
    refine V_cvL (pc' := 133) (As := [.int x5, .int x6]) (rest := [.long q_1.1, .long l10]) dX4_join_130 rfl mok_X4_countOf bm_1019 4 (by decide) rfl hs1 rfl rfl (Nat.le_of_ble_eq_true rfl) (by decide) hf (fun q e => ct_X4_countOf hs1 e) (fun q_2 hf => ?_)
    refine V_lmul (pc' := 134) dX4_join_133 rfl ?_
    refine V_ladd (pc' := 135) dX4_join_134 rfl ?_
    refine V_nmJ hf (fun l_3 hf => ?_)
    refine V_lstore (lv' := [(10, .long l_3), (0, .ref a0), (1, .ref a1), (2, .ref a2), (3, .int x3), (4, .int x4), (5, .int x5), (6, .int x6), (7, .int x7), (8, .int x8), (9, .int x9), (12, .int x12)]) (pc' := 137) dX4_join_135 rfl (Nat.le_of_ble_eq_true rfl) rfl ?_
    exact V_sub (lv' := [(0, .ref a0), (1, .ref a1), (2, .ref a2), (3, .int x3), (4, .int x4), (5, .int x5), (6, .int x6), (7, .int x7), (8, .int x8), (9, .int x9), (10, .long l_3)]) [1, 2, 3, 4, 5, 6, 7, 8, 9, 10, 0] rfl (v_X4_join_137 hk19 hk31 hs0 hs1 hs2 hf)
  ·
    exact V_sub (lv' := [(0, .ref a0), (1, .ref a1), (2, .ref a2), (3, .int x3), (4, .int x4), (5, .int x5), (6, .int x6), (7, .int x7), (8, .int x8), (9, .int x9), (10, .long l10)]) [0, 1, 2, 3, 4, 5, 6, 7, 8, 9, 10] rfl (v_X4_join_137 hk19 hk31 hs0 hs1 hs2 hf)
set_option maxRecDepth 100000 in
set_option maxHeartbeats 4000000 in
theorem v_X4_join_31b {l : Launch} {G : GE} {B N : Nat} {S : List SHP} {o : MH} {a0 : Nat} {a1 : Nat} {a2 : Nat} {x3 : Int32} {x4 : Int32} {x5 : Int32} {x6 : Int32}  {k19 : Int32 → MH → Option (MH)} (hk19 : ∀ (p : Int32) (h : MH), k19 p h = some o → V l G B N mX4_join (rmm 4 0 0) false 0 0 (QV S o) S 0 0 19 [(0, .ref a0), (1, .ref a1), (2, .ref a2), (3, .int x3), (4, .int x4), (5, .int x5), (6, .int p)] [] h) (hs0 : S[a0]? = some (.inl 4)) (hs1 : S[a1]? = some (.inl 4)) (hs2 : S[a2]? = some (.inl 2)) {k31 : Int32 → MH → Option (MH)} (hk31 : ∀ (p : Int32) (h : MH), k31 p h = some o → V l G B N mX4_join (rmm 4 0 0) false 0 0 (QV S o) S 0 0 31 [(0, .ref a0), (1, .ref a1), (2, .ref a2), (3, .int x3), (4, .int x4), (5, .int x5), (6, .int x6), (7, .int p)] [] h) {p : Int32} {h : MH} (hf : f_X4_join_31b k19 a0 a1 a2 x3 x4 x5 x6 k31 p h = some o) : V l G B N mX4_join (rmm 4 0 0) false 0 0 (QV S o) S 0 0 31 [(0, .ref a0), (1, .ref a1), (2, .ref a2), (3, .int x3), (4, .int x4), (5, .int x5), (6, .int x6), (7, .int p)] [] h := by
  unfold f_X4_join_31b at hf
  refine V_iload (pc' := 33) dX4_join_31 rfl 7 rfl ?_
  refine V_aload_n (pc' := 34) dX4_join_33 rfl 2 rfl rfl ?_
  refine V_getI (pc' := 37) 2 0 dX4_join_34 rfl (by decide) (Nat.le_of_ble_eq_true rfl) bm_184 hs2 (fun _ _ _ => rfl) ?_
  refine V_icmp_ge (tgt := 161) (pc' := 40) dX4_join_37 (by decide) rfl hf (fun hf => ?_) (fun hf => ?_)
  ·
    refine V_iload (pc' := 42) dX4_join_40 rfl 6 rfl ?_
    refine V_bipush (v := 10) (pc' := 44) dX4_join_42 rfl (by decide) ?_
    refine V_imul (pc' := 45) dX4_join_44 rfl ?_
    refine V_iload (pc' := 47) dX4_join_45 rfl 7 rfl ?_
    refine V_iadd (pc' := 48) dX4_join_47 rfl ?_
    refine V_nmI hf (fun x_1 hf => ?_)
    refine V_istore (lv' := [(8, .int x_1), (0, .ref a0), (1, .ref a1), (2, .ref a2), (3, .int x3), (4, .int x4), (5, .int x5), (6, .int x6), (7, .int p)]) (pc' := 50) dX4_join_48 rfl (Nat.le_of_ble_eq_true rfl) rfl ?_
    refine V_aload_n (pc' := 51) dX4_join_50 rfl 2 rfl rfl ?_
    refine V_getR (pc' := 54) 4 0 dX4_join_51 rfl (by decide) (Nat.le_of_ble_eq_true rfl) bm_348 hs1 (fun _ _ _ => rfl) rfl hf (fun a_2 ha_2 hf => ?_)
    refine V_iload (pc' := 56) dX4_join_54 rfl 0 rfl ?_
    refine V_iald (pc' := 57) dX4_join_56 rfl ha_2 hf (fun x_3 hf => ?_)
    refine V_istore (lv' := [(9, .int x_3), (8, .int x_1), (0, .ref a0), (1, .ref a1), (2, .ref a2), (3, .int x3), (4, .int x4), (5, .int x5), (6, .int x6), (7, .int p)]) (pc' := 59) dX4_join_57 rfl (Nat.le_of_ble_eq_true rfl) rfl ?_
    refine V_aload_n (pc' := 60) dX4_join_59 rfl 3 rfl rfl ?_
    refine V_getR (pc' := 63) 4 1 dX4_join_60 rfl (by decide) (Nat.le_of_ble_eq_true rfl) bm_349 hs1 (fun _ _ _ => rfl) rfl hf (fun a_4 ha_4 hf => ?_)
    refine V_iload (pc' := 65) dX4_join_63 rfl 1 rfl ?_
    refine V_lald (pc' := 66) dX4_join_65 rfl ha_4 hf (fun l_5 hf => ?_)
    refine V_lstore (lv' := [(10, .long l_5), (9, .int x_3), (8, .int x_1), (0, .ref a0), (1, .ref a1), (2, .ref a2), (3, .int x3), (4, .int x4), (5, .int x5), (6, .int x6), (7, .int p)]) (pc' := 68) dX4_join_66 rfl (Nat.le_of_ble_eq_true rfl) rfl ?_
    refine V_aload_n (pc' := 69) dX4_join_68 rfl 4 rfl rfl ?_
    refine V_iload (pc' := 71) dX4_join_69 rfl 10 rfl ?_
    refine V_iload (pc' := 73) dX4_join_71 rfl 7 rfl ?_
    refine V_cvI (pc' := 76) (As := [.int p, .int x4]) (rest := []) dX4_join_73 rfl mok_X4_distance bm_813 4 (by decide) rfl hs1 rfl rfl (Nat.le_of_ble_eq_true rfl) (by decide) hf (fun q e => ct_X4_distance hs1 e) (fun q_6 hf => ?_)
    refine V_aload_n (pc' := 77) dX4_join_76 rfl 5 rfl rfl ?_
    refine V_getR (pc' := 80) 2 5 dX4_join_77 rfl (by decide) (Nat.le_of_ble_eq_true rfl) bm_208 hs2 (fun _ _ _ => rfl) rfl hf (fun a_7 ha_7 hf => ?_)
    refine V_iload_n (pc' := 81) dX4_join_80 rfl 6 rfl rfl ?_
    refine V_iald (pc' := 82) dX4_join_81 rfl ha_7 hf (fun x_8 hf => ?_)
    refine V_iadd (pc' := 83) dX4_join_82 rfl ?_
    refine V_aload_n (pc' := 84) dX4_join_83 rfl 4 rfl rfl ?_
    refine V_iload (pc' := 86) dX4_join_84 rfl 8 rfl ?_
    refine V_iload (pc' := 88) dX4_join_86 rfl 9 rfl ?_
    refine V_cvI (pc' := 91) (As := [.int x5, .int x6]) (rest := [.int (q_6.1 + x_8)]) dX4_join_88 rfl mok_X4_distance bm_813 4 (by decide) rfl hs1 rfl rfl (Nat.le_of_ble_eq_true rfl) (by decide) hf (fun q e => ct_X4_distance hs1 e) (fun q_9 hf => ?_)
    refine V_iadd (pc' := 92) dX4_join_91 rfl ?_
    refine V_nmI hf (fun x_10 hf => ?_)
    refine V_istore (lv' := [(12, .int x_10), (10, .long l_5), (9, .int x_3), (8, .int x_1), (0, .ref a0), (1, .ref a1), (2, .ref a2), (3, .int x3), (4, .int x4), (5, .int x5), (6, .int x6), (7, .int p)]) (pc' := 94) dX4_join_92 rfl (Nat.le_of_ble_eq_true rfl) rfl ?_
    refine V_iload (pc' := 96) dX4_join_94 rfl 0 rfl ?_
    refine V_iload (pc' := 98) dX4_join_96 rfl 2 rfl ?_
    refine V_icmp_ge (tgt := 108) (pc' := 101) dX4_join_98 (by decide) rfl hf (fun hf => ?_) (fun hf => ?_)
    ·
      refine V_iload (pc' := 103) dX4_join_101 rfl 0 rfl ?_
      refine V_istore (lv' := [(9, .int x_10), (12, .int x_10), (10, .long l_5), (8, .int x_1), (0, .ref a0), (1, .ref a1), (2, .ref a2), (3, .int x3), (4, .int x4), (5, .int x5), (6, .int x6), (7, .int p)]) (pc' := 105) dX4_join_103 rfl (Nat.le_of_ble_eq_true rfl) rfl ?_
      refine V_lconst (v := 0) (pc' := 106) dX4_join_105 rfl (by decide) ?_
      refine V_lstore (lv' := [(10, .long 0), (9, .int x_10), (12, .int x_10), (8, .int x_1), (0, .ref a0), (1, .ref a1), (2, .ref a2), (3, .int x3), (4, .int x4), (5, .int x5), (6, .int x6), (7, .int p)]) (pc' := 108) dX4_join_106 rfl (Nat.le_of_ble_eq_true rfl) rfl ?_
      exact V_sub (lv' := [(0, .ref a0), (1, .ref a1), (2, .ref a2), (3, .int x3), (4, .int x4), (5, .int x5), (6, .int x6), (7, .int p), (8, .int x_1), (9, .int x_10), (10, .long 0), (12, .int x_10)]) [4, 5, 6, 7, 8, 9, 10, 11, 3, 1, 0, 2] rfl (v_X4_join_108 hk19 hk31 hs0 hs1 hs2 hf)
    ·
      exact V_sub (lv' := [(0, .ref a0), (1, .ref a1), (2, .ref a2), (3, .int x3), (4, .int x4), (5, .int x5), (6, .int x6), (7, .int p), (8, .int x_1), (9, .int x_3), (10, .long l_5), (12, .int x_10)]) [4, 5, 6, 7, 8, 9, 10, 11, 3, 2, 1, 0] rfl (v_X4_join_108 hk19 hk31 hs0 hs1 hs2 hf)
  ·
    refine V_iinc (v := (x6 + 1)) (lv' := [(6, .int (x6 + 1)), (0, .ref a0), (1, .ref a1), (2, .ref a2), (3, .int x3), (4, .int x4), (5, .int x5), (7, .int p)]) (pc' := 164) dX4_join_161 rfl 6 rfl rfl (Nat.le_of_ble_eq_true rfl) rfl ?_
    refine V_goto (tgt := 19) dX4_join_164 (by decide) ?_
    exact V_sub (lv' := [(0, .ref a0), (1, .ref a1), (2, .ref a2), (3, .int x3), (4, .int x4), (5, .int x5), (6, .int (x6 + 1))]) [1, 2, 3, 4, 5, 6, 0] rfl (hk19 (x6 + 1) h hf)
theorem v_X4_join_31 {l : Launch} {G : GE} {B N : Nat} {S : List SHP} {o : MH} {a0 : Nat} {a1 : Nat} {a2 : Nat} {x3 : Int32} {x4 : Int32} {x5 : Int32} {x6 : Int32}  {k19 : Int32 → MH → Option (MH)} (hk19 : ∀ (p : Int32) (h : MH), k19 p h = some o → V l G B N mX4_join (rmm 4 0 0) false 0 0 (QV S o) S 0 0 19 [(0, .ref a0), (1, .ref a1), (2, .ref a2), (3, .int x3), (4, .int x4), (5, .int x5), (6, .int p)] [] h) (hs0 : S[a0]? = some (.inl 4)) (hs1 : S[a1]? = some (.inl 4)) (hs2 : S[a2]? = some (.inl 2)) {n : Nat} {p : Int32} {h : MH} (hf : f_X4_join_31 k19 a0 a1 a2 x3 x4 x5 x6 n p h = some o) : V l G B N mX4_join (rmm 4 0 0) false 0 0 (QV S o) S 0 0 31 [(0, .ref a0), (1, .ref a1), (2, .ref a2), (3, .int x3), (4, .int x4), (5, .int x5), (6, .int x6), (7, .int p)] [] h :=
  V_lp (VV := fun p h => V l G B N mX4_join (rmm 4 0 0) false 0 0 (QV S o) S 0 0 31 [(0, .ref a0), (1, .ref a1), (2, .ref a2), (3, .int x3), (4, .int x4), (5, .int x5), (6, .int x6), (7, .int p)] [] h) (fun _ hk _ _ hf => v_X4_join_31b hk19 hs0 hs1 hs2 hk hf) n p h hf
set_option maxRecDepth 100000 in
set_option maxHeartbeats 4000000 in
theorem v_X4_join_19b {l : Launch} {G : GE} {B N : Nat} {S : List SHP} {o : MH} {a0 : Nat} {a1 : Nat} {a2 : Nat} {x3 : Int32} {x4 : Int32} {x5 : Int32}    (hs0 : S[a0]? = some (.inl 4)) (hs1 : S[a1]? = some (.inl 4)) (hs2 : S[a2]? = some (.inl 2)) {k19 : Int32 → MH → Option (MH)} (hk19 : ∀ (p : Int32) (h : MH), k19 p h = some o → V l G B N mX4_join (rmm 4 0 0) false 0 0 (QV S o) S 0 0 19 [(0, .ref a0), (1, .ref a1), (2, .ref a2), (3, .int x3), (4, .int x4), (5, .int x5), (6, .int p)] [] h) {p : Int32} {h : MH} (hf : f_X4_join_19b a0 a1 a2 x3 x4 x5 k19 p h = some o) : V l G B N mX4_join (rmm 4 0 0) false 0 0 (QV S o) S 0 0 19 [(0, .ref a0), (1, .ref a1), (2, .ref a2), (3, .int x3), (4, .int x4), (5, .int x5), (6, .int p)] [] h := by
  unfold f_X4_join_19b at hf
  refine V_iload (pc' := 21) dX4_join_19 rfl 6 rfl ?_
  refine V_aload_n (pc' := 22) dX4_join_21 rfl 2 rfl rfl ?_
  refine V_getI (pc' := 25) 2 0 dX4_join_22 rfl (by decide) (Nat.le_of_ble_eq_true rfl) bm_184 hs2 (fun _ _ _ => rfl) ?_
  refine V_icmp_ge (tgt := 167) (pc' := 28) dX4_join_25 (by decide) rfl hf (fun hf => ?_) (fun hf => ?_)
  ·
    refine V_iconst (v := 0) (pc' := 29) dX4_join_28 rfl (by decide) ?_
    refine V_istore (lv' := [(7, .int 0), (0, .ref a0), (1, .ref a1), (2, .ref a2), (3, .int x3), (4, .int x4), (5, .int x5), (6, .int p)]) (pc' := 31) dX4_join_29 rfl (Nat.le_of_ble_eq_true rfl) rfl ?_
    exact V_sub (lv' := [(0, .ref a0), (1, .ref a1), (2, .ref a2), (3, .int x3), (4, .int x4), (5, .int x5), (6, .int p), (7, .int 0)]) [1, 2, 3, 4, 5, 6, 7, 0] rfl (v_X4_join_31 hk19 hs0 hs1 hs2 hf)
  ·
    obtain rfl := Option.some.inj hf
    exact V_vret dX4_join_167 rfl rfl rfl ⟨rfl, rfl, rfl⟩
theorem v_X4_join_19 {l : Launch} {G : GE} {B N : Nat} {S : List SHP} {o : MH} {a0 : Nat} {a1 : Nat} {a2 : Nat} {x3 : Int32} {x4 : Int32} {x5 : Int32}    (hs0 : S[a0]? = some (.inl 4)) (hs1 : S[a1]? = some (.inl 4)) (hs2 : S[a2]? = some (.inl 2)) {n : Nat} {p : Int32} {h : MH} (hf : f_X4_join_19 a0 a1 a2 x3 x4 x5 n p h = some o) : V l G B N mX4_join (rmm 4 0 0) false 0 0 (QV S o) S 0 0 19 [(0, .ref a0), (1, .ref a1), (2, .ref a2), (3, .int x3), (4, .int x4), (5, .int x5), (6, .int p)] [] h :=
  V_lp (VV := fun p h => V l G B N mX4_join (rmm 4 0 0) false 0 0 (QV S o) S 0 0 19 [(0, .ref a0), (1, .ref a1), (2, .ref a2), (3, .int x3), (4, .int x4), (5, .int x5), (6, .int p)] [] h) (fun _ hk _ _ hf => v_X4_join_19b hs0 hs1 hs2 hk hf) n p h hf
set_option maxRecDepth 100000 in
set_option maxHeartbeats 4000000 in
theorem v_X4_join {l : Launch} {G : GE} {B N : Nat} {S : List SHP} {o : MH} {a0 : Nat} {a1 : Nat} {a2 : Nat} {x3 : Int32}    (hs0 : S[a0]? = some (.inl 4)) (hs1 : S[a1]? = some (.inl 4)) (hs2 : S[a2]? = some (.inl 2)) {h : MH} (hf : f_X4_join a0 a1 a2 x3 h = some o) : V l G B N mX4_join (rmm 4 0 0) false 0 0 (QV S o) S 0 0 0 [(0, .ref a0), (1, .ref a1), (2, .ref a2), (3, .int x3)] [] h := by
  unfold f_X4_join at hf
  refine V_aload_n (pc' := 1) dX4_join_0 rfl 2 rfl rfl ?_
  refine V_getR (pc' := 4) 2 3 dX4_join_1 rfl (by decide) (Nat.le_of_ble_eq_true rfl) bm_198 hs2 (fun _ _ _ => rfl) rfl hf (fun a_1 ha_1 hf => ?_)
  refine V_iload_n (pc' := 5) dX4_join_4 rfl 3 rfl rfl ?_
  refine V_iald (pc' := 6) dX4_join_5 rfl ha_1 hf (fun x_2 hf => ?_)
  refine V_istore (lv' := [(4, .int x_2), (0, .ref a0), (1, .ref a1), (2, .ref a2), (3, .int x3)]) (pc' := 8) dX4_join_6 rfl (Nat.le_of_ble_eq_true rfl) rfl ?_
  refine V_aload_n (pc' := 9) dX4_join_8 rfl 3 rfl rfl ?_
  refine V_getR (pc' := 12) 2 4 dX4_join_9 rfl (by decide) (Nat.le_of_ble_eq_true rfl) bm_203 hs2 (fun _ _ _ => rfl) rfl hf (fun a_3 ha_3 hf => ?_)
  refine V_iload_n (pc' := 13) dX4_join_12 rfl 4 rfl rfl ?_
  refine V_iald (pc' := 14) dX4_join_13 rfl ha_3 hf (fun x_4 hf => ?_)
  refine V_istore (lv' := [(5, .int x_4), (4, .int x_2), (0, .ref a0), (1, .ref a1), (2, .ref a2), (3, .int x3)]) (pc' := 16) dX4_join_14 rfl (Nat.le_of_ble_eq_true rfl) rfl ?_
  refine V_iconst (v := 0) (pc' := 17) dX4_join_16 rfl (by decide) ?_
  refine V_istore (lv' := [(6, .int 0), (5, .int x_4), (4, .int x_2), (0, .ref a0), (1, .ref a1), (2, .ref a2), (3, .int x3)]) (pc' := 19) dX4_join_17 rfl (Nat.le_of_ble_eq_true rfl) rfl ?_
  exact V_sub (lv' := [(0, .ref a0), (1, .ref a1), (2, .ref a2), (3, .int x3), (4, .int x_2), (5, .int x_4), (6, .int 0)]) [3, 4, 5, 6, 2, 1, 0] rfl (v_X4_join_19 hs0 hs1 hs2 hf)
theorem ct_X4_join {l : Launch} {S : List SHP} {h : MH} {a0 : Nat} {a1 : Nat} {a2 : Nat} {x3 : Int32} (hs0 : S[a0]? = some (.inl 4)) (hs1 : S[a1]? = some (.inl 4)) (hs2 : S[a2]? = some (.inl 2)) {q : MH} (hf : f_X4_join a0 a1 a2 x3 h = some q) : CT l mX4_join 4 false 0 0 S [.ref a0, .ref a1, .ref a2, .int x3] h (QV S q) :=
  CT_ofV (by decide) rfl (Nat.le_of_ble_eq_true rfl) (fun G B hT => v_X4_join hs0 hs1 hs2 hf)
