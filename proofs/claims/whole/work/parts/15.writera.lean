/-! LabelStacks$Writer.hold(LLabelStacks$Row;)V -/
theorem dX9_hold_0 : decode cX9_hold 0 = .ok (.aload_n 0, 1) := by decide +kernel
theorem dX9_hold_1 : decode cX9_hold 1 = .ok (.aload_n 1, 1) := by decide +kernel
theorem dX9_hold_2 : decode cX9_hold 2 = .ok (.getfield 24, 3) := by decide +kernel
theorem dX9_hold_5 : decode cX9_hold 5 = .ok (.bipush 16, 2) := by decide +kernel
theorem dX9_hold_7 : decode cX9_hold 7 = .ok (.invokestatic 30, 3) := by decide +kernel
theorem dX9_hold_10 : decode cX9_hold 10 = .ok (.putfield 36, 3) := by decide +kernel
theorem dX9_hold_13 : decode cX9_hold 13 = .ok (.aload_n 1, 1) := by decide +kernel
theorem dX9_hold_14 : decode cX9_hold 14 = .ok (.getfield 39, 3) := by decide +kernel
theorem dX9_hold_17 : decode cX9_hold 17 = .ok (.iconst 0, 1) := by decide +kernel
theorem dX9_hold_18 : decode cX9_hold 18 = .ok (.aload_n 0, 1) := by decide +kernel
theorem dX9_hold_19 : decode cX9_hold 19 = .ok (.getfield 9, 3) := by decide +kernel
theorem dX9_hold_22 : decode cX9_hold 22 = .ok (.iconst 0, 1) := by decide +kernel
theorem dX9_hold_23 : decode cX9_hold 23 = .ok (.aload_n 0, 1) := by decide +kernel
theorem dX9_hold_24 : decode cX9_hold 24 = .ok (.getfield 36, 3) := by decide +kernel
theorem dX9_hold_27 : decode cX9_hold 27 = .ok (.invokestatic 42, 3) := by decide +kernel
theorem dX9_hold_30 : decode cX9_hold 30 = .ok (.aload_n 0, 1) := by decide +kernel
theorem dX9_hold_31 : decode cX9_hold 31 = .ok (.getfield 15, 3) := by decide +kernel
theorem dX9_hold_34 : decode cX9_hold 34 = .ok (.aload_n 0, 1) := by decide +kernel
theorem dX9_hold_35 : decode cX9_hold 35 = .ok (.getfield 36, 3) := by decide +kernel
theorem dX9_hold_38 : decode cX9_hold 38 = .ok (.iconst 0, 1) := by decide +kernel
theorem dX9_hold_39 : decode cX9_hold 39 = .ok (.iastore, 1) := by decide +kernel
theorem dX9_hold_40 : decode cX9_hold 40 = .ok (.return_, 1) := by decide +kernel
abbrev mX9_hold : MI := (RX9, yX9_hold, cX9_hold, 2, none)
theorem mok_X9_hold : MOKv mX9_hold 1 := ⟨⟨bm_715, bm_124, ⟨by decide, by decide⟩, by decide +kernel⟩, bm_713, bm_714⟩
def f_X9_hold   (a0 : Nat) (a1 : Nat) (h : MH) : Option (MH) :=
  lt ((if 16 < (gI h a1 1) then 16 else (gI h a1 1)) : Int32) fun x_1 =>
  lt (sI h a0 1 x_1) fun h_2 =>
  (gR h_2 a1 0).bind fun a_3 =>
  (gR h_2 a0 0).bind fun a_4 =>
  (cpI h_2 a_3 0 a_4 0 (gI h_2 a0 1)).bind fun h_5 =>
  (gR h_5 a0 3).bind fun a_6 =>
  (stI h_5 a_6 (gI h_5 a0 1) 0).bind fun h_7 =>
  some h_7
set_option maxRecDepth 100000 in
set_option maxHeartbeats 4000000 in
theorem v_X9_hold {l : Launch} {G : GE} {B N : Nat} {S : List SHP} {o : MH} {a0 : Nat} {a1 : Nat}    (hs0 : S[a0]? = some (.inl 9)) (hs1 : S[a1]? = some (.inl 5)) {h : MH} (hf : f_X9_hold a0 a1 h = some o) : V l G B N mX9_hold (rmm 3 0 0) false 0 0 (QV S o) S 0 0 0 [(0, .ref a0), (1, .ref a1)] [] h := by
  unfold f_X9_hold at hf
  refine V_aload_n (pc' := 1) dX9_hold_0 rfl 0 rfl rfl ?_
  refine V_aload_n (pc' := 2) dX9_hold_1 rfl 1 rfl rfl ?_
  refine V_getI (pc' := 5) 5 1 dX9_hold_2 rfl (by decide) (Nat.le_of_ble_eq_true rfl) bm_251 hs1 (fun _ _ _ => rfl) ?_
  refine V_bipush (v := 16) (pc' := 7) dX9_hold_5 rfl (by decide) ?_
  refine V_min (pc' := 10) dX9_hold_7 rfl bm_716 (Nat.le_of_ble_eq_true rfl) (by decide) ?_
  refine V_nmI hf (fun x_1 hf => ?_)
  refine V_putI (pc' := 13) 9 1 dX9_hold_10 rfl (by decide) (Nat.le_of_ble_eq_true rfl) bm_363 hs0 (Or.inl rfl) rfl ?_
  refine V_nmH hf (fun h_2 hf => ?_)
  refine V_aload_n (pc' := 14) dX9_hold_13 rfl 1 rfl rfl ?_
  refine V_getR (pc' := 17) 5 0 dX9_hold_14 rfl (by decide) (Nat.le_of_ble_eq_true rfl) bm_248 hs1 (fun _ _ _ => rfl) rfl hf (fun a_3 ha_3 hf => ?_)
  refine V_iconst (v := 0) (pc' := 18) dX9_hold_17 rfl (by decide) ?_
  refine V_aload_n (pc' := 19) dX9_hold_18 rfl 0 rfl rfl ?_
  refine V_getR (pc' := 22) 9 0 dX9_hold_19 rfl (by decide) (Nat.le_of_ble_eq_true rfl) bm_362 hs0 (fun _ _ _ => rfl) rfl hf (fun a_4 ha_4 hf => ?_)
  refine V_iconst (v := 0) (pc' := 23) dX9_hold_22 rfl (by decide) ?_
  refine V_aload_n (pc' := 24) dX9_hold_23 rfl 0 rfl rfl ?_
  refine V_getI (pc' := 27) 9 1 dX9_hold_24 rfl (by decide) (Nat.le_of_ble_eq_true rfl) bm_363 hs0 (fun _ _ _ => rfl) ?_
  refine V_cpI (pc' := 30) dX9_hold_27 rfl bm_717 ha_3 ha_4 (Nat.le_of_ble_eq_true rfl) (by decide) hf (fun h_5 hf => ?_)
  refine V_aload_n (pc' := 31) dX9_hold_30 rfl 0 rfl rfl ?_
  refine V_getR (pc' := 34) 9 3 dX9_hold_31 rfl (by decide) (Nat.le_of_ble_eq_true rfl) bm_365 hs0 (fun _ _ _ => rfl) rfl hf (fun a_6 ha_6 hf => ?_)
  refine V_aload_n (pc' := 35) dX9_hold_34 rfl 0 rfl rfl ?_
  refine V_getI (pc' := 38) 9 1 dX9_hold_35 rfl (by decide) (Nat.le_of_ble_eq_true rfl) bm_363 hs0 (fun _ _ _ => rfl) ?_
  refine V_iconst (v := 0) (pc' := 39) dX9_hold_38 rfl (by decide) ?_
  refine V_iast (pc' := 40) dX9_hold_39 rfl ha_6 hf (fun h_7 hf => ?_)
  obtain rfl := Option.some.inj hf
  exact V_vret dX9_hold_40 rfl rfl rfl ⟨rfl, rfl, rfl⟩
theorem ct_X9_hold {l : Launch} {S : List SHP} {h : MH} {a0 : Nat} {a1 : Nat} (hs0 : S[a0]? = some (.inl 9)) (hs1 : S[a1]? = some (.inl 5)) {q : MH} (hf : f_X9_hold a0 a1 h = some q) : CT l mX9_hold 3 false 0 0 S [.ref a0, .ref a1] h (QV S q) :=
  CT_ofV (by decide) rfl (Nat.le_of_ble_eq_true rfl) (fun G B hT => v_X9_hold hs0 hs1 hf)
/-! LabelStacks$Writer.nodeReach(LLabelStacks$Network;LLabelStacks$Routes;I)I -/
theorem dX9_nodeReach_0 : decode cX9_nodeReach 0 = .ok (.aload_n 1, 1) := by decide +kernel
theorem dX9_nodeReach_1 : decode cX9_nodeReach 1 = .ok (.aload_n 0, 1) := by decide +kernel
theorem dX9_nodeReach_2 : decode cX9_nodeReach 2 = .ok (.getfield 9, 3) := by decide +kernel
theorem dX9_nodeReach_5 : decode cX9_nodeReach 5 = .ok (.iload_n 3, 1) := by decide +kernel
theorem dX9_nodeReach_6 : decode cX9_nodeReach 6 = .ok (.iaload, 1) := by decide +kernel
theorem dX9_nodeReach_7 : decode cX9_nodeReach 7 = .ok (.invokevirtual 77, 3) := by decide +kernel
theorem dX9_nodeReach_10 : decode cX9_nodeReach 10 = .ok (.istore 4, 2) := by decide +kernel
theorem dX9_nodeReach_12 : decode cX9_nodeReach 12 = .ok (.iconst 0, 1) := by decide +kernel
theorem dX9_nodeReach_13 : decode cX9_nodeReach 13 = .ok (.istore 5, 2) := by decide +kernel
theorem dX9_nodeReach_15 : decode cX9_nodeReach 15 = .ok (.iload_n 3, 1) := by decide +kernel
theorem dX9_nodeReach_16 : decode cX9_nodeReach 16 = .ok (.istore 6, 2) := by decide +kernel
theorem dX9_nodeReach_18 : decode cX9_nodeReach 18 = .ok (.iload 6, 2) := by decide +kernel
theorem dX9_nodeReach_20 : decode cX9_nodeReach 20 = .ok (.aload_n 0, 1) := by decide +kernel
theorem dX9_nodeReach_21 : decode cX9_nodeReach 21 = .ok (.getfield 36, 3) := by decide +kernel
theorem dX9_nodeReach_24 : decode cX9_nodeReach 24 = .ok (.if_icmp .ge 77, 3) := by decide +kernel
theorem dX9_nodeReach_27 : decode cX9_nodeReach 27 = .ok (.aload_n 0, 1) := by decide +kernel
theorem dX9_nodeReach_28 : decode cX9_nodeReach 28 = .ok (.getfield 9, 3) := by decide +kernel
theorem dX9_nodeReach_31 : decode cX9_nodeReach 31 = .ok (.iload 6, 2) := by decide +kernel
theorem dX9_nodeReach_33 : decode cX9_nodeReach 33 = .ok (.iaload, 1) := by decide +kernel
theorem dX9_nodeReach_34 : decode cX9_nodeReach 34 = .ok (.istore 7, 2) := by decide +kernel
theorem dX9_nodeReach_36 : decode cX9_nodeReach 36 = .ok (.aload_n 1, 1) := by decide +kernel
theorem dX9_nodeReach_37 : decode cX9_nodeReach 37 = .ok (.iload 7, 2) := by decide +kernel
theorem dX9_nodeReach_39 : decode cX9_nodeReach 39 = .ok (.invokevirtual 63, 3) := by decide +kernel
theorem dX9_nodeReach_42 : decode cX9_nodeReach 42 = .ok (.istore 8, 2) := by decide +kernel
theorem dX9_nodeReach_44 : decode cX9_nodeReach 44 = .ok (.iload 5, 2) := by decide +kernel
theorem dX9_nodeReach_46 : decode cX9_nodeReach 46 = .ok (.aload_n 1, 1) := by decide +kernel
theorem dX9_nodeReach_47 : decode cX9_nodeReach 47 = .ok (.iload 7, 2) := by decide +kernel
theorem dX9_nodeReach_49 : decode cX9_nodeReach 49 = .ok (.invokevirtual 96, 3) := by decide +kernel
theorem dX9_nodeReach_52 : decode cX9_nodeReach 52 = .ok (.iadd, 1) := by decide +kernel
theorem dX9_nodeReach_53 : decode cX9_nodeReach 53 = .ok (.istore 5, 2) := by decide +kernel
theorem dX9_nodeReach_55 : decode cX9_nodeReach 55 = .ok (.aload_n 1, 1) := by decide +kernel
theorem dX9_nodeReach_56 : decode cX9_nodeReach 56 = .ok (.iload 7, 2) := by decide +kernel
theorem dX9_nodeReach_58 : decode cX9_nodeReach 58 = .ok (.invokevirtual 73, 3) := by decide +kernel
theorem dX9_nodeReach_61 : decode cX9_nodeReach 61 = .ok (.ifCond .eq 29, 3) := by decide +kernel
theorem dX9_nodeReach_64 : decode cX9_nodeReach 64 = .ok (.aload_n 2, 1) := by decide +kernel
theorem dX9_nodeReach_65 : decode cX9_nodeReach 65 = .ok (.iload 4, 2) := by decide +kernel
theorem dX9_nodeReach_67 : decode cX9_nodeReach 67 = .ok (.iload 8, 2) := by decide +kernel
theorem dX9_nodeReach_69 : decode cX9_nodeReach 69 = .ok (.invokevirtual 99, 3) := by decide +kernel
theorem dX9_nodeReach_72 : decode cX9_nodeReach 72 = .ok (.iload 5, 2) := by decide +kernel
theorem dX9_nodeReach_74 : decode cX9_nodeReach 74 = .ok (.if_icmp .ne 16, 3) := by decide +kernel
theorem dX9_nodeReach_77 : decode cX9_nodeReach 77 = .ok (.aload_n 2, 1) := by decide +kernel
theorem dX9_nodeReach_78 : decode cX9_nodeReach 78 = .ok (.iload 4, 2) := by decide +kernel
theorem dX9_nodeReach_80 : decode cX9_nodeReach 80 = .ok (.iload 8, 2) := by decide +kernel
theorem dX9_nodeReach_82 : decode cX9_nodeReach 82 = .ok (.invokevirtual 104, 3) := by decide +kernel
theorem dX9_nodeReach_85 : decode cX9_nodeReach 85 = .ok (.lconst 1, 1) := by decide +kernel
theorem dX9_nodeReach_86 : decode cX9_nodeReach 86 = .ok (.lcmp, 1) := by decide +kernel
theorem dX9_nodeReach_87 : decode cX9_nodeReach 87 = .ok (.ifCond .eq 8, 3) := by decide +kernel
theorem dX9_nodeReach_90 : decode cX9_nodeReach 90 = .ok (.iload 6, 2) := by decide +kernel
theorem dX9_nodeReach_92 : decode cX9_nodeReach 92 = .ok (.iload_n 3, 1) := by decide +kernel
theorem dX9_nodeReach_93 : decode cX9_nodeReach 93 = .ok (.isub, 1) := by decide +kernel
theorem dX9_nodeReach_94 : decode cX9_nodeReach 94 = .ok (.ireturn, 1) := by decide +kernel
theorem dX9_nodeReach_95 : decode cX9_nodeReach 95 = .ok (.iinc 6 1, 3) := by decide +kernel
theorem dX9_nodeReach_98 : decode cX9_nodeReach 98 = .ok (.goto (-80), 3) := by decide +kernel
theorem dX9_nodeReach_101 : decode cX9_nodeReach 101 = .ok (.aload_n 0, 1) := by decide +kernel
theorem dX9_nodeReach_102 : decode cX9_nodeReach 102 = .ok (.getfield 36, 3) := by decide +kernel
theorem dX9_nodeReach_105 : decode cX9_nodeReach 105 = .ok (.iload_n 3, 1) := by decide +kernel
theorem dX9_nodeReach_106 : decode cX9_nodeReach 106 = .ok (.isub, 1) := by decide +kernel
theorem dX9_nodeReach_107 : decode cX9_nodeReach 107 = .ok (.ireturn, 1) := by decide +kernel
abbrev mX9_nodeReach : MI := (RX9, yX9_nodeReach, cX9_nodeReach, 9, (some .int))
theorem mok_X9_nodeReach : MOKv mX9_nodeReach 3 := ⟨⟨bm_725, bm_124, ⟨by decide, by decide⟩, by decide +kernel⟩, bm_723, bm_724⟩
def f_X9_nodeReach_90   (x3 : Int32) (x6 : Int32) (h : MH) : Option (Int32 × MH) :=
  some ((x6 - x3), h)
def f_X9_nodeReach_18b   (a0 : Nat) (a1 : Nat) (a2 : Nat) (x3 : Int32) (x4 : Int32) (k18 : Int32 × Int32 → MH → Option (Int32 × MH)) (p : Int32 × Int32) (h : MH) : Option (Int32 × MH) :=
  if p.2 < (gI h a0 1) then
    (gR h a0 0).bind fun a_1 =>
    (ldI h a_1 p.2).bind fun x_2 =>
    (f_X2_toOf a1 x_2 h).bind fun q_3 =>
    (f_X2_priceOf a1 x_2 q_3.2).bind fun q_4 =>
    lt (p.1 + q_4.1) fun x_5 =>
    (f_X2_isUp a1 x_2 q_4.2).bind fun q_6 =>
    if q_6.1 = 0 then
      f_X9_nodeReach_90 x3 p.2 q_6.2
    else
      (f_X4_distance a2 x4 q_3.1 q_6.2).bind fun q_7 =>
      if q_7.1 = x_5 then
        (f_X4_countOf a2 x4 q_3.1 q_7.2).bind fun q_8 =>
        if q_8.1 = 1 then
          k18 (x_5, (p.2 + 1)) q_8.2
        else
          f_X9_nodeReach_90 x3 p.2 q_8.2
      else
        f_X9_nodeReach_90 x3 p.2 q_7.2
  else
    some (((gI h a0 1) - x3), h)
def f_X9_nodeReach_18   (a0 : Nat) (a1 : Nat) (a2 : Nat) (x3 : Int32) (x4 : Int32) : Nat → Int32 × Int32 → MH → Option (Int32 × MH) := lp (f_X9_nodeReach_18b a0 a1 a2 x3 x4)
def f_X9_nodeReach   (a0 : Nat) (a1 : Nat) (a2 : Nat) (x3 : Int32) (h : MH) : Option (Int32 × MH) :=
  (gR h a0 0).bind fun a_1 =>
  (ldI h a_1 x3).bind fun x_2 =>
  (f_X2_fromOf a1 x_2 h).bind fun q_3 =>
  f_X9_nodeReach_18 a0 a1 a2 x3 q_3.1 FU (0, x3) q_3.2
set_option maxRecDepth 100000 in
set_option maxHeartbeats 4000000 in
theorem v_X9_nodeReach_90 {l : Launch} {G : GE} {B N : Nat} {S : List SHP} {o : Int32 × MH} {x3 : Int32} {x6 : Int32}     {h : MH} (hf : f_X9_nodeReach_90 x3 x6 h = some o) : V l G B N mX9_nodeReach (rmm 4 0 0) false 0 0 (QI S o) S 0 0 90 [(3, .int x3), (6, .int x6)] [] h := by
  unfold f_X9_nodeReach_90 at hf
  refine V_iload (pc' := 92) dX9_nodeReach_90 rfl 1 rfl ?_
  refine V_iload_n (pc' := 93) dX9_nodeReach_92 rfl 0 rfl rfl ?_
  refine V_isub (pc' := 94) dX9_nodeReach_93 rfl ?_
  obtain rfl := Option.some.inj hf
  exact V_iret dX9_nodeReach_94 rfl rfl rfl ⟨rfl, rfl, rfl⟩
set_option maxRecDepth 100000 in
set_option maxHeartbeats 4000000 in
theorem v_X9_nodeReach_18b {l : Launch} {G : GE} {B N : Nat} {S : List SHP} {o : Int32 × MH} {a0 : Nat} {a1 : Nat} {a2 : Nat} {x3 : Int32} {x4 : Int32}    (hs0 : S[a0]? = some (.inl 9)) (hs1 : S[a1]? = some (.inl 2)) (hs2 : S[a2]? = some (.inl 4)) {k18 : Int32 × Int32 → MH → Option (Int32 × MH)} (hk18 : ∀ (p : Int32 × Int32) (h : MH), k18 p h = some o → V l G B N mX9_nodeReach (rmm 4 0 0) false 0 0 (QI S o) S 0 0 18 [(0, .ref a0), (1, .ref a1), (2, .ref a2), (3, .int x3), (4, .int x4), (5, .int p.1), (6, .int p.2)] [] h) {p : Int32 × Int32} {h : MH} (hf : f_X9_nodeReach_18b a0 a1 a2 x3 x4 k18 p h = some o) : V l G B N mX9_nodeReach (rmm 4 0 0) false 0 0 (QI S o) S 0 0 18 [(0, .ref a0), (1, .ref a1), (2, .ref a2), (3, .int x3), (4, .int x4), (5, .int p.1), (6, .int p.2)] [] h := by
  unfold f_X9_nodeReach_18b at hf
  refine V_iload (pc' := 20) dX9_nodeReach_18 rfl 6 rfl ?_
  refine V_aload_n (pc' := 21) dX9_nodeReach_20 rfl 0 rfl rfl ?_
  refine V_getI (pc' := 24) 9 1 dX9_nodeReach_21 rfl (by decide) (Nat.le_of_ble_eq_true rfl) bm_363 hs0 (fun _ _ _ => rfl) ?_
  refine V_icmp_ge (tgt := 101) (pc' := 27) dX9_nodeReach_24 (by decide) rfl hf (fun hf => ?_) (fun hf => ?_)
  ·
    refine V_aload_n (pc' := 28) dX9_nodeReach_27 rfl 0 rfl rfl ?_
    refine V_getR (pc' := 31) 9 0 dX9_nodeReach_28 rfl (by decide) (Nat.le_of_ble_eq_true rfl) bm_362 hs0 (fun _ _ _ => rfl) rfl hf (fun a_1 ha_1 hf => ?_)
    refine V_iload (pc' := 33) dX9_nodeReach_31 rfl 6 rfl ?_
    refine V_iald (pc' := 34) dX9_nodeReach_33 rfl ha_1 hf (fun x_2 hf => ?_)
    refine V_istore (lv' := [(7, .int x_2), (0, .ref a0), (1, .ref a1), (2, .ref a2), (3, .int x3), (4, .int x4), (5, .int p.1), (6, .int p.2)]) (pc' := 36) dX9_nodeReach_34 rfl (Nat.le_of_ble_eq_true rfl) rfl ?_
    refine V_aload_n (pc' := 37) dX9_nodeReach_36 rfl 2 rfl rfl ?_
    refine V_iload (pc' := 39) dX9_nodeReach_37 rfl 0 rfl ?_
    refine V_cvI (pc' := 42) (As := [.int x_2]) (rest := []) dX9_nodeReach_39 rfl mok_X2_toOf bm_730 2 (by decide) rfl hs1 rfl rfl (Nat.le_of_ble_eq_true rfl) (by decide) hf (fun q e => ct_X2_toOf hs1 e) (fun q_3 hf => ?_)
    refine V_istore (lv' := [(8, .int q_3.1), (7, .int x_2), (0, .ref a0), (1, .ref a1), (2, .ref a2), (3, .int x3), (4, .int x4), (5, .int p.1), (6, .int p.2)]) (pc' := 44) dX9_nodeReach_42 rfl (Nat.le_of_ble_eq_true rfl) rfl ?_
    refine V_iload (pc' := 46) dX9_nodeReach_44 rfl 7 rfl ?_
    refine V_aload_n (pc' := 47) dX9_nodeReach_46 rfl 3 rfl rfl ?_
    refine V_iload (pc' := 49) dX9_nodeReach_47 rfl 1 rfl ?_
    refine V_cvI (pc' := 52) (As := [.int x_2]) (rest := [.int p.1]) dX9_nodeReach_49 rfl mok_X2_priceOf bm_731 2 (by decide) rfl hs1 rfl rfl (Nat.le_of_ble_eq_true rfl) (by decide) hf (fun q e => ct_X2_priceOf hs1 e) (fun q_4 hf => ?_)
    refine V_iadd (pc' := 53) dX9_nodeReach_52 rfl ?_
    refine V_nmI hf (fun x_5 hf => ?_)
    refine V_istore (lv' := [(5, .int x_5), (8, .int q_3.1), (7, .int x_2), (0, .ref a0), (1, .ref a1), (2, .ref a2), (3, .int x3), (4, .int x4), (6, .int p.2)]) (pc' := 55) dX9_nodeReach_53 rfl (Nat.le_of_ble_eq_true rfl) rfl ?_
    refine V_aload_n (pc' := 56) dX9_nodeReach_55 rfl 4 rfl rfl ?_
    refine V_iload (pc' := 58) dX9_nodeReach_56 rfl 2 rfl ?_
    refine V_cvI (pc' := 61) (As := [.int x_2]) (rest := []) dX9_nodeReach_58 rfl mok_X2_isUp bm_735 2 (by decide) rfl hs1 rfl rfl (Nat.le_of_ble_eq_true rfl) (by decide) hf (fun q e => ct_X2_isUp hs1 e) (fun q_6 hf => ?_)
    refine V_if_eq (tgt := 90) (pc' := 64) dX9_nodeReach_61 (by decide) rfl hf (fun hf => ?_) (fun hf => ?_)
    ·
      exact V_sub (lv' := [(3, .int x3), (6, .int p.2)]) [6, 8] rfl (v_X9_nodeReach_90  hf)
    ·
      refine V_aload_n (pc' := 65) dX9_nodeReach_64 rfl 5 rfl rfl ?_
      refine V_iload (pc' := 67) dX9_nodeReach_65 rfl 7 rfl ?_
      refine V_iload (pc' := 69) dX9_nodeReach_67 rfl 1 rfl ?_
      refine V_cvI (pc' := 72) (As := [.int x4, .int q_3.1]) (rest := []) dX9_nodeReach_69 rfl mok_X4_distance bm_736 4 (by decide) rfl hs2 rfl rfl (Nat.le_of_ble_eq_true rfl) (by decide) hf (fun q e => ct_X4_distance hs2 e) (fun q_7 hf => ?_)
      refine V_iload (pc' := 74) dX9_nodeReach_72 rfl 0 rfl ?_
      refine V_icmp_ne (tgt := 90) (pc' := 77) dX9_nodeReach_74 (by decide) rfl hf (fun hf => ?_) (fun hf => ?_)
      ·
        refine V_aload_n (pc' := 78) dX9_nodeReach_77 rfl 5 rfl rfl ?_
        refine V_iload (pc' := 80) dX9_nodeReach_78 rfl 7 rfl ?_
        refine V_iload (pc' := 82) dX9_nodeReach_80 rfl 1 rfl ?_
        refine V_cvL (pc' := 85) (As := [.int x4, .int q_3.1]) (rest := []) dX9_nodeReach_82 rfl mok_X4_countOf bm_740 4 (by decide) rfl hs2 rfl rfl (Nat.le_of_ble_eq_true rfl) (by decide) hf (fun q e => ct_X4_countOf hs2 e) (fun q_8 hf => ?_)
        refine V_lconst (v := 1) (pc' := 86) dX9_nodeReach_85 rfl (by decide) ?_
        refine V_lcmp_eq (pc1 := 87) (tgt := 95) (pc' := 90) dX9_nodeReach_86 rfl dX9_nodeReach_87 (by decide) rfl hf (fun hf => ?_) (fun hf => ?_)
        ·
          refine V_iinc (v := (p.2 + 1)) (lv' := [(6, .int (p.2 + 1)), (5, .int x_5), (8, .int q_3.1), (7, .int x_2), (0, .ref a0), (1, .ref a1), (2, .ref a2), (3, .int x3), (4, .int x4)]) (pc' := 98) dX9_nodeReach_95 rfl 8 rfl rfl (Nat.le_of_ble_eq_true rfl) rfl ?_
          refine V_goto (tgt := 18) dX9_nodeReach_98 (by decide) ?_
          exact V_sub (lv' := [(0, .ref a0), (1, .ref a1), (2, .ref a2), (3, .int x3), (4, .int x4), (5, .int x_5), (6, .int (p.2 + 1))]) [4, 5, 6, 7, 8, 1, 0] rfl (hk18 (x_5, (p.2 + 1)) q_8.2 hf)
        ·
          exact V_sub (lv' := [(3, .int x3), (6, .int p.2)]) [6, 8] rfl (v_X9_nodeReach_90  hf)
      ·
        exact V_sub (lv' := [(3, .int x3), (6, .int p.2)]) [6, 8] rfl (v_X9_nodeReach_90  hf)
  ·
    refine V_aload_n (pc' := 102) dX9_nodeReach_101 rfl 0 rfl rfl ?_
    refine V_getI (pc' := 105) 9 1 dX9_nodeReach_102 rfl (by decide) (Nat.le_of_ble_eq_true rfl) bm_363 hs0 (fun _ _ _ => rfl) ?_
    refine V_iload_n (pc' := 106) dX9_nodeReach_105 rfl 3 rfl rfl ?_
    refine V_isub (pc' := 107) dX9_nodeReach_106 rfl ?_
    obtain rfl := Option.some.inj hf
    exact V_iret dX9_nodeReach_107 rfl rfl rfl ⟨rfl, rfl, rfl⟩
theorem v_X9_nodeReach_18 {l : Launch} {G : GE} {B N : Nat} {S : List SHP} {o : Int32 × MH} {a0 : Nat} {a1 : Nat} {a2 : Nat} {x3 : Int32} {x4 : Int32}    (hs0 : S[a0]? = some (.inl 9)) (hs1 : S[a1]? = some (.inl 2)) (hs2 : S[a2]? = some (.inl 4)) {n : Nat} {p : Int32 × Int32} {h : MH} (hf : f_X9_nodeReach_18 a0 a1 a2 x3 x4 n p h = some o) : V l G B N mX9_nodeReach (rmm 4 0 0) false 0 0 (QI S o) S 0 0 18 [(0, .ref a0), (1, .ref a1), (2, .ref a2), (3, .int x3), (4, .int x4), (5, .int p.1), (6, .int p.2)] [] h :=
  V_lp (VV := fun p h => V l G B N mX9_nodeReach (rmm 4 0 0) false 0 0 (QI S o) S 0 0 18 [(0, .ref a0), (1, .ref a1), (2, .ref a2), (3, .int x3), (4, .int x4), (5, .int p.1), (6, .int p.2)] [] h) (fun _ hk _ _ hf => v_X9_nodeReach_18b hs0 hs1 hs2 hk hf) n p h hf
set_option maxRecDepth 100000 in
set_option maxHeartbeats 4000000 in
theorem v_X9_nodeReach {l : Launch} {G : GE} {B N : Nat} {S : List SHP} {o : Int32 × MH} {a0 : Nat} {a1 : Nat} {a2 : Nat} {x3 : Int32}    (hs0 : S[a0]? = some (.inl 9)) (hs1 : S[a1]? = some (.inl 2)) (hs2 : S[a2]? = some (.inl 4)) {h : MH} (hf : f_X9_nodeReach a0 a1 a2 x3 h = some o) : V l G B N mX9_nodeReach (rmm 4 0 0) false 0 0 (QI S o) S 0 0 0 [(0, .ref a0), (1, .ref a1), (2, .ref a2), (3, .int x3)] [] h := by
  unfold f_X9_nodeReach at hf
  refine V_aload_n (pc' := 1) dX9_nodeReach_0 rfl 1 rfl rfl ?_
  refine V_aload_n (pc' := 2) dX9_nodeReach_1 rfl 0 rfl rfl ?_
  refine V_getR (pc' := 5) 9 0 dX9_nodeReach_2 rfl (by decide) (Nat.le_of_ble_eq_true rfl) bm_362 hs0 (fun _ _ _ => rfl) rfl hf (fun a_1 ha_1 hf => ?_)
  refine V_iload_n (pc' := 6) dX9_nodeReach_5 rfl 3 rfl rfl ?_
  refine V_iald (pc' := 7) dX9_nodeReach_6 rfl ha_1 hf (fun x_2 hf => ?_)
  refine V_cvI (pc' := 10) (As := [.int x_2]) (rest := []) dX9_nodeReach_7 rfl mok_X2_fromOf bm_726 2 (by decide) rfl hs1 rfl rfl (Nat.le_of_ble_eq_true rfl) (by decide) hf (fun q e => ct_X2_fromOf hs1 e) (fun q_3 hf => ?_)
  refine V_istore (lv' := [(4, .int q_3.1), (0, .ref a0), (1, .ref a1), (2, .ref a2), (3, .int x3)]) (pc' := 12) dX9_nodeReach_10 rfl (Nat.le_of_ble_eq_true rfl) rfl ?_
  refine V_iconst (v := 0) (pc' := 13) dX9_nodeReach_12 rfl (by decide) ?_
  refine V_istore (lv' := [(5, .int 0), (4, .int q_3.1), (0, .ref a0), (1, .ref a1), (2, .ref a2), (3, .int x3)]) (pc' := 15) dX9_nodeReach_13 rfl (Nat.le_of_ble_eq_true rfl) rfl ?_
  refine V_iload_n (pc' := 16) dX9_nodeReach_15 rfl 5 rfl rfl ?_
  refine V_istore (lv' := [(6, .int x3), (5, .int 0), (4, .int q_3.1), (0, .ref a0), (1, .ref a1), (2, .ref a2), (3, .int x3)]) (pc' := 18) dX9_nodeReach_16 rfl (Nat.le_of_ble_eq_true rfl) rfl ?_
  exact V_sub (lv' := [(0, .ref a0), (1, .ref a1), (2, .ref a2), (3, .int x3), (4, .int q_3.1), (5, .int 0), (6, .int x3)]) [3, 4, 5, 6, 2, 1, 0] rfl (v_X9_nodeReach_18 hs0 hs1 hs2 hf)
theorem ct_X9_nodeReach {l : Launch} {S : List SHP} {h : MH} {a0 : Nat} {a1 : Nat} {a2 : Nat} {x3 : Int32} (hs0 : S[a0]? = some (.inl 9)) (hs1 : S[a1]? = some (.inl 2)) (hs2 : S[a2]? = some (.inl 4)) {q : Int32 × MH} (hf : f_X9_nodeReach a0 a1 a2 x3 h = some q) : CT l mX9_nodeReach 4 false 0 0 S [.ref a0, .ref a1, .ref a2, .int x3] h (QI S q) :=
  CT_ofV (by decide) rfl (Nat.le_of_ble_eq_true rfl) (fun G B hT => v_X9_nodeReach hs0 hs1 hs2 hf)
/-! LabelStacks$Writer.offer(IIII)V -/
theorem dX9_offer_0 : decode cX9_offer 0 = .ok (.iload_n 2, 1) := by decide +kernel
theorem dX9_offer_1 : decode cX9_offer 1 = .ok (.iconst 1, 1) := by decide +kernel
theorem dX9_offer_2 : decode cX9_offer 2 = .ok (.if_icmp .lt 31, 3) := by decide +kernel
theorem dX9_offer_5 : decode cX9_offer 5 = .ok (.iload_n 1, 1) := by decide +kernel
theorem dX9_offer_6 : decode cX9_offer 6 = .ok (.iload_n 2, 1) := by decide +kernel
theorem dX9_offer_7 : decode cX9_offer 7 = .ok (.iadd, 1) := by decide +kernel
theorem dX9_offer_8 : decode cX9_offer 8 = .ok (.aload_n 0, 1) := by decide +kernel
theorem dX9_offer_9 : decode cX9_offer 9 = .ok (.getfield 36, 3) := by decide +kernel
theorem dX9_offer_12 : decode cX9_offer 12 = .ok (.if_icmp .gt 21, 3) := by decide +kernel
theorem dX9_offer_15 : decode cX9_offer 15 = .ok (.aload_n 0, 1) := by decide +kernel
theorem dX9_offer_16 : decode cX9_offer 16 = .ok (.getfield 15, 3) := by decide +kernel
theorem dX9_offer_19 : decode cX9_offer 19 = .ok (.iload_n 1, 1) := by decide +kernel
theorem dX9_offer_20 : decode cX9_offer 20 = .ok (.iload_n 2, 1) := by decide +kernel
theorem dX9_offer_21 : decode cX9_offer 21 = .ok (.iadd, 1) := by decide +kernel
theorem dX9_offer_22 : decode cX9_offer 22 = .ok (.iaload, 1) := by decide +kernel
theorem dX9_offer_23 : decode cX9_offer 23 = .ok (.iload 4, 2) := by decide +kernel
theorem dX9_offer_25 : decode cX9_offer 25 = .ok (.iadd, 1) := by decide +kernel
theorem dX9_offer_26 : decode cX9_offer 26 = .ok (.aload_n 0, 1) := by decide +kernel
theorem dX9_offer_27 : decode cX9_offer 27 = .ok (.getfield 52, 3) := by decide +kernel
theorem dX9_offer_30 : decode cX9_offer 30 = .ok (.if_icmp .le 4, 3) := by decide +kernel
theorem dX9_offer_33 : decode cX9_offer 33 = .ok (.return_, 1) := by decide +kernel
theorem dX9_offer_34 : decode cX9_offer 34 = .ok (.aload_n 0, 1) := by decide +kernel
theorem dX9_offer_35 : decode cX9_offer 35 = .ok (.getfield 15, 3) := by decide +kernel
theorem dX9_offer_38 : decode cX9_offer 38 = .ok (.iload_n 1, 1) := by decide +kernel
theorem dX9_offer_39 : decode cX9_offer 39 = .ok (.iload_n 2, 1) := by decide +kernel
theorem dX9_offer_40 : decode cX9_offer 40 = .ok (.iadd, 1) := by decide +kernel
theorem dX9_offer_41 : decode cX9_offer 41 = .ok (.iaload, 1) := by decide +kernel
theorem dX9_offer_42 : decode cX9_offer 42 = .ok (.iconst 1, 1) := by decide +kernel
theorem dX9_offer_43 : decode cX9_offer 43 = .ok (.iadd, 1) := by decide +kernel
theorem dX9_offer_44 : decode cX9_offer 44 = .ok (.istore 5, 2) := by decide +kernel
theorem dX9_offer_46 : decode cX9_offer 46 = .ok (.iload 5, 2) := by decide +kernel
theorem dX9_offer_48 : decode cX9_offer 48 = .ok (.aload_n 0, 1) := by decide +kernel
theorem dX9_offer_49 : decode cX9_offer 49 = .ok (.getfield 15, 3) := by decide +kernel
theorem dX9_offer_52 : decode cX9_offer 52 = .ok (.iload_n 1, 1) := by decide +kernel
theorem dX9_offer_53 : decode cX9_offer 53 = .ok (.iaload, 1) := by decide +kernel
theorem dX9_offer_54 : decode cX9_offer 54 = .ok (.if_icmp .le 4, 3) := by decide +kernel
theorem dX9_offer_57 : decode cX9_offer 57 = .ok (.return_, 1) := by decide +kernel
theorem dX9_offer_58 : decode cX9_offer 58 = .ok (.iload 5, 2) := by decide +kernel
theorem dX9_offer_60 : decode cX9_offer 60 = .ok (.aload_n 0, 1) := by decide +kernel
theorem dX9_offer_61 : decode cX9_offer 61 = .ok (.getfield 15, 3) := by decide +kernel
theorem dX9_offer_64 : decode cX9_offer 64 = .ok (.iload_n 1, 1) := by decide +kernel
theorem dX9_offer_65 : decode cX9_offer 65 = .ok (.iaload, 1) := by decide +kernel
theorem dX9_offer_66 : decode cX9_offer 66 = .ok (.if_icmp .ne 34, 3) := by decide +kernel
theorem dX9_offer_69 : decode cX9_offer 69 = .ok (.iload_n 2, 1) := by decide +kernel
theorem dX9_offer_70 : decode cX9_offer 70 = .ok (.aload_n 0, 1) := by decide +kernel
theorem dX9_offer_71 : decode cX9_offer 71 = .ok (.getfield 21, 3) := by decide +kernel
theorem dX9_offer_74 : decode cX9_offer 74 = .ok (.iload_n 1, 1) := by decide +kernel
theorem dX9_offer_75 : decode cX9_offer 75 = .ok (.iaload, 1) := by decide +kernel
theorem dX9_offer_76 : decode cX9_offer 76 = .ok (.if_icmp .lt 23, 3) := by decide +kernel
theorem dX9_offer_79 : decode cX9_offer 79 = .ok (.iload_n 2, 1) := by decide +kernel
theorem dX9_offer_80 : decode cX9_offer 80 = .ok (.aload_n 0, 1) := by decide +kernel
theorem dX9_offer_81 : decode cX9_offer 81 = .ok (.getfield 21, 3) := by decide +kernel
theorem dX9_offer_84 : decode cX9_offer 84 = .ok (.iload_n 1, 1) := by decide +kernel
theorem dX9_offer_85 : decode cX9_offer 85 = .ok (.iaload, 1) := by decide +kernel
theorem dX9_offer_86 : decode cX9_offer 86 = .ok (.if_icmp .ne 14, 3) := by decide +kernel
theorem dX9_offer_89 : decode cX9_offer 89 = .ok (.iload_n 3, 1) := by decide +kernel
theorem dX9_offer_90 : decode cX9_offer 90 = .ok (.aload_n 0, 1) := by decide +kernel
theorem dX9_offer_91 : decode cX9_offer 91 = .ok (.getfield 18, 3) := by decide +kernel
theorem dX9_offer_94 : decode cX9_offer 94 = .ok (.iload_n 1, 1) := by decide +kernel
theorem dX9_offer_95 : decode cX9_offer 95 = .ok (.iaload, 1) := by decide +kernel
theorem dX9_offer_96 : decode cX9_offer 96 = .ok (.if_icmp .le 4, 3) := by decide +kernel
theorem dX9_offer_99 : decode cX9_offer 99 = .ok (.return_, 1) := by decide +kernel
theorem dX9_offer_100 : decode cX9_offer 100 = .ok (.aload_n 0, 1) := by decide +kernel
theorem dX9_offer_101 : decode cX9_offer 101 = .ok (.getfield 15, 3) := by decide +kernel
theorem dX9_offer_104 : decode cX9_offer 104 = .ok (.iload_n 1, 1) := by decide +kernel
theorem dX9_offer_105 : decode cX9_offer 105 = .ok (.iload 5, 2) := by decide +kernel
theorem dX9_offer_107 : decode cX9_offer 107 = .ok (.iastore, 1) := by decide +kernel
theorem dX9_offer_108 : decode cX9_offer 108 = .ok (.aload_n 0, 1) := by decide +kernel
theorem dX9_offer_109 : decode cX9_offer 109 = .ok (.getfield 18, 3) := by decide +kernel
theorem dX9_offer_112 : decode cX9_offer 112 = .ok (.iload_n 1, 1) := by decide +kernel
theorem dX9_offer_113 : decode cX9_offer 113 = .ok (.iload_n 3, 1) := by decide +kernel
theorem dX9_offer_114 : decode cX9_offer 114 = .ok (.iastore, 1) := by decide +kernel
theorem dX9_offer_115 : decode cX9_offer 115 = .ok (.aload_n 0, 1) := by decide +kernel
theorem dX9_offer_116 : decode cX9_offer 116 = .ok (.getfield 21, 3) := by decide +kernel
theorem dX9_offer_119 : decode cX9_offer 119 = .ok (.iload_n 1, 1) := by decide +kernel
theorem dX9_offer_120 : decode cX9_offer 120 = .ok (.iload_n 2, 1) := by decide +kernel
theorem dX9_offer_121 : decode cX9_offer 121 = .ok (.iastore, 1) := by decide +kernel
theorem dX9_offer_122 : decode cX9_offer 122 = .ok (.return_, 1) := by decide +kernel
abbrev mX9_offer : MI := (RX9, yX9_offer, cX9_offer, 6, none)
theorem mok_X9_offer : MOKv mX9_offer 4 := ⟨⟨bm_747, bm_124, ⟨by decide, by decide⟩, by decide +kernel⟩, bm_746, bm_8⟩
def f_X9_offer_100   (a0 : Nat) (x1 : Int32) (x2 : Int32) (x3 : Int32) (x5 : Int32) (h : MH) : Option (MH) :=
  (gR h a0 3).bind fun a_1 =>
  (stI h a_1 x1 x5).bind fun h_2 =>
  (gR h_2 a0 4).bind fun a_3 =>
  (stI h_2 a_3 x1 x3).bind fun h_4 =>
  (gR h_4 a0 5).bind fun a_5 =>
  (stI h_4 a_5 x1 x2).bind fun h_6 =>
  some h_6
def f_X9_offer   (a0 : Nat) (x1 : Int32) (x2 : Int32) (x3 : Int32) (x4 : Int32) (h : MH) : Option (MH) :=
  if x2 < 1 then
    some h
  else
    if (gI h a0 1) < (x1 + x2) then
      some h
    else
      (gR h a0 3).bind fun a_1 =>
      (ldI h a_1 (x1 + x2)).bind fun x_2 =>
      if (gI h a0 2) < (x_2 + x4) then
        some h
      else
        (gR h a0 3).bind fun a_3 =>
        (ldI h a_3 (x1 + x2)).bind fun x_4 =>
        lt (x_4 + 1) fun x_5 =>
        (gR h a0 3).bind fun a_6 =>
        (ldI h a_6 x1).bind fun x_7 =>
        if x_7 < x_5 then
          some h
        else
          (gR h a0 3).bind fun a_8 =>
          (ldI h a_8 x1).bind fun x_9 =>
          if x_5 = x_9 then
            (gR h a0 5).bind fun a_10 =>
            (ldI h a_10 x1).bind fun x_11 =>
            if x2 < x_11 then
              some h
            else
              (gR h a0 5).bind fun a_12 =>
              (ldI h a_12 x1).bind fun x_13 =>
              if x2 = x_13 then
                (gR h a0 4).bind fun a_14 =>
                (ldI h a_14 x1).bind fun x_15 =>
                if x_15 < x3 then
                  some h
                else
                  f_X9_offer_100 a0 x1 x2 x3 x_5 h
              else
                f_X9_offer_100 a0 x1 x2 x3 x_5 h
          else
            f_X9_offer_100 a0 x1 x2 x3 x_5 h
set_option maxRecDepth 100000 in
set_option maxHeartbeats 4000000 in
theorem v_X9_offer_100 {l : Launch} {G : GE} {B N : Nat} {S : List SHP} {o : MH} {a0 : Nat} {x1 : Int32} {x2 : Int32} {x3 : Int32} {x5 : Int32}    (hs0 : S[a0]? = some (.inl 9)) {h : MH} (hf : f_X9_offer_100 a0 x1 x2 x3 x5 h = some o) : V l G B N mX9_offer (rmm 3 0 0) false 0 0 (QV S o) S 0 0 100 [(0, .ref a0), (1, .int x1), (2, .int x2), (3, .int x3), (5, .int x5)] [] h := by
  unfold f_X9_offer_100 at hf
  refine V_aload_n (pc' := 101) dX9_offer_100 rfl 0 rfl rfl ?_
  refine V_getR (pc' := 104) 9 3 dX9_offer_101 rfl (by decide) (Nat.le_of_ble_eq_true rfl) bm_365 hs0 (fun _ _ _ => rfl) rfl hf (fun a_1 ha_1 hf => ?_)
  refine V_iload_n (pc' := 105) dX9_offer_104 rfl 1 rfl rfl ?_
  refine V_iload (pc' := 107) dX9_offer_105 rfl 4 rfl ?_
  refine V_iast (pc' := 108) dX9_offer_107 rfl ha_1 hf (fun h_2 hf => ?_)
  refine V_aload_n (pc' := 109) dX9_offer_108 rfl 0 rfl rfl ?_
  refine V_getR (pc' := 112) 9 4 dX9_offer_109 rfl (by decide) (Nat.le_of_ble_eq_true rfl) bm_367 hs0 (fun _ _ _ => rfl) rfl hf (fun a_3 ha_3 hf => ?_)
  refine V_iload_n (pc' := 113) dX9_offer_112 rfl 1 rfl rfl ?_
  refine V_iload_n (pc' := 114) dX9_offer_113 rfl 3 rfl rfl ?_
  refine V_iast (pc' := 115) dX9_offer_114 rfl ha_3 hf (fun h_4 hf => ?_)
  refine V_aload_n (pc' := 116) dX9_offer_115 rfl 0 rfl rfl ?_
  refine V_getR (pc' := 119) 9 5 dX9_offer_116 rfl (by decide) (Nat.le_of_ble_eq_true rfl) bm_368 hs0 (fun _ _ _ => rfl) rfl hf (fun a_5 ha_5 hf => ?_)
  refine V_iload_n (pc' := 120) dX9_offer_119 rfl 1 rfl rfl ?_
  refine V_iload_n (pc' := 121) dX9_offer_120 rfl 2 rfl rfl ?_
  refine V_iast (pc' := 122) dX9_offer_121 rfl ha_5 hf (fun h_6 hf => ?_)
  obtain rfl := Option.some.inj hf
  exact V_vret dX9_offer_122 rfl rfl rfl ⟨rfl, rfl, rfl⟩
set_option maxRecDepth 100000 in
set_option maxHeartbeats 4000000 in
theorem v_X9_offer {l : Launch} {G : GE} {B N : Nat} {S : List SHP} {o : MH} {a0 : Nat} {x1 : Int32} {x2 : Int32} {x3 : Int32} {x4 : Int32}    (hs0 : S[a0]? = some (.inl 9)) {h : MH} (hf : f_X9_offer a0 x1 x2 x3 x4 h = some o) : V l G B N mX9_offer (rmm 3 0 0) false 0 0 (QV S o) S 0 0 0 [(0, .ref a0), (1, .int x1), (2, .int x2), (3, .int x3), (4, .int x4)] [] h := by
  unfold f_X9_offer at hf
  refine V_iload_n (pc' := 1) dX9_offer_0 rfl 2 rfl rfl ?_
  refine V_iconst (v := 1) (pc' := 2) dX9_offer_1 rfl (by decide) ?_
  refine V_icmp_lt (tgt := 33) (pc' := 5) dX9_offer_2 (by decide) rfl hf (fun hf => ?_) (fun hf => ?_)
  ·
    obtain rfl := Option.some.inj hf
    exact V_vret dX9_offer_33 rfl rfl rfl ⟨rfl, rfl, rfl⟩
  ·
    refine V_iload_n (pc' := 6) dX9_offer_5 rfl 1 rfl rfl ?_
    refine V_iload_n (pc' := 7) dX9_offer_6 rfl 2 rfl rfl ?_
    refine V_iadd (pc' := 8) dX9_offer_7 rfl ?_
    refine V_aload_n (pc' := 9) dX9_offer_8 rfl 0 rfl rfl ?_
    refine V_getI (pc' := 12) 9 1 dX9_offer_9 rfl (by decide) (Nat.le_of_ble_eq_true rfl) bm_363 hs0 (fun _ _ _ => rfl) ?_
    refine V_icmp_gt (tgt := 33) (pc' := 15) dX9_offer_12 (by decide) rfl hf (fun hf => ?_) (fun hf => ?_)
    ·
      obtain rfl := Option.some.inj hf
      exact V_vret dX9_offer_33 rfl rfl rfl ⟨rfl, rfl, rfl⟩
    ·
      refine V_aload_n (pc' := 16) dX9_offer_15 rfl 0 rfl rfl ?_
      refine V_getR (pc' := 19) 9 3 dX9_offer_16 rfl (by decide) (Nat.le_of_ble_eq_true rfl) bm_365 hs0 (fun _ _ _ => rfl) rfl hf (fun a_1 ha_1 hf => ?_)
      refine V_iload_n (pc' := 20) dX9_offer_19 rfl 1 rfl rfl ?_
      refine V_iload_n (pc' := 21) dX9_offer_20 rfl 2 rfl rfl ?_
      refine V_iadd (pc' := 22) dX9_offer_21 rfl ?_
      refine V_iald (pc' := 23) dX9_offer_22 rfl ha_1 hf (fun x_2 hf => ?_)
      refine V_iload (pc' := 25) dX9_offer_23 rfl 4 rfl ?_
      refine V_iadd (pc' := 26) dX9_offer_25 rfl ?_
      refine V_aload_n (pc' := 27) dX9_offer_26 rfl 0 rfl rfl ?_
      refine V_getI (pc' := 30) 9 2 dX9_offer_27 rfl (by decide) (Nat.le_of_ble_eq_true rfl) bm_364 hs0 (fun _ _ _ => rfl) ?_
      refine V_icmp_le (tgt := 34) (pc' := 33) dX9_offer_30 (by decide) rfl hf (fun hf => ?_) (fun hf => ?_)
      ·
        obtain rfl := Option.some.inj hf
        exact V_vret dX9_offer_33 rfl rfl rfl ⟨rfl, rfl, rfl⟩
      ·
        refine V_aload_n (pc' := 35) dX9_offer_34 rfl 0 rfl rfl ?_
        refine V_getR (pc' := 38) 9 3 dX9_offer_35 rfl (by decide) (Nat.le_of_ble_eq_true rfl) bm_365 hs0 (fun _ _ _ => rfl) rfl hf (fun a_3 ha_3 hf => ?_)
        refine V_iload_n (pc' := 39) dX9_offer_38 rfl 1 rfl rfl ?_
        refine V_iload_n (pc' := 40) dX9_offer_39 rfl 2 rfl rfl ?_
        refine V_iadd (pc' := 41) dX9_offer_40 rfl ?_
        refine V_iald (pc' := 42) dX9_offer_41 rfl ha_3 hf (fun x_4 hf => ?_)
        refine V_iconst (v := 1) (pc' := 43) dX9_offer_42 rfl (by decide) ?_
        refine V_iadd (pc' := 44) dX9_offer_43 rfl ?_
        refine V_nmI hf (fun x_5 hf => ?_)
        refine V_istore (lv' := [(5, .int x_5), (0, .ref a0), (1, .int x1), (2, .int x2), (3, .int x3), (4, .int x4)]) (pc' := 46) dX9_offer_44 rfl (Nat.le_of_ble_eq_true rfl) rfl ?_
        refine V_iload (pc' := 48) dX9_offer_46 rfl 0 rfl ?_
        refine V_aload_n (pc' := 49) dX9_offer_48 rfl 1 rfl rfl ?_
        refine V_getR (pc' := 52) 9 3 dX9_offer_49 rfl (by decide) (Nat.le_of_ble_eq_true rfl) bm_365 hs0 (fun _ _ _ => rfl) rfl hf (fun a_6 ha_6 hf => ?_)
        refine V_iload_n (pc' := 53) dX9_offer_52 rfl 2 rfl rfl ?_
        refine V_iald (pc' := 54) dX9_offer_53 rfl ha_6 hf (fun x_7 hf => ?_)
        refine V_icmp_le (tgt := 58) (pc' := 57) dX9_offer_54 (by decide) rfl hf (fun hf => ?_) (fun hf => ?_)
        ·
          obtain rfl := Option.some.inj hf
          exact V_vret dX9_offer_57 rfl rfl rfl ⟨rfl, rfl, rfl⟩
        ·
          refine V_iload (pc' := 60) dX9_offer_58 rfl 0 rfl ?_
          refine V_aload_n (pc' := 61) dX9_offer_60 rfl 1 rfl rfl ?_
          refine V_getR (pc' := 64) 9 3 dX9_offer_61 rfl (by decide) (Nat.le_of_ble_eq_true rfl) bm_365 hs0 (fun _ _ _ => rfl) rfl hf (fun a_8 ha_8 hf => ?_)
          refine V_iload_n (pc' := 65) dX9_offer_64 rfl 2 rfl rfl ?_
          refine V_iald (pc' := 66) dX9_offer_65 rfl ha_8 hf (fun x_9 hf => ?_)
          refine V_icmp_ne (tgt := 100) (pc' := 69) dX9_offer_66 (by decide) rfl hf (fun hf => ?_) (fun hf => ?_)
          ·
            refine V_iload_n (pc' := 70) dX9_offer_69 rfl 3 rfl rfl ?_
            refine V_aload_n (pc' := 71) dX9_offer_70 rfl 1 rfl rfl ?_
            refine V_getR (pc' := 74) 9 5 dX9_offer_71 rfl (by decide) (Nat.le_of_ble_eq_true rfl) bm_368 hs0 (fun _ _ _ => rfl) rfl hf (fun a_10 ha_10 hf => ?_)
            refine V_iload_n (pc' := 75) dX9_offer_74 rfl 2 rfl rfl ?_
            refine V_iald (pc' := 76) dX9_offer_75 rfl ha_10 hf (fun x_11 hf => ?_)
            refine V_icmp_lt (tgt := 99) (pc' := 79) dX9_offer_76 (by decide) rfl hf (fun hf => ?_) (fun hf => ?_)
            ·
              obtain rfl := Option.some.inj hf
              exact V_vret dX9_offer_99 rfl rfl rfl ⟨rfl, rfl, rfl⟩
            ·
              refine V_iload_n (pc' := 80) dX9_offer_79 rfl 3 rfl rfl ?_
              refine V_aload_n (pc' := 81) dX9_offer_80 rfl 1 rfl rfl ?_
              refine V_getR (pc' := 84) 9 5 dX9_offer_81 rfl (by decide) (Nat.le_of_ble_eq_true rfl) bm_368 hs0 (fun _ _ _ => rfl) rfl hf (fun a_12 ha_12 hf => ?_)
              refine V_iload_n (pc' := 85) dX9_offer_84 rfl 2 rfl rfl ?_
              refine V_iald (pc' := 86) dX9_offer_85 rfl ha_12 hf (fun x_13 hf => ?_)
              refine V_icmp_ne (tgt := 100) (pc' := 89) dX9_offer_86 (by decide) rfl hf (fun hf => ?_) (fun hf => ?_)
              ·
                refine V_iload_n (pc' := 90) dX9_offer_89 rfl 4 rfl rfl ?_
                refine V_aload_n (pc' := 91) dX9_offer_90 rfl 1 rfl rfl ?_
                refine V_getR (pc' := 94) 9 4 dX9_offer_91 rfl (by decide) (Nat.le_of_ble_eq_true rfl) bm_367 hs0 (fun _ _ _ => rfl) rfl hf (fun a_14 ha_14 hf => ?_)
                refine V_iload_n (pc' := 95) dX9_offer_94 rfl 2 rfl rfl ?_
                refine V_iald (pc' := 96) dX9_offer_95 rfl ha_14 hf (fun x_15 hf => ?_)
                refine V_icmp_le (tgt := 100) (pc' := 99) dX9_offer_96 (by decide) rfl hf (fun hf => ?_) (fun hf => ?_)
                ·
                  obtain rfl := Option.some.inj hf
                  exact V_vret dX9_offer_99 rfl rfl rfl ⟨rfl, rfl, rfl⟩
                ·
                  exact V_sub (lv' := [(0, .ref a0), (1, .int x1), (2, .int x2), (3, .int x3), (5, .int x_5)]) [1, 2, 3, 4, 0] rfl (v_X9_offer_100 hs0 hf)
              ·
                exact V_sub (lv' := [(0, .ref a0), (1, .int x1), (2, .int x2), (3, .int x3), (5, .int x_5)]) [1, 2, 3, 4, 0] rfl (v_X9_offer_100 hs0 hf)
          ·
            exact V_sub (lv' := [(0, .ref a0), (1, .int x1), (2, .int x2), (3, .int x3), (5, .int x_5)]) [1, 2, 3, 4, 0] rfl (v_X9_offer_100 hs0 hf)
theorem ct_X9_offer {l : Launch} {S : List SHP} {h : MH} {a0 : Nat} {x1 : Int32} {x2 : Int32} {x3 : Int32} {x4 : Int32} (hs0 : S[a0]? = some (.inl 9)) {q : MH} (hf : f_X9_offer a0 x1 x2 x3 x4 h = some q) : CT l mX9_offer 3 false 0 0 S [.ref a0, .int x1, .int x2, .int x3, .int x4] h (QV S q) :=
  CT_ofV (by decide) rfl (Nat.le_of_ble_eq_true rfl) (fun G B hT => v_X9_offer hs0 hf)
/-! LabelStacks$Writer.follow(LLabelStacks$Network;LLabelStacks$Routes;II)I -/
theorem dX9_follow_0 : decode cX9_follow 0 = .ok (.iload_n 3, 1) := by decide +kernel
theorem dX9_follow_1 : decode cX9_follow 1 = .ok (.bipush 100, 2) := by decide +kernel
theorem dX9_follow_3 : decode cX9_follow 3 = .ok (.if_icmp .lt 48, 3) := by decide +kernel
theorem dX9_follow_6 : decode cX9_follow 6 = .ok (.iload_n 3, 1) := by decide +kernel
theorem dX9_follow_7 : decode cX9_follow 7 = .ok (.bipush 100, 2) := by decide +kernel
theorem dX9_follow_9 : decode cX9_follow 9 = .ok (.isub, 1) := by decide +kernel
theorem dX9_follow_10 : decode cX9_follow 10 = .ok (.istore 5, 2) := by decide +kernel
theorem dX9_follow_12 : decode cX9_follow 12 = .ok (.iload 4, 2) := by decide +kernel
theorem dX9_follow_14 : decode cX9_follow 14 = .ok (.aload_n 0, 1) := by decide +kernel
theorem dX9_follow_15 : decode cX9_follow 15 = .ok (.getfield 36, 3) := by decide +kernel
theorem dX9_follow_18 : decode cX9_follow 18 = .ok (.if_icmp .ge 31, 3) := by decide +kernel
theorem dX9_follow_21 : decode cX9_follow 21 = .ok (.aload_n 0, 1) := by decide +kernel
theorem dX9_follow_22 : decode cX9_follow 22 = .ok (.getfield 9, 3) := by decide +kernel
theorem dX9_follow_25 : decode cX9_follow 25 = .ok (.iload 4, 2) := by decide +kernel
theorem dX9_follow_27 : decode cX9_follow 27 = .ok (.iaload, 1) := by decide +kernel
theorem dX9_follow_28 : decode cX9_follow 28 = .ok (.iload 5, 2) := by decide +kernel
theorem dX9_follow_30 : decode cX9_follow 30 = .ok (.if_icmp .ne 19, 3) := by decide +kernel
theorem dX9_follow_33 : decode cX9_follow 33 = .ok (.aload_n 1, 1) := by decide +kernel
theorem dX9_follow_34 : decode cX9_follow 34 = .ok (.iload 5, 2) := by decide +kernel
theorem dX9_follow_36 : decode cX9_follow 36 = .ok (.invokevirtual 73, 3) := by decide +kernel
theorem dX9_follow_39 : decode cX9_follow 39 = .ok (.ifCond .eq 10, 3) := by decide +kernel
theorem dX9_follow_42 : decode cX9_follow 42 = .ok (.iload 4, 2) := by decide +kernel
theorem dX9_follow_44 : decode cX9_follow 44 = .ok (.iconst 1, 1) := by decide +kernel
theorem dX9_follow_45 : decode cX9_follow 45 = .ok (.iadd, 1) := by decide +kernel
theorem dX9_follow_46 : decode cX9_follow 46 = .ok (.goto 4, 3) := by decide +kernel
theorem dX9_follow_49 : decode cX9_follow 49 = .ok (.iconst (-1), 1) := by decide +kernel
theorem dX9_follow_50 : decode cX9_follow 50 = .ok (.ireturn, 1) := by decide +kernel
theorem dX9_follow_51 : decode cX9_follow 51 = .ok (.aload_n 1, 1) := by decide +kernel
theorem dX9_follow_52 : decode cX9_follow 52 = .ok (.iload_n 3, 1) := by decide +kernel
theorem dX9_follow_53 : decode cX9_follow 53 = .ok (.invokevirtual 114, 3) := by decide +kernel
theorem dX9_follow_56 : decode cX9_follow 56 = .ok (.ifCond .ne 5, 3) := by decide +kernel
theorem dX9_follow_59 : decode cX9_follow 59 = .ok (.iconst (-1), 1) := by decide +kernel
theorem dX9_follow_60 : decode cX9_follow 60 = .ok (.ireturn, 1) := by decide +kernel
theorem dX9_follow_61 : decode cX9_follow 61 = .ok (.iload 4, 2) := by decide +kernel
theorem dX9_follow_63 : decode cX9_follow 63 = .ok (.aload_n 0, 1) := by decide +kernel
theorem dX9_follow_64 : decode cX9_follow 64 = .ok (.getfield 36, 3) := by decide +kernel
theorem dX9_follow_67 : decode cX9_follow 67 = .ok (.if_icmp .ge 17, 3) := by decide +kernel
theorem dX9_follow_70 : decode cX9_follow 70 = .ok (.aload_n 1, 1) := by decide +kernel
theorem dX9_follow_71 : decode cX9_follow 71 = .ok (.aload_n 0, 1) := by decide +kernel
theorem dX9_follow_72 : decode cX9_follow 72 = .ok (.getfield 9, 3) := by decide +kernel
theorem dX9_follow_75 : decode cX9_follow 75 = .ok (.iload 4, 2) := by decide +kernel
theorem dX9_follow_77 : decode cX9_follow 77 = .ok (.iaload, 1) := by decide +kernel
theorem dX9_follow_78 : decode cX9_follow 78 = .ok (.invokevirtual 77, 3) := by decide +kernel
theorem dX9_follow_81 : decode cX9_follow 81 = .ok (.goto 18, 3) := by decide +kernel
theorem dX9_follow_84 : decode cX9_follow 84 = .ok (.aload_n 1, 1) := by decide +kernel
theorem dX9_follow_85 : decode cX9_follow 85 = .ok (.aload_n 0, 1) := by decide +kernel
theorem dX9_follow_86 : decode cX9_follow 86 = .ok (.getfield 9, 3) := by decide +kernel
theorem dX9_follow_89 : decode cX9_follow 89 = .ok (.aload_n 0, 1) := by decide +kernel
theorem dX9_follow_90 : decode cX9_follow 90 = .ok (.getfield 36, 3) := by decide +kernel
theorem dX9_follow_93 : decode cX9_follow 93 = .ok (.iconst 1, 1) := by decide +kernel
theorem dX9_follow_94 : decode cX9_follow 94 = .ok (.isub, 1) := by decide +kernel
theorem dX9_follow_95 : decode cX9_follow 95 = .ok (.iaload, 1) := by decide +kernel
theorem dX9_follow_96 : decode cX9_follow 96 = .ok (.invokevirtual 63, 3) := by decide +kernel
theorem dX9_follow_99 : decode cX9_follow 99 = .ok (.istore 5, 2) := by decide +kernel
theorem dX9_follow_101 : decode cX9_follow 101 = .ok (.iload 5, 2) := by decide +kernel
theorem dX9_follow_103 : decode cX9_follow 103 = .ok (.iload_n 3, 1) := by decide +kernel
theorem dX9_follow_104 : decode cX9_follow 104 = .ok (.if_icmp .ne 6, 3) := by decide +kernel
theorem dX9_follow_107 : decode cX9_follow 107 = .ok (.iload 4, 2) := by decide +kernel
theorem dX9_follow_109 : decode cX9_follow 109 = .ok (.ireturn, 1) := by decide +kernel
theorem dX9_follow_110 : decode cX9_follow 110 = .ok (.aload_n 2, 1) := by decide +kernel
theorem dX9_follow_111 : decode cX9_follow 111 = .ok (.iload 5, 2) := by decide +kernel
theorem dX9_follow_113 : decode cX9_follow 113 = .ok (.iload_n 3, 1) := by decide +kernel
theorem dX9_follow_114 : decode cX9_follow 114 = .ok (.invokevirtual 104, 3) := by decide +kernel
theorem dX9_follow_117 : decode cX9_follow 117 = .ok (.lconst 1, 1) := by decide +kernel
theorem dX9_follow_118 : decode cX9_follow 118 = .ok (.lcmp, 1) := by decide +kernel
theorem dX9_follow_119 : decode cX9_follow 119 = .ok (.ifCond .eq 5, 3) := by decide +kernel
theorem dX9_follow_122 : decode cX9_follow 122 = .ok (.iconst (-1), 1) := by decide +kernel
theorem dX9_follow_123 : decode cX9_follow 123 = .ok (.ireturn, 1) := by decide +kernel
theorem dX9_follow_124 : decode cX9_follow 124 = .ok (.iconst 0, 1) := by decide +kernel
theorem dX9_follow_125 : decode cX9_follow 125 = .ok (.istore 6, 2) := by decide +kernel
theorem dX9_follow_127 : decode cX9_follow 127 = .ok (.iload 4, 2) := by decide +kernel
theorem dX9_follow_129 : decode cX9_follow 129 = .ok (.istore 7, 2) := by decide +kernel
theorem dX9_follow_131 : decode cX9_follow 131 = .ok (.iload 7, 2) := by decide +kernel
theorem dX9_follow_133 : decode cX9_follow 133 = .ok (.aload_n 0, 1) := by decide +kernel
theorem dX9_follow_134 : decode cX9_follow 134 = .ok (.getfield 36, 3) := by decide +kernel
theorem dX9_follow_137 : decode cX9_follow 137 = .ok (.if_icmp .ge 75, 3) := by decide +kernel
theorem dX9_follow_140 : decode cX9_follow 140 = .ok (.aload_n 1, 1) := by decide +kernel
theorem dX9_follow_141 : decode cX9_follow 141 = .ok (.aload_n 0, 1) := by decide +kernel
theorem dX9_follow_142 : decode cX9_follow 142 = .ok (.getfield 9, 3) := by decide +kernel
theorem dX9_follow_145 : decode cX9_follow 145 = .ok (.iload 7, 2) := by decide +kernel
theorem dX9_follow_147 : decode cX9_follow 147 = .ok (.iaload, 1) := by decide +kernel
theorem dX9_follow_148 : decode cX9_follow 148 = .ok (.invokevirtual 73, 3) := by decide +kernel
theorem dX9_follow_151 : decode cX9_follow 151 = .ok (.ifCond .eq 61, 3) := by decide +kernel
theorem dX9_follow_154 : decode cX9_follow 154 = .ok (.iload 6, 2) := by decide +kernel
theorem dX9_follow_156 : decode cX9_follow 156 = .ok (.aload_n 1, 1) := by decide +kernel
theorem dX9_follow_157 : decode cX9_follow 157 = .ok (.aload_n 0, 1) := by decide +kernel
theorem dX9_follow_158 : decode cX9_follow 158 = .ok (.getfield 9, 3) := by decide +kernel
theorem dX9_follow_161 : decode cX9_follow 161 = .ok (.iload 7, 2) := by decide +kernel
theorem dX9_follow_163 : decode cX9_follow 163 = .ok (.iaload, 1) := by decide +kernel
theorem dX9_follow_164 : decode cX9_follow 164 = .ok (.invokevirtual 96, 3) := by decide +kernel
theorem dX9_follow_167 : decode cX9_follow 167 = .ok (.iadd, 1) := by decide +kernel
theorem dX9_follow_168 : decode cX9_follow 168 = .ok (.istore 6, 2) := by decide +kernel
theorem dX9_follow_170 : decode cX9_follow 170 = .ok (.aload_n 1, 1) := by decide +kernel
theorem dX9_follow_171 : decode cX9_follow 171 = .ok (.aload_n 0, 1) := by decide +kernel
theorem dX9_follow_172 : decode cX9_follow 172 = .ok (.getfield 9, 3) := by decide +kernel
theorem dX9_follow_175 : decode cX9_follow 175 = .ok (.iload 7, 2) := by decide +kernel
theorem dX9_follow_177 : decode cX9_follow 177 = .ok (.iaload, 1) := by decide +kernel
theorem dX9_follow_178 : decode cX9_follow 178 = .ok (.invokevirtual 63, 3) := by decide +kernel
theorem dX9_follow_181 : decode cX9_follow 181 = .ok (.iload_n 3, 1) := by decide +kernel
theorem dX9_follow_182 : decode cX9_follow 182 = .ok (.if_icmp .ne 24, 3) := by decide +kernel
theorem dX9_follow_185 : decode cX9_follow 185 = .ok (.iload 6, 2) := by decide +kernel
theorem dX9_follow_187 : decode cX9_follow 187 = .ok (.aload_n 2, 1) := by decide +kernel
theorem dX9_follow_188 : decode cX9_follow 188 = .ok (.iload 5, 2) := by decide +kernel
theorem dX9_follow_190 : decode cX9_follow 190 = .ok (.iload_n 3, 1) := by decide +kernel
theorem dX9_follow_191 : decode cX9_follow 191 = .ok (.invokevirtual 99, 3) := by decide +kernel
theorem dX9_follow_194 : decode cX9_follow 194 = .ok (.if_icmp .ne 10, 3) := by decide +kernel
theorem dX9_follow_197 : decode cX9_follow 197 = .ok (.iload 7, 2) := by decide +kernel
theorem dX9_follow_199 : decode cX9_follow 199 = .ok (.iconst 1, 1) := by decide +kernel
theorem dX9_follow_200 : decode cX9_follow 200 = .ok (.iadd, 1) := by decide +kernel
theorem dX9_follow_201 : decode cX9_follow 201 = .ok (.goto 4, 3) := by decide +kernel
theorem dX9_follow_204 : decode cX9_follow 204 = .ok (.iconst (-1), 1) := by decide +kernel
theorem dX9_follow_205 : decode cX9_follow 205 = .ok (.ireturn, 1) := by decide +kernel
theorem dX9_follow_206 : decode cX9_follow 206 = .ok (.iinc 7 1, 3) := by decide +kernel
theorem dX9_follow_209 : decode cX9_follow 209 = .ok (.goto (-78), 3) := by decide +kernel
theorem dX9_follow_212 : decode cX9_follow 212 = .ok (.iconst (-1), 1) := by decide +kernel
theorem dX9_follow_213 : decode cX9_follow 213 = .ok (.ireturn, 1) := by decide +kernel
abbrev mX9_follow : MI := (RX9, yX9_follow, cX9_follow, 8, (some .int))
theorem mok_X9_follow : MOKv mX9_follow 4 := ⟨⟨bm_763, bm_124, ⟨by decide, by decide⟩, by decide +kernel⟩, bm_762, bm_10⟩
def f_X9_follow_131b   (a0 : Nat) (a1 : Nat) (a2 : Nat) (x3 : Int32) (x5 : Int32) (k131 : Int32 × Int32 → MH → Option (Int32 × MH)) (p : Int32 × Int32) (h : MH) : Option (Int32 × MH) :=
  if p.2 < (gI h a0 1) then
    (gR h a0 0).bind fun a_1 =>
    (ldI h a_1 p.2).bind fun x_2 =>
    (f_X2_isUp a1 x_2 h).bind fun q_3 =>
    if q_3.1 = 0 then
      some ((-1 : Int32), q_3.2)
    else
      (gR q_3.2 a0 0).bind fun a_4 =>
      (ldI q_3.2 a_4 p.2).bind fun x_5 =>
      (f_X2_priceOf a1 x_5 q_3.2).bind fun q_6 =>
      lt (p.1 + q_6.1) fun x_7 =>
      (gR q_6.2 a0 0).bind fun a_8 =>
      (ldI q_6.2 a_8 p.2).bind fun x_9 =>
      (f_X2_toOf a1 x_9 q_6.2).bind fun q_10 =>
      if q_10.1 = x3 then
        (f_X4_distance a2 x5 x3 q_10.2).bind fun q_11 =>
        if x_7 = q_11.1 then
          some ((p.2 + 1), q_11.2)
        else
          some ((-1 : Int32), q_11.2)
      else
        k131 (x_7, (p.2 + 1)) q_10.2
  else
    some ((-1 : Int32), h)
def f_X9_follow_131   (a0 : Nat) (a1 : Nat) (a2 : Nat) (x3 : Int32) (x5 : Int32) : Nat → Int32 × Int32 → MH → Option (Int32 × MH) := lp (f_X9_follow_131b a0 a1 a2 x3 x5)
def f_X9_follow_99   (a0 : Nat) (a1 : Nat) (a2 : Nat) (x3 : Int32) (x4 : Int32) (t0 : Int32) (h : MH) : Option (Int32 × MH) :=
  if t0 = x3 then
    some (x4, h)
  else
    (f_X4_countOf a2 t0 x3 h).bind fun q_1 =>
    if q_1.1 = 1 then
      f_X9_follow_131 a0 a1 a2 x3 t0 FU (0, x4) q_1.2
    else
      some ((-1 : Int32), q_1.2)
def f_X9_follow   (a0 : Nat) (a1 : Nat) (a2 : Nat) (x3 : Int32) (x4 : Int32) (h : MH) : Option (Int32 × MH) :=
  if x3 < 100 then
    (f_X2_hasNode a1 x3 h).bind fun q_1 =>
    if q_1.1 = 0 then
      some ((-1 : Int32), q_1.2)
    else
      if x4 < (gI q_1.2 a0 1) then
        (gR q_1.2 a0 0).bind fun a_2 =>
        (ldI q_1.2 a_2 x4).bind fun x_3 =>
        (f_X2_fromOf a1 x_3 q_1.2).bind fun q_4 =>
        f_X9_follow_99 a0 a1 a2 x3 x4 q_4.1 q_4.2
      else
        (gR q_1.2 a0 0).bind fun a_5 =>
        (ldI q_1.2 a_5 ((gI q_1.2 a0 1) - 1)).bind fun x_6 =>
        (f_X2_toOf a1 x_6 q_1.2).bind fun q_7 =>
        f_X9_follow_99 a0 a1 a2 x3 x4 q_7.1 q_7.2
  else
    lt (x3 - 100) fun x_8 =>
    if x4 < (gI h a0 1) then
      (gR h a0 0).bind fun a_9 =>
      (ldI h a_9 x4).bind fun x_10 =>
      if x_10 = x_8 then
        (f_X2_isUp a1 x_8 h).bind fun q_11 =>
        if q_11.1 = 0 then
          some ((-1 : Int32), q_11.2)
        else
          some ((x4 + 1), q_11.2)
      else
        some ((-1 : Int32), h)
    else
      some ((-1 : Int32), h)
set_option maxRecDepth 100000 in
set_option maxHeartbeats 4000000 in
theorem v_X9_follow_131b {l : Launch} {G : GE} {B N : Nat} {S : List SHP} {o : Int32 × MH} {a0 : Nat} {a1 : Nat} {a2 : Nat} {x3 : Int32} {x5 : Int32}    (hs0 : S[a0]? = some (.inl 9)) (hs1 : S[a1]? = some (.inl 2)) (hs2 : S[a2]? = some (.inl 4)) {k131 : Int32 × Int32 → MH → Option (Int32 × MH)} (hk131 : ∀ (p : Int32 × Int32) (h : MH), k131 p h = some o → V l G B N mX9_follow (rmm 4 0 0) false 0 0 (QI S o) S 0 0 131 [(0, .ref a0), (1, .ref a1), (2, .ref a2), (3, .int x3), (5, .int x5), (6, .int p.1), (7, .int p.2)] [] h) {p : Int32 × Int32} {h : MH} (hf : f_X9_follow_131b a0 a1 a2 x3 x5 k131 p h = some o) : V l G B N mX9_follow (rmm 4 0 0) false 0 0 (QI S o) S 0 0 131 [(0, .ref a0), (1, .ref a1), (2, .ref a2), (3, .int x3), (5, .int x5), (6, .int p.1), (7, .int p.2)] [] h := by
  unfold f_X9_follow_131b at hf
  refine V_iload (pc' := 133) dX9_follow_131 rfl 6 rfl ?_
  refine V_aload_n (pc' := 134) dX9_follow_133 rfl 0 rfl rfl ?_
  refine V_getI (pc' := 137) 9 1 dX9_follow_134 rfl (by decide) (Nat.le_of_ble_eq_true rfl) bm_363 hs0 (fun _ _ _ => rfl) ?_
  refine V_icmp_ge (tgt := 212) (pc' := 140) dX9_follow_137 (by decide) rfl hf (fun hf => ?_) (fun hf => ?_)
  ·
    refine V_aload_n (pc' := 141) dX9_follow_140 rfl 1 rfl rfl ?_
    refine V_aload_n (pc' := 142) dX9_follow_141 rfl 0 rfl rfl ?_
    refine V_getR (pc' := 145) 9 0 dX9_follow_142 rfl (by decide) (Nat.le_of_ble_eq_true rfl) bm_362 hs0 (fun _ _ _ => rfl) rfl hf (fun a_1 ha_1 hf => ?_)
    refine V_iload (pc' := 147) dX9_follow_145 rfl 6 rfl ?_
    refine V_iald (pc' := 148) dX9_follow_147 rfl ha_1 hf (fun x_2 hf => ?_)
    refine V_cvI (pc' := 151) (As := [.int x_2]) (rest := []) dX9_follow_148 rfl mok_X2_isUp bm_735 2 (by decide) rfl hs1 rfl rfl (Nat.le_of_ble_eq_true rfl) (by decide) hf (fun q e => ct_X2_isUp hs1 e) (fun q_3 hf => ?_)
    refine V_if_eq (tgt := 212) (pc' := 154) dX9_follow_151 (by decide) rfl hf (fun hf => ?_) (fun hf => ?_)
    ·
      refine V_iconst (v := (-1)) (pc' := 213) dX9_follow_212 rfl (by decide) ?_
      obtain rfl := Option.some.inj hf
      exact V_iret dX9_follow_213 rfl rfl rfl ⟨rfl, rfl, rfl⟩
    ·
      refine V_iload (pc' := 156) dX9_follow_154 rfl 5 rfl ?_
      refine V_aload_n (pc' := 157) dX9_follow_156 rfl 1 rfl rfl ?_
      refine V_aload_n (pc' := 158) dX9_follow_157 rfl 0 rfl rfl ?_
      refine V_getR (pc' := 161) 9 0 dX9_follow_158 rfl (by decide) (Nat.le_of_ble_eq_true rfl) bm_362 hs0 (fun _ _ _ => rfl) rfl hf (fun a_4 ha_4 hf => ?_)
      refine V_iload (pc' := 163) dX9_follow_161 rfl 6 rfl ?_
      refine V_iald (pc' := 164) dX9_follow_163 rfl ha_4 hf (fun x_5 hf => ?_)
      refine V_cvI (pc' := 167) (As := [.int x_5]) (rest := [.int p.1]) dX9_follow_164 rfl mok_X2_priceOf bm_731 2 (by decide) rfl hs1 rfl rfl (Nat.le_of_ble_eq_true rfl) (by decide) hf (fun q e => ct_X2_priceOf hs1 e) (fun q_6 hf => ?_)
      refine V_iadd (pc' := 168) dX9_follow_167 rfl ?_
      refine V_nmI hf (fun x_7 hf => ?_)
      refine V_istore (lv' := [(6, .int x_7), (0, .ref a0), (1, .ref a1), (2, .ref a2), (3, .int x3), (5, .int x5), (7, .int p.2)]) (pc' := 170) dX9_follow_168 rfl (Nat.le_of_ble_eq_true rfl) rfl ?_
      refine V_aload_n (pc' := 171) dX9_follow_170 rfl 2 rfl rfl ?_
      refine V_aload_n (pc' := 172) dX9_follow_171 rfl 1 rfl rfl ?_
      refine V_getR (pc' := 175) 9 0 dX9_follow_172 rfl (by decide) (Nat.le_of_ble_eq_true rfl) bm_362 hs0 (fun _ _ _ => rfl) rfl hf (fun a_8 ha_8 hf => ?_)
      refine V_iload (pc' := 177) dX9_follow_175 rfl 6 rfl ?_
      refine V_iald (pc' := 178) dX9_follow_177 rfl ha_8 hf (fun x_9 hf => ?_)
      refine V_cvI (pc' := 181) (As := [.int x_9]) (rest := []) dX9_follow_178 rfl mok_X2_toOf bm_730 2 (by decide) rfl hs1 rfl rfl (Nat.le_of_ble_eq_true rfl) (by decide) hf (fun q e => ct_X2_toOf hs1 e) (fun q_10 hf => ?_)
      refine V_iload_n (pc' := 182) dX9_follow_181 rfl 4 rfl rfl ?_
      refine V_icmp_ne (tgt := 206) (pc' := 185) dX9_follow_182 (by decide) rfl hf (fun hf => ?_) (fun hf => ?_)
      ·
        refine V_iload (pc' := 187) dX9_follow_185 rfl 0 rfl ?_
        refine V_aload_n (pc' := 188) dX9_follow_187 rfl 3 rfl rfl ?_
        refine V_iload (pc' := 190) dX9_follow_188 rfl 5 rfl ?_
        refine V_iload_n (pc' := 191) dX9_follow_190 rfl 4 rfl rfl ?_
        refine V_cvI (pc' := 194) (As := [.int x5, .int x3]) (rest := [.int x_7]) dX9_follow_191 rfl mok_X4_distance bm_736 4 (by decide) rfl hs2 rfl rfl (Nat.le_of_ble_eq_true rfl) (by decide) hf (fun q e => ct_X4_distance hs2 e) (fun q_11 hf => ?_)
        refine V_icmp_ne (tgt := 204) (pc' := 197) dX9_follow_194 (by decide) rfl hf (fun hf => ?_) (fun hf => ?_)
        ·
          refine V_iload (pc' := 199) dX9_follow_197 rfl 6 rfl ?_
          refine V_iconst (v := 1) (pc' := 200) dX9_follow_199 rfl (by decide) ?_
          refine V_iadd (pc' := 201) dX9_follow_200 rfl ?_
          refine V_goto (tgt := 205) dX9_follow_201 (by decide) ?_
          obtain rfl := Option.some.inj hf
          exact V_iret dX9_follow_205 rfl rfl rfl ⟨rfl, rfl, rfl⟩
        ·
          refine V_iconst (v := (-1)) (pc' := 205) dX9_follow_204 rfl (by decide) ?_
          obtain rfl := Option.some.inj hf
          exact V_iret dX9_follow_205 rfl rfl rfl ⟨rfl, rfl, rfl⟩
      ·
        refine V_iinc (v := (p.2 + 1)) (lv' := [(7, .int (p.2 + 1)), (6, .int x_7), (0, .ref a0), (1, .ref a1), (2, .ref a2), (3, .int x3), (5, .int x5)]) (pc' := 209) dX9_follow_206 rfl 6 rfl rfl (Nat.le_of_ble_eq_true rfl) rfl ?_
        refine V_goto (tgt := 131) dX9_follow_209 (by decide) ?_
        exact V_sub (lv' := [(0, .ref a0), (1, .ref a1), (2, .ref a2), (3, .int x3), (5, .int x5), (6, .int x_7), (7, .int (p.2 + 1))]) [2, 3, 4, 5, 6, 1, 0] rfl (hk131 (x_7, (p.2 + 1)) q_10.2 hf)
  ·
    refine V_iconst (v := (-1)) (pc' := 213) dX9_follow_212 rfl (by decide) ?_
    obtain rfl := Option.some.inj hf
    exact V_iret dX9_follow_213 rfl rfl rfl ⟨rfl, rfl, rfl⟩
theorem v_X9_follow_131 {l : Launch} {G : GE} {B N : Nat} {S : List SHP} {o : Int32 × MH} {a0 : Nat} {a1 : Nat} {a2 : Nat} {x3 : Int32} {x5 : Int32}    (hs0 : S[a0]? = some (.inl 9)) (hs1 : S[a1]? = some (.inl 2)) (hs2 : S[a2]? = some (.inl 4)) {n : Nat} {p : Int32 × Int32} {h : MH} (hf : f_X9_follow_131 a0 a1 a2 x3 x5 n p h = some o) : V l G B N mX9_follow (rmm 4 0 0) false 0 0 (QI S o) S 0 0 131 [(0, .ref a0), (1, .ref a1), (2, .ref a2), (3, .int x3), (5, .int x5), (6, .int p.1), (7, .int p.2)] [] h :=
  V_lp (VV := fun p h => V l G B N mX9_follow (rmm 4 0 0) false 0 0 (QI S o) S 0 0 131 [(0, .ref a0), (1, .ref a1), (2, .ref a2), (3, .int x3), (5, .int x5), (6, .int p.1), (7, .int p.2)] [] h) (fun _ hk _ _ hf => v_X9_follow_131b hs0 hs1 hs2 hk hf) n p h hf
set_option maxRecDepth 100000 in
set_option maxHeartbeats 4000000 in
theorem v_X9_follow_99 {l : Launch} {G : GE} {B N : Nat} {S : List SHP} {o : Int32 × MH} {a0 : Nat} {a1 : Nat} {a2 : Nat} {x3 : Int32} {x4 : Int32} {t0 : Int32}    (hs0 : S[a0]? = some (.inl 9)) (hs1 : S[a1]? = some (.inl 2)) (hs2 : S[a2]? = some (.inl 4)) {h : MH} (hf : f_X9_follow_99 a0 a1 a2 x3 x4 t0 h = some o) : V l G B N mX9_follow (rmm 4 0 0) false 0 0 (QI S o) S 0 0 99 [(0, .ref a0), (1, .ref a1), (2, .ref a2), (3, .int x3), (4, .int x4)] [.int t0] h := by
  unfold f_X9_follow_99 at hf
  refine V_istore (lv' := [(5, .int t0), (0, .ref a0), (1, .ref a1), (2, .ref a2), (3, .int x3), (4, .int x4)]) (pc' := 101) dX9_follow_99 rfl (Nat.le_of_ble_eq_true rfl) rfl ?_
  refine V_iload (pc' := 103) dX9_follow_101 rfl 0 rfl ?_
  refine V_iload_n (pc' := 104) dX9_follow_103 rfl 4 rfl rfl ?_
  refine V_icmp_ne (tgt := 110) (pc' := 107) dX9_follow_104 (by decide) rfl hf (fun hf => ?_) (fun hf => ?_)
  ·
    refine V_iload (pc' := 109) dX9_follow_107 rfl 5 rfl ?_
    obtain rfl := Option.some.inj hf
    exact V_iret dX9_follow_109 rfl rfl rfl ⟨rfl, rfl, rfl⟩
  ·
    refine V_aload_n (pc' := 111) dX9_follow_110 rfl 3 rfl rfl ?_
    refine V_iload (pc' := 113) dX9_follow_111 rfl 0 rfl ?_
    refine V_iload_n (pc' := 114) dX9_follow_113 rfl 4 rfl rfl ?_
    refine V_cvL (pc' := 117) (As := [.int t0, .int x3]) (rest := []) dX9_follow_114 rfl mok_X4_countOf bm_740 4 (by decide) rfl hs2 rfl rfl (Nat.le_of_ble_eq_true rfl) (by decide) hf (fun q e => ct_X4_countOf hs2 e) (fun q_1 hf => ?_)
    refine V_lconst (v := 1) (pc' := 118) dX9_follow_117 rfl (by decide) ?_
    refine V_lcmp_eq (pc1 := 119) (tgt := 124) (pc' := 122) dX9_follow_118 rfl dX9_follow_119 (by decide) rfl hf (fun hf => ?_) (fun hf => ?_)
    ·
      refine V_iconst (v := 0) (pc' := 125) dX9_follow_124 rfl (by decide) ?_
      refine V_istore (lv' := [(6, .int 0), (5, .int t0), (0, .ref a0), (1, .ref a1), (2, .ref a2), (3, .int x3), (4, .int x4)]) (pc' := 127) dX9_follow_125 rfl (Nat.le_of_ble_eq_true rfl) rfl ?_
      refine V_iload (pc' := 129) dX9_follow_127 rfl 6 rfl ?_
      refine V_istore (lv' := [(7, .int x4), (6, .int 0), (5, .int t0), (0, .ref a0), (1, .ref a1), (2, .ref a2), (3, .int x3), (4, .int x4)]) (pc' := 131) dX9_follow_129 rfl (Nat.le_of_ble_eq_true rfl) rfl ?_
      exact V_sub (lv' := [(0, .ref a0), (1, .ref a1), (2, .ref a2), (3, .int x3), (5, .int t0), (6, .int 0), (7, .int x4)]) [3, 4, 5, 6, 2, 1, 0] rfl (v_X9_follow_131 hs0 hs1 hs2 hf)
    ·
      refine V_iconst (v := (-1)) (pc' := 123) dX9_follow_122 rfl (by decide) ?_
      obtain rfl := Option.some.inj hf
      exact V_iret dX9_follow_123 rfl rfl rfl ⟨rfl, rfl, rfl⟩
set_option maxRecDepth 100000 in
set_option maxHeartbeats 4000000 in
theorem v_X9_follow {l : Launch} {G : GE} {B N : Nat} {S : List SHP} {o : Int32 × MH} {a0 : Nat} {a1 : Nat} {a2 : Nat} {x3 : Int32} {x4 : Int32}    (hs0 : S[a0]? = some (.inl 9)) (hs1 : S[a1]? = some (.inl 2)) (hs2 : S[a2]? = some (.inl 4)) {h : MH} (hf : f_X9_follow a0 a1 a2 x3 x4 h = some o) : V l G B N mX9_follow (rmm 4 0 0) false 0 0 (QI S o) S 0 0 0 [(0, .ref a0), (1, .ref a1), (2, .ref a2), (3, .int x3), (4, .int x4)] [] h := by
  unfold f_X9_follow at hf
  refine V_iload_n (pc' := 1) dX9_follow_0 rfl 3 rfl rfl ?_
  refine V_bipush (v := 100) (pc' := 3) dX9_follow_1 rfl (by decide) ?_
  refine V_icmp_lt (tgt := 51) (pc' := 6) dX9_follow_3 (by decide) rfl hf (fun hf => ?_) (fun hf => ?_)
  ·
    refine V_aload_n (pc' := 52) dX9_follow_51 rfl 1 rfl rfl ?_
    refine V_iload_n (pc' := 53) dX9_follow_52 rfl 3 rfl rfl ?_
    refine V_cvI (pc' := 56) (As := [.int x3]) (rest := []) dX9_follow_53 rfl mok_X2_hasNode bm_764 2 (by decide) rfl hs1 rfl rfl (Nat.le_of_ble_eq_true rfl) (by decide) hf (fun q e => ct_X2_hasNode hs1 e) (fun q_1 hf => ?_)
    refine V_if_ne (tgt := 61) (pc' := 59) dX9_follow_56 (by decide) rfl hf (fun hf => ?_) (fun hf => ?_)
    ·
      refine V_iconst (v := (-1)) (pc' := 60) dX9_follow_59 rfl (by decide) ?_
      obtain rfl := Option.some.inj hf
      exact V_iret dX9_follow_60 rfl rfl rfl ⟨rfl, rfl, rfl⟩
    ·
      refine V_iload (pc' := 63) dX9_follow_61 rfl 4 rfl ?_
      refine V_aload_n (pc' := 64) dX9_follow_63 rfl 0 rfl rfl ?_
      refine V_getI (pc' := 67) 9 1 dX9_follow_64 rfl (by decide) (Nat.le_of_ble_eq_true rfl) bm_363 hs0 (fun _ _ _ => rfl) ?_
      refine V_icmp_ge (tgt := 84) (pc' := 70) dX9_follow_67 (by decide) rfl hf (fun hf => ?_) (fun hf => ?_)
      ·
        refine V_aload_n (pc' := 71) dX9_follow_70 rfl 1 rfl rfl ?_
        refine V_aload_n (pc' := 72) dX9_follow_71 rfl 0 rfl rfl ?_
        refine V_getR (pc' := 75) 9 0 dX9_follow_72 rfl (by decide) (Nat.le_of_ble_eq_true rfl) bm_362 hs0 (fun _ _ _ => rfl) rfl hf (fun a_2 ha_2 hf => ?_)
        refine V_iload (pc' := 77) dX9_follow_75 rfl 4 rfl ?_
        refine V_iald (pc' := 78) dX9_follow_77 rfl ha_2 hf (fun x_3 hf => ?_)
        refine V_cvI (pc' := 81) (As := [.int x_3]) (rest := []) dX9_follow_78 rfl mok_X2_fromOf bm_726 2 (by decide) rfl hs1 rfl rfl (Nat.le_of_ble_eq_true rfl) (by decide) hf (fun q e => ct_X2_fromOf hs1 e) (fun q_4 hf => ?_)
        refine V_goto (tgt := 99) dX9_follow_81 (by decide) ?_
        exact V_sub (lv' := [(0, .ref a0), (1, .ref a1), (2, .ref a2), (3, .int x3), (4, .int x4)]) [0, 1, 2, 3, 4] rfl (v_X9_follow_99 hs0 hs1 hs2 hf)
      ·
        refine V_aload_n (pc' := 85) dX9_follow_84 rfl 1 rfl rfl ?_
        refine V_aload_n (pc' := 86) dX9_follow_85 rfl 0 rfl rfl ?_
        refine V_getR (pc' := 89) 9 0 dX9_follow_86 rfl (by decide) (Nat.le_of_ble_eq_true rfl) bm_362 hs0 (fun _ _ _ => rfl) rfl hf (fun a_5 ha_5 hf => ?_)
        refine V_aload_n (pc' := 90) dX9_follow_89 rfl 0 rfl rfl ?_
        refine V_getI (pc' := 93) 9 1 dX9_follow_90 rfl (by decide) (Nat.le_of_ble_eq_true rfl) bm_363 hs0 (fun _ _ _ => rfl) ?_
        refine V_iconst (v := 1) (pc' := 94) dX9_follow_93 rfl (by decide) ?_
        refine V_isub (pc' := 95) dX9_follow_94 rfl ?_
        refine V_iald (pc' := 96) dX9_follow_95 rfl ha_5 hf (fun x_6 hf => ?_)
        refine V_cvI (pc' := 99) (As := [.int x_6]) (rest := []) dX9_follow_96 rfl mok_X2_toOf bm_730 2 (by decide) rfl hs1 rfl rfl (Nat.le_of_ble_eq_true rfl) (by decide) hf (fun q e => ct_X2_toOf hs1 e) (fun q_7 hf => ?_)
        exact V_sub (lv' := [(0, .ref a0), (1, .ref a1), (2, .ref a2), (3, .int x3), (4, .int x4)]) [0, 1, 2, 3, 4] rfl (v_X9_follow_99 hs0 hs1 hs2 hf)
  ·
    refine V_iload_n (pc' := 7) dX9_follow_6 rfl 3 rfl rfl ?_
    refine V_bipush (v := 100) (pc' := 9) dX9_follow_7 rfl (by decide) ?_
    refine V_isub (pc' := 10) dX9_follow_9 rfl ?_
    refine V_nmI hf (fun x_8 hf => ?_)
    refine V_istore (lv' := [(5, .int x_8), (0, .ref a0), (1, .ref a1), (2, .ref a2), (3, .int x3), (4, .int x4)]) (pc' := 12) dX9_follow_10 rfl (Nat.le_of_ble_eq_true rfl) rfl ?_
    refine V_iload (pc' := 14) dX9_follow_12 rfl 5 rfl ?_
    refine V_aload_n (pc' := 15) dX9_follow_14 rfl 1 rfl rfl ?_
    refine V_getI (pc' := 18) 9 1 dX9_follow_15 rfl (by decide) (Nat.le_of_ble_eq_true rfl) bm_363 hs0 (fun _ _ _ => rfl) ?_
    refine V_icmp_ge (tgt := 49) (pc' := 21) dX9_follow_18 (by decide) rfl hf (fun hf => ?_) (fun hf => ?_)
    ·
      refine V_aload_n (pc' := 22) dX9_follow_21 rfl 1 rfl rfl ?_
      refine V_getR (pc' := 25) 9 0 dX9_follow_22 rfl (by decide) (Nat.le_of_ble_eq_true rfl) bm_362 hs0 (fun _ _ _ => rfl) rfl hf (fun a_9 ha_9 hf => ?_)
      refine V_iload (pc' := 27) dX9_follow_25 rfl 5 rfl ?_
      refine V_iald (pc' := 28) dX9_follow_27 rfl ha_9 hf (fun x_10 hf => ?_)
      refine V_iload (pc' := 30) dX9_follow_28 rfl 0 rfl ?_
      refine V_icmp_ne (tgt := 49) (pc' := 33) dX9_follow_30 (by decide) rfl hf (fun hf => ?_) (fun hf => ?_)
      ·
        refine V_aload_n (pc' := 34) dX9_follow_33 rfl 2 rfl rfl ?_
        refine V_iload (pc' := 36) dX9_follow_34 rfl 0 rfl ?_
        refine V_cvI (pc' := 39) (As := [.int x_8]) (rest := []) dX9_follow_36 rfl mok_X2_isUp bm_735 2 (by decide) rfl hs1 rfl rfl (Nat.le_of_ble_eq_true rfl) (by decide) hf (fun q e => ct_X2_isUp hs1 e) (fun q_11 hf => ?_)
        refine V_if_eq (tgt := 49) (pc' := 42) dX9_follow_39 (by decide) rfl hf (fun hf => ?_) (fun hf => ?_)
        ·
          refine V_iconst (v := (-1)) (pc' := 50) dX9_follow_49 rfl (by decide) ?_
          obtain rfl := Option.some.inj hf
          exact V_iret dX9_follow_50 rfl rfl rfl ⟨rfl, rfl, rfl⟩
        ·
          refine V_iload (pc' := 44) dX9_follow_42 rfl 5 rfl ?_
          refine V_iconst (v := 1) (pc' := 45) dX9_follow_44 rfl (by decide) ?_
          refine V_iadd (pc' := 46) dX9_follow_45 rfl ?_
          refine V_goto (tgt := 50) dX9_follow_46 (by decide) ?_
          obtain rfl := Option.some.inj hf
          exact V_iret dX9_follow_50 rfl rfl rfl ⟨rfl, rfl, rfl⟩
      ·
        refine V_iconst (v := (-1)) (pc' := 50) dX9_follow_49 rfl (by decide) ?_
        obtain rfl := Option.some.inj hf
        exact V_iret dX9_follow_50 rfl rfl rfl ⟨rfl, rfl, rfl⟩
    ·
      refine V_iconst (v := (-1)) (pc' := 50) dX9_follow_49 rfl (by decide) ?_
      obtain rfl := Option.some.inj hf
      exact V_iret dX9_follow_50 rfl rfl rfl ⟨rfl, rfl, rfl⟩
theorem ct_X9_follow {l : Launch} {S : List SHP} {h : MH} {a0 : Nat} {a1 : Nat} {a2 : Nat} {x3 : Int32} {x4 : Int32} (hs0 : S[a0]? = some (.inl 9)) (hs1 : S[a1]? = some (.inl 2)) (hs2 : S[a2]? = some (.inl 4)) {q : Int32 × MH} (hf : f_X9_follow a0 a1 a2 x3 x4 h = some q) : CT l mX9_follow 4 false 0 0 S [.ref a0, .ref a1, .ref a2, .int x3, .int x4] h (QI S q) :=
  CT_ofV (by decide) rfl (Nat.le_of_ble_eq_true rfl) (fun G B hT => v_X9_follow hs0 hs1 hs2 hf)
/-! LabelStacks$Writer.bindingReach(LLabelStacks$Network;LLabelStacks$Routes;II)I -/
theorem dX9_bindingReach_0 : decode cX9_bindingReach 0 = .ok (.iload 4, 2) := by decide +kernel
theorem dX9_bindingReach_2 : decode cX9_bindingReach 2 = .ok (.istore 5, 2) := by decide +kernel
theorem dX9_bindingReach_4 : decode cX9_bindingReach 4 = .ok (.iconst 0, 1) := by decide +kernel
theorem dX9_bindingReach_5 : decode cX9_bindingReach 5 = .ok (.istore 6, 2) := by decide +kernel
theorem dX9_bindingReach_7 : decode cX9_bindingReach 7 = .ok (.iload 6, 2) := by decide +kernel
theorem dX9_bindingReach_9 : decode cX9_bindingReach 9 = .ok (.aload_n 1, 1) := by decide +kernel
theorem dX9_bindingReach_10 : decode cX9_bindingReach 10 = .ok (.getfield 87, 3) := by decide +kernel
theorem dX9_bindingReach_13 : decode cX9_bindingReach 13 = .ok (.getfield 91, 3) := by decide +kernel
theorem dX9_bindingReach_16 : decode cX9_bindingReach 16 = .ok (.iload_n 3, 1) := by decide +kernel
theorem dX9_bindingReach_17 : decode cX9_bindingReach 17 = .ok (.iaload, 1) := by decide +kernel
theorem dX9_bindingReach_18 : decode cX9_bindingReach 18 = .ok (.if_icmp .ge 37, 3) := by decide +kernel
theorem dX9_bindingReach_21 : decode cX9_bindingReach 21 = .ok (.aload_n 0, 1) := by decide +kernel
theorem dX9_bindingReach_22 : decode cX9_bindingReach 22 = .ok (.aload_n 1, 1) := by decide +kernel
theorem dX9_bindingReach_23 : decode cX9_bindingReach 23 = .ok (.aload_n 2, 1) := by decide +kernel
theorem dX9_bindingReach_24 : decode cX9_bindingReach 24 = .ok (.aload_n 1, 1) := by decide +kernel
theorem dX9_bindingReach_25 : decode cX9_bindingReach 25 = .ok (.getfield 87, 3) := by decide +kernel
theorem dX9_bindingReach_28 : decode cX9_bindingReach 28 = .ok (.iload_n 3, 1) := by decide +kernel
theorem dX9_bindingReach_29 : decode cX9_bindingReach 29 = .ok (.iload 6, 2) := by decide +kernel
theorem dX9_bindingReach_31 : decode cX9_bindingReach 31 = .ok (.invokevirtual 108, 3) := by decide +kernel
theorem dX9_bindingReach_34 : decode cX9_bindingReach 34 = .ok (.iload 5, 2) := by decide +kernel
theorem dX9_bindingReach_36 : decode cX9_bindingReach 36 = .ok (.invokevirtual 111, 3) := by decide +kernel
theorem dX9_bindingReach_39 : decode cX9_bindingReach 39 = .ok (.istore 5, 2) := by decide +kernel
theorem dX9_bindingReach_41 : decode cX9_bindingReach 41 = .ok (.iload 5, 2) := by decide +kernel
theorem dX9_bindingReach_43 : decode cX9_bindingReach 43 = .ok (.iconst (-1), 1) := by decide +kernel
theorem dX9_bindingReach_44 : decode cX9_bindingReach 44 = .ok (.if_icmp .ne 5, 3) := by decide +kernel
theorem dX9_bindingReach_47 : decode cX9_bindingReach 47 = .ok (.iconst 0, 1) := by decide +kernel
theorem dX9_bindingReach_48 : decode cX9_bindingReach 48 = .ok (.ireturn, 1) := by decide +kernel
theorem dX9_bindingReach_49 : decode cX9_bindingReach 49 = .ok (.iinc 6 1, 3) := by decide +kernel
theorem dX9_bindingReach_52 : decode cX9_bindingReach 52 = .ok (.goto (-45), 3) := by decide +kernel
theorem dX9_bindingReach_55 : decode cX9_bindingReach 55 = .ok (.iload 5, 2) := by decide +kernel
theorem dX9_bindingReach_57 : decode cX9_bindingReach 57 = .ok (.iload 4, 2) := by decide +kernel
theorem dX9_bindingReach_59 : decode cX9_bindingReach 59 = .ok (.isub, 1) := by decide +kernel
theorem dX9_bindingReach_60 : decode cX9_bindingReach 60 = .ok (.ireturn, 1) := by decide +kernel
abbrev mX9_bindingReach : MI := (RX9, yX9_bindingReach, cX9_bindingReach, 7, (some .int))
theorem mok_X9_bindingReach : MOKv mX9_bindingReach 4 := ⟨⟨bm_751, bm_124, ⟨by decide, by decide⟩, by decide +kernel⟩, bm_750, bm_9⟩
def f_X9_bindingReach_7b   (a0 : Nat) (a1 : Nat) (a2 : Nat) (x3 : Int32) (x4 : Int32) (k7 : Int32 × Int32 → MH → Option (Int32 × MH)) (p : Int32 × Int32) (h : MH) : Option (Int32 × MH) :=
  (gR h a1 7).bind fun a_1 =>
  (gR h a_1 1).bind fun a_2 =>
  (ldI h a_2 x3).bind fun x_3 =>
  if p.2 < x_3 then
    (gR h a1 7).bind fun a_4 =>
    (f_X6_get a_4 x3 p.2 h).bind fun q_5 =>
    (f_X9_follow a0 a1 a2 q_5.1 p.1 q_5.2).bind fun q_6 =>
    if q_6.1 = (-1 : Int32) then
      some (0, q_6.2)
    else
      k7 (q_6.1, (p.2 + 1)) q_6.2
  else
    some ((p.1 - x4), h)
def f_X9_bindingReach_7   (a0 : Nat) (a1 : Nat) (a2 : Nat) (x3 : Int32) (x4 : Int32) : Nat → Int32 × Int32 → MH → Option (Int32 × MH) := lp (f_X9_bindingReach_7b a0 a1 a2 x3 x4)
def f_X9_bindingReach   (a0 : Nat) (a1 : Nat) (a2 : Nat) (x3 : Int32) (x4 : Int32) (h : MH) : Option (Int32 × MH) :=
  f_X9_bindingReach_7 a0 a1 a2 x3 x4 FU (x4, 0) h
set_option maxRecDepth 100000 in
set_option maxHeartbeats 4000000 in
theorem v_X9_bindingReach_7b {l : Launch} {G : GE} {B N : Nat} {S : List SHP} {o : Int32 × MH} {a0 : Nat} {a1 : Nat} {a2 : Nat} {x3 : Int32} {x4 : Int32}    (hs0 : S[a0]? = some (.inl 9)) (hs1 : S[a1]? = some (.inl 2)) (hs2 : S[a2]? = some (.inl 4)) {k7 : Int32 × Int32 → MH → Option (Int32 × MH)} (hk7 : ∀ (p : Int32 × Int32) (h : MH), k7 p h = some o → V l G B N mX9_bindingReach (rmm 5 0 0) false 0 0 (QI S o) S 0 0 7 [(0, .ref a0), (1, .ref a1), (2, .ref a2), (3, .int x3), (4, .int x4), (5, .int p.1), (6, .int p.2)] [] h) {p : Int32 × Int32} {h : MH} (hf : f_X9_bindingReach_7b a0 a1 a2 x3 x4 k7 p h = some o) : V l G B N mX9_bindingReach (rmm 5 0 0) false 0 0 (QI S o) S 0 0 7 [(0, .ref a0), (1, .ref a1), (2, .ref a2), (3, .int x3), (4, .int x4), (5, .int p.1), (6, .int p.2)] [] h := by
  unfold f_X9_bindingReach_7b at hf
  refine V_iload (pc' := 9) dX9_bindingReach_7 rfl 6 rfl ?_
  refine V_aload_n (pc' := 10) dX9_bindingReach_9 rfl 1 rfl rfl ?_
  refine V_getR (pc' := 13) 2 7 dX9_bindingReach_10 rfl (by decide) (Nat.le_of_ble_eq_true rfl) bm_216 hs1 (fun _ _ _ => rfl) rfl hf (fun a_1 ha_1 hf => ?_)
  refine V_getR (pc' := 16) 6 1 dX9_bindingReach_13 rfl (by decide) (Nat.le_of_ble_eq_true rfl) bm_172 ha_1 (fun _ _ _ => rfl) rfl hf (fun a_2 ha_2 hf => ?_)
  refine V_iload_n (pc' := 17) dX9_bindingReach_16 rfl 3 rfl rfl ?_
  refine V_iald (pc' := 18) dX9_bindingReach_17 rfl ha_2 hf (fun x_3 hf => ?_)
  refine V_icmp_ge (tgt := 55) (pc' := 21) dX9_bindingReach_18 (by decide) rfl hf (fun hf => ?_) (fun hf => ?_)
  ·
    refine V_aload_n (pc' := 22) dX9_bindingReach_21 rfl 0 rfl rfl ?_
    refine V_aload_n (pc' := 23) dX9_bindingReach_22 rfl 1 rfl rfl ?_
    refine V_aload_n (pc' := 24) dX9_bindingReach_23 rfl 2 rfl rfl ?_
    refine V_aload_n (pc' := 25) dX9_bindingReach_24 rfl 1 rfl rfl ?_
    refine V_getR (pc' := 28) 2 7 dX9_bindingReach_25 rfl (by decide) (Nat.le_of_ble_eq_true rfl) bm_216 hs1 (fun _ _ _ => rfl) rfl hf (fun a_4 ha_4 hf => ?_)
    refine V_iload_n (pc' := 29) dX9_bindingReach_28 rfl 3 rfl rfl ?_
    refine V_iload (pc' := 31) dX9_bindingReach_29 rfl 6 rfl ?_
    refine V_cvI (pc' := 34) (As := [.int x3, .int p.2]) (rest := [.ref a2, .ref a1, .ref a0]) dX9_bindingReach_31 rfl mok_X6_get bm_752 6 (by decide) rfl ha_4 rfl rfl (Nat.le_of_ble_eq_true rfl) (by decide) hf (fun q e => ct_X6_get ha_4 e) (fun q_5 hf => ?_)
    refine V_iload (pc' := 36) dX9_bindingReach_34 rfl 5 rfl ?_
    refine V_cvI (pc' := 39) (As := [.ref a1, .ref a2, .int q_5.1, .int p.1]) (rest := []) dX9_bindingReach_36 rfl mok_X9_follow bm_760 9 (by decide) rfl hs0 rfl rfl (Nat.le_of_ble_eq_true rfl) (by decide) hf (fun q e => ct_X9_follow hs0 hs1 hs2 e) (fun q_6 hf => ?_)
    refine V_istore (lv' := [(5, .int q_6.1), (0, .ref a0), (1, .ref a1), (2, .ref a2), (3, .int x3), (4, .int x4), (6, .int p.2)]) (pc' := 41) dX9_bindingReach_39 rfl (Nat.le_of_ble_eq_true rfl) rfl ?_
    refine V_iload (pc' := 43) dX9_bindingReach_41 rfl 0 rfl ?_
    refine V_iconst (v := (-1)) (pc' := 44) dX9_bindingReach_43 rfl (by decide) ?_
    refine V_icmp_ne (tgt := 49) (pc' := 47) dX9_bindingReach_44 (by decide) rfl hf (fun hf => ?_) (fun hf => ?_)
    ·
      refine V_iconst (v := 0) (pc' := 48) dX9_bindingReach_47 rfl (by decide) ?_
      obtain rfl := Option.some.inj hf
      exact V_iret dX9_bindingReach_48 rfl rfl rfl ⟨rfl, rfl, rfl⟩
    ·
      refine V_iinc (v := (p.2 + 1)) (lv' := [(6, .int (p.2 + 1)), (5, .int q_6.1), (0, .ref a0), (1, .ref a1), (2, .ref a2), (3, .int x3), (4, .int x4)]) (pc' := 52) dX9_bindingReach_49 rfl 6 rfl rfl (Nat.le_of_ble_eq_true rfl) rfl ?_
      refine V_goto (tgt := 7) dX9_bindingReach_52 (by decide) ?_
      exact V_sub (lv' := [(0, .ref a0), (1, .ref a1), (2, .ref a2), (3, .int x3), (4, .int x4), (5, .int q_6.1), (6, .int (p.2 + 1))]) [2, 3, 4, 5, 6, 1, 0] rfl (hk7 (q_6.1, (p.2 + 1)) q_6.2 hf)
  ·
    refine V_iload (pc' := 57) dX9_bindingReach_55 rfl 5 rfl ?_
    refine V_iload (pc' := 59) dX9_bindingReach_57 rfl 4 rfl ?_
    refine V_isub (pc' := 60) dX9_bindingReach_59 rfl ?_
    obtain rfl := Option.some.inj hf
    exact V_iret dX9_bindingReach_60 rfl rfl rfl ⟨rfl, rfl, rfl⟩
theorem v_X9_bindingReach_7 {l : Launch} {G : GE} {B N : Nat} {S : List SHP} {o : Int32 × MH} {a0 : Nat} {a1 : Nat} {a2 : Nat} {x3 : Int32} {x4 : Int32}    (hs0 : S[a0]? = some (.inl 9)) (hs1 : S[a1]? = some (.inl 2)) (hs2 : S[a2]? = some (.inl 4)) {n : Nat} {p : Int32 × Int32} {h : MH} (hf : f_X9_bindingReach_7 a0 a1 a2 x3 x4 n p h = some o) : V l G B N mX9_bindingReach (rmm 5 0 0) false 0 0 (QI S o) S 0 0 7 [(0, .ref a0), (1, .ref a1), (2, .ref a2), (3, .int x3), (4, .int x4), (5, .int p.1), (6, .int p.2)] [] h :=
  V_lp (VV := fun p h => V l G B N mX9_bindingReach (rmm 5 0 0) false 0 0 (QI S o) S 0 0 7 [(0, .ref a0), (1, .ref a1), (2, .ref a2), (3, .int x3), (4, .int x4), (5, .int p.1), (6, .int p.2)] [] h) (fun _ hk _ _ hf => v_X9_bindingReach_7b hs0 hs1 hs2 hk hf) n p h hf
set_option maxRecDepth 100000 in
set_option maxHeartbeats 4000000 in
theorem v_X9_bindingReach {l : Launch} {G : GE} {B N : Nat} {S : List SHP} {o : Int32 × MH} {a0 : Nat} {a1 : Nat} {a2 : Nat} {x3 : Int32} {x4 : Int32}    (hs0 : S[a0]? = some (.inl 9)) (hs1 : S[a1]? = some (.inl 2)) (hs2 : S[a2]? = some (.inl 4)) {h : MH} (hf : f_X9_bindingReach a0 a1 a2 x3 x4 h = some o) : V l G B N mX9_bindingReach (rmm 5 0 0) false 0 0 (QI S o) S 0 0 0 [(0, .ref a0), (1, .ref a1), (2, .ref a2), (3, .int x3), (4, .int x4)] [] h := by
  unfold f_X9_bindingReach at hf
  refine V_iload (pc' := 2) dX9_bindingReach_0 rfl 4 rfl ?_
  refine V_istore (lv' := [(5, .int x4), (0, .ref a0), (1, .ref a1), (2, .ref a2), (3, .int x3), (4, .int x4)]) (pc' := 4) dX9_bindingReach_2 rfl (Nat.le_of_ble_eq_true rfl) rfl ?_
  refine V_iconst (v := 0) (pc' := 5) dX9_bindingReach_4 rfl (by decide) ?_
  refine V_istore (lv' := [(6, .int 0), (5, .int x4), (0, .ref a0), (1, .ref a1), (2, .ref a2), (3, .int x3), (4, .int x4)]) (pc' := 7) dX9_bindingReach_5 rfl (Nat.le_of_ble_eq_true rfl) rfl ?_
  exact V_sub (lv' := [(0, .ref a0), (1, .ref a1), (2, .ref a2), (3, .int x3), (4, .int x4), (5, .int x4), (6, .int 0)]) [2, 3, 4, 5, 6, 1, 0] rfl (v_X9_bindingReach_7 hs0 hs1 hs2 hf)
theorem ct_X9_bindingReach {l : Launch} {S : List SHP} {h : MH} {a0 : Nat} {a1 : Nat} {a2 : Nat} {x3 : Int32} {x4 : Int32} (hs0 : S[a0]? = some (.inl 9)) (hs1 : S[a1]? = some (.inl 2)) (hs2 : S[a2]? = some (.inl 4)) {q : Int32 × MH} (hf : f_X9_bindingReach a0 a1 a2 x3 x4 h = some q) : CT l mX9_bindingReach 5 false 0 0 S [.ref a0, .ref a1, .ref a2, .int x3, .int x4] h (QI S q) :=
  CT_ofV (by decide) rfl (Nat.le_of_ble_eq_true rfl) (fun G B hT => v_X9_bindingReach hs0 hs1 hs2 hf)
/-! LabelStacks$Writer.writeFrom(LLabelStacks$Network;LLabelStacks$Routes;I)V -/
theorem dX9_writeFrom_0 : decode cX9_writeFrom 0 = .ok (.aload_n 0, 1) := by decide +kernel
theorem dX9_writeFrom_1 : decode cX9_writeFrom 1 = .ok (.getfield 15, 3) := by decide +kernel
theorem dX9_writeFrom_4 : decode cX9_writeFrom 4 = .ok (.iload_n 3, 1) := by decide +kernel
theorem dX9_writeFrom_5 : decode cX9_writeFrom 5 = .ok (.sipush 1000, 3) := by decide +kernel
theorem dX9_writeFrom_8 : decode cX9_writeFrom 8 = .ok (.iastore, 1) := by decide +kernel
theorem dX9_writeFrom_9 : decode cX9_writeFrom 9 = .ok (.aload_n 0, 1) := by decide +kernel
theorem dX9_writeFrom_10 : decode cX9_writeFrom 10 = .ok (.getfield 18, 3) := by decide +kernel
theorem dX9_writeFrom_13 : decode cX9_writeFrom 13 = .ok (.iload_n 3, 1) := by decide +kernel
theorem dX9_writeFrom_14 : decode cX9_writeFrom 14 = .ok (.iconst (-1), 1) := by decide +kernel
theorem dX9_writeFrom_15 : decode cX9_writeFrom 15 = .ok (.iastore, 1) := by decide +kernel
theorem dX9_writeFrom_16 : decode cX9_writeFrom 16 = .ok (.aload_n 0, 1) := by decide +kernel
theorem dX9_writeFrom_17 : decode cX9_writeFrom 17 = .ok (.getfield 21, 3) := by decide +kernel
theorem dX9_writeFrom_20 : decode cX9_writeFrom 20 = .ok (.iload_n 3, 1) := by decide +kernel
theorem dX9_writeFrom_21 : decode cX9_writeFrom 21 = .ok (.iconst 0, 1) := by decide +kernel
theorem dX9_writeFrom_22 : decode cX9_writeFrom 22 = .ok (.iastore, 1) := by decide +kernel
theorem dX9_writeFrom_23 : decode cX9_writeFrom 23 = .ok (.aload_n 0, 1) := by decide +kernel
theorem dX9_writeFrom_24 : decode cX9_writeFrom 24 = .ok (.aload_n 1, 1) := by decide +kernel
theorem dX9_writeFrom_25 : decode cX9_writeFrom 25 = .ok (.aload_n 2, 1) := by decide +kernel
theorem dX9_writeFrom_26 : decode cX9_writeFrom 26 = .ok (.iload_n 3, 1) := by decide +kernel
theorem dX9_writeFrom_27 : decode cX9_writeFrom 27 = .ok (.invokevirtual 59, 3) := by decide +kernel
theorem dX9_writeFrom_30 : decode cX9_writeFrom 30 = .ok (.istore 4, 2) := by decide +kernel
theorem dX9_writeFrom_32 : decode cX9_writeFrom 32 = .ok (.iconst 1, 1) := by decide +kernel
theorem dX9_writeFrom_33 : decode cX9_writeFrom 33 = .ok (.istore 5, 2) := by decide +kernel
theorem dX9_writeFrom_35 : decode cX9_writeFrom 35 = .ok (.iload 5, 2) := by decide +kernel
theorem dX9_writeFrom_37 : decode cX9_writeFrom 37 = .ok (.iload 4, 2) := by decide +kernel
theorem dX9_writeFrom_39 : decode cX9_writeFrom 39 = .ok (.if_icmp .gt 32, 3) := by decide +kernel
theorem dX9_writeFrom_42 : decode cX9_writeFrom 42 = .ok (.aload_n 0, 1) := by decide +kernel
theorem dX9_writeFrom_43 : decode cX9_writeFrom 43 = .ok (.iload_n 3, 1) := by decide +kernel
theorem dX9_writeFrom_44 : decode cX9_writeFrom 44 = .ok (.iload 5, 2) := by decide +kernel
theorem dX9_writeFrom_46 : decode cX9_writeFrom 46 = .ok (.aload_n 1, 1) := by decide +kernel
theorem dX9_writeFrom_47 : decode cX9_writeFrom 47 = .ok (.aload_n 0, 1) := by decide +kernel
theorem dX9_writeFrom_48 : decode cX9_writeFrom 48 = .ok (.getfield 9, 3) := by decide +kernel
theorem dX9_writeFrom_51 : decode cX9_writeFrom 51 = .ok (.iload_n 3, 1) := by decide +kernel
theorem dX9_writeFrom_52 : decode cX9_writeFrom 52 = .ok (.iload 5, 2) := by decide +kernel
theorem dX9_writeFrom_54 : decode cX9_writeFrom 54 = .ok (.iadd, 1) := by decide +kernel
theorem dX9_writeFrom_55 : decode cX9_writeFrom 55 = .ok (.iconst 1, 1) := by decide +kernel
theorem dX9_writeFrom_56 : decode cX9_writeFrom 56 = .ok (.isub, 1) := by decide +kernel
theorem dX9_writeFrom_57 : decode cX9_writeFrom 57 = .ok (.iaload, 1) := by decide +kernel
theorem dX9_writeFrom_58 : decode cX9_writeFrom 58 = .ok (.invokevirtual 63, 3) := by decide +kernel
theorem dX9_writeFrom_61 : decode cX9_writeFrom 61 = .ok (.iconst 1, 1) := by decide +kernel
theorem dX9_writeFrom_62 : decode cX9_writeFrom 62 = .ok (.invokevirtual 69, 3) := by decide +kernel
theorem dX9_writeFrom_65 : decode cX9_writeFrom 65 = .ok (.iinc 5 1, 3) := by decide +kernel
theorem dX9_writeFrom_68 : decode cX9_writeFrom 68 = .ok (.goto (-33), 3) := by decide +kernel
theorem dX9_writeFrom_71 : decode cX9_writeFrom 71 = .ok (.aload_n 1, 1) := by decide +kernel
theorem dX9_writeFrom_72 : decode cX9_writeFrom 72 = .ok (.aload_n 0, 1) := by decide +kernel
theorem dX9_writeFrom_73 : decode cX9_writeFrom 73 = .ok (.getfield 9, 3) := by decide +kernel
theorem dX9_writeFrom_76 : decode cX9_writeFrom 76 = .ok (.iload_n 3, 1) := by decide +kernel
theorem dX9_writeFrom_77 : decode cX9_writeFrom 77 = .ok (.iaload, 1) := by decide +kernel
theorem dX9_writeFrom_78 : decode cX9_writeFrom 78 = .ok (.invokevirtual 73, 3) := by decide +kernel
theorem dX9_writeFrom_81 : decode cX9_writeFrom 81 = .ok (.ifCond .eq 19, 3) := by decide +kernel
theorem dX9_writeFrom_84 : decode cX9_writeFrom 84 = .ok (.aload_n 0, 1) := by decide +kernel
theorem dX9_writeFrom_85 : decode cX9_writeFrom 85 = .ok (.iload_n 3, 1) := by decide +kernel
theorem dX9_writeFrom_86 : decode cX9_writeFrom 86 = .ok (.iconst 1, 1) := by decide +kernel
theorem dX9_writeFrom_87 : decode cX9_writeFrom 87 = .ok (.bipush 100, 2) := by decide +kernel
theorem dX9_writeFrom_89 : decode cX9_writeFrom 89 = .ok (.aload_n 0, 1) := by decide +kernel
theorem dX9_writeFrom_90 : decode cX9_writeFrom 90 = .ok (.getfield 9, 3) := by decide +kernel
theorem dX9_writeFrom_93 : decode cX9_writeFrom 93 = .ok (.iload_n 3, 1) := by decide +kernel
theorem dX9_writeFrom_94 : decode cX9_writeFrom 94 = .ok (.iaload, 1) := by decide +kernel
theorem dX9_writeFrom_95 : decode cX9_writeFrom 95 = .ok (.iadd, 1) := by decide +kernel
theorem dX9_writeFrom_96 : decode cX9_writeFrom 96 = .ok (.iconst 1, 1) := by decide +kernel
theorem dX9_writeFrom_97 : decode cX9_writeFrom 97 = .ok (.invokevirtual 69, 3) := by decide +kernel
theorem dX9_writeFrom_100 : decode cX9_writeFrom 100 = .ok (.aload_n 1, 1) := by decide +kernel
theorem dX9_writeFrom_101 : decode cX9_writeFrom 101 = .ok (.aload_n 0, 1) := by decide +kernel
theorem dX9_writeFrom_102 : decode cX9_writeFrom 102 = .ok (.getfield 9, 3) := by decide +kernel
theorem dX9_writeFrom_105 : decode cX9_writeFrom 105 = .ok (.iload_n 3, 1) := by decide +kernel
theorem dX9_writeFrom_106 : decode cX9_writeFrom 106 = .ok (.iaload, 1) := by decide +kernel
theorem dX9_writeFrom_107 : decode cX9_writeFrom 107 = .ok (.invokevirtual 77, 3) := by decide +kernel
theorem dX9_writeFrom_110 : decode cX9_writeFrom 110 = .ok (.istore 5, 2) := by decide +kernel
theorem dX9_writeFrom_112 : decode cX9_writeFrom 112 = .ok (.iconst 0, 1) := by decide +kernel
theorem dX9_writeFrom_113 : decode cX9_writeFrom 113 = .ok (.istore 6, 2) := by decide +kernel
theorem dX9_writeFrom_115 : decode cX9_writeFrom 115 = .ok (.iload 6, 2) := by decide +kernel
theorem dX9_writeFrom_117 : decode cX9_writeFrom 117 = .ok (.bipush 6, 2) := by decide +kernel
theorem dX9_writeFrom_119 : decode cX9_writeFrom 119 = .ok (.if_icmp .ge 51, 3) := by decide +kernel
theorem dX9_writeFrom_122 : decode cX9_writeFrom 122 = .ok (.aload_n 1, 1) := by decide +kernel
theorem dX9_writeFrom_123 : decode cX9_writeFrom 123 = .ok (.getfield 80, 3) := by decide +kernel
theorem dX9_writeFrom_126 : decode cX9_writeFrom 126 = .ok (.iload 6, 2) := by decide +kernel
theorem dX9_writeFrom_128 : decode cX9_writeFrom 128 = .ok (.iaload, 1) := by decide +kernel
theorem dX9_writeFrom_129 : decode cX9_writeFrom 129 = .ok (.iload 5, 2) := by decide +kernel
theorem dX9_writeFrom_131 : decode cX9_writeFrom 131 = .ok (.if_icmp .ne 33, 3) := by decide +kernel
theorem dX9_writeFrom_134 : decode cX9_writeFrom 134 = .ok (.aload_n 0, 1) := by decide +kernel
theorem dX9_writeFrom_135 : decode cX9_writeFrom 135 = .ok (.iload_n 3, 1) := by decide +kernel
theorem dX9_writeFrom_136 : decode cX9_writeFrom 136 = .ok (.aload_n 0, 1) := by decide +kernel
theorem dX9_writeFrom_137 : decode cX9_writeFrom 137 = .ok (.aload_n 1, 1) := by decide +kernel
theorem dX9_writeFrom_138 : decode cX9_writeFrom 138 = .ok (.aload_n 2, 1) := by decide +kernel
theorem dX9_writeFrom_139 : decode cX9_writeFrom 139 = .ok (.iload 6, 2) := by decide +kernel
theorem dX9_writeFrom_141 : decode cX9_writeFrom 141 = .ok (.iload_n 3, 1) := by decide +kernel
theorem dX9_writeFrom_142 : decode cX9_writeFrom 142 = .ok (.invokevirtual 83, 3) := by decide +kernel
theorem dX9_writeFrom_145 : decode cX9_writeFrom 145 = .ok (.sipush 200, 3) := by decide +kernel
theorem dX9_writeFrom_148 : decode cX9_writeFrom 148 = .ok (.iload 6, 2) := by decide +kernel
theorem dX9_writeFrom_150 : decode cX9_writeFrom 150 = .ok (.iadd, 1) := by decide +kernel
theorem dX9_writeFrom_151 : decode cX9_writeFrom 151 = .ok (.aload_n 1, 1) := by decide +kernel
theorem dX9_writeFrom_152 : decode cX9_writeFrom 152 = .ok (.getfield 87, 3) := by decide +kernel
theorem dX9_writeFrom_155 : decode cX9_writeFrom 155 = .ok (.getfield 91, 3) := by decide +kernel
theorem dX9_writeFrom_158 : decode cX9_writeFrom 158 = .ok (.iload 6, 2) := by decide +kernel
theorem dX9_writeFrom_160 : decode cX9_writeFrom 160 = .ok (.iaload, 1) := by decide +kernel
theorem dX9_writeFrom_161 : decode cX9_writeFrom 161 = .ok (.invokevirtual 69, 3) := by decide +kernel
theorem dX9_writeFrom_164 : decode cX9_writeFrom 164 = .ok (.iinc 6 1, 3) := by decide +kernel
theorem dX9_writeFrom_167 : decode cX9_writeFrom 167 = .ok (.goto (-52), 3) := by decide +kernel
theorem dX9_writeFrom_170 : decode cX9_writeFrom 170 = .ok (.return_, 1) := by decide +kernel
abbrev mX9_writeFrom : MI := (RX9, yX9_writeFrom, cX9_writeFrom, 7, none)
theorem mok_X9_writeFrom : MOKv mX9_writeFrom 3 := ⟨⟨bm_721, bm_124, ⟨by decide, by decide⟩, by decide +kernel⟩, bm_720, bm_7⟩
def f_X9_writeFrom_164  (k115 : Int32 → MH → Option (MH)) (a0 : Nat) (a1 : Nat) (a2 : Nat) (x3 : Int32) (x5 : Int32) (x6 : Int32) (h : MH) : Option (MH) :=
  k115 (x6 + 1) h
def f_X9_writeFrom_115b   (a0 : Nat) (a1 : Nat) (a2 : Nat) (x3 : Int32) (x5 : Int32) (k115 : Int32 → MH → Option (MH)) (p : Int32) (h : MH) : Option (MH) :=
  if p < 6 then
    (gR h a1 6).bind fun a_1 =>
    (ldI h a_1 p).bind fun x_2 =>
    if x_2 = x5 then
      (f_X9_bindingReach a0 a1 a2 p x3 h).bind fun q_3 =>
      (gR q_3.2 a1 7).bind fun a_4 =>
      (gR q_3.2 a_4 1).bind fun a_5 =>
      (ldI q_3.2 a_5 p).bind fun x_6 =>
      (f_X9_offer a0 x3 q_3.1 (200 + p) x_6 q_3.2).bind fun q_7 =>
      f_X9_writeFrom_164 k115 a0 a1 a2 x3 x5 p q_7
    else
      f_X9_writeFrom_164 k115 a0 a1 a2 x3 x5 p h
  else
    some h
def f_X9_writeFrom_115   (a0 : Nat) (a1 : Nat) (a2 : Nat) (x3 : Int32) (x5 : Int32) : Nat → Int32 → MH → Option (MH) := lp (f_X9_writeFrom_115b a0 a1 a2 x3 x5)
def f_X9_writeFrom_100   (a0 : Nat) (a1 : Nat) (a2 : Nat) (x3 : Int32) (h : MH) : Option (MH) :=
  (gR h a0 0).bind fun a_1 =>
  (ldI h a_1 x3).bind fun x_2 =>
  (f_X2_fromOf a1 x_2 h).bind fun q_3 =>
  f_X9_writeFrom_115 a0 a1 a2 x3 q_3.1 FU 0 q_3.2
def f_X9_writeFrom_35b   (a0 : Nat) (a1 : Nat) (a2 : Nat) (x3 : Int32) (x4 : Int32) (k35 : Int32 → MH → Option (MH)) (p : Int32) (h : MH) : Option (MH) :=
  if x4 < p then
    (gR h a0 0).bind fun a_1 =>
    (ldI h a_1 x3).bind fun x_2 =>
    (f_X2_isUp a1 x_2 h).bind fun q_3 =>
    if q_3.1 = 0 then
      f_X9_writeFrom_100 a0 a1 a2 x3 q_3.2
    else
      (gR q_3.2 a0 0).bind fun a_4 =>
      (ldI q_3.2 a_4 x3).bind fun x_5 =>
      (f_X9_offer a0 x3 1 (100 + x_5) 1 q_3.2).bind fun q_6 =>
      f_X9_writeFrom_100 a0 a1 a2 x3 q_6
  else
    (gR h a0 0).bind fun a_7 =>
    (ldI h a_7 ((x3 + p) - 1)).bind fun x_8 =>
    (f_X2_toOf a1 x_8 h).bind fun q_9 =>
    (f_X9_offer a0 x3 p q_9.1 1 q_9.2).bind fun q_10 =>
    k35 (p + 1) q_10
def f_X9_writeFrom_35   (a0 : Nat) (a1 : Nat) (a2 : Nat) (x3 : Int32) (x4 : Int32) : Nat → Int32 → MH → Option (MH) := lp (f_X9_writeFrom_35b a0 a1 a2 x3 x4)
def f_X9_writeFrom   (a0 : Nat) (a1 : Nat) (a2 : Nat) (x3 : Int32) (h : MH) : Option (MH) :=
  (gR h a0 3).bind fun a_1 =>
  (stI h a_1 x3 1000).bind fun h_2 =>
  (gR h_2 a0 4).bind fun a_3 =>
  (stI h_2 a_3 x3 (-1 : Int32)).bind fun h_4 =>
  (gR h_4 a0 5).bind fun a_5 =>
  (stI h_4 a_5 x3 0).bind fun h_6 =>
  (f_X9_nodeReach a0 a1 a2 x3 h_6).bind fun q_7 =>
  f_X9_writeFrom_35 a0 a1 a2 x3 q_7.1 FU 1 q_7.2
set_option maxRecDepth 100000 in
set_option maxHeartbeats 4000000 in
theorem v_X9_writeFrom_164 {l : Launch} {G : GE} {B N : Nat} {S : List SHP} {o : MH} {a0 : Nat} {a1 : Nat} {a2 : Nat} {x3 : Int32} {x5 : Int32} {x6 : Int32}  {k115 : Int32 → MH → Option (MH)} (hk115 : ∀ (p : Int32) (h : MH), k115 p h = some o → V l G B N mX9_writeFrom (rmm 6 0 0) false 0 0 (QV S o) S 0 0 115 [(0, .ref a0), (1, .ref a1), (2, .ref a2), (3, .int x3), (5, .int x5), (6, .int p)] [] h) (hs0 : S[a0]? = some (.inl 9)) (hs1 : S[a1]? = some (.inl 2)) (hs2 : S[a2]? = some (.inl 4)) {h : MH} (hf : f_X9_writeFrom_164 k115 a0 a1 a2 x3 x5 x6 h = some o) : V l G B N mX9_writeFrom (rmm 6 0 0) false 0 0 (QV S o) S 0 0 164 [(0, .ref a0), (1, .ref a1), (2, .ref a2), (3, .int x3), (5, .int x5), (6, .int x6)] [] h := by
  unfold f_X9_writeFrom_164 at hf
  refine V_iinc (v := (x6 + 1)) (lv' := [(6, .int (x6 + 1)), (0, .ref a0), (1, .ref a1), (2, .ref a2), (3, .int x3), (5, .int x5)]) (pc' := 167) dX9_writeFrom_164 rfl 5 rfl rfl (Nat.le_of_ble_eq_true rfl) rfl ?_
  refine V_goto (tgt := 115) dX9_writeFrom_167 (by decide) ?_
  exact V_sub (lv' := [(0, .ref a0), (1, .ref a1), (2, .ref a2), (3, .int x3), (5, .int x5), (6, .int (x6 + 1))]) [1, 2, 3, 4, 5, 0] rfl (hk115 (x6 + 1) h hf)
set_option maxRecDepth 100000 in
set_option maxHeartbeats 4000000 in
theorem v_X9_writeFrom_115b {l : Launch} {G : GE} {B N : Nat} {S : List SHP} {o : MH} {a0 : Nat} {a1 : Nat} {a2 : Nat} {x3 : Int32} {x5 : Int32}    (hs0 : S[a0]? = some (.inl 9)) (hs1 : S[a1]? = some (.inl 2)) (hs2 : S[a2]? = some (.inl 4)) {k115 : Int32 → MH → Option (MH)} (hk115 : ∀ (p : Int32) (h : MH), k115 p h = some o → V l G B N mX9_writeFrom (rmm 6 0 0) false 0 0 (QV S o) S 0 0 115 [(0, .ref a0), (1, .ref a1), (2, .ref a2), (3, .int x3), (5, .int x5), (6, .int p)] [] h) {p : Int32} {h : MH} (hf : f_X9_writeFrom_115b a0 a1 a2 x3 x5 k115 p h = some o) : V l G B N mX9_writeFrom (rmm 6 0 0) false 0 0 (QV S o) S 0 0 115 [(0, .ref a0), (1, .ref a1), (2, .ref a2), (3, .int x3), (5, .int x5), (6, .int p)] [] h := by
  unfold f_X9_writeFrom_115b at hf
  refine V_iload (pc' := 117) dX9_writeFrom_115 rfl 5 rfl ?_
  refine V_bipush (v := 6) (pc' := 119) dX9_writeFrom_117 rfl (by decide) ?_
  refine V_icmp_ge (tgt := 170) (pc' := 122) dX9_writeFrom_119 (by decide) rfl hf (fun hf => ?_) (fun hf => ?_)
  ·
    refine V_aload_n (pc' := 123) dX9_writeFrom_122 rfl 1 rfl rfl ?_
    refine V_getR (pc' := 126) 2 6 dX9_writeFrom_123 rfl (by decide) (Nat.le_of_ble_eq_true rfl) bm_211 hs1 (fun _ _ _ => rfl) rfl hf (fun a_1 ha_1 hf => ?_)
    refine V_iload (pc' := 128) dX9_writeFrom_126 rfl 5 rfl ?_
    refine V_iald (pc' := 129) dX9_writeFrom_128 rfl ha_1 hf (fun x_2 hf => ?_)
    refine V_iload (pc' := 131) dX9_writeFrom_129 rfl 4 rfl ?_
    refine V_icmp_ne (tgt := 164) (pc' := 134) dX9_writeFrom_131 (by decide) rfl hf (fun hf => ?_) (fun hf => ?_)
    ·
      refine V_aload_n (pc' := 135) dX9_writeFrom_134 rfl 0 rfl rfl ?_
      refine V_iload_n (pc' := 136) dX9_writeFrom_135 rfl 3 rfl rfl ?_
      refine V_aload_n (pc' := 137) dX9_writeFrom_136 rfl 0 rfl rfl ?_
      refine V_aload_n (pc' := 138) dX9_writeFrom_137 rfl 1 rfl rfl ?_
      refine V_aload_n (pc' := 139) dX9_writeFrom_138 rfl 2 rfl rfl ?_
      refine V_iload (pc' := 141) dX9_writeFrom_139 rfl 5 rfl ?_
      refine V_iload_n (pc' := 142) dX9_writeFrom_141 rfl 3 rfl rfl ?_
      refine V_cvI (pc' := 145) (As := [.ref a1, .ref a2, .int p, .int x3]) (rest := [.int x3, .ref a0]) dX9_writeFrom_142 rfl mok_X9_bindingReach bm_748 9 (by decide) rfl hs0 rfl rfl (Nat.le_of_ble_eq_true rfl) (by decide) hf (fun q e => ct_X9_bindingReach hs0 hs1 hs2 e) (fun q_3 hf => ?_)
      refine V_sipush (v := 200) (pc' := 148) dX9_writeFrom_145 rfl (by decide) ?_
      refine V_iload (pc' := 150) dX9_writeFrom_148 rfl 5 rfl ?_
      refine V_iadd (pc' := 151) dX9_writeFrom_150 rfl ?_
      refine V_aload_n (pc' := 152) dX9_writeFrom_151 rfl 1 rfl rfl ?_
      refine V_getR (pc' := 155) 2 7 dX9_writeFrom_152 rfl (by decide) (Nat.le_of_ble_eq_true rfl) bm_216 hs1 (fun _ _ _ => rfl) rfl hf (fun a_4 ha_4 hf => ?_)
      refine V_getR (pc' := 158) 6 1 dX9_writeFrom_155 rfl (by decide) (Nat.le_of_ble_eq_true rfl) bm_172 ha_4 (fun _ _ _ => rfl) rfl hf (fun a_5 ha_5 hf => ?_)
      refine V_iload (pc' := 160) dX9_writeFrom_158 rfl 5 rfl ?_
      refine V_iald (pc' := 161) dX9_writeFrom_160 rfl ha_5 hf (fun x_6 hf => ?_)
      refine V_cvV (pc' := 164) (As := [.int x3, .int q_3.1, .int (200 + p), .int x_6]) (rest := []) dX9_writeFrom_161 rfl mok_X9_offer bm_744 9 (by decide) rfl hs0 rfl rfl (Nat.le_of_ble_eq_true rfl) (by decide) hf (fun q e => ct_X9_offer hs0 e) (fun q_7 hf => ?_)
      exact V_sub (lv' := [(0, .ref a0), (1, .ref a1), (2, .ref a2), (3, .int x3), (5, .int x5), (6, .int p)]) [0, 1, 2, 3, 4, 5] rfl (v_X9_writeFrom_164 hk115 hs0 hs1 hs2 hf)
    ·
      exact V_sub (lv' := [(0, .ref a0), (1, .ref a1), (2, .ref a2), (3, .int x3), (5, .int x5), (6, .int p)]) [0, 1, 2, 3, 4, 5] rfl (v_X9_writeFrom_164 hk115 hs0 hs1 hs2 hf)
  ·
    obtain rfl := Option.some.inj hf
    exact V_vret dX9_writeFrom_170 rfl rfl rfl ⟨rfl, rfl, rfl⟩
theorem v_X9_writeFrom_115 {l : Launch} {G : GE} {B N : Nat} {S : List SHP} {o : MH} {a0 : Nat} {a1 : Nat} {a2 : Nat} {x3 : Int32} {x5 : Int32}    (hs0 : S[a0]? = some (.inl 9)) (hs1 : S[a1]? = some (.inl 2)) (hs2 : S[a2]? = some (.inl 4)) {n : Nat} {p : Int32} {h : MH} (hf : f_X9_writeFrom_115 a0 a1 a2 x3 x5 n p h = some o) : V l G B N mX9_writeFrom (rmm 6 0 0) false 0 0 (QV S o) S 0 0 115 [(0, .ref a0), (1, .ref a1), (2, .ref a2), (3, .int x3), (5, .int x5), (6, .int p)] [] h :=
  V_lp (VV := fun p h => V l G B N mX9_writeFrom (rmm 6 0 0) false 0 0 (QV S o) S 0 0 115 [(0, .ref a0), (1, .ref a1), (2, .ref a2), (3, .int x3), (5, .int x5), (6, .int p)] [] h) (fun _ hk _ _ hf => v_X9_writeFrom_115b hs0 hs1 hs2 hk hf) n p h hf
set_option maxRecDepth 100000 in
set_option maxHeartbeats 4000000 in
theorem v_X9_writeFrom_100 {l : Launch} {G : GE} {B N : Nat} {S : List SHP} {o : MH} {a0 : Nat} {a1 : Nat} {a2 : Nat} {x3 : Int32}    (hs0 : S[a0]? = some (.inl 9)) (hs1 : S[a1]? = some (.inl 2)) (hs2 : S[a2]? = some (.inl 4)) {h : MH} (hf : f_X9_writeFrom_100 a0 a1 a2 x3 h = some o) : V l G B N mX9_writeFrom (rmm 6 0 0) false 0 0 (QV S o) S 0 0 100 [(0, .ref a0), (1, .ref a1), (2, .ref a2), (3, .int x3)] [] h := by
  unfold f_X9_writeFrom_100 at hf
  refine V_aload_n (pc' := 101) dX9_writeFrom_100 rfl 1 rfl rfl ?_
  refine V_aload_n (pc' := 102) dX9_writeFrom_101 rfl 0 rfl rfl ?_
  refine V_getR (pc' := 105) 9 0 dX9_writeFrom_102 rfl (by decide) (Nat.le_of_ble_eq_true rfl) bm_362 hs0 (fun _ _ _ => rfl) rfl hf (fun a_1 ha_1 hf => ?_)
  refine V_iload_n (pc' := 106) dX9_writeFrom_105 rfl 3 rfl rfl ?_
  refine V_iald (pc' := 107) dX9_writeFrom_106 rfl ha_1 hf (fun x_2 hf => ?_)
  refine V_cvI (pc' := 110) (As := [.int x_2]) (rest := []) dX9_writeFrom_107 rfl mok_X2_fromOf bm_726 2 (by decide) rfl hs1 rfl rfl (Nat.le_of_ble_eq_true rfl) (by decide) hf (fun q e => ct_X2_fromOf hs1 e) (fun q_3 hf => ?_)
  refine V_istore (lv' := [(5, .int q_3.1), (0, .ref a0), (1, .ref a1), (2, .ref a2), (3, .int x3)]) (pc' := 112) dX9_writeFrom_110 rfl (Nat.le_of_ble_eq_true rfl) rfl ?_
  refine V_iconst (v := 0) (pc' := 113) dX9_writeFrom_112 rfl (by decide) ?_
  refine V_istore (lv' := [(6, .int 0), (5, .int q_3.1), (0, .ref a0), (1, .ref a1), (2, .ref a2), (3, .int x3)]) (pc' := 115) dX9_writeFrom_113 rfl (Nat.le_of_ble_eq_true rfl) rfl ?_
  exact V_sub (lv' := [(0, .ref a0), (1, .ref a1), (2, .ref a2), (3, .int x3), (5, .int q_3.1), (6, .int 0)]) [2, 3, 4, 5, 1, 0] rfl (v_X9_writeFrom_115 hs0 hs1 hs2 hf)
set_option maxRecDepth 100000 in
set_option maxHeartbeats 4000000 in
theorem v_X9_writeFrom_35b {l : Launch} {G : GE} {B N : Nat} {S : List SHP} {o : MH} {a0 : Nat} {a1 : Nat} {a2 : Nat} {x3 : Int32} {x4 : Int32}    (hs0 : S[a0]? = some (.inl 9)) (hs1 : S[a1]? = some (.inl 2)) (hs2 : S[a2]? = some (.inl 4)) {k35 : Int32 → MH → Option (MH)} (hk35 : ∀ (p : Int32) (h : MH), k35 p h = some o → V l G B N mX9_writeFrom (rmm 6 0 0) false 0 0 (QV S o) S 0 0 35 [(0, .ref a0), (1, .ref a1), (2, .ref a2), (3, .int x3), (4, .int x4), (5, .int p)] [] h) {p : Int32} {h : MH} (hf : f_X9_writeFrom_35b a0 a1 a2 x3 x4 k35 p h = some o) : V l G B N mX9_writeFrom (rmm 6 0 0) false 0 0 (QV S o) S 0 0 35 [(0, .ref a0), (1, .ref a1), (2, .ref a2), (3, .int x3), (4, .int x4), (5, .int p)] [] h := by
  unfold f_X9_writeFrom_35b at hf
  refine V_iload (pc' := 37) dX9_writeFrom_35 rfl 5 rfl ?_
  refine V_iload (pc' := 39) dX9_writeFrom_37 rfl 4 rfl ?_
  refine V_icmp_gt (tgt := 71) (pc' := 42) dX9_writeFrom_39 (by decide) rfl hf (fun hf => ?_) (fun hf => ?_)
  ·
    refine V_aload_n (pc' := 72) dX9_writeFrom_71 rfl 1 rfl rfl ?_
    refine V_aload_n (pc' := 73) dX9_writeFrom_72 rfl 0 rfl rfl ?_
    refine V_getR (pc' := 76) 9 0 dX9_writeFrom_73 rfl (by decide) (Nat.le_of_ble_eq_true rfl) bm_362 hs0 (fun _ _ _ => rfl) rfl hf (fun a_1 ha_1 hf => ?_)
    refine V_iload_n (pc' := 77) dX9_writeFrom_76 rfl 3 rfl rfl ?_
    refine V_iald (pc' := 78) dX9_writeFrom_77 rfl ha_1 hf (fun x_2 hf => ?_)
    refine V_cvI (pc' := 81) (As := [.int x_2]) (rest := []) dX9_writeFrom_78 rfl mok_X2_isUp bm_735 2 (by decide) rfl hs1 rfl rfl (Nat.le_of_ble_eq_true rfl) (by decide) hf (fun q e => ct_X2_isUp hs1 e) (fun q_3 hf => ?_)
    refine V_if_eq (tgt := 100) (pc' := 84) dX9_writeFrom_81 (by decide) rfl hf (fun hf => ?_) (fun hf => ?_)
    ·
      exact V_sub (lv' := [(0, .ref a0), (1, .ref a1), (2, .ref a2), (3, .int x3)]) [0, 1, 2, 3] rfl (v_X9_writeFrom_100 hs0 hs1 hs2 hf)
    ·
      refine V_aload_n (pc' := 85) dX9_writeFrom_84 rfl 0 rfl rfl ?_
      refine V_iload_n (pc' := 86) dX9_writeFrom_85 rfl 3 rfl rfl ?_
      refine V_iconst (v := 1) (pc' := 87) dX9_writeFrom_86 rfl (by decide) ?_
      refine V_bipush (v := 100) (pc' := 89) dX9_writeFrom_87 rfl (by decide) ?_
      refine V_aload_n (pc' := 90) dX9_writeFrom_89 rfl 0 rfl rfl ?_
      refine V_getR (pc' := 93) 9 0 dX9_writeFrom_90 rfl (by decide) (Nat.le_of_ble_eq_true rfl) bm_362 hs0 (fun _ _ _ => rfl) rfl hf (fun a_4 ha_4 hf => ?_)
      refine V_iload_n (pc' := 94) dX9_writeFrom_93 rfl 3 rfl rfl ?_
      refine V_iald (pc' := 95) dX9_writeFrom_94 rfl ha_4 hf (fun x_5 hf => ?_)
      refine V_iadd (pc' := 96) dX9_writeFrom_95 rfl ?_
      refine V_iconst (v := 1) (pc' := 97) dX9_writeFrom_96 rfl (by decide) ?_
      refine V_cvV (pc' := 100) (As := [.int x3, .int 1, .int (100 + x_5), .int 1]) (rest := []) dX9_writeFrom_97 rfl mok_X9_offer bm_744 9 (by decide) rfl hs0 rfl rfl (Nat.le_of_ble_eq_true rfl) (by decide) hf (fun q e => ct_X9_offer hs0 e) (fun q_6 hf => ?_)
      exact V_sub (lv' := [(0, .ref a0), (1, .ref a1), (2, .ref a2), (3, .int x3)]) [0, 1, 2, 3] rfl (v_X9_writeFrom_100 hs0 hs1 hs2 hf)
  ·
    refine V_aload_n (pc' := 43) dX9_writeFrom_42 rfl 0 rfl rfl ?_
    refine V_iload_n (pc' := 44) dX9_writeFrom_43 rfl 3 rfl rfl ?_
    refine V_iload (pc' := 46) dX9_writeFrom_44 rfl 5 rfl ?_
    refine V_aload_n (pc' := 47) dX9_writeFrom_46 rfl 1 rfl rfl ?_
    refine V_aload_n (pc' := 48) dX9_writeFrom_47 rfl 0 rfl rfl ?_
    refine V_getR (pc' := 51) 9 0 dX9_writeFrom_48 rfl (by decide) (Nat.le_of_ble_eq_true rfl) bm_362 hs0 (fun _ _ _ => rfl) rfl hf (fun a_7 ha_7 hf => ?_)
    refine V_iload_n (pc' := 52) dX9_writeFrom_51 rfl 3 rfl rfl ?_
    refine V_iload (pc' := 54) dX9_writeFrom_52 rfl 5 rfl ?_
    refine V_iadd (pc' := 55) dX9_writeFrom_54 rfl ?_
    refine V_iconst (v := 1) (pc' := 56) dX9_writeFrom_55 rfl (by decide) ?_
    refine V_isub (pc' := 57) dX9_writeFrom_56 rfl ?_
    refine V_iald (pc' := 58) dX9_writeFrom_57 rfl ha_7 hf (fun x_8 hf => ?_)
    refine V_cvI (pc' := 61) (As := [.int x_8]) (rest := [.int p, .int x3, .ref a0]) dX9_writeFrom_58 rfl mok_X2_toOf bm_730 2 (by decide) rfl hs1 rfl rfl (Nat.le_of_ble_eq_true rfl) (by decide) hf (fun q e => ct_X2_toOf hs1 e) (fun q_9 hf => ?_)
    refine V_iconst (v := 1) (pc' := 62) dX9_writeFrom_61 rfl (by decide) ?_
    refine V_cvV (pc' := 65) (As := [.int x3, .int p, .int q_9.1, .int 1]) (rest := []) dX9_writeFrom_62 rfl mok_X9_offer bm_744 9 (by decide) rfl hs0 rfl rfl (Nat.le_of_ble_eq_true rfl) (by decide) hf (fun q e => ct_X9_offer hs0 e) (fun q_10 hf => ?_)
    refine V_iinc (v := (p + 1)) (lv' := [(5, .int (p + 1)), (0, .ref a0), (1, .ref a1), (2, .ref a2), (3, .int x3), (4, .int x4)]) (pc' := 68) dX9_writeFrom_65 rfl 5 rfl rfl (Nat.le_of_ble_eq_true rfl) rfl ?_
    refine V_goto (tgt := 35) dX9_writeFrom_68 (by decide) ?_
    exact V_sub (lv' := [(0, .ref a0), (1, .ref a1), (2, .ref a2), (3, .int x3), (4, .int x4), (5, .int (p + 1))]) [1, 2, 3, 4, 5, 0] rfl (hk35 (p + 1) q_10 hf)
theorem v_X9_writeFrom_35 {l : Launch} {G : GE} {B N : Nat} {S : List SHP} {o : MH} {a0 : Nat} {a1 : Nat} {a2 : Nat} {x3 : Int32} {x4 : Int32}    (hs0 : S[a0]? = some (.inl 9)) (hs1 : S[a1]? = some (.inl 2)) (hs2 : S[a2]? = some (.inl 4)) {n : Nat} {p : Int32} {h : MH} (hf : f_X9_writeFrom_35 a0 a1 a2 x3 x4 n p h = some o) : V l G B N mX9_writeFrom (rmm 6 0 0) false 0 0 (QV S o) S 0 0 35 [(0, .ref a0), (1, .ref a1), (2, .ref a2), (3, .int x3), (4, .int x4), (5, .int p)] [] h :=
  V_lp (VV := fun p h => V l G B N mX9_writeFrom (rmm 6 0 0) false 0 0 (QV S o) S 0 0 35 [(0, .ref a0), (1, .ref a1), (2, .ref a2), (3, .int x3), (4, .int x4), (5, .int p)] [] h) (fun _ hk _ _ hf => v_X9_writeFrom_35b hs0 hs1 hs2 hk hf) n p h hf
set_option maxRecDepth 100000 in
set_option maxHeartbeats 4000000 in
theorem v_X9_writeFrom {l : Launch} {G : GE} {B N : Nat} {S : List SHP} {o : MH} {a0 : Nat} {a1 : Nat} {a2 : Nat} {x3 : Int32}    (hs0 : S[a0]? = some (.inl 9)) (hs1 : S[a1]? = some (.inl 2)) (hs2 : S[a2]? = some (.inl 4)) {h : MH} (hf : f_X9_writeFrom a0 a1 a2 x3 h = some o) : V l G B N mX9_writeFrom (rmm 6 0 0) false 0 0 (QV S o) S 0 0 0 [(0, .ref a0), (1, .ref a1), (2, .ref a2), (3, .int x3)] [] h := by
  unfold f_X9_writeFrom at hf
  refine V_aload_n (pc' := 1) dX9_writeFrom_0 rfl 0 rfl rfl ?_
  refine V_getR (pc' := 4) 9 3 dX9_writeFrom_1 rfl (by decide) (Nat.le_of_ble_eq_true rfl) bm_365 hs0 (fun _ _ _ => rfl) rfl hf (fun a_1 ha_1 hf => ?_)
  refine V_iload_n (pc' := 5) dX9_writeFrom_4 rfl 3 rfl rfl ?_
  refine V_sipush (v := 1000) (pc' := 8) dX9_writeFrom_5 rfl (by decide) ?_
  refine V_iast (pc' := 9) dX9_writeFrom_8 rfl ha_1 hf (fun h_2 hf => ?_)
  refine V_aload_n (pc' := 10) dX9_writeFrom_9 rfl 0 rfl rfl ?_
  refine V_getR (pc' := 13) 9 4 dX9_writeFrom_10 rfl (by decide) (Nat.le_of_ble_eq_true rfl) bm_367 hs0 (fun _ _ _ => rfl) rfl hf (fun a_3 ha_3 hf => ?_)
  refine V_iload_n (pc' := 14) dX9_writeFrom_13 rfl 3 rfl rfl ?_
  refine V_iconst (v := (-1)) (pc' := 15) dX9_writeFrom_14 rfl (by decide) ?_
  refine V_iast (pc' := 16) dX9_writeFrom_15 rfl ha_3 hf (fun h_4 hf => ?_)
  refine V_aload_n (pc' := 17) dX9_writeFrom_16 rfl 0 rfl rfl ?_
  refine V_getR (pc' := 20) 9 5 dX9_writeFrom_17 rfl (by decide) (Nat.le_of_ble_eq_true rfl) bm_368 hs0 (fun _ _ _ => rfl) rfl hf (fun a_5 ha_5 hf => ?_)
  refine V_iload_n (pc' := 21) dX9_writeFrom_20 rfl 3 rfl rfl ?_
  refine V_iconst (v := 0) (pc' := 22) dX9_writeFrom_21 rfl (by decide) ?_
  refine V_iast (pc' := 23) dX9_writeFrom_22 rfl ha_5 hf (fun h_6 hf => ?_)
  refine V_aload_n (pc' := 24) dX9_writeFrom_23 rfl 0 rfl rfl ?_
  refine V_aload_n (pc' := 25) dX9_writeFrom_24 rfl 1 rfl rfl ?_
  refine V_aload_n (pc' := 26) dX9_writeFrom_25 rfl 2 rfl rfl ?_
  refine V_iload_n (pc' := 27) dX9_writeFrom_26 rfl 3 rfl rfl ?_
  refine V_cvI (pc' := 30) (As := [.ref a1, .ref a2, .int x3]) (rest := []) dX9_writeFrom_27 rfl mok_X9_nodeReach bm_722 9 (by decide) rfl hs0 rfl rfl (Nat.le_of_ble_eq_true rfl) (by decide) hf (fun q e => ct_X9_nodeReach hs0 hs1 hs2 e) (fun q_7 hf => ?_)
  refine V_istore (lv' := [(4, .int q_7.1), (0, .ref a0), (1, .ref a1), (2, .ref a2), (3, .int x3)]) (pc' := 32) dX9_writeFrom_30 rfl (Nat.le_of_ble_eq_true rfl) rfl ?_
  refine V_iconst (v := 1) (pc' := 33) dX9_writeFrom_32 rfl (by decide) ?_
  refine V_istore (lv' := [(5, .int 1), (4, .int q_7.1), (0, .ref a0), (1, .ref a1), (2, .ref a2), (3, .int x3)]) (pc' := 35) dX9_writeFrom_33 rfl (Nat.le_of_ble_eq_true rfl) rfl ?_
  exact V_sub (lv' := [(0, .ref a0), (1, .ref a1), (2, .ref a2), (3, .int x3), (4, .int q_7.1), (5, .int 1)]) [2, 3, 4, 5, 1, 0] rfl (v_X9_writeFrom_35 hs0 hs1 hs2 hf)
theorem ct_X9_writeFrom {l : Launch} {S : List SHP} {h : MH} {a0 : Nat} {a1 : Nat} {a2 : Nat} {x3 : Int32} (hs0 : S[a0]? = some (.inl 9)) (hs1 : S[a1]? = some (.inl 2)) (hs2 : S[a2]? = some (.inl 4)) {q : MH} (hf : f_X9_writeFrom a0 a1 a2 x3 h = some q) : CT l mX9_writeFrom 6 false 0 0 S [.ref a0, .ref a1, .ref a2, .int x3] h (QV S q) :=
  CT_ofV (by decide) rfl (Nat.le_of_ble_eq_true rfl) (fun G B hT => v_X9_writeFrom hs0 hs1 hs2 hf)
/-! LabelStacks$Writer.plan(LLabelStacks$Network;LLabelStacks$Routes;LLabelStacks$Row;I)Z -/
theorem dX9_plan_0 : decode cX9_plan 0 = .ok (.aload_n 0, 1) := by decide +kernel
theorem dX9_plan_1 : decode cX9_plan 1 = .ok (.aload_n 3, 1) := by decide +kernel
theorem dX9_plan_2 : decode cX9_plan 2 = .ok (.invokevirtual 48, 3) := by decide +kernel
theorem dX9_plan_5 : decode cX9_plan 5 = .ok (.aload_n 0, 1) := by decide +kernel
theorem dX9_plan_6 : decode cX9_plan 6 = .ok (.iload 4, 2) := by decide +kernel
theorem dX9_plan_8 : decode cX9_plan 8 = .ok (.putfield 52, 3) := by decide +kernel
theorem dX9_plan_11 : decode cX9_plan 11 = .ok (.aload_n 0, 1) := by decide +kernel
theorem dX9_plan_12 : decode cX9_plan 12 = .ok (.getfield 36, 3) := by decide +kernel
theorem dX9_plan_15 : decode cX9_plan 15 = .ok (.iconst 1, 1) := by decide +kernel
theorem dX9_plan_16 : decode cX9_plan 16 = .ok (.isub, 1) := by decide +kernel
theorem dX9_plan_17 : decode cX9_plan 17 = .ok (.istore 5, 2) := by decide +kernel
theorem dX9_plan_19 : decode cX9_plan 19 = .ok (.iload 5, 2) := by decide +kernel
theorem dX9_plan_21 : decode cX9_plan 21 = .ok (.ifCond .lt 17, 3) := by decide +kernel
theorem dX9_plan_24 : decode cX9_plan 24 = .ok (.aload_n 0, 1) := by decide +kernel
theorem dX9_plan_25 : decode cX9_plan 25 = .ok (.aload_n 1, 1) := by decide +kernel
theorem dX9_plan_26 : decode cX9_plan 26 = .ok (.aload_n 2, 1) := by decide +kernel
theorem dX9_plan_27 : decode cX9_plan 27 = .ok (.iload 5, 2) := by decide +kernel
theorem dX9_plan_29 : decode cX9_plan 29 = .ok (.invokevirtual 55, 3) := by decide +kernel
theorem dX9_plan_32 : decode cX9_plan 32 = .ok (.iinc 5 (-1), 3) := by decide +kernel
theorem dX9_plan_35 : decode cX9_plan 35 = .ok (.goto (-16), 3) := by decide +kernel
theorem dX9_plan_38 : decode cX9_plan 38 = .ok (.aload_n 0, 1) := by decide +kernel
theorem dX9_plan_39 : decode cX9_plan 39 = .ok (.getfield 15, 3) := by decide +kernel
theorem dX9_plan_42 : decode cX9_plan 42 = .ok (.iconst 0, 1) := by decide +kernel
theorem dX9_plan_43 : decode cX9_plan 43 = .ok (.iaload, 1) := by decide +kernel
theorem dX9_plan_44 : decode cX9_plan 44 = .ok (.sipush 1000, 3) := by decide +kernel
theorem dX9_plan_47 : decode cX9_plan 47 = .ok (.if_icmp .ge 7, 3) := by decide +kernel
theorem dX9_plan_50 : decode cX9_plan 50 = .ok (.iconst 1, 1) := by decide +kernel
theorem dX9_plan_51 : decode cX9_plan 51 = .ok (.goto 4, 3) := by decide +kernel
theorem dX9_plan_54 : decode cX9_plan 54 = .ok (.iconst 0, 1) := by decide +kernel
theorem dX9_plan_55 : decode cX9_plan 55 = .ok (.ireturn, 1) := by decide +kernel
abbrev mX9_plan : MI := (RX9, yX9_plan, cX9_plan, 6, (some .boolean))
theorem mok_X9_plan : MOKv mX9_plan 4 := ⟨⟨bm_711, bm_124, ⟨by decide, by decide⟩, by decide +kernel⟩, bm_709, bm_710⟩
def f_X9_plan_19b   (a0 : Nat) (a1 : Nat) (a2 : Nat) (k19 : Int32 → MH → Option (Int32 × MH)) (p : Int32) (h : MH) : Option (Int32 × MH) :=
  if p < 0 then
    (gR h a0 3).bind fun a_1 =>
    (ldI h a_1 0).bind fun x_2 =>
    if x_2 < 1000 then
      some (1, h)
    else
      some (0, h)
  else
    (f_X9_writeFrom a0 a1 a2 p h).bind fun q_3 =>
    k19 (p + (-1)) q_3
def f_X9_plan_19   (a0 : Nat) (a1 : Nat) (a2 : Nat) : Nat → Int32 → MH → Option (Int32 × MH) := lp (f_X9_plan_19b a0 a1 a2)
def f_X9_plan   (a0 : Nat) (a1 : Nat) (a2 : Nat) (a3 : Nat) (x4 : Int32) (h : MH) : Option (Int32 × MH) :=
  (f_X9_hold a0 a3 h).bind fun q_1 =>
  lt (sI q_1 a0 2 x4) fun h_2 =>
  lt ((gI h_2 a0 1) - 1) fun x_3 =>
  f_X9_plan_19 a0 a1 a2 FU x_3 h_2
set_option maxRecDepth 100000 in
set_option maxHeartbeats 4000000 in
theorem v_X9_plan_19b {l : Launch} {G : GE} {B N : Nat} {S : List SHP} {o : Int32 × MH} {a0 : Nat} {a1 : Nat} {a2 : Nat}    (hs0 : S[a0]? = some (.inl 9)) (hs1 : S[a1]? = some (.inl 2)) (hs2 : S[a2]? = some (.inl 4)) {k19 : Int32 → MH → Option (Int32 × MH)} (hk19 : ∀ (p : Int32) (h : MH), k19 p h = some o → V l G B N mX9_plan (rmm 7 0 0) false 0 0 (QI S o) S 0 0 19 [(0, .ref a0), (1, .ref a1), (2, .ref a2), (5, .int p)] [] h) {p : Int32} {h : MH} (hf : f_X9_plan_19b a0 a1 a2 k19 p h = some o) : V l G B N mX9_plan (rmm 7 0 0) false 0 0 (QI S o) S 0 0 19 [(0, .ref a0), (1, .ref a1), (2, .ref a2), (5, .int p)] [] h := by
  unfold f_X9_plan_19b at hf
  refine V_iload (pc' := 21) dX9_plan_19 rfl 3 rfl ?_
  refine V_if_lt (tgt := 38) (pc' := 24) dX9_plan_21 (by decide) rfl hf (fun hf => ?_) (fun hf => ?_)
  ·
    refine V_aload_n (pc' := 39) dX9_plan_38 rfl 0 rfl rfl ?_
    refine V_getR (pc' := 42) 9 3 dX9_plan_39 rfl (by decide) (Nat.le_of_ble_eq_true rfl) bm_365 hs0 (fun _ _ _ => rfl) rfl hf (fun a_1 ha_1 hf => ?_)
    refine V_iconst (v := 0) (pc' := 43) dX9_plan_42 rfl (by decide) ?_
    refine V_iald (pc' := 44) dX9_plan_43 rfl ha_1 hf (fun x_2 hf => ?_)
    refine V_sipush (v := 1000) (pc' := 47) dX9_plan_44 rfl (by decide) ?_
    refine V_icmp_ge (tgt := 54) (pc' := 50) dX9_plan_47 (by decide) rfl hf (fun hf => ?_) (fun hf => ?_)
    ·
      refine V_iconst (v := 1) (pc' := 51) dX9_plan_50 rfl (by decide) ?_
      refine V_goto (tgt := 55) dX9_plan_51 (by decide) ?_
      obtain rfl := Option.some.inj hf
      exact V_zretL dX9_plan_55 rfl rfl rfl (by decide) ⟨rfl, rfl, rfl⟩
    ·
      refine V_iconst (v := 0) (pc' := 55) dX9_plan_54 rfl (by decide) ?_
      obtain rfl := Option.some.inj hf
      exact V_zretL dX9_plan_55 rfl rfl rfl (by decide) ⟨rfl, rfl, rfl⟩
  ·
    refine V_aload_n (pc' := 25) dX9_plan_24 rfl 0 rfl rfl ?_
    refine V_aload_n (pc' := 26) dX9_plan_25 rfl 1 rfl rfl ?_
    refine V_aload_n (pc' := 27) dX9_plan_26 rfl 2 rfl rfl ?_
    refine V_iload (pc' := 29) dX9_plan_27 rfl 3 rfl ?_
    refine V_cvV (pc' := 32) (As := [.ref a1, .ref a2, .int p]) (rest := []) dX9_plan_29 rfl mok_X9_writeFrom bm_718 9 (by decide) rfl hs0 rfl rfl (Nat.le_of_ble_eq_true rfl) (by decide) hf (fun q e => ct_X9_writeFrom hs0 hs1 hs2 e) (fun q_3 hf => ?_)
    refine V_iinc (v := (p + (-1))) (lv' := [(5, .int (p + (-1))), (0, .ref a0), (1, .ref a1), (2, .ref a2)]) (pc' := 35) dX9_plan_32 rfl 3 rfl rfl (Nat.le_of_ble_eq_true rfl) rfl ?_
    refine V_goto (tgt := 19) dX9_plan_35 (by decide) ?_
    exact V_sub (lv' := [(0, .ref a0), (1, .ref a1), (2, .ref a2), (5, .int (p + (-1)))]) [1, 2, 3, 0] rfl (hk19 (p + (-1)) q_3 hf)
theorem v_X9_plan_19 {l : Launch} {G : GE} {B N : Nat} {S : List SHP} {o : Int32 × MH} {a0 : Nat} {a1 : Nat} {a2 : Nat}    (hs0 : S[a0]? = some (.inl 9)) (hs1 : S[a1]? = some (.inl 2)) (hs2 : S[a2]? = some (.inl 4)) {n : Nat} {p : Int32} {h : MH} (hf : f_X9_plan_19 a0 a1 a2 n p h = some o) : V l G B N mX9_plan (rmm 7 0 0) false 0 0 (QI S o) S 0 0 19 [(0, .ref a0), (1, .ref a1), (2, .ref a2), (5, .int p)] [] h :=
  V_lp (VV := fun p h => V l G B N mX9_plan (rmm 7 0 0) false 0 0 (QI S o) S 0 0 19 [(0, .ref a0), (1, .ref a1), (2, .ref a2), (5, .int p)] [] h) (fun _ hk _ _ hf => v_X9_plan_19b hs0 hs1 hs2 hk hf) n p h hf
set_option maxRecDepth 100000 in
set_option maxHeartbeats 4000000 in
theorem v_X9_plan {l : Launch} {G : GE} {B N : Nat} {S : List SHP} {o : Int32 × MH} {a0 : Nat} {a1 : Nat} {a2 : Nat} {a3 : Nat} {x4 : Int32}    (hs0 : S[a0]? = some (.inl 9)) (hs1 : S[a1]? = some (.inl 2)) (hs2 : S[a2]? = some (.inl 4)) (hs3 : S[a3]? = some (.inl 5)) {h : MH} (hf : f_X9_plan a0 a1 a2 a3 x4 h = some o) : V l G B N mX9_plan (rmm 7 0 0) false 0 0 (QI S o) S 0 0 0 [(0, .ref a0), (1, .ref a1), (2, .ref a2), (3, .ref a3), (4, .int x4)] [] h := by
  unfold f_X9_plan at hf
  refine V_aload_n (pc' := 1) dX9_plan_0 rfl 0 rfl rfl ?_
  refine V_aload_n (pc' := 2) dX9_plan_1 rfl 3 rfl rfl ?_
  refine V_cvV (pc' := 5) (As := [.ref a3]) (rest := []) dX9_plan_2 rfl mok_X9_hold bm_712 9 (by decide) rfl hs0 rfl rfl (Nat.le_of_ble_eq_true rfl) (by decide) hf (fun q e => ct_X9_hold hs0 hs3 e) (fun q_1 hf => ?_)
  refine V_aload_n (pc' := 6) dX9_plan_5 rfl 0 rfl rfl ?_
  refine V_iload (pc' := 8) dX9_plan_6 rfl 4 rfl ?_
  refine V_putI (pc' := 11) 9 2 dX9_plan_8 rfl (by decide) (Nat.le_of_ble_eq_true rfl) bm_364 hs0 (Or.inl rfl) rfl ?_
  refine V_nmH hf (fun h_2 hf => ?_)
  refine V_aload_n (pc' := 12) dX9_plan_11 rfl 0 rfl rfl ?_
  refine V_getI (pc' := 15) 9 1 dX9_plan_12 rfl (by decide) (Nat.le_of_ble_eq_true rfl) bm_363 hs0 (fun _ _ _ => rfl) ?_
  refine V_iconst (v := 1) (pc' := 16) dX9_plan_15 rfl (by decide) ?_
  refine V_isub (pc' := 17) dX9_plan_16 rfl ?_
  refine V_nmI hf (fun x_3 hf => ?_)
  refine V_istore (lv' := [(5, .int x_3), (0, .ref a0), (1, .ref a1), (2, .ref a2), (3, .ref a3), (4, .int x4)]) (pc' := 19) dX9_plan_17 rfl (Nat.le_of_ble_eq_true rfl) rfl ?_
  exact V_sub (lv' := [(0, .ref a0), (1, .ref a1), (2, .ref a2), (5, .int x_3)]) [1, 2, 3, 0] rfl (v_X9_plan_19 hs0 hs1 hs2 hf)
theorem ct_X9_plan {l : Launch} {S : List SHP} {h : MH} {a0 : Nat} {a1 : Nat} {a2 : Nat} {a3 : Nat} {x4 : Int32} (hs0 : S[a0]? = some (.inl 9)) (hs1 : S[a1]? = some (.inl 2)) (hs2 : S[a2]? = some (.inl 4)) (hs3 : S[a3]? = some (.inl 5)) {q : Int32 × MH} (hf : f_X9_plan a0 a1 a2 a3 x4 h = some q) : CT l mX9_plan 7 false 0 0 S [.ref a0, .ref a1, .ref a2, .ref a3, .int x4] h (QI S q) :=
  CT_ofV (by decide) rfl (Nat.le_of_ble_eq_true rfl) (fun G B hT => v_X9_plan hs0 hs1 hs2 hs3 hf)
/-! LabelStacks$Writer.stackInto(LLabelStacks$Row;)V -/
theorem dX9_stackInto_0 : decode cX9_stackInto 0 = .ok (.aload_n 1, 1) := by decide +kernel
theorem dX9_stackInto_1 : decode cX9_stackInto 1 = .ok (.iconst 0, 1) := by decide +kernel
theorem dX9_stackInto_2 : decode cX9_stackInto 2 = .ok (.putfield 24, 3) := by decide +kernel
theorem dX9_stackInto_5 : decode cX9_stackInto 5 = .ok (.iconst 0, 1) := by decide +kernel
theorem dX9_stackInto_6 : decode cX9_stackInto 6 = .ok (.istore_n 2, 1) := by decide +kernel
theorem dX9_stackInto_7 : decode cX9_stackInto 7 = .ok (.iload_n 2, 1) := by decide +kernel
theorem dX9_stackInto_8 : decode cX9_stackInto 8 = .ok (.aload_n 0, 1) := by decide +kernel
theorem dX9_stackInto_9 : decode cX9_stackInto 9 = .ok (.getfield 36, 3) := by decide +kernel
theorem dX9_stackInto_12 : decode cX9_stackInto 12 = .ok (.if_icmp .ge 29, 3) := by decide +kernel
theorem dX9_stackInto_15 : decode cX9_stackInto 15 = .ok (.aload_n 1, 1) := by decide +kernel
theorem dX9_stackInto_16 : decode cX9_stackInto 16 = .ok (.aload_n 0, 1) := by decide +kernel
theorem dX9_stackInto_17 : decode cX9_stackInto 17 = .ok (.getfield 18, 3) := by decide +kernel
theorem dX9_stackInto_20 : decode cX9_stackInto 20 = .ok (.iload_n 2, 1) := by decide +kernel
theorem dX9_stackInto_21 : decode cX9_stackInto 21 = .ok (.iaload, 1) := by decide +kernel
theorem dX9_stackInto_22 : decode cX9_stackInto 22 = .ok (.invokevirtual 117, 3) := by decide +kernel
theorem dX9_stackInto_25 : decode cX9_stackInto 25 = .ok (.iload_n 2, 1) := by decide +kernel
theorem dX9_stackInto_26 : decode cX9_stackInto 26 = .ok (.iconst 1, 1) := by decide +kernel
theorem dX9_stackInto_27 : decode cX9_stackInto 27 = .ok (.aload_n 0, 1) := by decide +kernel
theorem dX9_stackInto_28 : decode cX9_stackInto 28 = .ok (.getfield 21, 3) := by decide +kernel
theorem dX9_stackInto_31 : decode cX9_stackInto 31 = .ok (.iload_n 2, 1) := by decide +kernel
theorem dX9_stackInto_32 : decode cX9_stackInto 32 = .ok (.iaload, 1) := by decide +kernel
theorem dX9_stackInto_33 : decode cX9_stackInto 33 = .ok (.invokestatic 121, 3) := by decide +kernel
theorem dX9_stackInto_36 : decode cX9_stackInto 36 = .ok (.iadd, 1) := by decide +kernel
theorem dX9_stackInto_37 : decode cX9_stackInto 37 = .ok (.istore_n 2, 1) := by decide +kernel
theorem dX9_stackInto_38 : decode cX9_stackInto 38 = .ok (.goto (-31), 3) := by decide +kernel
theorem dX9_stackInto_41 : decode cX9_stackInto 41 = .ok (.return_, 1) := by decide +kernel
abbrev mX9_stackInto : MI := (RX9, yX9_stackInto, cX9_stackInto, 3, none)
theorem mok_X9_stackInto : MOKv mX9_stackInto 1 := ⟨⟨bm_768, bm_124, ⟨by decide, by decide⟩, by decide +kernel⟩, bm_766, bm_767⟩
def f_X9_stackInto_7b   (a0 : Nat) (a1 : Nat) (k7 : Int32 → MH → Option (MH)) (p : Int32) (h : MH) : Option (MH) :=
  if p < (gI h a0 1) then
    (gR h a0 4).bind fun a_1 =>
    (ldI h a_1 p).bind fun x_2 =>
    (f_X5_add a1 x_2 h).bind fun q_3 =>
    (gR q_3 a0 5).bind fun a_4 =>
    (ldI q_3 a_4 p).bind fun x_5 =>
    lt ((if 1 < x_5 then x_5 else 1) : Int32) fun x_6 =>
    lt (p + x_6) fun x_7 =>
    k7 x_7 q_3
  else
    some h
def f_X9_stackInto_7   (a0 : Nat) (a1 : Nat) : Nat → Int32 → MH → Option (MH) := lp (f_X9_stackInto_7b a0 a1)
def f_X9_stackInto   (a0 : Nat) (a1 : Nat) (h : MH) : Option (MH) :=
  lt (sI h a1 1 0) fun h_1 =>
  f_X9_stackInto_7 a0 a1 FU 0 h_1
set_option maxRecDepth 100000 in
set_option maxHeartbeats 4000000 in
theorem v_X9_stackInto_7b {l : Launch} {G : GE} {B N : Nat} {S : List SHP} {o : MH} {a0 : Nat} {a1 : Nat}    (hs0 : S[a0]? = some (.inl 9)) (hs1 : S[a1]? = some (.inl 5)) {k7 : Int32 → MH → Option (MH)} (hk7 : ∀ (p : Int32) (h : MH), k7 p h = some o → V l G B N mX9_stackInto (rmm 4 0 0) false 0 0 (QV S o) S 0 0 7 [(0, .ref a0), (1, .ref a1), (2, .int p)] [] h) {p : Int32} {h : MH} (hf : f_X9_stackInto_7b a0 a1 k7 p h = some o) : V l G B N mX9_stackInto (rmm 4 0 0) false 0 0 (QV S o) S 0 0 7 [(0, .ref a0), (1, .ref a1), (2, .int p)] [] h := by
  unfold f_X9_stackInto_7b at hf
  refine V_iload_n (pc' := 8) dX9_stackInto_7 rfl 2 rfl rfl ?_
  refine V_aload_n (pc' := 9) dX9_stackInto_8 rfl 0 rfl rfl ?_
  refine V_getI (pc' := 12) 9 1 dX9_stackInto_9 rfl (by decide) (Nat.le_of_ble_eq_true rfl) bm_363 hs0 (fun _ _ _ => rfl) ?_
  refine V_icmp_ge (tgt := 41) (pc' := 15) dX9_stackInto_12 (by decide) rfl hf (fun hf => ?_) (fun hf => ?_)
  ·
    refine V_aload_n (pc' := 16) dX9_stackInto_15 rfl 1 rfl rfl ?_
    refine V_aload_n (pc' := 17) dX9_stackInto_16 rfl 0 rfl rfl ?_
    refine V_getR (pc' := 20) 9 4 dX9_stackInto_17 rfl (by decide) (Nat.le_of_ble_eq_true rfl) bm_367 hs0 (fun _ _ _ => rfl) rfl hf (fun a_1 ha_1 hf => ?_)
    refine V_iload_n (pc' := 21) dX9_stackInto_20 rfl 2 rfl rfl ?_
    refine V_iald (pc' := 22) dX9_stackInto_21 rfl ha_1 hf (fun x_2 hf => ?_)
    refine V_cvV (pc' := 25) (As := [.int x_2]) (rest := []) dX9_stackInto_22 rfl mok_X5_add bm_769 5 (by decide) rfl hs1 rfl rfl (Nat.le_of_ble_eq_true rfl) (by decide) hf (fun q e => ct_X5_add hs1 e) (fun q_3 hf => ?_)
    refine V_iload_n (pc' := 26) dX9_stackInto_25 rfl 2 rfl rfl ?_
    refine V_iconst (v := 1) (pc' := 27) dX9_stackInto_26 rfl (by decide) ?_
    refine V_aload_n (pc' := 28) dX9_stackInto_27 rfl 0 rfl rfl ?_
    refine V_getR (pc' := 31) 9 5 dX9_stackInto_28 rfl (by decide) (Nat.le_of_ble_eq_true rfl) bm_368 hs0 (fun _ _ _ => rfl) rfl hf (fun a_4 ha_4 hf => ?_)
    refine V_iload_n (pc' := 32) dX9_stackInto_31 rfl 2 rfl rfl ?_
    refine V_iald (pc' := 33) dX9_stackInto_32 rfl ha_4 hf (fun x_5 hf => ?_)
    refine V_max (pc' := 36) dX9_stackInto_33 rfl bm_770 (Nat.le_of_ble_eq_true rfl) (by decide) ?_
    refine V_nmI hf (fun x_6 hf => ?_)
    refine V_iadd (pc' := 37) dX9_stackInto_36 rfl ?_
    refine V_nmI hf (fun x_7 hf => ?_)
    refine V_istore_n (lv' := [(2, .int x_7), (0, .ref a0), (1, .ref a1)]) (pc' := 38) dX9_stackInto_37 rfl rfl (Nat.le_of_ble_eq_true rfl) rfl ?_
    refine V_goto (tgt := 7) dX9_stackInto_38 (by decide) ?_
    exact V_sub (lv' := [(0, .ref a0), (1, .ref a1), (2, .int x_7)]) [1, 2, 0] rfl (hk7 x_7 q_3 hf)
  ·
    obtain rfl := Option.some.inj hf
    exact V_vret dX9_stackInto_41 rfl rfl rfl ⟨rfl, rfl, rfl⟩
theorem v_X9_stackInto_7 {l : Launch} {G : GE} {B N : Nat} {S : List SHP} {o : MH} {a0 : Nat} {a1 : Nat}    (hs0 : S[a0]? = some (.inl 9)) (hs1 : S[a1]? = some (.inl 5)) {n : Nat} {p : Int32} {h : MH} (hf : f_X9_stackInto_7 a0 a1 n p h = some o) : V l G B N mX9_stackInto (rmm 4 0 0) false 0 0 (QV S o) S 0 0 7 [(0, .ref a0), (1, .ref a1), (2, .int p)] [] h :=
  V_lp (VV := fun p h => V l G B N mX9_stackInto (rmm 4 0 0) false 0 0 (QV S o) S 0 0 7 [(0, .ref a0), (1, .ref a1), (2, .int p)] [] h) (fun _ hk _ _ hf => v_X9_stackInto_7b hs0 hs1 hk hf) n p h hf
set_option maxRecDepth 100000 in
set_option maxHeartbeats 4000000 in
theorem v_X9_stackInto {l : Launch} {G : GE} {B N : Nat} {S : List SHP} {o : MH} {a0 : Nat} {a1 : Nat}    (hs0 : S[a0]? = some (.inl 9)) (hs1 : S[a1]? = some (.inl 5)) {h : MH} (hf : f_X9_stackInto a0 a1 h = some o) : V l G B N mX9_stackInto (rmm 4 0 0) false 0 0 (QV S o) S 0 0 0 [(0, .ref a0), (1, .ref a1)] [] h := by
  unfold f_X9_stackInto at hf
  refine V_aload_n (pc' := 1) dX9_stackInto_0 rfl 1 rfl rfl ?_
  refine V_iconst (v := 0) (pc' := 2) dX9_stackInto_1 rfl (by decide) ?_
  refine V_putI (pc' := 5) 5 1 dX9_stackInto_2 rfl (by decide) (Nat.le_of_ble_eq_true rfl) bm_251 hs1 (Or.inl rfl) rfl ?_
  refine V_nmH hf (fun h_1 hf => ?_)
  refine V_iconst (v := 0) (pc' := 6) dX9_stackInto_5 rfl (by decide) ?_
  refine V_istore_n (lv' := [(2, .int 0), (0, .ref a0), (1, .ref a1)]) (pc' := 7) dX9_stackInto_6 rfl rfl (Nat.le_of_ble_eq_true rfl) rfl ?_
  exact V_sub (lv' := [(0, .ref a0), (1, .ref a1), (2, .int 0)]) [1, 2, 0] rfl (v_X9_stackInto_7 hs0 hs1 hf)
theorem ct_X9_stackInto {l : Launch} {S : List SHP} {h : MH} {a0 : Nat} {a1 : Nat} (hs0 : S[a0]? = some (.inl 9)) (hs1 : S[a1]? = some (.inl 5)) {q : MH} (hf : f_X9_stackInto a0 a1 h = some q) : CT l mX9_stackInto 4 false 0 0 S [.ref a0, .ref a1] h (QV S q) :=
  CT_ofV (by decide) rfl (Nat.le_of_ble_eq_true rfl) (fun G B hT => v_X9_stackInto hs0 hs1 hf)
/-! LabelStacks$Writer.lastUnwritten()I -/
theorem dX9_lastUnwritten_0 : decode cX9_lastUnwritten 0 = .ok (.aload_n 0, 1) := by decide +kernel
theorem dX9_lastUnwritten_1 : decode cX9_lastUnwritten 1 = .ok (.getfield 36, 3) := by decide +kernel
theorem dX9_lastUnwritten_4 : decode cX9_lastUnwritten 4 = .ok (.iconst 1, 1) := by decide +kernel
theorem dX9_lastUnwritten_5 : decode cX9_lastUnwritten 5 = .ok (.isub, 1) := by decide +kernel
theorem dX9_lastUnwritten_6 : decode cX9_lastUnwritten 6 = .ok (.istore_n 1, 1) := by decide +kernel
theorem dX9_lastUnwritten_7 : decode cX9_lastUnwritten 7 = .ok (.iload_n 1, 1) := by decide +kernel
theorem dX9_lastUnwritten_8 : decode cX9_lastUnwritten 8 = .ok (.ifCond .lt 23, 3) := by decide +kernel
theorem dX9_lastUnwritten_11 : decode cX9_lastUnwritten 11 = .ok (.aload_n 0, 1) := by decide +kernel
theorem dX9_lastUnwritten_12 : decode cX9_lastUnwritten 12 = .ok (.getfield 15, 3) := by decide +kernel
theorem dX9_lastUnwritten_15 : decode cX9_lastUnwritten 15 = .ok (.iload_n 1, 1) := by decide +kernel
theorem dX9_lastUnwritten_16 : decode cX9_lastUnwritten 16 = .ok (.iaload, 1) := by decide +kernel
theorem dX9_lastUnwritten_17 : decode cX9_lastUnwritten 17 = .ok (.sipush 1000, 3) := by decide +kernel
theorem dX9_lastUnwritten_20 : decode cX9_lastUnwritten 20 = .ok (.if_icmp .lt 5, 3) := by decide +kernel
theorem dX9_lastUnwritten_23 : decode cX9_lastUnwritten 23 = .ok (.iload_n 1, 1) := by decide +kernel
theorem dX9_lastUnwritten_24 : decode cX9_lastUnwritten 24 = .ok (.ireturn, 1) := by decide +kernel
theorem dX9_lastUnwritten_25 : decode cX9_lastUnwritten 25 = .ok (.iinc 1 (-1), 3) := by decide +kernel
theorem dX9_lastUnwritten_28 : decode cX9_lastUnwritten 28 = .ok (.goto (-21), 3) := by decide +kernel
theorem dX9_lastUnwritten_31 : decode cX9_lastUnwritten 31 = .ok (.iconst (-1), 1) := by decide +kernel
theorem dX9_lastUnwritten_32 : decode cX9_lastUnwritten 32 = .ok (.ireturn, 1) := by decide +kernel
abbrev mX9_lastUnwritten : MI := (RX9, yX9_lastUnwritten, cX9_lastUnwritten, 2, (some .int))
theorem mok_X9_lastUnwritten : MOKv mX9_lastUnwritten 0 := ⟨⟨bm_778, bm_124, ⟨by decide, by decide⟩, by decide +kernel⟩, bm_776, bm_777⟩
def f_X9_lastUnwritten_7b   (a0 : Nat) (k7 : Int32 → MH → Option (Int32 × MH)) (p : Int32) (h : MH) : Option (Int32 × MH) :=
  if p < 0 then
    some ((-1 : Int32), h)
  else
    (gR h a0 3).bind fun a_1 =>
    (ldI h a_1 p).bind fun x_2 =>
    if x_2 < 1000 then
      k7 (p + (-1)) h
    else
      some (p, h)
def f_X9_lastUnwritten_7   (a0 : Nat) : Nat → Int32 → MH → Option (Int32 × MH) := lp (f_X9_lastUnwritten_7b a0)
def f_X9_lastUnwritten   (a0 : Nat) (h : MH) : Option (Int32 × MH) :=
  lt ((gI h a0 1) - 1) fun x_1 =>
  f_X9_lastUnwritten_7 a0 FU x_1 h
set_option maxRecDepth 100000 in
set_option maxHeartbeats 4000000 in
theorem v_X9_lastUnwritten_7b {l : Launch} {G : GE} {B N : Nat} {S : List SHP} {o : Int32 × MH} {a0 : Nat}    (hs0 : S[a0]? = some (.inl 9)) {k7 : Int32 → MH → Option (Int32 × MH)} (hk7 : ∀ (p : Int32) (h : MH), k7 p h = some o → V l G B N mX9_lastUnwritten (rmm 3 0 0) false 0 0 (QI S o) S 0 0 7 [(0, .ref a0), (1, .int p)] [] h) {p : Int32} {h : MH} (hf : f_X9_lastUnwritten_7b a0 k7 p h = some o) : V l G B N mX9_lastUnwritten (rmm 3 0 0) false 0 0 (QI S o) S 0 0 7 [(0, .ref a0), (1, .int p)] [] h := by
  unfold f_X9_lastUnwritten_7b at hf
  refine V_iload_n (pc' := 8) dX9_lastUnwritten_7 rfl 1 rfl rfl ?_
  refine V_if_lt (tgt := 31) (pc' := 11) dX9_lastUnwritten_8 (by decide) rfl hf (fun hf => ?_) (fun hf => ?_)
  ·
    refine V_iconst (v := (-1)) (pc' := 32) dX9_lastUnwritten_31 rfl (by decide) ?_
    obtain rfl := Option.some.inj hf
    exact V_iret dX9_lastUnwritten_32 rfl rfl rfl ⟨rfl, rfl, rfl⟩
  ·
    refine V_aload_n (pc' := 12) dX9_lastUnwritten_11 rfl 0 rfl rfl ?_
    refine V_getR (pc' := 15) 9 3 dX9_lastUnwritten_12 rfl (by decide) (Nat.le_of_ble_eq_true rfl) bm_365 hs0 (fun _ _ _ => rfl) rfl hf (fun a_1 ha_1 hf => ?_)
    refine V_iload_n (pc' := 16) dX9_lastUnwritten_15 rfl 1 rfl rfl ?_
    refine V_iald (pc' := 17) dX9_lastUnwritten_16 rfl ha_1 hf (fun x_2 hf => ?_)
    refine V_sipush (v := 1000) (pc' := 20) dX9_lastUnwritten_17 rfl (by decide) ?_
    refine V_icmp_lt (tgt := 25) (pc' := 23) dX9_lastUnwritten_20 (by decide) rfl hf (fun hf => ?_) (fun hf => ?_)
    ·
      refine V_iinc (v := (p + (-1))) (lv' := [(1, .int (p + (-1))), (0, .ref a0)]) (pc' := 28) dX9_lastUnwritten_25 rfl 1 rfl rfl (Nat.le_of_ble_eq_true rfl) rfl ?_
      refine V_goto (tgt := 7) dX9_lastUnwritten_28 (by decide) ?_
      exact V_sub (lv' := [(0, .ref a0), (1, .int (p + (-1)))]) [1, 0] rfl (hk7 (p + (-1)) h hf)
    ·
      refine V_iload_n (pc' := 24) dX9_lastUnwritten_23 rfl 1 rfl rfl ?_
      obtain rfl := Option.some.inj hf
      exact V_iret dX9_lastUnwritten_24 rfl rfl rfl ⟨rfl, rfl, rfl⟩
theorem v_X9_lastUnwritten_7 {l : Launch} {G : GE} {B N : Nat} {S : List SHP} {o : Int32 × MH} {a0 : Nat}    (hs0 : S[a0]? = some (.inl 9)) {n : Nat} {p : Int32} {h : MH} (hf : f_X9_lastUnwritten_7 a0 n p h = some o) : V l G B N mX9_lastUnwritten (rmm 3 0 0) false 0 0 (QI S o) S 0 0 7 [(0, .ref a0), (1, .int p)] [] h :=
  V_lp (VV := fun p h => V l G B N mX9_lastUnwritten (rmm 3 0 0) false 0 0 (QI S o) S 0 0 7 [(0, .ref a0), (1, .int p)] [] h) (fun _ hk _ _ hf => v_X9_lastUnwritten_7b hs0 hk hf) n p h hf
set_option maxRecDepth 100000 in
set_option maxHeartbeats 4000000 in
theorem v_X9_lastUnwritten {l : Launch} {G : GE} {B N : Nat} {S : List SHP} {o : Int32 × MH} {a0 : Nat}    (hs0 : S[a0]? = some (.inl 9)) {h : MH} (hf : f_X9_lastUnwritten a0 h = some o) : V l G B N mX9_lastUnwritten (rmm 3 0 0) false 0 0 (QI S o) S 0 0 0 [(0, .ref a0)] [] h := by
  unfold f_X9_lastUnwritten at hf
  refine V_aload_n (pc' := 1) dX9_lastUnwritten_0 rfl 0 rfl rfl ?_
  refine V_getI (pc' := 4) 9 1 dX9_lastUnwritten_1 rfl (by decide) (Nat.le_of_ble_eq_true rfl) bm_363 hs0 (fun _ _ _ => rfl) ?_
  refine V_iconst (v := 1) (pc' := 5) dX9_lastUnwritten_4 rfl (by decide) ?_
  refine V_isub (pc' := 6) dX9_lastUnwritten_5 rfl ?_
  refine V_nmI hf (fun x_1 hf => ?_)
  refine V_istore_n (lv' := [(1, .int x_1), (0, .ref a0)]) (pc' := 7) dX9_lastUnwritten_6 rfl rfl (Nat.le_of_ble_eq_true rfl) rfl ?_
  exact V_sub (lv' := [(0, .ref a0), (1, .int x_1)]) [1, 0] rfl (v_X9_lastUnwritten_7 hs0 hf)
theorem ct_X9_lastUnwritten {l : Launch} {S : List SHP} {h : MH} {a0 : Nat} (hs0 : S[a0]? = some (.inl 9)) {q : Int32 × MH} (hf : f_X9_lastUnwritten a0 h = some q) : CT l mX9_lastUnwritten 3 false 0 0 S [.ref a0] h (QI S q) :=
  CT_ofV (by decide) rfl (Nat.le_of_ble_eq_true rfl) (fun G B hT => v_X9_lastUnwritten hs0 hf)
/-! LabelStacks$Writer.greedyCount(LLabelStacks$Network;LLabelStacks$Routes;)I -/
theorem dX9_greedyCount_0 : decode cX9_greedyCount 0 = .ok (.iconst 0, 1) := by decide +kernel
theorem dX9_greedyCount_1 : decode cX9_greedyCount 1 = .ok (.istore_n 3, 1) := by decide +kernel
theorem dX9_greedyCount_2 : decode cX9_greedyCount 2 = .ok (.iconst 0, 1) := by decide +kernel
theorem dX9_greedyCount_3 : decode cX9_greedyCount 3 = .ok (.istore 4, 2) := by decide +kernel
theorem dX9_greedyCount_5 : decode cX9_greedyCount 5 = .ok (.iconst 0, 1) := by decide +kernel
theorem dX9_greedyCount_6 : decode cX9_greedyCount 6 = .ok (.istore 5, 2) := by decide +kernel
theorem dX9_greedyCount_8 : decode cX9_greedyCount 8 = .ok (.iload 5, 2) := by decide +kernel
theorem dX9_greedyCount_10 : decode cX9_greedyCount 10 = .ok (.bipush 16, 2) := by decide +kernel
theorem dX9_greedyCount_12 : decode cX9_greedyCount 12 = .ok (.if_icmp .ge 63, 3) := by decide +kernel
theorem dX9_greedyCount_15 : decode cX9_greedyCount 15 = .ok (.iload 4, 2) := by decide +kernel
theorem dX9_greedyCount_17 : decode cX9_greedyCount 17 = .ok (.aload_n 0, 1) := by decide +kernel
theorem dX9_greedyCount_18 : decode cX9_greedyCount 18 = .ok (.getfield 36, 3) := by decide +kernel
theorem dX9_greedyCount_21 : decode cX9_greedyCount 21 = .ok (.if_icmp .ge 54, 3) := by decide +kernel
theorem dX9_greedyCount_24 : decode cX9_greedyCount 24 = .ok (.aload_n 0, 1) := by decide +kernel
theorem dX9_greedyCount_25 : decode cX9_greedyCount 25 = .ok (.aload_n 1, 1) := by decide +kernel
theorem dX9_greedyCount_26 : decode cX9_greedyCount 26 = .ok (.aload_n 2, 1) := by decide +kernel
theorem dX9_greedyCount_27 : decode cX9_greedyCount 27 = .ok (.iload 4, 2) := by decide +kernel
theorem dX9_greedyCount_29 : decode cX9_greedyCount 29 = .ok (.invokevirtual 59, 3) := by decide +kernel
theorem dX9_greedyCount_32 : decode cX9_greedyCount 32 = .ok (.istore 6, 2) := by decide +kernel
theorem dX9_greedyCount_34 : decode cX9_greedyCount 34 = .ok (.iload 6, 2) := by decide +kernel
theorem dX9_greedyCount_36 : decode cX9_greedyCount 36 = .ok (.ifCond .ne 19, 3) := by decide +kernel
theorem dX9_greedyCount_39 : decode cX9_greedyCount 39 = .ok (.aload_n 1, 1) := by decide +kernel
theorem dX9_greedyCount_40 : decode cX9_greedyCount 40 = .ok (.aload_n 0, 1) := by decide +kernel
theorem dX9_greedyCount_41 : decode cX9_greedyCount 41 = .ok (.getfield 9, 3) := by decide +kernel
theorem dX9_greedyCount_44 : decode cX9_greedyCount 44 = .ok (.iload 4, 2) := by decide +kernel
theorem dX9_greedyCount_46 : decode cX9_greedyCount 46 = .ok (.iaload, 1) := by decide +kernel
theorem dX9_greedyCount_47 : decode cX9_greedyCount 47 = .ok (.invokevirtual 73, 3) := by decide +kernel
theorem dX9_greedyCount_50 : decode cX9_greedyCount 50 = .ok (.ifCond .ne 5, 3) := by decide +kernel
theorem dX9_greedyCount_53 : decode cX9_greedyCount 53 = .ok (.iconst (-1), 1) := by decide +kernel
theorem dX9_greedyCount_54 : decode cX9_greedyCount 54 = .ok (.ireturn, 1) := by decide +kernel
theorem dX9_greedyCount_55 : decode cX9_greedyCount 55 = .ok (.iload 4, 2) := by decide +kernel
theorem dX9_greedyCount_57 : decode cX9_greedyCount 57 = .ok (.iconst 1, 1) := by decide +kernel
theorem dX9_greedyCount_58 : decode cX9_greedyCount 58 = .ok (.iload 6, 2) := by decide +kernel
theorem dX9_greedyCount_60 : decode cX9_greedyCount 60 = .ok (.invokestatic 121, 3) := by decide +kernel
theorem dX9_greedyCount_63 : decode cX9_greedyCount 63 = .ok (.iadd, 1) := by decide +kernel
theorem dX9_greedyCount_64 : decode cX9_greedyCount 64 = .ok (.istore 4, 2) := by decide +kernel
theorem dX9_greedyCount_66 : decode cX9_greedyCount 66 = .ok (.iinc 3 1, 3) := by decide +kernel
theorem dX9_greedyCount_69 : decode cX9_greedyCount 69 = .ok (.iinc 5 1, 3) := by decide +kernel
theorem dX9_greedyCount_72 : decode cX9_greedyCount 72 = .ok (.goto (-64), 3) := by decide +kernel
theorem dX9_greedyCount_75 : decode cX9_greedyCount 75 = .ok (.iload_n 3, 1) := by decide +kernel
theorem dX9_greedyCount_76 : decode cX9_greedyCount 76 = .ok (.ireturn, 1) := by decide +kernel
abbrev mX9_greedyCount : MI := (RX9, yX9_greedyCount, cX9_greedyCount, 7, (some .int))
theorem mok_X9_greedyCount : MOKv mX9_greedyCount 2 := ⟨⟨bm_787, bm_124, ⟨by decide, by decide⟩, by decide +kernel⟩, bm_785, bm_786⟩
def f_X9_greedyCount_55  (k8 : Int32 × Int32 × Int32 → MH → Option (Int32 × MH)) (a0 : Nat) (a1 : Nat) (a2 : Nat) (x3 : Int32) (x4 : Int32) (x5 : Int32) (x6 : Int32) (h : MH) : Option (Int32 × MH) :=
  lt ((if 1 < x6 then x6 else 1) : Int32) fun x_1 =>
  lt (x4 + x_1) fun x_2 =>
  k8 ((x3 + 1), x_2, (x5 + 1)) h
def f_X9_greedyCount_8b   (a0 : Nat) (a1 : Nat) (a2 : Nat) (k8 : Int32 × Int32 × Int32 → MH → Option (Int32 × MH)) (p : Int32 × Int32 × Int32) (h : MH) : Option (Int32 × MH) :=
  if p.2.2 < 16 then
    if p.2.1 < (gI h a0 1) then
      (f_X9_nodeReach a0 a1 a2 p.2.1 h).bind fun q_1 =>
      if q_1.1 = 0 then
        (gR q_1.2 a0 0).bind fun a_2 =>
        (ldI q_1.2 a_2 p.2.1).bind fun x_3 =>
        (f_X2_isUp a1 x_3 q_1.2).bind fun q_4 =>
        if q_4.1 = 0 then
          some ((-1 : Int32), q_4.2)
        else
          f_X9_greedyCount_55 k8 a0 a1 a2 p.1 p.2.1 p.2.2 q_1.1 q_4.2
      else
        f_X9_greedyCount_55 k8 a0 a1 a2 p.1 p.2.1 p.2.2 q_1.1 q_1.2
    else
      some (p.1, h)
  else
    some (p.1, h)
def f_X9_greedyCount_8   (a0 : Nat) (a1 : Nat) (a2 : Nat) : Nat → Int32 × Int32 × Int32 → MH → Option (Int32 × MH) := lp (f_X9_greedyCount_8b a0 a1 a2)
def f_X9_greedyCount   (a0 : Nat) (a1 : Nat) (a2 : Nat) (h : MH) : Option (Int32 × MH) :=
  f_X9_greedyCount_8 a0 a1 a2 FU (0, 0, 0) h
set_option maxRecDepth 100000 in
set_option maxHeartbeats 4000000 in
theorem v_X9_greedyCount_55 {l : Launch} {G : GE} {B N : Nat} {S : List SHP} {o : Int32 × MH} {a0 : Nat} {a1 : Nat} {a2 : Nat} {x3 : Int32} {x4 : Int32} {x5 : Int32} {x6 : Int32}  {k8 : Int32 × Int32 × Int32 → MH → Option (Int32 × MH)} (hk8 : ∀ (p : Int32 × Int32 × Int32) (h : MH), k8 p h = some o → V l G B N mX9_greedyCount (rmm 5 0 0) false 0 0 (QI S o) S 0 0 8 [(0, .ref a0), (1, .ref a1), (2, .ref a2), (3, .int p.1), (4, .int p.2.1), (5, .int p.2.2)] [] h) (hs0 : S[a0]? = some (.inl 9)) (hs1 : S[a1]? = some (.inl 2)) (hs2 : S[a2]? = some (.inl 4)) {h : MH} (hf : f_X9_greedyCount_55 k8 a0 a1 a2 x3 x4 x5 x6 h = some o) : V l G B N mX9_greedyCount (rmm 5 0 0) false 0 0 (QI S o) S 0 0 55 [(0, .ref a0), (1, .ref a1), (2, .ref a2), (3, .int x3), (4, .int x4), (5, .int x5), (6, .int x6)] [] h := by
  unfold f_X9_greedyCount_55 at hf
  refine V_iload (pc' := 57) dX9_greedyCount_55 rfl 4 rfl ?_
  refine V_iconst (v := 1) (pc' := 58) dX9_greedyCount_57 rfl (by decide) ?_
  refine V_iload (pc' := 60) dX9_greedyCount_58 rfl 6 rfl ?_
  refine V_max (pc' := 63) dX9_greedyCount_60 rfl bm_770 (Nat.le_of_ble_eq_true rfl) (by decide) ?_
  refine V_nmI hf (fun x_1 hf => ?_)
  refine V_iadd (pc' := 64) dX9_greedyCount_63 rfl ?_
  refine V_nmI hf (fun x_2 hf => ?_)
  refine V_istore (lv' := [(4, .int x_2), (0, .ref a0), (1, .ref a1), (2, .ref a2), (3, .int x3), (5, .int x5), (6, .int x6)]) (pc' := 66) dX9_greedyCount_64 rfl (Nat.le_of_ble_eq_true rfl) rfl ?_
  refine V_iinc (v := (x3 + 1)) (lv' := [(3, .int (x3 + 1)), (4, .int x_2), (0, .ref a0), (1, .ref a1), (2, .ref a2), (5, .int x5), (6, .int x6)]) (pc' := 69) dX9_greedyCount_66 rfl 4 rfl rfl (Nat.le_of_ble_eq_true rfl) rfl ?_
  refine V_iinc (v := (x5 + 1)) (lv' := [(5, .int (x5 + 1)), (3, .int (x3 + 1)), (4, .int x_2), (0, .ref a0), (1, .ref a1), (2, .ref a2), (6, .int x6)]) (pc' := 72) dX9_greedyCount_69 rfl 5 rfl rfl (Nat.le_of_ble_eq_true rfl) rfl ?_
  refine V_goto (tgt := 8) dX9_greedyCount_72 (by decide) ?_
  exact V_sub (lv' := [(0, .ref a0), (1, .ref a1), (2, .ref a2), (3, .int (x3 + 1)), (4, .int x_2), (5, .int (x5 + 1))]) [3, 4, 5, 1, 2, 0] rfl (hk8 ((x3 + 1), x_2, (x5 + 1)) h hf)
set_option maxRecDepth 100000 in
set_option maxHeartbeats 4000000 in
theorem v_X9_greedyCount_8b {l : Launch} {G : GE} {B N : Nat} {S : List SHP} {o : Int32 × MH} {a0 : Nat} {a1 : Nat} {a2 : Nat}    (hs0 : S[a0]? = some (.inl 9)) (hs1 : S[a1]? = some (.inl 2)) (hs2 : S[a2]? = some (.inl 4)) {k8 : Int32 × Int32 × Int32 → MH → Option (Int32 × MH)} (hk8 : ∀ (p : Int32 × Int32 × Int32) (h : MH), k8 p h = some o → V l G B N mX9_greedyCount (rmm 5 0 0) false 0 0 (QI S o) S 0 0 8 [(0, .ref a0), (1, .ref a1), (2, .ref a2), (3, .int p.1), (4, .int p.2.1), (5, .int p.2.2)] [] h) {p : Int32 × Int32 × Int32} {h : MH} (hf : f_X9_greedyCount_8b a0 a1 a2 k8 p h = some o) : V l G B N mX9_greedyCount (rmm 5 0 0) false 0 0 (QI S o) S 0 0 8 [(0, .ref a0), (1, .ref a1), (2, .ref a2), (3, .int p.1), (4, .int p.2.1), (5, .int p.2.2)] [] h := by
  unfold f_X9_greedyCount_8b at hf
  refine V_iload (pc' := 10) dX9_greedyCount_8 rfl 5 rfl ?_
  refine V_bipush (v := 16) (pc' := 12) dX9_greedyCount_10 rfl (by decide) ?_
  refine V_icmp_ge (tgt := 75) (pc' := 15) dX9_greedyCount_12 (by decide) rfl hf (fun hf => ?_) (fun hf => ?_)
  ·
    refine V_iload (pc' := 17) dX9_greedyCount_15 rfl 4 rfl ?_
    refine V_aload_n (pc' := 18) dX9_greedyCount_17 rfl 0 rfl rfl ?_
    refine V_getI (pc' := 21) 9 1 dX9_greedyCount_18 rfl (by decide) (Nat.le_of_ble_eq_true rfl) bm_363 hs0 (fun _ _ _ => rfl) ?_
    refine V_icmp_ge (tgt := 75) (pc' := 24) dX9_greedyCount_21 (by decide) rfl hf (fun hf => ?_) (fun hf => ?_)
    ·
      refine V_aload_n (pc' := 25) dX9_greedyCount_24 rfl 0 rfl rfl ?_
      refine V_aload_n (pc' := 26) dX9_greedyCount_25 rfl 1 rfl rfl ?_
      refine V_aload_n (pc' := 27) dX9_greedyCount_26 rfl 2 rfl rfl ?_
      refine V_iload (pc' := 29) dX9_greedyCount_27 rfl 4 rfl ?_
      refine V_cvI (pc' := 32) (As := [.ref a1, .ref a2, .int p.2.1]) (rest := []) dX9_greedyCount_29 rfl mok_X9_nodeReach bm_722 9 (by decide) rfl hs0 rfl rfl (Nat.le_of_ble_eq_true rfl) (by decide) hf (fun q e => ct_X9_nodeReach hs0 hs1 hs2 e) (fun q_1 hf => ?_)
      refine V_istore (lv' := [(6, .int q_1.1), (0, .ref a0), (1, .ref a1), (2, .ref a2), (3, .int p.1), (4, .int p.2.1), (5, .int p.2.2)]) (pc' := 34) dX9_greedyCount_32 rfl (Nat.le_of_ble_eq_true rfl) rfl ?_
      refine V_iload (pc' := 36) dX9_greedyCount_34 rfl 0 rfl ?_
      refine V_if_ne (tgt := 55) (pc' := 39) dX9_greedyCount_36 (by decide) rfl hf (fun hf => ?_) (fun hf => ?_)
      ·
        refine V_aload_n (pc' := 40) dX9_greedyCount_39 rfl 2 rfl rfl ?_
        refine V_aload_n (pc' := 41) dX9_greedyCount_40 rfl 1 rfl rfl ?_
        refine V_getR (pc' := 44) 9 0 dX9_greedyCount_41 rfl (by decide) (Nat.le_of_ble_eq_true rfl) bm_362 hs0 (fun _ _ _ => rfl) rfl hf (fun a_2 ha_2 hf => ?_)
        refine V_iload (pc' := 46) dX9_greedyCount_44 rfl 5 rfl ?_
        refine V_iald (pc' := 47) dX9_greedyCount_46 rfl ha_2 hf (fun x_3 hf => ?_)
        refine V_cvI (pc' := 50) (As := [.int x_3]) (rest := []) dX9_greedyCount_47 rfl mok_X2_isUp bm_735 2 (by decide) rfl hs1 rfl rfl (Nat.le_of_ble_eq_true rfl) (by decide) hf (fun q e => ct_X2_isUp hs1 e) (fun q_4 hf => ?_)
        refine V_if_ne (tgt := 55) (pc' := 53) dX9_greedyCount_50 (by decide) rfl hf (fun hf => ?_) (fun hf => ?_)
        ·
          refine V_iconst (v := (-1)) (pc' := 54) dX9_greedyCount_53 rfl (by decide) ?_
          obtain rfl := Option.some.inj hf
          exact V_iret dX9_greedyCount_54 rfl rfl rfl ⟨rfl, rfl, rfl⟩
        ·
          exact V_sub (lv' := [(0, .ref a0), (1, .ref a1), (2, .ref a2), (3, .int p.1), (4, .int p.2.1), (5, .int p.2.2), (6, .int q_1.1)]) [1, 2, 3, 4, 5, 6, 0] rfl (v_X9_greedyCount_55 hk8 hs0 hs1 hs2 hf)
      ·
        exact V_sub (lv' := [(0, .ref a0), (1, .ref a1), (2, .ref a2), (3, .int p.1), (4, .int p.2.1), (5, .int p.2.2), (6, .int q_1.1)]) [1, 2, 3, 4, 5, 6, 0] rfl (v_X9_greedyCount_55 hk8 hs0 hs1 hs2 hf)
    ·
      refine V_iload_n (pc' := 76) dX9_greedyCount_75 rfl 3 rfl rfl ?_
      obtain rfl := Option.some.inj hf
      exact V_iret dX9_greedyCount_76 rfl rfl rfl ⟨rfl, rfl, rfl⟩
  ·
    refine V_iload_n (pc' := 76) dX9_greedyCount_75 rfl 3 rfl rfl ?_
    obtain rfl := Option.some.inj hf
    exact V_iret dX9_greedyCount_76 rfl rfl rfl ⟨rfl, rfl, rfl⟩
theorem v_X9_greedyCount_8 {l : Launch} {G : GE} {B N : Nat} {S : List SHP} {o : Int32 × MH} {a0 : Nat} {a1 : Nat} {a2 : Nat}    (hs0 : S[a0]? = some (.inl 9)) (hs1 : S[a1]? = some (.inl 2)) (hs2 : S[a2]? = some (.inl 4)) {n : Nat} {p : Int32 × Int32 × Int32} {h : MH} (hf : f_X9_greedyCount_8 a0 a1 a2 n p h = some o) : V l G B N mX9_greedyCount (rmm 5 0 0) false 0 0 (QI S o) S 0 0 8 [(0, .ref a0), (1, .ref a1), (2, .ref a2), (3, .int p.1), (4, .int p.2.1), (5, .int p.2.2)] [] h :=
  V_lp (VV := fun p h => V l G B N mX9_greedyCount (rmm 5 0 0) false 0 0 (QI S o) S 0 0 8 [(0, .ref a0), (1, .ref a1), (2, .ref a2), (3, .int p.1), (4, .int p.2.1), (5, .int p.2.2)] [] h) (fun _ hk _ _ hf => v_X9_greedyCount_8b hs0 hs1 hs2 hk hf) n p h hf
set_option maxRecDepth 100000 in
set_option maxHeartbeats 4000000 in
theorem v_X9_greedyCount {l : Launch} {G : GE} {B N : Nat} {S : List SHP} {o : Int32 × MH} {a0 : Nat} {a1 : Nat} {a2 : Nat}    (hs0 : S[a0]? = some (.inl 9)) (hs1 : S[a1]? = some (.inl 2)) (hs2 : S[a2]? = some (.inl 4)) {h : MH} (hf : f_X9_greedyCount a0 a1 a2 h = some o) : V l G B N mX9_greedyCount (rmm 5 0 0) false 0 0 (QI S o) S 0 0 0 [(0, .ref a0), (1, .ref a1), (2, .ref a2)] [] h := by
  unfold f_X9_greedyCount at hf
  refine V_iconst (v := 0) (pc' := 1) dX9_greedyCount_0 rfl (by decide) ?_
  refine V_istore_n (lv' := [(3, .int 0), (0, .ref a0), (1, .ref a1), (2, .ref a2)]) (pc' := 2) dX9_greedyCount_1 rfl rfl (Nat.le_of_ble_eq_true rfl) rfl ?_
  refine V_iconst (v := 0) (pc' := 3) dX9_greedyCount_2 rfl (by decide) ?_
  refine V_istore (lv' := [(4, .int 0), (3, .int 0), (0, .ref a0), (1, .ref a1), (2, .ref a2)]) (pc' := 5) dX9_greedyCount_3 rfl (Nat.le_of_ble_eq_true rfl) rfl ?_
  refine V_iconst (v := 0) (pc' := 6) dX9_greedyCount_5 rfl (by decide) ?_
  refine V_istore (lv' := [(5, .int 0), (4, .int 0), (3, .int 0), (0, .ref a0), (1, .ref a1), (2, .ref a2)]) (pc' := 8) dX9_greedyCount_6 rfl (Nat.le_of_ble_eq_true rfl) rfl ?_
  exact V_sub (lv' := [(0, .ref a0), (1, .ref a1), (2, .ref a2), (3, .int 0), (4, .int 0), (5, .int 0)]) [3, 4, 5, 2, 1, 0] rfl (v_X9_greedyCount_8 hs0 hs1 hs2 hf)
theorem ct_X9_greedyCount {l : Launch} {S : List SHP} {h : MH} {a0 : Nat} {a1 : Nat} {a2 : Nat} (hs0 : S[a0]? = some (.inl 9)) (hs1 : S[a1]? = some (.inl 2)) (hs2 : S[a2]? = some (.inl 4)) {q : Int32 × MH} (hf : f_X9_greedyCount a0 a1 a2 h = some q) : CT l mX9_greedyCount 5 false 0 0 S [.ref a0, .ref a1, .ref a2] h (QI S q) :=
  CT_ofV (by decide) rfl (Nat.le_of_ble_eq_true rfl) (fun G B hT => v_X9_greedyCount hs0 hs1 hs2 hf)
/-! LabelStacks$Writer.countBack(LLabelStacks$Network;LLabelStacks$Routes;III)I -/
theorem dX9_countBack_0 : decode cX9_countBack 0 = .ok (.iload 4, 2) := by decide +kernel
theorem dX9_countBack_2 : decode cX9_countBack 2 = .ok (.aload_n 0, 1) := by decide +kernel
theorem dX9_countBack_3 : decode cX9_countBack 3 = .ok (.getfield 127, 3) := by decide +kernel
theorem dX9_countBack_6 : decode cX9_countBack 6 = .ok (.if_icmp .le 17, 3) := by decide +kernel
theorem dX9_countBack_9 : decode cX9_countBack 9 = .ok (.iload 4, 2) := by decide +kernel
theorem dX9_countBack_11 : decode cX9_countBack 11 = .ok (.ifCond .le 12, 3) := by decide +kernel
theorem dX9_countBack_14 : decode cX9_countBack 14 = .ok (.iload 4, 2) := by decide +kernel
theorem dX9_countBack_16 : decode cX9_countBack 16 = .ok (.aload_n 0, 1) := by decide +kernel
theorem dX9_countBack_17 : decode cX9_countBack 17 = .ok (.getfield 36, 3) := by decide +kernel
theorem dX9_countBack_20 : decode cX9_countBack 20 = .ok (.if_icmp .le 5, 3) := by decide +kernel
theorem dX9_countBack_23 : decode cX9_countBack 23 = .ok (.iconst 0, 1) := by decide +kernel
theorem dX9_countBack_24 : decode cX9_countBack 24 = .ok (.ireturn, 1) := by decide +kernel
theorem dX9_countBack_25 : decode cX9_countBack 25 = .ok (.iconst 0, 1) := by decide +kernel
theorem dX9_countBack_26 : decode cX9_countBack 26 = .ok (.istore 6, 2) := by decide +kernel
theorem dX9_countBack_28 : decode cX9_countBack 28 = .ok (.iload 4, 2) := by decide +kernel
theorem dX9_countBack_30 : decode cX9_countBack 30 = .ok (.iconst 1, 1) := by decide +kernel
theorem dX9_countBack_31 : decode cX9_countBack 31 = .ok (.isub, 1) := by decide +kernel
theorem dX9_countBack_32 : decode cX9_countBack 32 = .ok (.istore 7, 2) := by decide +kernel
theorem dX9_countBack_34 : decode cX9_countBack 34 = .ok (.iconst 0, 1) := by decide +kernel
theorem dX9_countBack_35 : decode cX9_countBack 35 = .ok (.istore 8, 2) := by decide +kernel
theorem dX9_countBack_37 : decode cX9_countBack 37 = .ok (.iload 8, 2) := by decide +kernel
theorem dX9_countBack_39 : decode cX9_countBack 39 = .ok (.aload_n 1, 1) := by decide +kernel
theorem dX9_countBack_40 : decode cX9_countBack 40 = .ok (.getfield 137, 3) := by decide +kernel
theorem dX9_countBack_43 : decode cX9_countBack 43 = .ok (.if_icmp .ge 140, 3) := by decide +kernel
theorem dX9_countBack_46 : decode cX9_countBack 46 = .ok (.aload_n 1, 1) := by decide +kernel
theorem dX9_countBack_47 : decode cX9_countBack 47 = .ok (.getfield 140, 3) := by decide +kernel
theorem dX9_countBack_50 : decode cX9_countBack 50 = .ok (.iload 8, 2) := by decide +kernel
theorem dX9_countBack_52 : decode cX9_countBack 52 = .ok (.iaload, 1) := by decide +kernel
theorem dX9_countBack_53 : decode cX9_countBack 53 = .ok (.istore 9, 2) := by decide +kernel
theorem dX9_countBack_55 : decode cX9_countBack 55 = .ok (.aload_n 1, 1) := by decide +kernel
theorem dX9_countBack_56 : decode cX9_countBack 56 = .ok (.getfield 143, 3) := by decide +kernel
theorem dX9_countBack_59 : decode cX9_countBack 59 = .ok (.iload 8, 2) := by decide +kernel
theorem dX9_countBack_61 : decode cX9_countBack 61 = .ok (.iaload, 1) := by decide +kernel
theorem dX9_countBack_62 : decode cX9_countBack 62 = .ok (.iload_n 3, 1) := by decide +kernel
theorem dX9_countBack_63 : decode cX9_countBack 63 = .ok (.if_icmp .ne 114, 3) := by decide +kernel
theorem dX9_countBack_66 : decode cX9_countBack 66 = .ok (.aload_n 1, 1) := by decide +kernel
theorem dX9_countBack_67 : decode cX9_countBack 67 = .ok (.iload 8, 2) := by decide +kernel
theorem dX9_countBack_69 : decode cX9_countBack 69 = .ok (.invokevirtual 73, 3) := by decide +kernel
theorem dX9_countBack_72 : decode cX9_countBack 72 = .ok (.ifCond .eq 105, 3) := by decide +kernel
theorem dX9_countBack_75 : decode cX9_countBack 75 = .ok (.iload 5, 2) := by decide +kernel
theorem dX9_countBack_77 : decode cX9_countBack 77 = .ok (.iload 9, 2) := by decide +kernel
theorem dX9_countBack_79 : decode cX9_countBack 79 = .ok (.iushr, 1) := by decide +kernel
theorem dX9_countBack_80 : decode cX9_countBack 80 = .ok (.iconst 1, 1) := by decide +kernel
theorem dX9_countBack_81 : decode cX9_countBack 81 = .ok (.iand, 1) := by decide +kernel
theorem dX9_countBack_82 : decode cX9_countBack 82 = .ok (.ifCond .eq 6, 3) := by decide +kernel
theorem dX9_countBack_85 : decode cX9_countBack 85 = .ok (.goto 92, 3) := by decide +kernel
theorem dX9_countBack_88 : decode cX9_countBack 88 = .ok (.iload 9, 2) := by decide +kernel
theorem dX9_countBack_90 : decode cX9_countBack 90 = .ok (.aload_n 0, 1) := by decide +kernel
theorem dX9_countBack_91 : decode cX9_countBack 91 = .ok (.getfield 124, 3) := by decide +kernel
theorem dX9_countBack_94 : decode cX9_countBack 94 = .ok (.if_icmp .eq 15, 3) := by decide +kernel
theorem dX9_countBack_97 : decode cX9_countBack 97 = .ok (.iload 7, 2) := by decide +kernel
theorem dX9_countBack_99 : decode cX9_countBack 99 = .ok (.aload_n 0, 1) := by decide +kernel
theorem dX9_countBack_100 : decode cX9_countBack 100 = .ok (.getfield 127, 3) := by decide +kernel
theorem dX9_countBack_103 : decode cX9_countBack 103 = .ok (.if_icmp .gt 6, 3) := by decide +kernel
theorem dX9_countBack_106 : decode cX9_countBack 106 = .ok (.goto 71, 3) := by decide +kernel
theorem dX9_countBack_109 : decode cX9_countBack 109 = .ok (.aload_n 0, 1) := by decide +kernel
theorem dX9_countBack_110 : decode cX9_countBack 110 = .ok (.getfield 9, 3) := by decide +kernel
theorem dX9_countBack_113 : decode cX9_countBack 113 = .ok (.iload 7, 2) := by decide +kernel
theorem dX9_countBack_115 : decode cX9_countBack 115 = .ok (.iload 8, 2) := by decide +kernel
theorem dX9_countBack_117 : decode cX9_countBack 117 = .ok (.iastore, 1) := by decide +kernel
theorem dX9_countBack_118 : decode cX9_countBack 118 = .ok (.aload_n 0, 1) := by decide +kernel
theorem dX9_countBack_119 : decode cX9_countBack 119 = .ok (.aload_n 1, 1) := by decide +kernel
theorem dX9_countBack_120 : decode cX9_countBack 120 = .ok (.aload_n 2, 1) := by decide +kernel
theorem dX9_countBack_121 : decode cX9_countBack 121 = .ok (.iload 7, 2) := by decide +kernel
theorem dX9_countBack_123 : decode cX9_countBack 123 = .ok (.invokevirtual 55, 3) := by decide +kernel
theorem dX9_countBack_126 : decode cX9_countBack 126 = .ok (.iload 9, 2) := by decide +kernel
theorem dX9_countBack_128 : decode cX9_countBack 128 = .ok (.aload_n 0, 1) := by decide +kernel
theorem dX9_countBack_129 : decode cX9_countBack 129 = .ok (.getfield 124, 3) := by decide +kernel
theorem dX9_countBack_132 : decode cX9_countBack 132 = .ok (.if_icmp .eq 28, 3) := by decide +kernel
theorem dX9_countBack_135 : decode cX9_countBack 135 = .ok (.iload 6, 2) := by decide +kernel
theorem dX9_countBack_137 : decode cX9_countBack 137 = .ok (.aload_n 0, 1) := by decide +kernel
theorem dX9_countBack_138 : decode cX9_countBack 138 = .ok (.aload_n 1, 1) := by decide +kernel
theorem dX9_countBack_139 : decode cX9_countBack 139 = .ok (.aload_n 2, 1) := by decide +kernel
theorem dX9_countBack_140 : decode cX9_countBack 140 = .ok (.iload 9, 2) := by decide +kernel
theorem dX9_countBack_142 : decode cX9_countBack 142 = .ok (.iload 7, 2) := by decide +kernel
theorem dX9_countBack_144 : decode cX9_countBack 144 = .ok (.iload 5, 2) := by decide +kernel
theorem dX9_countBack_146 : decode cX9_countBack 146 = .ok (.iconst 1, 1) := by decide +kernel
theorem dX9_countBack_147 : decode cX9_countBack 147 = .ok (.iload 9, 2) := by decide +kernel
theorem dX9_countBack_149 : decode cX9_countBack 149 = .ok (.ishl, 1) := by decide +kernel
theorem dX9_countBack_150 : decode cX9_countBack 150 = .ok (.ior, 1) := by decide +kernel
theorem dX9_countBack_151 : decode cX9_countBack 151 = .ok (.invokevirtual 133, 3) := by decide +kernel
theorem dX9_countBack_154 : decode cX9_countBack 154 = .ok (.iadd, 1) := by decide +kernel
theorem dX9_countBack_155 : decode cX9_countBack 155 = .ok (.istore 6, 2) := by decide +kernel
theorem dX9_countBack_157 : decode cX9_countBack 157 = .ok (.goto 20, 3) := by decide +kernel
theorem dX9_countBack_160 : decode cX9_countBack 160 = .ok (.aload_n 0, 1) := by decide +kernel
theorem dX9_countBack_161 : decode cX9_countBack 161 = .ok (.getfield 15, 3) := by decide +kernel
theorem dX9_countBack_164 : decode cX9_countBack 164 = .ok (.iload 7, 2) := by decide +kernel
theorem dX9_countBack_166 : decode cX9_countBack 166 = .ok (.iaload, 1) := by decide +kernel
theorem dX9_countBack_167 : decode cX9_countBack 167 = .ok (.aload_n 0, 1) := by decide +kernel
theorem dX9_countBack_168 : decode cX9_countBack 168 = .ok (.getfield 130, 3) := by decide +kernel
theorem dX9_countBack_171 : decode cX9_countBack 171 = .ok (.if_icmp .gt 6, 3) := by decide +kernel
theorem dX9_countBack_174 : decode cX9_countBack 174 = .ok (.iinc 6 1, 3) := by decide +kernel
theorem dX9_countBack_177 : decode cX9_countBack 177 = .ok (.iinc 8 1, 3) := by decide +kernel
theorem dX9_countBack_180 : decode cX9_countBack 180 = .ok (.goto (-143), 3) := by decide +kernel
theorem dX9_countBack_183 : decode cX9_countBack 183 = .ok (.iload 6, 2) := by decide +kernel
theorem dX9_countBack_185 : decode cX9_countBack 185 = .ok (.ireturn, 1) := by decide +kernel
abbrev mX9_countBack : MI := (RX9, yX9_countBack, cX9_countBack, 10, (some .int))
theorem mok_X9_countBack : MOKv mX9_countBack 5 := ⟨⟨bm_1002, bm_124, ⟨by decide, by decide⟩, by decide +kernel⟩, bm_1001, bm_24⟩
def f_X9_countBack_177 (kr : Int32 × Int32 × Int32 → MH → Option (Int32 × MH)) (k37 : Int32 × Int32 → MH → Option (Int32 × MH)) (a0 : Nat) (a1 : Nat) (a2 : Nat) (x3 : Int32) (x5 : Int32) (x6 : Int32) (x7 : Int32) (x8 : Int32) (h : MH) : Option (Int32 × MH) :=
  k37 (x6, (x8 + 1)) h
def f_X9_countBack_109 (kr : Int32 × Int32 × Int32 → MH → Option (Int32 × MH)) (k37 : Int32 × Int32 → MH → Option (Int32 × MH)) (a0 : Nat) (a1 : Nat) (a2 : Nat) (x3 : Int32) (x5 : Int32) (x6 : Int32) (x7 : Int32) (x8 : Int32) (x9 : Int32) (h : MH) : Option (Int32 × MH) :=
  (gR h a0 0).bind fun a_1 =>
  (stI h a_1 x7 x8).bind fun h_2 =>
  (f_X9_writeFrom a0 a1 a2 x7 h_2).bind fun q_3 =>
  if x9 = (gI q_3 a0 6) then
    (gR q_3 a0 3).bind fun a_4 =>
    (ldI q_3 a_4 x7).bind fun x_5 =>
    if (gI q_3 a0 8) < x_5 then
      f_X9_countBack_177 kr k37 a0 a1 a2 x3 x5 x6 x7 x8 q_3
    else
      f_X9_countBack_177 kr k37 a0 a1 a2 x3 x5 (x6 + 1) x7 x8 q_3
  else
    (kr (x9, x7, (x5 ||| ((1 : Int32) <<< (x9 &&& 31)))) q_3).bind fun q_6 =>
    lt (x6 + q_6.1) fun x_7 =>
    f_X9_countBack_177 kr k37 a0 a1 a2 x3 x5 x_7 x7 x8 q_6.2
def f_X9_countBack_37b (kr : Int32 × Int32 × Int32 → MH → Option (Int32 × MH))  (a0 : Nat) (a1 : Nat) (a2 : Nat) (x3 : Int32) (x5 : Int32) (x7 : Int32) (k37 : Int32 × Int32 → MH → Option (Int32 × MH)) (p : Int32 × Int32) (h : MH) : Option (Int32 × MH) :=
  if p.2 < (gI h a1 1) then
    (gR h a1 3).bind fun a_1 =>
    (ldI h a_1 p.2).bind fun x_2 =>
    (gR h a1 4).bind fun a_3 =>
    (ldI h a_3 p.2).bind fun x_4 =>
    if x_4 = x3 then
      (f_X2_isUp a1 p.2 h).bind fun q_5 =>
      if q_5.1 = 0 then
        f_X9_countBack_177 kr k37 a0 a1 a2 x3 x5 p.1 x7 p.2 q_5.2
      else
        if ((ush x5 x_2) &&& 1) = 0 then
          if x_2 = (gI q_5.2 a0 6) then
            f_X9_countBack_109 kr k37 a0 a1 a2 x3 x5 p.1 x7 p.2 x_2 q_5.2
          else
            if (gI q_5.2 a0 7) < x7 then
              f_X9_countBack_109 kr k37 a0 a1 a2 x3 x5 p.1 x7 p.2 x_2 q_5.2
            else
              f_X9_countBack_177 kr k37 a0 a1 a2 x3 x5 p.1 x7 p.2 q_5.2
        else
          f_X9_countBack_177 kr k37 a0 a1 a2 x3 x5 p.1 x7 p.2 q_5.2
    else
      f_X9_countBack_177 kr k37 a0 a1 a2 x3 x5 p.1 x7 p.2 h
  else
    some (p.1, h)
def f_X9_countBack_37 (kr : Int32 × Int32 × Int32 → MH → Option (Int32 × MH))  (a0 : Nat) (a1 : Nat) (a2 : Nat) (x3 : Int32) (x5 : Int32) (x7 : Int32) : Nat → Int32 × Int32 → MH → Option (Int32 × MH) := lp (f_X9_countBack_37b kr a0 a1 a2 x3 x5 x7)
def f_X9_countBackb (kr : Int32 × Int32 × Int32 → MH → Option (Int32 × MH))  (a0 : Nat) (a1 : Nat) (a2 : Nat) (x3 : Int32) (x4 : Int32) (x5 : Int32) (h : MH) : Option (Int32 × MH) :=
  if (gI h a0 7) < x4 then
    if 0 < x4 then
      if (gI h a0 1) < x4 then
        some (0, h)
      else
        lt (x4 - 1) fun x_1 =>
        f_X9_countBack_37 kr a0 a1 a2 x3 x5 x_1 FU (0, 0) h
    else
      some (0, h)
  else
    some (0, h)
def f_X9_countBack (a0 : Nat) (a1 : Nat) (a2 : Nat) : Nat → Int32 × Int32 × Int32 → MH → Option (Int32 × MH) := lp (fun kr p h => f_X9_countBackb kr a0 a1 a2 p.1 p.2.1 p.2.2 h)
set_option maxRecDepth 100000 in
set_option maxHeartbeats 4000000 in
theorem v_X9_countBack_177 {l : Launch} {G : GE} {B N : Nat} {S : List SHP} {o : Int32 × MH} {a0 : Nat} {a1 : Nat} {a2 : Nat} {x3 : Int32} {x5 : Int32} {x6 : Int32} {x7 : Int32} {x8 : Int32} {kr : Int32 × Int32 × Int32 → MH → Option (Int32 × MH)} {dk : Nat} (hdk : 7 ≤ dk) (hkr : ∀ (p : Int32 × Int32 × Int32) (h : MH) (q : Int32 × MH), kr p h = some q → CT l mX9_countBack dk false 0 0 S [.ref a0, .ref a1, .ref a2, .int p.1, .int p.2.1, .int p.2.2] h (QI S q)) {k37 : Int32 × Int32 → MH → Option (Int32 × MH)} (hk37 : ∀ (p : Int32 × Int32) (h : MH), k37 p h = some o → V l G B N mX9_countBack (rmm (dk + 1) 0 0) false 0 0 (QI S o) S 0 0 37 [(0, .ref a0), (1, .ref a1), (2, .ref a2), (3, .int x3), (5, .int x5), (6, .int p.1), (7, .int x7), (8, .int p.2)] [] h) (hs0 : S[a0]? = some (.inl 9)) (hs1 : S[a1]? = some (.inl 2)) (hs2 : S[a2]? = some (.inl 4)) {h : MH} (hf : f_X9_countBack_177 kr k37 a0 a1 a2 x3 x5 x6 x7 x8 h = some o) : V l G B N mX9_countBack (rmm (dk + 1) 0 0) false 0 0 (QI S o) S 0 0 177 [(0, .ref a0), (1, .ref a1), (2, .ref a2), (3, .int x3), (5, .int x5), (6, .int x6), (7, .int x7), (8, .int x8)] [] h := by
  unfold f_X9_countBack_177 at hf
  refine V_iinc (v := (x8 + 1)) (lv' := [(8, .int (x8 + 1)), (0, .ref a0), (1, .ref a1), (2, .ref a2), (3, .int x3), (5, .int x5), (6, .int x6), (7, .int x7)]) (pc' := 180) dX9_countBack_177 rfl 7 rfl rfl (Nat.le_of_ble_eq_true rfl) rfl ?_
  refine V_goto (tgt := 37) dX9_countBack_180 (by decide) ?_
  exact V_sub (lv' := [(0, .ref a0), (1, .ref a1), (2, .ref a2), (3, .int x3), (5, .int x5), (6, .int x6), (7, .int x7), (8, .int (x8 + 1))]) [1, 2, 3, 4, 5, 6, 7, 0] rfl (hk37 (x6, (x8 + 1)) h hf)
set_option maxRecDepth 100000 in
set_option maxHeartbeats 4000000 in
theorem v_X9_countBack_109 {l : Launch} {G : GE} {B N : Nat} {S : List SHP} {o : Int32 × MH} {a0 : Nat} {a1 : Nat} {a2 : Nat} {x3 : Int32} {x5 : Int32} {x6 : Int32} {x7 : Int32} {x8 : Int32} {x9 : Int32} {kr : Int32 × Int32 × Int32 → MH → Option (Int32 × MH)} {dk : Nat} (hdk : 7 ≤ dk) (hkr : ∀ (p : Int32 × Int32 × Int32) (h : MH) (q : Int32 × MH), kr p h = some q → CT l mX9_countBack dk false 0 0 S [.ref a0, .ref a1, .ref a2, .int p.1, .int p.2.1, .int p.2.2] h (QI S q)) {k37 : Int32 × Int32 → MH → Option (Int32 × MH)} (hk37 : ∀ (p : Int32 × Int32) (h : MH), k37 p h = some o → V l G B N mX9_countBack (rmm (dk + 1) 0 0) false 0 0 (QI S o) S 0 0 37 [(0, .ref a0), (1, .ref a1), (2, .ref a2), (3, .int x3), (5, .int x5), (6, .int p.1), (7, .int x7), (8, .int p.2)] [] h) (hs0 : S[a0]? = some (.inl 9)) (hs1 : S[a1]? = some (.inl 2)) (hs2 : S[a2]? = some (.inl 4)) {h : MH} (hf : f_X9_countBack_109 kr k37 a0 a1 a2 x3 x5 x6 x7 x8 x9 h = some o) : V l G B N mX9_countBack (rmm (dk + 1) 0 0) false 0 0 (QI S o) S 0 0 109 [(0, .ref a0), (1, .ref a1), (2, .ref a2), (3, .int x3), (5, .int x5), (6, .int x6), (7, .int x7), (8, .int x8), (9, .int x9)] [] h := by
  unfold f_X9_countBack_109 at hf
  refine V_aload_n (pc' := 110) dX9_countBack_109 rfl 0 rfl rfl ?_
  refine V_getR (pc' := 113) 9 0 dX9_countBack_110 rfl (by decide) (Nat.le_of_ble_eq_true rfl) bm_362 hs0 (fun _ _ _ => rfl) rfl hf (fun a_1 ha_1 hf => ?_)
  refine V_iload (pc' := 115) dX9_countBack_113 rfl 6 rfl ?_
  refine V_iload (pc' := 117) dX9_countBack_115 rfl 7 rfl ?_
  refine V_iast (pc' := 118) dX9_countBack_117 rfl ha_1 hf (fun h_2 hf => ?_)
  refine V_aload_n (pc' := 119) dX9_countBack_118 rfl 0 rfl rfl ?_
  refine V_aload_n (pc' := 120) dX9_countBack_119 rfl 1 rfl rfl ?_
  refine V_aload_n (pc' := 121) dX9_countBack_120 rfl 2 rfl rfl ?_
  refine V_iload (pc' := 123) dX9_countBack_121 rfl 6 rfl ?_
  refine V_cvV (pc' := 126) (As := [.ref a1, .ref a2, .int x7]) (rest := []) dX9_countBack_123 rfl mok_X9_writeFrom bm_718 9 (by decide) rfl hs0 rfl rfl (Nat.le_of_ble_eq_true rfl) (by simp only [rmm]; omega) hf (fun q e => ct_X9_writeFrom hs0 hs1 hs2 e) (fun q_3 hf => ?_)
  refine V_iload (pc' := 128) dX9_countBack_126 rfl 8 rfl ?_
  refine V_aload_n (pc' := 129) dX9_countBack_128 rfl 0 rfl rfl ?_
  refine V_getI (pc' := 132) 9 6 dX9_countBack_129 rfl (by decide) (Nat.le_of_ble_eq_true rfl) bm_369 hs0 (fun _ _ _ => rfl) ?_
  refine V_icmp_eq (tgt := 160) (pc' := 135) dX9_countBack_132 (by decide) rfl hf (fun hf => ?_) (fun hf => ?_)
  ·
    refine V_aload_n (pc' := 161) dX9_countBack_160 rfl 0 rfl rfl ?_
    refine V_getR (pc' := 164) 9 3 dX9_countBack_161 rfl (by decide) (Nat.le_of_ble_eq_true rfl) bm_365 hs0 (fun _ _ _ => rfl) rfl hf (fun a_4 ha_4 hf => ?_)
    refine V_iload (pc' := 166) dX9_countBack_164 rfl 6 rfl ?_
    refine V_iald (pc' := 167) dX9_countBack_166 rfl ha_4 hf (fun x_5 hf => ?_)
    refine V_aload_n (pc' := 168) dX9_countBack_167 rfl 0 rfl rfl ?_
    refine V_getI (pc' := 171) 9 8 dX9_countBack_168 rfl (by decide) (Nat.le_of_ble_eq_true rfl) bm_371 hs0 (fun _ _ _ => rfl) ?_
    refine V_icmp_gt (tgt := 177) (pc' := 174) dX9_countBack_171 (by decide) rfl hf (fun hf => ?_) (fun hf => ?_)
    ·
      exact V_sub (lv' := [(0, .ref a0), (1, .ref a1), (2, .ref a2), (3, .int x3), (5, .int x5), (6, .int x6), (7, .int x7), (8, .int x8)]) [0, 1, 2, 3, 4, 5, 6, 7] rfl (v_X9_countBack_177 hdk hkr hk37 hs0 hs1 hs2 hf)
    ·
      refine V_iinc (v := (x6 + 1)) (lv' := [(6, .int (x6 + 1)), (0, .ref a0), (1, .ref a1), (2, .ref a2), (3, .int x3), (5, .int x5), (7, .int x7), (8, .int x8), (9, .int x9)]) (pc' := 177) dX9_countBack_174 rfl 5 rfl rfl (Nat.le_of_ble_eq_true rfl) rfl ?_
      exact V_sub (lv' := [(0, .ref a0), (1, .ref a1), (2, .ref a2), (3, .int x3), (5, .int x5), (6, .int (x6 + 1)), (7, .int x7), (8, .int x8)]) [1, 2, 3, 4, 5, 0, 6, 7] rfl (v_X9_countBack_177 hdk hkr hk37 hs0 hs1 hs2 hf)
  ·
    refine V_iload (pc' := 137) dX9_countBack_135 rfl 5 rfl ?_
    refine V_aload_n (pc' := 138) dX9_countBack_137 rfl 0 rfl rfl ?_
    refine V_aload_n (pc' := 139) dX9_countBack_138 rfl 1 rfl rfl ?_
    refine V_aload_n (pc' := 140) dX9_countBack_139 rfl 2 rfl rfl ?_
    refine V_iload (pc' := 142) dX9_countBack_140 rfl 8 rfl ?_
    refine V_iload (pc' := 144) dX9_countBack_142 rfl 6 rfl ?_
    refine V_iload (pc' := 146) dX9_countBack_144 rfl 4 rfl ?_
    refine V_iconst (v := 1) (pc' := 147) dX9_countBack_146 rfl (by decide) ?_
    refine V_iload (pc' := 149) dX9_countBack_147 rfl 8 rfl ?_
    refine V_ishl (pc' := 150) dX9_countBack_149 rfl ?_
    refine V_ior (pc' := 151) dX9_countBack_150 rfl ?_
    refine V_cvI (pc' := 154) (As := [.ref a1, .ref a2, .int x9, .int x7, .int (x5 ||| ((1 : Int32) <<< (x9 &&& 31)))]) (rest := [.int x6]) dX9_countBack_151 rfl mok_X9_countBack bm_999 9 (by decide) rfl hs0 rfl rfl (Nat.le_of_ble_eq_true rfl) (by simp only [rmm]; omega) hf (fun q e => hkr (x9, x7, (x5 ||| ((1 : Int32) <<< (x9 &&& 31)))) q_3 q e) (fun q_6 hf => ?_)
    refine V_iadd (pc' := 155) dX9_countBack_154 rfl ?_
    refine V_nmI hf (fun x_7 hf => ?_)
    refine V_istore (lv' := [(6, .int x_7), (0, .ref a0), (1, .ref a1), (2, .ref a2), (3, .int x3), (5, .int x5), (7, .int x7), (8, .int x8), (9, .int x9)]) (pc' := 157) dX9_countBack_155 rfl (Nat.le_of_ble_eq_true rfl) rfl ?_
    refine V_goto (tgt := 177) dX9_countBack_157 (by decide) ?_
    exact V_sub (lv' := [(0, .ref a0), (1, .ref a1), (2, .ref a2), (3, .int x3), (5, .int x5), (6, .int x_7), (7, .int x7), (8, .int x8)]) [1, 2, 3, 4, 5, 0, 6, 7] rfl (v_X9_countBack_177 hdk hkr hk37 hs0 hs1 hs2 hf)
set_option maxRecDepth 100000 in
set_option maxHeartbeats 4000000 in
theorem v_X9_countBack_37b {l : Launch} {G : GE} {B N : Nat} {S : List SHP} {o : Int32 × MH} {a0 : Nat} {a1 : Nat} {a2 : Nat} {x3 : Int32} {x5 : Int32} {x7 : Int32} {kr : Int32 × Int32 × Int32 → MH → Option (Int32 × MH)} {dk : Nat} (hdk : 7 ≤ dk) (hkr : ∀ (p : Int32 × Int32 × Int32) (h : MH) (q : Int32 × MH), kr p h = some q → CT l mX9_countBack dk false 0 0 S [.ref a0, .ref a1, .ref a2, .int p.1, .int p.2.1, .int p.2.2] h (QI S q))   (hs0 : S[a0]? = some (.inl 9)) (hs1 : S[a1]? = some (.inl 2)) (hs2 : S[a2]? = some (.inl 4)) {k37 : Int32 × Int32 → MH → Option (Int32 × MH)} (hk37 : ∀ (p : Int32 × Int32) (h : MH), k37 p h = some o → V l G B N mX9_countBack (rmm (dk + 1) 0 0) false 0 0 (QI S o) S 0 0 37 [(0, .ref a0), (1, .ref a1), (2, .ref a2), (3, .int x3), (5, .int x5), (6, .int p.1), (7, .int x7), (8, .int p.2)] [] h) {p : Int32 × Int32} {h : MH} (hf : f_X9_countBack_37b kr a0 a1 a2 x3 x5 x7 k37 p h = some o) : V l G B N mX9_countBack (rmm (dk + 1) 0 0) false 0 0 (QI S o) S 0 0 37 [(0, .ref a0), (1, .ref a1), (2, .ref a2), (3, .int x3), (5, .int x5), (6, .int p.1), (7, .int x7), (8, .int p.2)] [] h := by
  unfold f_X9_countBack_37b at hf
  refine V_iload (pc' := 39) dX9_countBack_37 rfl 7 rfl ?_
  refine V_aload_n (pc' := 40) dX9_countBack_39 rfl 1 rfl rfl ?_
  refine V_getI (pc' := 43) 2 1 dX9_countBack_40 rfl (by decide) (Nat.le_of_ble_eq_true rfl) bm_193 hs1 (fun _ _ _ => rfl) ?_
  refine V_icmp_ge (tgt := 183) (pc' := 46) dX9_countBack_43 (by decide) rfl hf (fun hf => ?_) (fun hf => ?_)
  ·
    refine V_aload_n (pc' := 47) dX9_countBack_46 rfl 1 rfl rfl ?_
    refine V_getR (pc' := 50) 2 3 dX9_countBack_47 rfl (by decide) (Nat.le_of_ble_eq_true rfl) bm_201 hs1 (fun _ _ _ => rfl) rfl hf (fun a_1 ha_1 hf => ?_)
    refine V_iload (pc' := 52) dX9_countBack_50 rfl 7 rfl ?_
    refine V_iald (pc' := 53) dX9_countBack_52 rfl ha_1 hf (fun x_2 hf => ?_)
    refine V_istore (lv' := [(9, .int x_2), (0, .ref a0), (1, .ref a1), (2, .ref a2), (3, .int x3), (5, .int x5), (6, .int p.1), (7, .int x7), (8, .int p.2)]) (pc' := 55) dX9_countBack_53 rfl (Nat.le_of_ble_eq_true rfl) rfl ?_
    refine V_aload_n (pc' := 56) dX9_countBack_55 rfl 2 rfl rfl ?_
    refine V_getR (pc' := 59) 2 4 dX9_countBack_56 rfl (by decide) (Nat.le_of_ble_eq_true rfl) bm_205 hs1 (fun _ _ _ => rfl) rfl hf (fun a_3 ha_3 hf => ?_)
    refine V_iload (pc' := 61) dX9_countBack_59 rfl 8 rfl ?_
    refine V_iald (pc' := 62) dX9_countBack_61 rfl ha_3 hf (fun x_4 hf => ?_)
    refine V_iload_n (pc' := 63) dX9_countBack_62 rfl 4 rfl rfl ?_
    refine V_icmp_ne (tgt := 177) (pc' := 66) dX9_countBack_63 (by decide) rfl hf (fun hf => ?_) (fun hf => ?_)
    ·
      refine V_aload_n (pc' := 67) dX9_countBack_66 rfl 2 rfl rfl ?_
      refine V_iload (pc' := 69) dX9_countBack_67 rfl 8 rfl ?_
      refine V_cvI (pc' := 72) (As := [.int p.2]) (rest := []) dX9_countBack_69 rfl mok_X2_isUp bm_735 2 (by decide) rfl hs1 rfl rfl (Nat.le_of_ble_eq_true rfl) (by simp only [rmm]; omega) hf (fun q e => ct_X2_isUp hs1 e) (fun q_5 hf => ?_)
      refine V_if_eq (tgt := 177) (pc' := 75) dX9_countBack_72 (by decide) rfl hf (fun hf => ?_) (fun hf => ?_)
      ·
        exact V_sub (lv' := [(0, .ref a0), (1, .ref a1), (2, .ref a2), (3, .int x3), (5, .int x5), (6, .int p.1), (7, .int x7), (8, .int p.2)]) [1, 2, 3, 4, 5, 6, 7, 8] rfl (v_X9_countBack_177 hdk hkr hk37 hs0 hs1 hs2 hf)
      ·
        refine V_iload (pc' := 77) dX9_countBack_75 rfl 5 rfl ?_
        refine V_iload (pc' := 79) dX9_countBack_77 rfl 0 rfl ?_
        refine V_iushr (pc' := 80) dX9_countBack_79 rfl ?_
        refine V_iconst (v := 1) (pc' := 81) dX9_countBack_80 rfl (by decide) ?_
        refine V_iand (pc' := 82) dX9_countBack_81 rfl ?_
        refine V_if_eq (tgt := 88) (pc' := 85) dX9_countBack_82 (by decide) rfl hf (fun hf => ?_) (fun hf => ?_)
        ·
          refine V_iload (pc' := 90) dX9_countBack_88 rfl 0 rfl ?_
          refine V_aload_n (pc' := 91) dX9_countBack_90 rfl 1 rfl rfl ?_
          refine V_getI (pc' := 94) 9 6 dX9_countBack_91 rfl (by decide) (Nat.le_of_ble_eq_true rfl) bm_369 hs0 (fun _ _ _ => rfl) ?_
          refine V_icmp_eq (tgt := 109) (pc' := 97) dX9_countBack_94 (by decide) rfl hf (fun hf => ?_) (fun hf => ?_)
          ·
            exact V_sub (lv' := [(0, .ref a0), (1, .ref a1), (2, .ref a2), (3, .int x3), (5, .int x5), (6, .int p.1), (7, .int x7), (8, .int p.2), (9, .int x_2)]) [1, 2, 3, 4, 5, 6, 7, 8, 0] rfl (v_X9_countBack_109 hdk hkr hk37 hs0 hs1 hs2 hf)
          ·
            refine V_iload (pc' := 99) dX9_countBack_97 rfl 7 rfl ?_
            refine V_aload_n (pc' := 100) dX9_countBack_99 rfl 1 rfl rfl ?_
            refine V_getI (pc' := 103) 9 7 dX9_countBack_100 rfl (by decide) (Nat.le_of_ble_eq_true rfl) bm_370 hs0 (fun _ _ _ => rfl) ?_
            refine V_icmp_gt (tgt := 109) (pc' := 106) dX9_countBack_103 (by decide) rfl hf (fun hf => ?_) (fun hf => ?_)
            ·
              exact V_sub (lv' := [(0, .ref a0), (1, .ref a1), (2, .ref a2), (3, .int x3), (5, .int x5), (6, .int p.1), (7, .int x7), (8, .int p.2), (9, .int x_2)]) [1, 2, 3, 4, 5, 6, 7, 8, 0] rfl (v_X9_countBack_109 hdk hkr hk37 hs0 hs1 hs2 hf)
            ·
              refine V_goto (tgt := 177) dX9_countBack_106 (by decide) ?_
              exact V_sub (lv' := [(0, .ref a0), (1, .ref a1), (2, .ref a2), (3, .int x3), (5, .int x5), (6, .int p.1), (7, .int x7), (8, .int p.2)]) [1, 2, 3, 4, 5, 6, 7, 8] rfl (v_X9_countBack_177 hdk hkr hk37 hs0 hs1 hs2 hf)
        ·
          refine V_goto (tgt := 177) dX9_countBack_85 (by decide) ?_
          exact V_sub (lv' := [(0, .ref a0), (1, .ref a1), (2, .ref a2), (3, .int x3), (5, .int x5), (6, .int p.1), (7, .int x7), (8, .int p.2)]) [1, 2, 3, 4, 5, 6, 7, 8] rfl (v_X9_countBack_177 hdk hkr hk37 hs0 hs1 hs2 hf)
    ·
      exact V_sub (lv' := [(0, .ref a0), (1, .ref a1), (2, .ref a2), (3, .int x3), (5, .int x5), (6, .int p.1), (7, .int x7), (8, .int p.2)]) [1, 2, 3, 4, 5, 6, 7, 8] rfl (v_X9_countBack_177 hdk hkr hk37 hs0 hs1 hs2 hf)
  ·
    refine V_iload (pc' := 185) dX9_countBack_183 rfl 5 rfl ?_
    obtain rfl := Option.some.inj hf
    exact V_iret dX9_countBack_185 rfl rfl rfl ⟨rfl, rfl, rfl⟩
theorem v_X9_countBack_37 {l : Launch} {G : GE} {B N : Nat} {S : List SHP} {o : Int32 × MH} {a0 : Nat} {a1 : Nat} {a2 : Nat} {x3 : Int32} {x5 : Int32} {x7 : Int32} {kr : Int32 × Int32 × Int32 → MH → Option (Int32 × MH)} {dk : Nat} (hdk : 7 ≤ dk) (hkr : ∀ (p : Int32 × Int32 × Int32) (h : MH) (q : Int32 × MH), kr p h = some q → CT l mX9_countBack dk false 0 0 S [.ref a0, .ref a1, .ref a2, .int p.1, .int p.2.1, .int p.2.2] h (QI S q))   (hs0 : S[a0]? = some (.inl 9)) (hs1 : S[a1]? = some (.inl 2)) (hs2 : S[a2]? = some (.inl 4)) {n : Nat} {p : Int32 × Int32} {h : MH} (hf : f_X9_countBack_37 kr a0 a1 a2 x3 x5 x7 n p h = some o) : V l G B N mX9_countBack (rmm (dk + 1) 0 0) false 0 0 (QI S o) S 0 0 37 [(0, .ref a0), (1, .ref a1), (2, .ref a2), (3, .int x3), (5, .int x5), (6, .int p.1), (7, .int x7), (8, .int p.2)] [] h :=
  V_lp (VV := fun p h => V l G B N mX9_countBack (rmm (dk + 1) 0 0) false 0 0 (QI S o) S 0 0 37 [(0, .ref a0), (1, .ref a1), (2, .ref a2), (3, .int x3), (5, .int x5), (6, .int p.1), (7, .int x7), (8, .int p.2)] [] h) (fun _ hk _ _ hf => v_X9_countBack_37b hdk hkr hs0 hs1 hs2 hk hf) n p h hf
set_option maxRecDepth 100000 in
set_option maxHeartbeats 4000000 in
theorem v_X9_countBack {l : Launch} {G : GE} {B N : Nat} {S : List SHP} {o : Int32 × MH} {a0 : Nat} {a1 : Nat} {a2 : Nat} {x3 : Int32} {x4 : Int32} {x5 : Int32} {kr : Int32 × Int32 × Int32 → MH → Option (Int32 × MH)} {dk : Nat} (hdk : 7 ≤ dk) (hkr : ∀ (p : Int32 × Int32 × Int32) (h : MH) (q : Int32 × MH), kr p h = some q → CT l mX9_countBack dk false 0 0 S [.ref a0, .ref a1, .ref a2, .int p.1, .int p.2.1, .int p.2.2] h (QI S q)) (hs0 : S[a0]? = some (.inl 9)) (hs1 : S[a1]? = some (.inl 2)) (hs2 : S[a2]? = some (.inl 4)) {h : MH} (hf : f_X9_countBackb kr a0 a1 a2 x3 x4 x5 h = some o) : V l G B N mX9_countBack (rmm (dk + 1) 0 0) false 0 0 (QI S o) S 0 0 0 [(0, .ref a0), (1, .ref a1), (2, .ref a2), (3, .int x3), (4, .int x4), (5, .int x5)] [] h := by
  unfold f_X9_countBackb at hf
  refine V_iload (pc' := 2) dX9_countBack_0 rfl 4 rfl ?_
  refine V_aload_n (pc' := 3) dX9_countBack_2 rfl 0 rfl rfl ?_
  refine V_getI (pc' := 6) 9 7 dX9_countBack_3 rfl (by decide) (Nat.le_of_ble_eq_true rfl) bm_370 hs0 (fun _ _ _ => rfl) ?_
  refine V_icmp_le (tgt := 23) (pc' := 9) dX9_countBack_6 (by decide) rfl hf (fun hf => ?_) (fun hf => ?_)
  ·
    refine V_iload (pc' := 11) dX9_countBack_9 rfl 4 rfl ?_
    refine V_if_le (tgt := 23) (pc' := 14) dX9_countBack_11 (by decide) rfl hf (fun hf => ?_) (fun hf => ?_)
    ·
      refine V_iload (pc' := 16) dX9_countBack_14 rfl 4 rfl ?_
      refine V_aload_n (pc' := 17) dX9_countBack_16 rfl 0 rfl rfl ?_
      refine V_getI (pc' := 20) 9 1 dX9_countBack_17 rfl (by decide) (Nat.le_of_ble_eq_true rfl) bm_363 hs0 (fun _ _ _ => rfl) ?_
      refine V_icmp_le (tgt := 25) (pc' := 23) dX9_countBack_20 (by decide) rfl hf (fun hf => ?_) (fun hf => ?_)
      ·
        refine V_iconst (v := 0) (pc' := 24) dX9_countBack_23 rfl (by decide) ?_
        obtain rfl := Option.some.inj hf
        exact V_iret dX9_countBack_24 rfl rfl rfl ⟨rfl, rfl, rfl⟩
      ·
        refine V_iconst (v := 0) (pc' := 26) dX9_countBack_25 rfl (by decide) ?_
        refine V_istore (lv' := [(6, .int 0), (0, .ref a0), (1, .ref a1), (2, .ref a2), (3, .int x3), (4, .int x4), (5, .int x5)]) (pc' := 28) dX9_countBack_26 rfl (Nat.le_of_ble_eq_true rfl) rfl ?_
        refine V_iload (pc' := 30) dX9_countBack_28 rfl 5 rfl ?_
        refine V_iconst (v := 1) (pc' := 31) dX9_countBack_30 rfl (by decide) ?_
        refine V_isub (pc' := 32) dX9_countBack_31 rfl ?_
        refine V_nmI hf (fun x_1 hf => ?_)
        refine V_istore (lv' := [(7, .int x_1), (6, .int 0), (0, .ref a0), (1, .ref a1), (2, .ref a2), (3, .int x3), (4, .int x4), (5, .int x5)]) (pc' := 34) dX9_countBack_32 rfl (Nat.le_of_ble_eq_true rfl) rfl ?_
        refine V_iconst (v := 0) (pc' := 35) dX9_countBack_34 rfl (by decide) ?_
        refine V_istore (lv' := [(8, .int 0), (7, .int x_1), (6, .int 0), (0, .ref a0), (1, .ref a1), (2, .ref a2), (3, .int x3), (4, .int x4), (5, .int x5)]) (pc' := 37) dX9_countBack_35 rfl (Nat.le_of_ble_eq_true rfl) rfl ?_
        exact V_sub (lv' := [(0, .ref a0), (1, .ref a1), (2, .ref a2), (3, .int x3), (5, .int x5), (6, .int 0), (7, .int x_1), (8, .int 0)]) [3, 4, 5, 6, 8, 2, 1, 0] rfl (v_X9_countBack_37 hdk hkr hs0 hs1 hs2 hf)
    ·
      refine V_iconst (v := 0) (pc' := 24) dX9_countBack_23 rfl (by decide) ?_
      obtain rfl := Option.some.inj hf
      exact V_iret dX9_countBack_24 rfl rfl rfl ⟨rfl, rfl, rfl⟩
  ·
    refine V_iconst (v := 0) (pc' := 24) dX9_countBack_23 rfl (by decide) ?_
    obtain rfl := Option.some.inj hf
    exact V_iret dX9_countBack_24 rfl rfl rfl ⟨rfl, rfl, rfl⟩
theorem ctd_X9_countBack {l : Launch} {S : List SHP} {a0 : Nat} {a1 : Nat} {a2 : Nat} (hs0 : S[a0]? = some (.inl 9)) (hs1 : S[a1]? = some (.inl 2)) (hs2 : S[a2]? = some (.inl 4)) : ∀ (D : Nat) (p : Int32 × Int32 × Int32) (h : MH) (q : Int32 × MH), f_X9_countBack a0 a1 a2 D p h = some q → CT l mX9_countBack (D + 7) false 0 0 S [.ref a0, .ref a1, .ref a2, .int p.1, .int p.2.1, .int p.2.2] h (QI S q)
  | 0, _, _, _, hf => by cases hf
  | D + 1, p, h, q, hf => by
    have e : D + 1 + 7 = (D + 7) + 1 := by omega
    rw [e]
    exact CT_ofV (by decide) rfl (Nat.le_of_ble_eq_true rfl) (fun G B hT => v_X9_countBack (kr := f_X9_countBack a0 a1 a2 D) (dk := D + 7) (by omega) (fun p h q hq => ctd_X9_countBack hs0 hs1 hs2 D p h q hq) hs0 hs1 hs2 hf)
theorem ct_X9_countBack {l : Launch} {S : List SHP} {h : MH} {a0 : Nat} {a1 : Nat} {a2 : Nat} (hs0 : S[a0]? = some (.inl 9)) (hs1 : S[a1]? = some (.inl 2)) (hs2 : S[a2]? = some (.inl 4)) {p : Int32 × Int32 × Int32} {q : Int32 × MH} (hf : f_X9_countBack a0 a1 a2 DW p h = some q) : CT l mX9_countBack 17 false 0 0 S [.ref a0, .ref a1, .ref a2, .int p.1, .int p.2.1, .int p.2.2] h (QI S q) := ctd_X9_countBack hs0 hs1 hs2 DW p h q hf
/-! LabelStacks$Writer.countWays(LLabelStacks$Network;LLabelStacks$Routes;IIIII)I -/
theorem dX9_countWays_0 : decode cX9_countWays 0 = .ok (.aload_n 0, 1) := by decide +kernel
theorem dX9_countWays_1 : decode cX9_countWays 1 = .ok (.bipush 6, 2) := by decide +kernel
theorem dX9_countWays_3 : decode cX9_countWays 3 = .ok (.putfield 36, 3) := by decide +kernel
theorem dX9_countWays_6 : decode cX9_countWays 6 = .ok (.aload_n 0, 1) := by decide +kernel
theorem dX9_countWays_7 : decode cX9_countWays 7 = .ok (.getfield 15, 3) := by decide +kernel
theorem dX9_countWays_10 : decode cX9_countWays 10 = .ok (.aload_n 0, 1) := by decide +kernel
theorem dX9_countWays_11 : decode cX9_countWays 11 = .ok (.getfield 36, 3) := by decide +kernel
theorem dX9_countWays_14 : decode cX9_countWays 14 = .ok (.iconst 0, 1) := by decide +kernel
theorem dX9_countWays_15 : decode cX9_countWays 15 = .ok (.iastore, 1) := by decide +kernel
theorem dX9_countWays_16 : decode cX9_countWays 16 = .ok (.aload_n 0, 1) := by decide +kernel
theorem dX9_countWays_17 : decode cX9_countWays 17 = .ok (.iload 7, 2) := by decide +kernel
theorem dX9_countWays_19 : decode cX9_countWays 19 = .ok (.putfield 52, 3) := by decide +kernel
theorem dX9_countWays_22 : decode cX9_countWays 22 = .ok (.aload_n 0, 1) := by decide +kernel
theorem dX9_countWays_23 : decode cX9_countWays 23 = .ok (.iload_n 3, 1) := by decide +kernel
theorem dX9_countWays_24 : decode cX9_countWays 24 = .ok (.putfield 124, 3) := by decide +kernel
theorem dX9_countWays_27 : decode cX9_countWays 27 = .ok (.aload_n 0, 1) := by decide +kernel
theorem dX9_countWays_28 : decode cX9_countWays 28 = .ok (.aload_n 0, 1) := by decide +kernel
theorem dX9_countWays_29 : decode cX9_countWays 29 = .ok (.getfield 36, 3) := by decide +kernel
theorem dX9_countWays_32 : decode cX9_countWays 32 = .ok (.iload 5, 2) := by decide +kernel
theorem dX9_countWays_34 : decode cX9_countWays 34 = .ok (.isub, 1) := by decide +kernel
theorem dX9_countWays_35 : decode cX9_countWays 35 = .ok (.putfield 127, 3) := by decide +kernel
theorem dX9_countWays_38 : decode cX9_countWays 38 = .ok (.aload_n 0, 1) := by decide +kernel
theorem dX9_countWays_39 : decode cX9_countWays 39 = .ok (.iload 6, 2) := by decide +kernel
theorem dX9_countWays_41 : decode cX9_countWays 41 = .ok (.putfield 130, 3) := by decide +kernel
theorem dX9_countWays_44 : decode cX9_countWays 44 = .ok (.aload_n 0, 1) := by decide +kernel
theorem dX9_countWays_45 : decode cX9_countWays 45 = .ok (.aload_n 1, 1) := by decide +kernel
theorem dX9_countWays_46 : decode cX9_countWays 46 = .ok (.aload_n 2, 1) := by decide +kernel
theorem dX9_countWays_47 : decode cX9_countWays 47 = .ok (.iload 4, 2) := by decide +kernel
theorem dX9_countWays_49 : decode cX9_countWays 49 = .ok (.aload_n 0, 1) := by decide +kernel
theorem dX9_countWays_50 : decode cX9_countWays 50 = .ok (.getfield 36, 3) := by decide +kernel
theorem dX9_countWays_53 : decode cX9_countWays 53 = .ok (.iconst 1, 1) := by decide +kernel
theorem dX9_countWays_54 : decode cX9_countWays 54 = .ok (.iload 4, 2) := by decide +kernel
theorem dX9_countWays_56 : decode cX9_countWays 56 = .ok (.ishl, 1) := by decide +kernel
theorem dX9_countWays_57 : decode cX9_countWays 57 = .ok (.invokevirtual 133, 3) := by decide +kernel
theorem dX9_countWays_60 : decode cX9_countWays 60 = .ok (.ireturn, 1) := by decide +kernel
abbrev mX9_countWays : MI := (RX9, yX9_countWays, cX9_countWays, 8, (some .int))
theorem mok_X9_countWays : MOKv mX9_countWays 7 := ⟨⟨bm_998, bm_124, ⟨by decide, by decide⟩, by decide +kernel⟩, bm_996, bm_997⟩
def f_X9_countWays   (a0 : Nat) (a1 : Nat) (a2 : Nat) (x3 : Int32) (x4 : Int32) (x5 : Int32) (x6 : Int32) (x7 : Int32) (h : MH) : Option (Int32 × MH) :=
  lt (sI h a0 1 6) fun h_1 =>
  (gR h_1 a0 3).bind fun a_2 =>
  (stI h_1 a_2 (gI h_1 a0 1) 0).bind fun h_3 =>
  lt (sI h_3 a0 2 x7) fun h_4 =>
  lt (sI h_4 a0 6 x3) fun h_5 =>
  lt (sI h_5 a0 7 ((gI h_5 a0 1) - x5)) fun h_6 =>
  lt (sI h_6 a0 8 x6) fun h_7 =>
  (f_X9_countBack a0 a1 a2 DW (x4, (gI h_7 a0 1), ((1 : Int32) <<< (x4 &&& 31))) h_7).bind fun q_8 =>
  some (q_8.1, q_8.2)
set_option maxRecDepth 100000 in
set_option maxHeartbeats 4000000 in
theorem v_X9_countWays {l : Launch} {G : GE} {B N : Nat} {S : List SHP} {o : Int32 × MH} {a0 : Nat} {a1 : Nat} {a2 : Nat} {x3 : Int32} {x4 : Int32} {x5 : Int32} {x6 : Int32} {x7 : Int32}    (hs0 : S[a0]? = some (.inl 9)) (hs1 : S[a1]? = some (.inl 2)) (hs2 : S[a2]? = some (.inl 4)) {h : MH} (hf : f_X9_countWays a0 a1 a2 x3 x4 x5 x6 x7 h = some o) : V l G B N mX9_countWays (rmm 18 0 0) false 0 0 (QI S o) S 0 0 0 [(0, .ref a0), (1, .ref a1), (2, .ref a2), (3, .int x3), (4, .int x4), (5, .int x5), (6, .int x6), (7, .int x7)] [] h := by
  unfold f_X9_countWays at hf
  refine V_aload_n (pc' := 1) dX9_countWays_0 rfl 0 rfl rfl ?_
  refine V_bipush (v := 6) (pc' := 3) dX9_countWays_1 rfl (by decide) ?_
  refine V_putI (pc' := 6) 9 1 dX9_countWays_3 rfl (by decide) (Nat.le_of_ble_eq_true rfl) bm_363 hs0 (Or.inl rfl) rfl ?_
  refine V_nmH hf (fun h_1 hf => ?_)
  refine V_aload_n (pc' := 7) dX9_countWays_6 rfl 0 rfl rfl ?_
  refine V_getR (pc' := 10) 9 3 dX9_countWays_7 rfl (by decide) (Nat.le_of_ble_eq_true rfl) bm_365 hs0 (fun _ _ _ => rfl) rfl hf (fun a_2 ha_2 hf => ?_)
  refine V_aload_n (pc' := 11) dX9_countWays_10 rfl 0 rfl rfl ?_
  refine V_getI (pc' := 14) 9 1 dX9_countWays_11 rfl (by decide) (Nat.le_of_ble_eq_true rfl) bm_363 hs0 (fun _ _ _ => rfl) ?_
  refine V_iconst (v := 0) (pc' := 15) dX9_countWays_14 rfl (by decide) ?_
  refine V_iast (pc' := 16) dX9_countWays_15 rfl ha_2 hf (fun h_3 hf => ?_)
  refine V_aload_n (pc' := 17) dX9_countWays_16 rfl 0 rfl rfl ?_
  refine V_iload (pc' := 19) dX9_countWays_17 rfl 7 rfl ?_
  refine V_putI (pc' := 22) 9 2 dX9_countWays_19 rfl (by decide) (Nat.le_of_ble_eq_true rfl) bm_364 hs0 (Or.inl rfl) rfl ?_
  refine V_nmH hf (fun h_4 hf => ?_)
  refine V_aload_n (pc' := 23) dX9_countWays_22 rfl 0 rfl rfl ?_
  refine V_iload_n (pc' := 24) dX9_countWays_23 rfl 3 rfl rfl ?_
  refine V_putI (pc' := 27) 9 6 dX9_countWays_24 rfl (by decide) (Nat.le_of_ble_eq_true rfl) bm_369 hs0 (Or.inl rfl) rfl ?_
  refine V_nmH hf (fun h_5 hf => ?_)
  refine V_aload_n (pc' := 28) dX9_countWays_27 rfl 0 rfl rfl ?_
  refine V_aload_n (pc' := 29) dX9_countWays_28 rfl 0 rfl rfl ?_
  refine V_getI (pc' := 32) 9 1 dX9_countWays_29 rfl (by decide) (Nat.le_of_ble_eq_true rfl) bm_363 hs0 (fun _ _ _ => rfl) ?_
  refine V_iload (pc' := 34) dX9_countWays_32 rfl 5 rfl ?_
  refine V_isub (pc' := 35) dX9_countWays_34 rfl ?_
  refine V_putI (pc' := 38) 9 7 dX9_countWays_35 rfl (by decide) (Nat.le_of_ble_eq_true rfl) bm_370 hs0 (Or.inl rfl) rfl ?_
  refine V_nmH hf (fun h_6 hf => ?_)
  refine V_aload_n (pc' := 39) dX9_countWays_38 rfl 0 rfl rfl ?_
  refine V_iload (pc' := 41) dX9_countWays_39 rfl 6 rfl ?_
  refine V_putI (pc' := 44) 9 8 dX9_countWays_41 rfl (by decide) (Nat.le_of_ble_eq_true rfl) bm_371 hs0 (Or.inl rfl) rfl ?_
  refine V_nmH hf (fun h_7 hf => ?_)
  refine V_aload_n (pc' := 45) dX9_countWays_44 rfl 0 rfl rfl ?_
  refine V_aload_n (pc' := 46) dX9_countWays_45 rfl 1 rfl rfl ?_
  refine V_aload_n (pc' := 47) dX9_countWays_46 rfl 2 rfl rfl ?_
  refine V_iload (pc' := 49) dX9_countWays_47 rfl 4 rfl ?_
  refine V_aload_n (pc' := 50) dX9_countWays_49 rfl 0 rfl rfl ?_
  refine V_getI (pc' := 53) 9 1 dX9_countWays_50 rfl (by decide) (Nat.le_of_ble_eq_true rfl) bm_363 hs0 (fun _ _ _ => rfl) ?_
  refine V_iconst (v := 1) (pc' := 54) dX9_countWays_53 rfl (by decide) ?_
  refine V_iload (pc' := 56) dX9_countWays_54 rfl 4 rfl ?_
  refine V_ishl (pc' := 57) dX9_countWays_56 rfl ?_
  refine V_cvI (pc' := 60) (As := [.ref a1, .ref a2, .int x4, .int (gI h_7 a0 1), .int ((1 : Int32) <<< (x4 &&& 31))]) (rest := []) dX9_countWays_57 rfl mok_X9_countBack bm_999 9 (by decide) rfl hs0 rfl rfl (Nat.le_of_ble_eq_true rfl) (by decide) hf (fun q e => ct_X9_countBack hs0 hs1 hs2 e) (fun q_8 hf => ?_)
  obtain rfl := Option.some.inj hf
  exact V_iret dX9_countWays_60 rfl rfl rfl ⟨rfl, rfl, rfl⟩
theorem ct_X9_countWays {l : Launch} {S : List SHP} {h : MH} {a0 : Nat} {a1 : Nat} {a2 : Nat} {x3 : Int32} {x4 : Int32} {x5 : Int32} {x6 : Int32} {x7 : Int32} (hs0 : S[a0]? = some (.inl 9)) (hs1 : S[a1]? = some (.inl 2)) (hs2 : S[a2]? = some (.inl 4)) {q : Int32 × MH} (hf : f_X9_countWays a0 a1 a2 x3 x4 x5 x6 x7 h = some q) : CT l mX9_countWays 18 false 0 0 S [.ref a0, .ref a1, .ref a2, .int x3, .int x4, .int x5, .int x6, .int x7] h (QI S q) :=
  CT_ofV (by decide) rfl (Nat.le_of_ble_eq_true rfl) (fun G B hT => v_X9_countWays hs0 hs1 hs2 hf)
