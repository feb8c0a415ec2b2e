/-! LabelStacks$State.copyFrom(LLabelStacks$State;)V -/
theorem dX7_copyFrom_0 : decode cX7_copyFrom 0 = .ok (.aload_n 0, 1) := by decide +kernel
theorem dX7_copyFrom_1 : decode cX7_copyFrom 1 = .ok (.getfield 12, 3) := by decide +kernel
theorem dX7_copyFrom_4 : decode cX7_copyFrom 4 = .ok (.aload_n 1, 1) := by decide +kernel
theorem dX7_copyFrom_5 : decode cX7_copyFrom 5 = .ok (.getfield 12, 3) := by decide +kernel
theorem dX7_copyFrom_8 : decode cX7_copyFrom 8 = .ok (.invokevirtual 66, 3) := by decide +kernel
theorem dX7_copyFrom_11 : decode cX7_copyFrom 11 = .ok (.aload_n 1, 1) := by decide +kernel
theorem dX7_copyFrom_12 : decode cX7_copyFrom 12 = .ok (.getfield 22, 3) := by decide +kernel
theorem dX7_copyFrom_15 : decode cX7_copyFrom 15 = .ok (.iconst 0, 1) := by decide +kernel
theorem dX7_copyFrom_16 : decode cX7_copyFrom 16 = .ok (.aload_n 0, 1) := by decide +kernel
theorem dX7_copyFrom_17 : decode cX7_copyFrom 17 = .ok (.getfield 22, 3) := by decide +kernel
theorem dX7_copyFrom_20 : decode cX7_copyFrom 20 = .ok (.iconst 0, 1) := by decide +kernel
theorem dX7_copyFrom_21 : decode cX7_copyFrom 21 = .ok (.bipush 8, 2) := by decide +kernel
theorem dX7_copyFrom_23 : decode cX7_copyFrom 23 = .ok (.invokestatic 70, 3) := by decide +kernel
theorem dX7_copyFrom_26 : decode cX7_copyFrom 26 = .ok (.aload_n 1, 1) := by decide +kernel
theorem dX7_copyFrom_27 : decode cX7_copyFrom 27 = .ok (.getfield 26, 3) := by decide +kernel
theorem dX7_copyFrom_30 : decode cX7_copyFrom 30 = .ok (.iconst 0, 1) := by decide +kernel
theorem dX7_copyFrom_31 : decode cX7_copyFrom 31 = .ok (.aload_n 0, 1) := by decide +kernel
theorem dX7_copyFrom_32 : decode cX7_copyFrom 32 = .ok (.getfield 26, 3) := by decide +kernel
theorem dX7_copyFrom_35 : decode cX7_copyFrom 35 = .ok (.iconst 0, 1) := by decide +kernel
theorem dX7_copyFrom_36 : decode cX7_copyFrom 36 = .ok (.bipush 8, 2) := by decide +kernel
theorem dX7_copyFrom_38 : decode cX7_copyFrom 38 = .ok (.invokestatic 70, 3) := by decide +kernel
theorem dX7_copyFrom_41 : decode cX7_copyFrom 41 = .ok (.aload_n 0, 1) := by decide +kernel
theorem dX7_copyFrom_42 : decode cX7_copyFrom 42 = .ok (.getfield 34, 3) := by decide +kernel
theorem dX7_copyFrom_45 : decode cX7_copyFrom 45 = .ok (.aload_n 1, 1) := by decide +kernel
theorem dX7_copyFrom_46 : decode cX7_copyFrom 46 = .ok (.getfield 34, 3) := by decide +kernel
theorem dX7_copyFrom_49 : decode cX7_copyFrom 49 = .ok (.invokevirtual 76, 3) := by decide +kernel
theorem dX7_copyFrom_52 : decode cX7_copyFrom 52 = .ok (.aload_n 0, 1) := by decide +kernel
theorem dX7_copyFrom_53 : decode cX7_copyFrom 53 = .ok (.aload_n 1, 1) := by decide +kernel
theorem dX7_copyFrom_54 : decode cX7_copyFrom 54 = .ok (.getfield 59, 3) := by decide +kernel
theorem dX7_copyFrom_57 : decode cX7_copyFrom 57 = .ok (.putfield 59, 3) := by decide +kernel
theorem dX7_copyFrom_60 : decode cX7_copyFrom 60 = .ok (.aload_n 0, 1) := by decide +kernel
theorem dX7_copyFrom_61 : decode cX7_copyFrom 61 = .ok (.getfield 38, 3) := by decide +kernel
theorem dX7_copyFrom_64 : decode cX7_copyFrom 64 = .ok (.aload_n 1, 1) := by decide +kernel
theorem dX7_copyFrom_65 : decode cX7_copyFrom 65 = .ok (.getfield 38, 3) := by decide +kernel
theorem dX7_copyFrom_68 : decode cX7_copyFrom 68 = .ok (.invokevirtual 76, 3) := by decide +kernel
theorem dX7_copyFrom_71 : decode cX7_copyFrom 71 = .ok (.aload_n 0, 1) := by decide +kernel
theorem dX7_copyFrom_72 : decode cX7_copyFrom 72 = .ok (.getfield 46, 3) := by decide +kernel
theorem dX7_copyFrom_75 : decode cX7_copyFrom 75 = .ok (.aload_n 1, 1) := by decide +kernel
theorem dX7_copyFrom_76 : decode cX7_copyFrom 76 = .ok (.getfield 46, 3) := by decide +kernel
theorem dX7_copyFrom_79 : decode cX7_copyFrom 79 = .ok (.invokevirtual 79, 3) := by decide +kernel
theorem dX7_copyFrom_82 : decode cX7_copyFrom 82 = .ok (.return_, 1) := by decide +kernel
abbrev mX7_copyFrom : MI := (RX7, yX7_copyFrom, cX7_copyFrom, 2, none)
theorem mok_X7_copyFrom : MOKv mX7_copyFrom 1 := ⟨⟨bm_525, bm_115, ⟨by decide, by decide⟩, by decide +kernel⟩, bm_523, bm_524⟩
def f_X7_copyFrom   (a0 : Nat) (a1 : Nat) (h : MH) : Option (MH) :=
  (gR h a0 0).bind fun a_1 =>
  (gR h a1 0).bind fun a_2 =>
  (f_X2_copyFrom a_1 a_2 h).bind fun q_3 =>
  (gR q_3 a1 1).bind fun a_4 =>
  (gR q_3 a0 1).bind fun a_5 =>
  (cpI q_3 a_4 0 a_5 0 8).bind fun h_6 =>
  (gR h_6 a1 2).bind fun a_7 =>
  (gR h_6 a0 2).bind fun a_8 =>
  (cpI h_6 a_7 0 a_8 0 8).bind fun h_9 =>
  (gR h_9 a0 3).bind fun a_10 =>
  (gR h_9 a1 3).bind fun a_11 =>
  (f_X6_copyFrom a_10 a_11 h_9).bind fun q_12 =>
  lt (sI q_12 a0 4 (gI q_12 a1 4)) fun h_13 =>
  (gR h_13 a0 5).bind fun a_14 =>
  (gR h_13 a1 5).bind fun a_15 =>
  (f_X6_copyFrom a_14 a_15 h_13).bind fun q_16 =>
  (gR q_16 a0 6).bind fun a_17 =>
  (gR q_16 a1 6).bind fun a_18 =>
  (f_X5_copyFrom a_17 a_18 q_16).bind fun q_19 =>
  some q_19
set_option maxRecDepth 100000 in
set_option maxHeartbeats 4000000 in
theorem v_X7_copyFrom {l : Launch} {G : GE} {B N : Nat} {S : List SHP} {o : MH} {a0 : Nat} {a1 : Nat}    (hs0 : S[a0]? = some (.inl 7)) (hs1 : S[a1]? = some (.inl 7)) {h : MH} (hf : f_X7_copyFrom a0 a1 h = some o) : V l G B N mX7_copyFrom (rmm 5 0 0) false 0 0 (QV S o) S 0 0 0 [(0, .ref a0), (1, .ref a1)] [] h := by
  unfold f_X7_copyFrom at hf
  refine V_aload_n (pc' := 1) dX7_copyFrom_0 rfl 0 rfl rfl ?_
  refine V_getR (pc' := 4) 7 0 dX7_copyFrom_1 rfl (by decide) (Nat.le_of_ble_eq_true rfl) bm_262 hs0 (fun _ _ _ => rfl) rfl hf (fun a_1 ha_1 hf => ?_)
  refine V_aload_n (pc' := 5) dX7_copyFrom_4 rfl 1 rfl rfl ?_
  refine V_getR (pc' := 8) 7 0 dX7_copyFrom_5 rfl (by decide) (Nat.le_of_ble_eq_true rfl) bm_262 hs1 (fun _ _ _ => rfl) rfl hf (fun a_2 ha_2 hf => ?_)
  refine V_cvV (pc' := 11) (As := [.ref a_2]) (rest := []) dX7_copyFrom_8 rfl mok_X2_copyFrom bm_526 2 (by decide) rfl ha_1 rfl rfl (Nat.le_of_ble_eq_true rfl) (by decide) hf (fun q e => ct_X2_copyFrom ha_1 ha_2 e) (fun q_3 hf => ?_)
  refine V_aload_n (pc' := 12) dX7_copyFrom_11 rfl 1 rfl rfl ?_
  refine V_getR (pc' := 15) 7 1 dX7_copyFrom_12 rfl (by decide) (Nat.le_of_ble_eq_true rfl) bm_264 hs1 (fun _ _ _ => rfl) rfl hf (fun a_4 ha_4 hf => ?_)
  refine V_iconst (v := 0) (pc' := 16) dX7_copyFrom_15 rfl (by decide) ?_
  refine V_aload_n (pc' := 17) dX7_copyFrom_16 rfl 0 rfl rfl ?_
  refine V_getR (pc' := 20) 7 1 dX7_copyFrom_17 rfl (by decide) (Nat.le_of_ble_eq_true rfl) bm_264 hs0 (fun _ _ _ => rfl) rfl hf (fun a_5 ha_5 hf => ?_)
  refine V_iconst (v := 0) (pc' := 21) dX7_copyFrom_20 rfl (by decide) ?_
  refine V_bipush (v := 8) (pc' := 23) dX7_copyFrom_21 rfl (by decide) ?_
  refine V_cpI (pc' := 26) dX7_copyFrom_23 rfl bm_541 ha_4 ha_5 (Nat.le_of_ble_eq_true rfl) (by decide) hf (fun h_6 hf => ?_)
  refine V_aload_n (pc' := 27) dX7_copyFrom_26 rfl 1 rfl rfl ?_
  refine V_getR (pc' := 30) 7 2 dX7_copyFrom_27 rfl (by decide) (Nat.le_of_ble_eq_true rfl) bm_266 hs1 (fun _ _ _ => rfl) rfl hf (fun a_7 ha_7 hf => ?_)
  refine V_iconst (v := 0) (pc' := 31) dX7_copyFrom_30 rfl (by decide) ?_
  refine V_aload_n (pc' := 32) dX7_copyFrom_31 rfl 0 rfl rfl ?_
  refine V_getR (pc' := 35) 7 2 dX7_copyFrom_32 rfl (by decide) (Nat.le_of_ble_eq_true rfl) bm_266 hs0 (fun _ _ _ => rfl) rfl hf (fun a_8 ha_8 hf => ?_)
  refine V_iconst (v := 0) (pc' := 36) dX7_copyFrom_35 rfl (by decide) ?_
  refine V_bipush (v := 8) (pc' := 38) dX7_copyFrom_36 rfl (by decide) ?_
  refine V_cpI (pc' := 41) dX7_copyFrom_38 rfl bm_541 ha_7 ha_8 (Nat.le_of_ble_eq_true rfl) (by decide) hf (fun h_9 hf => ?_)
  refine V_aload_n (pc' := 42) dX7_copyFrom_41 rfl 0 rfl rfl ?_
  refine V_getR (pc' := 45) 7 3 dX7_copyFrom_42 rfl (by decide) (Nat.le_of_ble_eq_true rfl) bm_268 hs0 (fun _ _ _ => rfl) rfl hf (fun a_10 ha_10 hf => ?_)
  refine V_aload_n (pc' := 46) dX7_copyFrom_45 rfl 1 rfl rfl ?_
  refine V_getR (pc' := 49) 7 3 dX7_copyFrom_46 rfl (by decide) (Nat.le_of_ble_eq_true rfl) bm_268 hs1 (fun _ _ _ => rfl) rfl hf (fun a_11 ha_11 hf => ?_)
  refine V_cvV (pc' := 52) (As := [.ref a_11]) (rest := []) dX7_copyFrom_49 rfl mok_X6_copyFrom bm_542 6 (by decide) rfl ha_10 rfl rfl (Nat.le_of_ble_eq_true rfl) (by decide) hf (fun q e => ct_X6_copyFrom ha_10 ha_11 e) (fun q_12 hf => ?_)
  refine V_aload_n (pc' := 53) dX7_copyFrom_52 rfl 0 rfl rfl ?_
  refine V_aload_n (pc' := 54) dX7_copyFrom_53 rfl 1 rfl rfl ?_
  refine V_getI (pc' := 57) 7 4 dX7_copyFrom_54 rfl (by decide) (Nat.le_of_ble_eq_true rfl) bm_270 hs1 (fun _ _ _ => rfl) ?_
  refine V_putI (pc' := 60) 7 4 dX7_copyFrom_57 rfl (by decide) (Nat.le_of_ble_eq_true rfl) bm_270 hs0 (Or.inl rfl) rfl ?_
  refine V_nmH hf (fun h_13 hf => ?_)
  refine V_aload_n (pc' := 61) dX7_copyFrom_60 rfl 0 rfl rfl ?_
  refine V_getR (pc' := 64) 7 5 dX7_copyFrom_61 rfl (by decide) (Nat.le_of_ble_eq_true rfl) bm_272 hs0 (fun _ _ _ => rfl) rfl hf (fun a_14 ha_14 hf => ?_)
  refine V_aload_n (pc' := 65) dX7_copyFrom_64 rfl 1 rfl rfl ?_
  refine V_getR (pc' := 68) 7 5 dX7_copyFrom_65 rfl (by decide) (Nat.le_of_ble_eq_true rfl) bm_272 hs1 (fun _ _ _ => rfl) rfl hf (fun a_15 ha_15 hf => ?_)
  refine V_cvV (pc' := 71) (As := [.ref a_15]) (rest := []) dX7_copyFrom_68 rfl mok_X6_copyFrom bm_542 6 (by decide) rfl ha_14 rfl rfl (Nat.le_of_ble_eq_true rfl) (by decide) hf (fun q e => ct_X6_copyFrom ha_14 ha_15 e) (fun q_16 hf => ?_)
  refine V_aload_n (pc' := 72) dX7_copyFrom_71 rfl 0 rfl rfl ?_
  refine V_getR (pc' := 75) 7 6 dX7_copyFrom_72 rfl (by decide) (Nat.le_of_ble_eq_true rfl) bm_274 hs0 (fun _ _ _ => rfl) rfl hf (fun a_17 ha_17 hf => ?_)
  refine V_aload_n (pc' := 76) dX7_copyFrom_75 rfl 1 rfl rfl ?_
  refine V_getR (pc' := 79) 7 6 dX7_copyFrom_76 rfl (by decide) (Nat.le_of_ble_eq_true rfl) bm_274 hs1 (fun _ _ _ => rfl) rfl hf (fun a_18 ha_18 hf => ?_)
  refine V_cvV (pc' := 82) (As := [.ref a_18]) (rest := []) dX7_copyFrom_79 rfl mok_X5_copyFrom bm_543 5 (by decide) rfl ha_17 rfl rfl (Nat.le_of_ble_eq_true rfl) (by decide) hf (fun q e => ct_X5_copyFrom ha_17 ha_18 e) (fun q_19 hf => ?_)
  obtain rfl := Option.some.inj hf
  exact V_vret dX7_copyFrom_82 rfl rfl rfl ⟨rfl, rfl, rfl⟩
theorem ct_X7_copyFrom {l : Launch} {S : List SHP} {h : MH} {a0 : Nat} {a1 : Nat} (hs0 : S[a0]? = some (.inl 7)) (hs1 : S[a1]? = some (.inl 7)) {q : MH} (hf : f_X7_copyFrom a0 a1 h = some q) : CT l mX7_copyFrom 5 false 0 0 S [.ref a0, .ref a1] h (QV S q) :=
  CT_ofV (by decide) rfl (Nat.le_of_ble_eq_true rfl) (fun G B hT => v_X7_copyFrom hs0 hs1 hf)
/-! LabelStacks$Acts.save(LLabelStacks$State;)V -/
theorem dX0_save_0 : decode cX0_save 0 = .ok (.aload_n 0, 1) := by decide +kernel
theorem dX0_save_1 : decode cX0_save 1 = .ok (.getfield 18, 3) := by decide +kernel
theorem dX0_save_4 : decode cX0_save 4 = .ok (.bipush 6, 2) := by decide +kernel
theorem dX0_save_6 : decode cX0_save 6 = .ok (.if_icmp .lt 50, 3) := by decide +kernel
theorem dX0_save_9 : decode cX0_save 9 = .ok (.aload_n 0, 1) := by decide +kernel
theorem dX0_save_10 : decode cX0_save 10 = .ok (.getfield 11, 3) := by decide +kernel
theorem dX0_save_13 : decode cX0_save 13 = .ok (.iconst 0, 1) := by decide +kernel
theorem dX0_save_14 : decode cX0_save 14 = .ok (.aaload, 1) := by decide +kernel
theorem dX0_save_15 : decode cX0_save 15 = .ok (.astore_n 2, 1) := by decide +kernel
theorem dX0_save_16 : decode cX0_save 16 = .ok (.iconst 1, 1) := by decide +kernel
theorem dX0_save_17 : decode cX0_save 17 = .ok (.istore_n 3, 1) := by decide +kernel
theorem dX0_save_18 : decode cX0_save 18 = .ok (.iload_n 3, 1) := by decide +kernel
theorem dX0_save_19 : decode cX0_save 19 = .ok (.bipush 6, 2) := by decide +kernel
theorem dX0_save_21 : decode cX0_save 21 = .ok (.if_icmp .ge 23, 3) := by decide +kernel
theorem dX0_save_24 : decode cX0_save 24 = .ok (.aload_n 0, 1) := by decide +kernel
theorem dX0_save_25 : decode cX0_save 25 = .ok (.getfield 11, 3) := by decide +kernel
theorem dX0_save_28 : decode cX0_save 28 = .ok (.iload_n 3, 1) := by decide +kernel
theorem dX0_save_29 : decode cX0_save 29 = .ok (.iconst 1, 1) := by decide +kernel
theorem dX0_save_30 : decode cX0_save 30 = .ok (.isub, 1) := by decide +kernel
theorem dX0_save_31 : decode cX0_save 31 = .ok (.aload_n 0, 1) := by decide +kernel
theorem dX0_save_32 : decode cX0_save 32 = .ok (.getfield 11, 3) := by decide +kernel
theorem dX0_save_35 : decode cX0_save 35 = .ok (.iload_n 3, 1) := by decide +kernel
theorem dX0_save_36 : decode cX0_save 36 = .ok (.aaload, 1) := by decide +kernel
theorem dX0_save_37 : decode cX0_save 37 = .ok (.aastore, 1) := by decide +kernel
theorem dX0_save_38 : decode cX0_save 38 = .ok (.iinc 3 1, 3) := by decide +kernel
theorem dX0_save_41 : decode cX0_save 41 = .ok (.goto (-23), 3) := by decide +kernel
theorem dX0_save_44 : decode cX0_save 44 = .ok (.aload_n 0, 1) := by decide +kernel
theorem dX0_save_45 : decode cX0_save 45 = .ok (.getfield 11, 3) := by decide +kernel
theorem dX0_save_48 : decode cX0_save 48 = .ok (.iconst 5, 1) := by decide +kernel
theorem dX0_save_49 : decode cX0_save 49 = .ok (.aload_n 2, 1) := by decide +kernel
theorem dX0_save_50 : decode cX0_save 50 = .ok (.aastore, 1) := by decide +kernel
theorem dX0_save_51 : decode cX0_save 51 = .ok (.aload_n 0, 1) := by decide +kernel
theorem dX0_save_52 : decode cX0_save 52 = .ok (.iconst 5, 1) := by decide +kernel
theorem dX0_save_53 : decode cX0_save 53 = .ok (.putfield 18, 3) := by decide +kernel
theorem dX0_save_56 : decode cX0_save 56 = .ok (.aload_n 0, 1) := by decide +kernel
theorem dX0_save_57 : decode cX0_save 57 = .ok (.getfield 11, 3) := by decide +kernel
theorem dX0_save_60 : decode cX0_save 60 = .ok (.aload_n 0, 1) := by decide +kernel
theorem dX0_save_61 : decode cX0_save 61 = .ok (.getfield 18, 3) := by decide +kernel
theorem dX0_save_64 : decode cX0_save 64 = .ok (.aaload, 1) := by decide +kernel
theorem dX0_save_65 : decode cX0_save 65 = .ok (.aload_n 1, 1) := by decide +kernel
theorem dX0_save_66 : decode cX0_save 66 = .ok (.invokevirtual 22, 3) := by decide +kernel
theorem dX0_save_69 : decode cX0_save 69 = .ok (.aload_n 0, 1) := by decide +kernel
theorem dX0_save_70 : decode cX0_save 70 = .ok (.dup, 1) := by decide +kernel
theorem dX0_save_71 : decode cX0_save 71 = .ok (.getfield 18, 3) := by decide +kernel
theorem dX0_save_74 : decode cX0_save 74 = .ok (.iconst 1, 1) := by decide +kernel
theorem dX0_save_75 : decode cX0_save 75 = .ok (.iadd, 1) := by decide +kernel
theorem dX0_save_76 : decode cX0_save 76 = .ok (.putfield 18, 3) := by decide +kernel
theorem dX0_save_79 : decode cX0_save 79 = .ok (.return_, 1) := by decide +kernel
abbrev mX0_save : MI := (RX0, yX0_save, cX0_save, 4, none)
theorem mok_X0_save : MOKv mX0_save 1 := ⟨⟨bm_521, bm_121, ⟨by decide, by decide⟩, by decide +kernel⟩, bm_519, bm_520⟩
def f_X0_save_56   (a0 : Nat) (a1 : Nat) (h : MH) : Option (MH) :=
  (gR h a0 0).bind fun a_1 =>
  (ldR h a_1 (gI h a0 1)).bind fun a_2 =>
  (f_X7_copyFrom a_2 a1 h).bind fun q_3 =>
  lt (sI q_3 a0 1 ((gI q_3 a0 1) + 1)) fun h_4 =>
  some h_4
def f_X0_save_18b   (a0 : Nat) (a1 : Nat) (a2 : Nat) (k18 : Int32 → MH → Option (MH)) (p : Int32) (h : MH) : Option (MH) :=
  if p < 6 then
    (gR h a0 0).bind fun a_1 =>
    (gR h a0 0).bind fun a_2 =>
    (ldR h a_2 p).bind fun a_3 =>
    (stR h a_1 (p - 1) a_3).bind fun h_4 =>
    k18 (p + 1) h_4
  else
    (gR h a0 0).bind fun a_5 =>
    (stR h a_5 5 a2).bind fun h_6 =>
    lt (sI h_6 a0 1 5) fun h_7 =>
    f_X0_save_56 a0 a1 h_7
def f_X0_save_18   (a0 : Nat) (a1 : Nat) (a2 : Nat) : Nat → Int32 → MH → Option (MH) := lp (f_X0_save_18b a0 a1 a2)
def f_X0_save   (a0 : Nat) (a1 : Nat) (h : MH) : Option (MH) :=
  if (gI h a0 1) < 6 then
    f_X0_save_56 a0 a1 h
  else
    (gR h a0 0).bind fun a_1 =>
    (ldR h a_1 0).bind fun a_2 =>
    f_X0_save_18 a0 a1 a_2 FU 1 h
set_option maxRecDepth 100000 in
set_option maxHeartbeats 4000000 in
theorem v_X0_save_56 {l : Launch} {G : GE} {B N : Nat} {S : List SHP} {o : MH} {a0 : Nat} {a1 : Nat}    (hs0 : S[a0]? = some (.inl 0)) (hs1 : S[a1]? = some (.inl 7)) {h : MH} (hf : f_X0_save_56 a0 a1 h = some o) : V l G B N mX0_save (rmm 6 0 0) false 0 0 (QV S o) S 0 0 56 [(0, .ref a0), (1, .ref a1)] [] h := by
  unfold f_X0_save_56 at hf
  refine V_aload_n (pc' := 57) dX0_save_56 rfl 0 rfl rfl ?_
  refine V_getR (pc' := 60) 0 0 dX0_save_57 rfl (by decide) (Nat.le_of_ble_eq_true rfl) bm_302 hs0 (fun _ _ _ => rfl) rfl hf (fun a_1 ha_1 hf => ?_)
  refine V_aload_n (pc' := 61) dX0_save_60 rfl 0 rfl rfl ?_
  refine V_getI (pc' := 64) 0 1 dX0_save_61 rfl (by decide) (Nat.le_of_ble_eq_true rfl) bm_303 hs0 (fun _ _ _ => rfl) ?_
  refine V_aald (pc' := 65) dX0_save_64 rfl ha_1 hf (fun a_2 ha_2 hf => ?_)
  refine V_aload_n (pc' := 66) dX0_save_65 rfl 1 rfl rfl ?_
  refine V_cvV (pc' := 69) (As := [.ref a1]) (rest := []) dX0_save_66 rfl mok_X7_copyFrom bm_522 7 (by decide) rfl ha_2 rfl rfl (Nat.le_of_ble_eq_true rfl) (by decide) hf (fun q e => ct_X7_copyFrom ha_2 hs1 e) (fun q_3 hf => ?_)
  refine V_aload_n (pc' := 70) dX0_save_69 rfl 0 rfl rfl ?_
  refine V_dup (pc' := 71) dX0_save_70 rfl rfl ?_
  refine V_getI (pc' := 74) 0 1 dX0_save_71 rfl (by decide) (Nat.le_of_ble_eq_true rfl) bm_303 hs0 (fun _ _ _ => rfl) ?_
  refine V_iconst (v := 1) (pc' := 75) dX0_save_74 rfl (by decide) ?_
  refine V_iadd (pc' := 76) dX0_save_75 rfl ?_
  refine V_putI (pc' := 79) 0 1 dX0_save_76 rfl (by decide) (Nat.le_of_ble_eq_true rfl) bm_303 hs0 (Or.inl rfl) rfl ?_
  refine V_nmH hf (fun h_4 hf => ?_)
  obtain rfl := Option.some.inj hf
  exact V_vret dX0_save_79 rfl rfl rfl ⟨rfl, rfl, rfl⟩
set_option maxRecDepth 100000 in
set_option maxHeartbeats 4000000 in
theorem v_X0_save_18b {l : Launch} {G : GE} {B N : Nat} {S : List SHP} {o : MH} {a0 : Nat} {a1 : Nat} {a2 : Nat}    (hs0 : S[a0]? = some (.inl 0)) (hs1 : S[a1]? = some (.inl 7)) (hs2 : S[a2]? = some (.inl 7)) {k18 : Int32 → MH → Option (MH)} (hk18 : ∀ (p : Int32) (h : MH), k18 p h = some o → V l G B N mX0_save (rmm 6 0 0) false 0 0 (QV S o) S 0 0 18 [(0, .ref a0), (1, .ref a1), (2, .ref a2), (3, .int p)] [] h) {p : Int32} {h : MH} (hf : f_X0_save_18b a0 a1 a2 k18 p h = some o) : V l G B N mX0_save (rmm 6 0 0) false 0 0 (QV S o) S 0 0 18 [(0, .ref a0), (1, .ref a1), (2, .ref a2), (3, .int p)] [] h := by
  unfold f_X0_save_18b at hf
  refine V_iload_n (pc' := 19) dX0_save_18 rfl 3 rfl rfl ?_
  refine V_bipush (v := 6) (pc' := 21) dX0_save_19 rfl (by decide) ?_
  refine V_icmp_ge (tgt := 44) (pc' := 24) dX0_save_21 (by decide) rfl hf (fun hf => ?_) (fun hf => ?_)
  ·
    refine V_aload_n (pc' := 25) dX0_save_24 rfl 0 rfl rfl ?_
    refine V_getR (pc' := 28) 0 0 dX0_save_25 rfl (by decide) (Nat.le_of_ble_eq_true rfl) bm_302 hs0 (fun _ _ _ => rfl) rfl hf (fun a_1 ha_1 hf => ?_)
    refine V_iload_n (pc' := 29) dX0_save_28 rfl 3 rfl rfl ?_
    refine V_iconst (v := 1) (pc' := 30) dX0_save_29 rfl (by decide) ?_
    refine V_isub (pc' := 31) dX0_save_30 rfl ?_
    refine V_aload_n (pc' := 32) dX0_save_31 rfl 0 rfl rfl ?_
    refine V_getR (pc' := 35) 0 0 dX0_save_32 rfl (by decide) (Nat.le_of_ble_eq_true rfl) bm_302 hs0 (fun _ _ _ => rfl) rfl hf (fun a_2 ha_2 hf => ?_)
    refine V_iload_n (pc' := 36) dX0_save_35 rfl 3 rfl rfl ?_
    refine V_aald (pc' := 37) dX0_save_36 rfl ha_2 hf (fun a_3 ha_3 hf => ?_)
    refine V_aast (pc' := 38) dX0_save_37 rfl ha_1 ha_3 hf (fun h_4 hf => ?_)
    refine V_iinc (v := (p + 1)) (lv' := [(3, .int (p + 1)), (0, .ref a0), (1, .ref a1), (2, .ref a2)]) (pc' := 41) dX0_save_38 rfl 3 rfl rfl (Nat.le_of_ble_eq_true rfl) rfl ?_
    refine V_goto (tgt := 18) dX0_save_41 (by decide) ?_
    exact V_sub (lv' := [(0, .ref a0), (1, .ref a1), (2, .ref a2), (3, .int (p + 1))]) [1, 2, 3, 0] rfl (hk18 (p + 1) h_4 hf)
  ·
    refine V_aload_n (pc' := 45) dX0_save_44 rfl 0 rfl rfl ?_
    refine V_getR (pc' := 48) 0 0 dX0_save_45 rfl (by decide) (Nat.le_of_ble_eq_true rfl) bm_302 hs0 (fun _ _ _ => rfl) rfl hf (fun a_5 ha_5 hf => ?_)
    refine V_iconst (v := 5) (pc' := 49) dX0_save_48 rfl (by decide) ?_
    refine V_aload_n (pc' := 50) dX0_save_49 rfl 2 rfl rfl ?_
    refine V_aast (pc' := 51) dX0_save_50 rfl ha_5 hs2 hf (fun h_6 hf => ?_)
    refine V_aload_n (pc' := 52) dX0_save_51 rfl 0 rfl rfl ?_
    refine V_iconst (v := 5) (pc' := 53) dX0_save_52 rfl (by decide) ?_
    refine V_putI (pc' := 56) 0 1 dX0_save_53 rfl (by decide) (Nat.le_of_ble_eq_true rfl) bm_303 hs0 (Or.inl rfl) rfl ?_
    refine V_nmH hf (fun h_7 hf => ?_)
    exact V_sub (lv' := [(0, .ref a0), (1, .ref a1)]) [0, 1] rfl (v_X0_save_56 hs0 hs1 hf)
theorem v_X0_save_18 {l : Launch} {G : GE} {B N : Nat} {S : List SHP} {o : MH} {a0 : Nat} {a1 : Nat} {a2 : Nat}    (hs0 : S[a0]? = some (.inl 0)) (hs1 : S[a1]? = some (.inl 7)) (hs2 : S[a2]? = some (.inl 7)) {n : Nat} {p : Int32} {h : MH} (hf : f_X0_save_18 a0 a1 a2 n p h = some o) : V l G B N mX0_save (rmm 6 0 0) false 0 0 (QV S o) S 0 0 18 [(0, .ref a0), (1, .ref a1), (2, .ref a2), (3, .int p)] [] h :=
  V_lp (VV := fun p h => V l G B N mX0_save (rmm 6 0 0) false 0 0 (QV S o) S 0 0 18 [(0, .ref a0), (1, .ref a1), (2, .ref a2), (3, .int p)] [] h) (fun _ hk _ _ hf => v_X0_save_18b hs0 hs1 hs2 hk hf) n p h hf
set_option maxRecDepth 100000 in
set_option maxHeartbeats 4000000 in
theorem v_X0_save {l : Launch} {G : GE} {B N : Nat} {S : List SHP} {o : MH} {a0 : Nat} {a1 : Nat}    (hs0 : S[a0]? = some (.inl 0)) (hs1 : S[a1]? = some (.inl 7)) {h : MH} (hf : f_X0_save a0 a1 h = some o) : V l G B N mX0_save (rmm 6 0 0) false 0 0 (QV S o) S 0 0 0 [(0, .ref a0), (1, .ref a1)] [] h := by
  unfold f_X0_save at hf
  refine V_aload_n (pc' := 1) dX0_save_0 rfl 0 rfl rfl ?_
  refine V_getI (pc' := 4) 0 1 dX0_save_1 rfl (by decide) (Nat.le_of_ble_eq_true rfl) bm_303 hs0 (fun _ _ _ => rfl) ?_
  refine V_bipush (v := 6) (pc' := 6) dX0_save_4 rfl (by decide) ?_
  refine V_icmp_lt (tgt := 56) (pc' := 9) dX0_save_6 (by decide) rfl hf (fun hf => ?_) (fun hf => ?_)
  ·
    exact V_sub (lv' := [(0, .ref a0), (1, .ref a1)]) [0, 1] rfl (v_X0_save_56 hs0 hs1 hf)
  ·
    refine V_aload_n (pc' := 10) dX0_save_9 rfl 0 rfl rfl ?_
    refine V_getR (pc' := 13) 0 0 dX0_save_10 rfl (by decide) (Nat.le_of_ble_eq_true rfl) bm_302 hs0 (fun _ _ _ => rfl) rfl hf (fun a_1 ha_1 hf => ?_)
    refine V_iconst (v := 0) (pc' := 14) dX0_save_13 rfl (by decide) ?_
    refine V_aald (pc' := 15) dX0_save_14 rfl ha_1 hf (fun a_2 ha_2 hf => ?_)
    refine V_astore_n (lv' := [(2, .ref a_2), (0, .ref a0), (1, .ref a1)]) (pc' := 16) dX0_save_15 rfl rfl (Nat.le_of_ble_eq_true rfl) rfl ?_
    refine V_iconst (v := 1) (pc' := 17) dX0_save_16 rfl (by decide) ?_
    refine V_istore_n (lv' := [(3, .int 1), (2, .ref a_2), (0, .ref a0), (1, .ref a1)]) (pc' := 18) dX0_save_17 rfl rfl (Nat.le_of_ble_eq_true rfl) rfl ?_
    exact V_sub (lv' := [(0, .ref a0), (1, .ref a1), (2, .ref a_2), (3, .int 1)]) [2, 3, 1, 0] rfl (v_X0_save_18 hs0 hs1 ha_2 hf)
theorem ct_X0_save {l : Launch} {S : List SHP} {h : MH} {a0 : Nat} {a1 : Nat} (hs0 : S[a0]? = some (.inl 0)) (hs1 : S[a1]? = some (.inl 7)) {q : MH} (hf : f_X0_save a0 a1 h = some q) : CT l mX0_save 6 false 0 0 S [.ref a0, .ref a1] h (QV S q) :=
  CT_ofV (by decide) rfl (Nat.le_of_ble_eq_true rfl) (fun G B hT => v_X0_save hs0 hs1 hf)
/-! LabelStacks$Acts.restore(LLabelStacks$State;)Z -/
theorem dX0_restore_0 : decode cX0_restore 0 = .ok (.aload_n 0, 1) := by decide +kernel
theorem dX0_restore_1 : decode cX0_restore 1 = .ok (.getfield 18, 3) := by decide +kernel
theorem dX0_restore_4 : decode cX0_restore 4 = .ok (.ifCond .gt 5, 3) := by decide +kernel
theorem dX0_restore_7 : decode cX0_restore 7 = .ok (.iconst 0, 1) := by decide +kernel
theorem dX0_restore_8 : decode cX0_restore 8 = .ok (.ireturn, 1) := by decide +kernel
theorem dX0_restore_9 : decode cX0_restore 9 = .ok (.aload_n 0, 1) := by decide +kernel
theorem dX0_restore_10 : decode cX0_restore 10 = .ok (.dup, 1) := by decide +kernel
theorem dX0_restore_11 : decode cX0_restore 11 = .ok (.getfield 18, 3) := by decide +kernel
theorem dX0_restore_14 : decode cX0_restore 14 = .ok (.iconst 1, 1) := by decide +kernel
theorem dX0_restore_15 : decode cX0_restore 15 = .ok (.isub, 1) := by decide +kernel
theorem dX0_restore_16 : decode cX0_restore 16 = .ok (.putfield 18, 3) := by decide +kernel
theorem dX0_restore_19 : decode cX0_restore 19 = .ok (.aload_n 1, 1) := by decide +kernel
theorem dX0_restore_20 : decode cX0_restore 20 = .ok (.aload_n 0, 1) := by decide +kernel
theorem dX0_restore_21 : decode cX0_restore 21 = .ok (.getfield 11, 3) := by decide +kernel
theorem dX0_restore_24 : decode cX0_restore 24 = .ok (.aload_n 0, 1) := by decide +kernel
theorem dX0_restore_25 : decode cX0_restore 25 = .ok (.getfield 18, 3) := by decide +kernel
theorem dX0_restore_28 : decode cX0_restore 28 = .ok (.aaload, 1) := by decide +kernel
theorem dX0_restore_29 : decode cX0_restore 29 = .ok (.invokevirtual 22, 3) := by decide +kernel
theorem dX0_restore_32 : decode cX0_restore 32 = .ok (.iconst 1, 1) := by decide +kernel
theorem dX0_restore_33 : decode cX0_restore 33 = .ok (.ireturn, 1) := by decide +kernel
abbrev mX0_restore : MI := (RX0, yX0_restore, cX0_restore, 2, (some .boolean))
theorem mok_X0_restore : MOKv mX0_restore 1 := ⟨⟨bm_1183, bm_121, ⟨by decide, by decide⟩, by decide +kernel⟩, bm_1181, bm_1182⟩
def f_X0_restore   (a0 : Nat) (a1 : Nat) (h : MH) : Option (Int32 × MH) :=
  if 0 < (gI h a0 1) then
    lt (sI h a0 1 ((gI h a0 1) - 1)) fun h_1 =>
    (gR h_1 a0 0).bind fun a_2 =>
    (ldR h_1 a_2 (gI h_1 a0 1)).bind fun a_3 =>
    (f_X7_copyFrom a1 a_3 h_1).bind fun q_4 =>
    some (1, q_4)
  else
    some (0, h)
set_option maxRecDepth 100000 in
set_option maxHeartbeats 4000000 in
theorem v_X0_restore {l : Launch} {G : GE} {B N : Nat} {S : List SHP} {o : Int32 × MH} {a0 : Nat} {a1 : Nat}    (hs0 : S[a0]? = some (.inl 0)) (hs1 : S[a1]? = some (.inl 7)) {h : MH} (hf : f_X0_restore a0 a1 h = some o) : V l G B N mX0_restore (rmm 6 0 0) false 0 0 (QI S o) S 0 0 0 [(0, .ref a0), (1, .ref a1)] [] h := by
  unfold f_X0_restore at hf
  refine V_aload_n (pc' := 1) dX0_restore_0 rfl 0 rfl rfl ?_
  refine V_getI (pc' := 4) 0 1 dX0_restore_1 rfl (by decide) (Nat.le_of_ble_eq_true rfl) bm_303 hs0 (fun _ _ _ => rfl) ?_
  refine V_if_gt (tgt := 9) (pc' := 7) dX0_restore_4 (by decide) rfl hf (fun hf => ?_) (fun hf => ?_)
  ·
    refine V_aload_n (pc' := 10) dX0_restore_9 rfl 0 rfl rfl ?_
    refine V_dup (pc' := 11) dX0_restore_10 rfl rfl ?_
    refine V_getI (pc' := 14) 0 1 dX0_restore_11 rfl (by decide) (Nat.le_of_ble_eq_true rfl) bm_303 hs0 (fun _ _ _ => rfl) ?_
    refine V_iconst (v := 1) (pc' := 15) dX0_restore_14 rfl (by decide) ?_
    refine V_isub (pc' := 16) dX0_restore_15 rfl ?_
    refine V_putI (pc' := 19) 0 1 dX0_restore_16 rfl (by decide) (Nat.le_of_ble_eq_true rfl) bm_303 hs0 (Or.inl rfl) rfl ?_
    refine V_nmH hf (fun h_1 hf => ?_)
    refine V_aload_n (pc' := 20) dX0_restore_19 rfl 1 rfl rfl ?_
    refine V_aload_n (pc' := 21) dX0_restore_20 rfl 0 rfl rfl ?_
    refine V_getR (pc' := 24) 0 0 dX0_restore_21 rfl (by decide) (Nat.le_of_ble_eq_true rfl) bm_302 hs0 (fun _ _ _ => rfl) rfl hf (fun a_2 ha_2 hf => ?_)
    refine V_aload_n (pc' := 25) dX0_restore_24 rfl 0 rfl rfl ?_
    refine V_getI (pc' := 28) 0 1 dX0_restore_25 rfl (by decide) (Nat.le_of_ble_eq_true rfl) bm_303 hs0 (fun _ _ _ => rfl) ?_
    refine V_aald (pc' := 29) dX0_restore_28 rfl ha_2 hf (fun a_3 ha_3 hf => ?_)
    refine V_cvV (pc' := 32) (As := [.ref a_3]) (rest := []) dX0_restore_29 rfl mok_X7_copyFrom bm_522 7 (by decide) rfl hs1 rfl rfl (Nat.le_of_ble_eq_true rfl) (by decide) hf (fun q e => ct_X7_copyFrom hs1 ha_3 e) (fun q_4 hf => ?_)
    refine V_iconst (v := 1) (pc' := 33) dX0_restore_32 rfl (by decide) ?_
    obtain rfl := Option.some.inj hf
    exact V_zretL dX0_restore_33 rfl rfl rfl (by decide) ⟨rfl, rfl, rfl⟩
  ·
    refine V_iconst (v := 0) (pc' := 8) dX0_restore_7 rfl (by decide) ?_
    obtain rfl := Option.some.inj hf
    exact V_zretL dX0_restore_8 rfl rfl rfl (by decide) ⟨rfl, rfl, rfl⟩
theorem ct_X0_restore {l : Launch} {S : List SHP} {h : MH} {a0 : Nat} {a1 : Nat} (hs0 : S[a0]? = some (.inl 0)) (hs1 : S[a1]? = some (.inl 7)) {q : Int32 × MH} (hf : f_X0_restore a0 a1 h = some q) : CT l mX0_restore 6 false 0 0 S [.ref a0, .ref a1] h (QI S q) :=
  CT_ofV (by decide) rfl (Nat.le_of_ble_eq_true rfl) (fun G B hT => v_X0_restore hs0 hs1 hf)
/-! LabelStacks$State.forgetRest()V -/
theorem dX7_forgetRest_0 : decode cX7_forgetRest 0 = .ok (.aload_n 0, 1) := by decide +kernel
theorem dX7_forgetRest_1 : decode cX7_forgetRest 1 = .ok (.getfield 22, 3) := by decide +kernel
theorem dX7_forgetRest_4 : decode cX7_forgetRest 4 = .ok (.iconst (-1), 1) := by decide +kernel
theorem dX7_forgetRest_5 : decode cX7_forgetRest 5 = .ok (.invokestatic 50, 3) := by decide +kernel
theorem dX7_forgetRest_8 : decode cX7_forgetRest 8 = .ok (.aload_n 0, 1) := by decide +kernel
theorem dX7_forgetRest_9 : decode cX7_forgetRest 9 = .ok (.getfield 34, 3) := by decide +kernel
theorem dX7_forgetRest_12 : decode cX7_forgetRest 12 = .ok (.invokevirtual 56, 3) := by decide +kernel
theorem dX7_forgetRest_15 : decode cX7_forgetRest 15 = .ok (.aload_n 0, 1) := by decide +kernel
theorem dX7_forgetRest_16 : decode cX7_forgetRest 16 = .ok (.iconst 0, 1) := by decide +kernel
theorem dX7_forgetRest_17 : decode cX7_forgetRest 17 = .ok (.putfield 59, 3) := by decide +kernel
theorem dX7_forgetRest_20 : decode cX7_forgetRest 20 = .ok (.aload_n 0, 1) := by decide +kernel
theorem dX7_forgetRest_21 : decode cX7_forgetRest 21 = .ok (.getfield 38, 3) := by decide +kernel
theorem dX7_forgetRest_24 : decode cX7_forgetRest 24 = .ok (.invokevirtual 56, 3) := by decide +kernel
theorem dX7_forgetRest_27 : decode cX7_forgetRest 27 = .ok (.aload_n 0, 1) := by decide +kernel
theorem dX7_forgetRest_28 : decode cX7_forgetRest 28 = .ok (.getfield 46, 3) := by decide +kernel
theorem dX7_forgetRest_31 : decode cX7_forgetRest 31 = .ok (.iconst 0, 1) := by decide +kernel
theorem dX7_forgetRest_32 : decode cX7_forgetRest 32 = .ok (.putfield 63, 3) := by decide +kernel
theorem dX7_forgetRest_35 : decode cX7_forgetRest 35 = .ok (.return_, 1) := by decide +kernel
abbrev mX7_forgetRest : MI := (RX7, yX7_forgetRest, cX7_forgetRest, 1, none)
theorem mok_X7_forgetRest : MOKv mX7_forgetRest 0 := ⟨⟨bm_562, bm_115, ⟨by decide, by decide⟩, by decide +kernel⟩, bm_560, bm_561⟩
def f_X7_forgetRest   (a0 : Nat) (h : MH) : Option (MH) :=
  (gR h a0 1).bind fun a_1 =>
  (f_J7_fill_53178 a_1 (-1 : Int32) h).bind fun q_2 =>
  (gR q_2 a0 3).bind fun a_3 =>
  (f_X6_emptyAll a_3 q_2).bind fun q_4 =>
  lt (sI q_4 a0 4 0) fun h_5 =>
  (gR h_5 a0 5).bind fun a_6 =>
  (f_X6_emptyAll a_6 h_5).bind fun q_7 =>
  (gR q_7 a0 6).bind fun a_8 =>
  lt (sI q_7 a_8 1 0) fun h_9 =>
  some h_9
set_option maxRecDepth 100000 in
set_option maxHeartbeats 4000000 in
theorem v_X7_forgetRest {l : Launch} {G : GE} {B N : Nat} {S : List SHP} {o : MH} {a0 : Nat}    (hs0 : S[a0]? = some (.inl 7)) {h : MH} (hf : f_X7_forgetRest a0 h = some o) : V l G B N mX7_forgetRest (rmm 5 0 0) false 0 0 (QV S o) S 0 0 0 [(0, .ref a0)] [] h := by
  unfold f_X7_forgetRest at hf
  refine V_aload_n (pc' := 1) dX7_forgetRest_0 rfl 0 rfl rfl ?_
  refine V_getR (pc' := 4) 7 1 dX7_forgetRest_1 rfl (by decide) (Nat.le_of_ble_eq_true rfl) bm_264 hs0 (fun _ _ _ => rfl) rfl hf (fun a_1 ha_1 hf => ?_)
  refine V_iconst (v := (-1)) (pc' := 5) dX7_forgetRest_4 rfl (by decide) ?_
  refine V_csV (pc' := 8) (As := [.ref a_1, .int (-1 : Int32)]) (rest := []) dX7_forgetRest_5 rfl mok_J7_fill_53178 bm_563 rfl rfl (Nat.le_of_ble_eq_true rfl) (by decide) hf (fun q e => ct_J7_fill_53178 ha_1 e) (fun q_2 hf => ?_)
  refine V_aload_n (pc' := 9) dX7_forgetRest_8 rfl 0 rfl rfl ?_
  refine V_getR (pc' := 12) 7 3 dX7_forgetRest_9 rfl (by decide) (Nat.le_of_ble_eq_true rfl) bm_268 hs0 (fun _ _ _ => rfl) rfl hf (fun a_3 ha_3 hf => ?_)
  refine V_cvV (pc' := 15) (As := []) (rest := []) dX7_forgetRest_12 rfl mok_X6_emptyAll bm_564 6 (by decide) rfl ha_3 rfl rfl (Nat.le_of_ble_eq_true rfl) (by decide) hf (fun q e => ct_X6_emptyAll ha_3 e) (fun q_4 hf => ?_)
  refine V_aload_n (pc' := 16) dX7_forgetRest_15 rfl 0 rfl rfl ?_
  refine V_iconst (v := 0) (pc' := 17) dX7_forgetRest_16 rfl (by decide) ?_
  refine V_putI (pc' := 20) 7 4 dX7_forgetRest_17 rfl (by decide) (Nat.le_of_ble_eq_true rfl) bm_270 hs0 (Or.inl rfl) rfl ?_
  refine V_nmH hf (fun h_5 hf => ?_)
  refine V_aload_n (pc' := 21) dX7_forgetRest_20 rfl 0 rfl rfl ?_
  refine V_getR (pc' := 24) 7 5 dX7_forgetRest_21 rfl (by decide) (Nat.le_of_ble_eq_true rfl) bm_272 hs0 (fun _ _ _ => rfl) rfl hf (fun a_6 ha_6 hf => ?_)
  refine V_cvV (pc' := 27) (As := []) (rest := []) dX7_forgetRest_24 rfl mok_X6_emptyAll bm_564 6 (by decide) rfl ha_6 rfl rfl (Nat.le_of_ble_eq_true rfl) (by decide) hf (fun q e => ct_X6_emptyAll ha_6 e) (fun q_7 hf => ?_)
  refine V_aload_n (pc' := 28) dX7_forgetRest_27 rfl 0 rfl rfl ?_
  refine V_getR (pc' := 31) 7 6 dX7_forgetRest_28 rfl (by decide) (Nat.le_of_ble_eq_true rfl) bm_274 hs0 (fun _ _ _ => rfl) rfl hf (fun a_8 ha_8 hf => ?_)
  refine V_iconst (v := 0) (pc' := 32) dX7_forgetRest_31 rfl (by decide) ?_
  refine V_putI (pc' := 35) 5 1 dX7_forgetRest_32 rfl (by decide) (Nat.le_of_ble_eq_true rfl) bm_252 ha_8 (Or.inl rfl) rfl ?_
  refine V_nmH hf (fun h_9 hf => ?_)
  obtain rfl := Option.some.inj hf
  exact V_vret dX7_forgetRest_35 rfl rfl rfl ⟨rfl, rfl, rfl⟩
theorem ct_X7_forgetRest {l : Launch} {S : List SHP} {h : MH} {a0 : Nat} (hs0 : S[a0]? = some (.inl 7)) {q : MH} (hf : f_X7_forgetRest a0 h = some q) : CT l mX7_forgetRest 5 false 0 0 S [.ref a0] h (QV S q) :=
  CT_ofV (by decide) rfl (Nat.le_of_ble_eq_true rfl) (fun G B hT => v_X7_forgetRest hs0 hf)
