/-! LabelStacksModel.repair(II)I -/
theorem dX11_repair_0 : decode cX11_repair 0 = .ok (.aload_n 0, 1) := by decide +kernel
theorem dX11_repair_1 : decode cX11_repair 1 = .ok (.iconst 0, 1) := by decide +kernel
theorem dX11_repair_2 : decode cX11_repair 2 = .ok (.putfield 84, 3) := by decide +kernel
theorem dX11_repair_5 : decode cX11_repair 5 = .ok (.aload_n 0, 1) := by decide +kernel
theorem dX11_repair_6 : decode cX11_repair 6 = .ok (.iload_n 1, 1) := by decide +kernel
theorem dX11_repair_7 : decode cX11_repair 7 = .ok (.invokevirtual 126, 3) := by decide +kernel
theorem dX11_repair_10 : decode cX11_repair 10 = .ok (.ifCond .eq 20, 3) := by decide +kernel
theorem dX11_repair_13 : decode cX11_repair 13 = .ok (.aload_n 0, 1) := by decide +kernel
theorem dX11_repair_14 : decode cX11_repair 14 = .ok (.iload_n 2, 1) := by decide +kernel
theorem dX11_repair_15 : decode cX11_repair 15 = .ok (.invokevirtual 116, 3) := by decide +kernel
theorem dX11_repair_18 : decode cX11_repair 18 = .ok (.ifCond .eq 12, 3) := by decide +kernel
theorem dX11_repair_21 : decode cX11_repair 21 = .ok (.aload_n 0, 1) := by decide +kernel
theorem dX11_repair_22 : decode cX11_repair 22 = .ok (.iload_n 1, 1) := by decide +kernel
theorem dX11_repair_23 : decode cX11_repair 23 = .ok (.iload_n 2, 1) := by decide +kernel
theorem dX11_repair_24 : decode cX11_repair 24 = .ok (.invokevirtual 330, 3) := by decide +kernel
theorem dX11_repair_27 : decode cX11_repair 27 = .ok (.ifCond .ne 5, 3) := by decide +kernel
theorem dX11_repair_30 : decode cX11_repair 30 = .ok (.iconst (-1), 1) := by decide +kernel
theorem dX11_repair_31 : decode cX11_repair 31 = .ok (.ireturn, 1) := by decide +kernel
theorem dX11_repair_32 : decode cX11_repair 32 = .ok (.iconst 0, 1) := by decide +kernel
theorem dX11_repair_33 : decode cX11_repair 33 = .ok (.istore_n 3, 1) := by decide +kernel
theorem dX11_repair_34 : decode cX11_repair 34 = .ok (.iload_n 3, 1) := by decide +kernel
theorem dX11_repair_35 : decode cX11_repair 35 = .ok (.aload_n 0, 1) := by decide +kernel
theorem dX11_repair_36 : decode cX11_repair 36 = .ok (.getfield 275, 3) := by decide +kernel
theorem dX11_repair_39 : decode cX11_repair 39 = .ok (.if_icmp .ge 25, 3) := by decide +kernel
theorem dX11_repair_42 : decode cX11_repair 42 = .ok (.aload_n 0, 1) := by decide +kernel
theorem dX11_repair_43 : decode cX11_repair 43 = .ok (.getfield 7, 3) := by decide +kernel
theorem dX11_repair_46 : decode cX11_repair 46 = .ok (.sipush 496, 3) := by decide +kernel
theorem dX11_repair_49 : decode cX11_repair 49 = .ok (.iload_n 3, 1) := by decide +kernel
theorem dX11_repair_50 : decode cX11_repair 50 = .ok (.iadd, 1) := by decide +kernel
theorem dX11_repair_51 : decode cX11_repair 51 = .ok (.aload_n 0, 1) := by decide +kernel
theorem dX11_repair_52 : decode cX11_repair 52 = .ok (.getfield 48, 3) := by decide +kernel
theorem dX11_repair_55 : decode cX11_repair 55 = .ok (.iload_n 3, 1) := by decide +kernel
theorem dX11_repair_56 : decode cX11_repair 56 = .ok (.iaload, 1) := by decide +kernel
theorem dX11_repair_57 : decode cX11_repair 57 = .ok (.iastore, 1) := by decide +kernel
theorem dX11_repair_58 : decode cX11_repair 58 = .ok (.iinc 3 1, 3) := by decide +kernel
theorem dX11_repair_61 : decode cX11_repair 61 = .ok (.goto (-27), 3) := by decide +kernel
theorem dX11_repair_64 : decode cX11_repair 64 = .ok (.aload_n 0, 1) := by decide +kernel
theorem dX11_repair_65 : decode cX11_repair 65 = .ok (.getfield 7, 3) := by decide +kernel
theorem dX11_repair_68 : decode cX11_repair 68 = .ok (.sipush 495, 3) := by decide +kernel
theorem dX11_repair_71 : decode cX11_repair 71 = .ok (.aload_n 0, 1) := by decide +kernel
theorem dX11_repair_72 : decode cX11_repair 72 = .ok (.getfield 275, 3) := by decide +kernel
theorem dX11_repair_75 : decode cX11_repair 75 = .ok (.iastore, 1) := by decide +kernel
theorem dX11_repair_76 : decode cX11_repair 76 = .ok (.aload_n 0, 1) := by decide +kernel
theorem dX11_repair_77 : decode cX11_repair 77 = .ok (.invokevirtual 300, 3) := by decide +kernel
theorem dX11_repair_80 : decode cX11_repair 80 = .ok (.ireturn, 1) := by decide +kernel
abbrev mX11_repair : MI := (RX11, yX11_repair, cX11_repair, 4, (some .int))
theorem mok_X11_repair : MOKv mX11_repair 2 := ⟨⟨bm_1682, bm_127, ⟨by decide, by decide⟩, by decide +kernel⟩, bm_1680, bm_1681⟩
def f_X11_repair_34b   (a0 : Nat) (k34 : Int32 → MH → Option (Int32 × MH)) (p : Int32) (h : MH) : Option (Int32 × MH) :=
  if p < (gI h a0 27) then
    (gR h a0 1).bind fun a_1 =>
    (gR h a0 26).bind fun a_2 =>
    (ldI h a_2 p).bind fun x_3 =>
    (stI h a_1 (496 + p) x_3).bind fun h_4 =>
    k34 (p + 1) h_4
  else
    (gR h a0 1).bind fun a_5 =>
    (stI h a_5 495 (gI h a0 27)).bind fun h_6 =>
    (f_X11_writes a0 h_6).bind fun q_7 =>
    some (q_7.1, q_7.2)
def f_X11_repair_34   (a0 : Nat) : Nat → Int32 → MH → Option (Int32 × MH) := lp (f_X11_repair_34b a0)
def f_X11_repair   (a0 : Nat) (x1 : Int32) (x2 : Int32) (h : MH) : Option (Int32 × MH) :=
  lt (sI h a0 0 0) fun h_1 =>
  (f_X11_isLink a0 x1 h_1).bind fun q_2 =>
  if q_2.1 = 0 then
    some ((-1 : Int32), q_2.2)
  else
    (f_X11_isNode a0 x2 q_2.2).bind fun q_3 =>
    if q_3.1 = 0 then
      some ((-1 : Int32), q_3.2)
    else
      (f_X11_laysRepair a0 x1 x2 q_3.2).bind fun q_4 =>
      if q_4.1 = 0 then
        some ((-1 : Int32), q_4.2)
      else
        f_X11_repair_34 a0 FU 0 q_4.2
set_option maxRecDepth 100000 in
set_option maxHeartbeats 4000000 in
theorem v_X11_repair_34b {l : Launch} {G : GE} {B N : Nat} {S : List SHP} {o : Int32 × MH} {a0 : Nat}    (hs0 : S[a0]? = some (.inl 11)) {k34 : Int32 → MH → Option (Int32 × MH)} (hk34 : ∀ (p : Int32) (h : MH), k34 p h = some o → V l G B N mX11_repair (rmm 134 0 0) false 0 0 (QI S o) S 0 0 34 [(0, .ref a0), (3, .int p)] [] h) {p : Int32} {h : MH} (hf : f_X11_repair_34b a0 k34 p h = some o) : V l G B N mX11_repair (rmm 134 0 0) false 0 0 (QI S o) S 0 0 34 [(0, .ref a0), (3, .int p)] [] h := by
  unfold f_X11_repair_34b at hf
  refine V_iload_n (pc' := 35) dX11_repair_34 rfl 1 rfl rfl ?_
  refine V_aload_n (pc' := 36) dX11_repair_35 rfl 0 rfl rfl ?_
  refine V_getI (pc' := 39) 11 27 dX11_repair_36 rfl (by decide) (Nat.le_of_ble_eq_true rfl) bm_1251 hs0 (fun _ _ _ => rfl) ?_
  refine V_icmp_ge (tgt := 64) (pc' := 42) dX11_repair_39 (by decide) rfl hf (fun hf => ?_) (fun hf => ?_)
  ·
    refine V_aload_n (pc' := 43) dX11_repair_42 rfl 0 rfl rfl ?_
    refine V_getR (pc' := 46) 11 1 dX11_repair_43 rfl (by decide) (Nat.le_of_ble_eq_true rfl) bm_1225 hs0 (fun _ _ _ => rfl) rfl hf (fun a_1 ha_1 hf => ?_)
    refine V_sipush (v := 496) (pc' := 49) dX11_repair_46 rfl (by decide) ?_
    refine V_iload_n (pc' := 50) dX11_repair_49 rfl 1 rfl rfl ?_
    refine V_iadd (pc' := 51) dX11_repair_50 rfl ?_
    refine V_aload_n (pc' := 52) dX11_repair_51 rfl 0 rfl rfl ?_
    refine V_getR (pc' := 55) 11 26 dX11_repair_52 rfl (by decide) (Nat.le_of_ble_eq_true rfl) bm_1250 hs0 (fun _ _ _ => rfl) rfl hf (fun a_2 ha_2 hf => ?_)
    refine V_iload_n (pc' := 56) dX11_repair_55 rfl 1 rfl rfl ?_
    refine V_iald (pc' := 57) dX11_repair_56 rfl ha_2 hf (fun x_3 hf => ?_)
    refine V_iast (pc' := 58) dX11_repair_57 rfl ha_1 hf (fun h_4 hf => ?_)
    refine V_iinc (v := (p + 1)) (lv' := [(3, .int (p + 1)), (0, .ref a0)]) (pc' := 61) dX11_repair_58 rfl 1 rfl rfl (Nat.le_of_ble_eq_true rfl) rfl ?_
    refine V_goto (tgt := 34) dX11_repair_61 (by decide) ?_
    exact V_sub (lv' := [(0, .ref a0), (3, .int (p + 1))]) [1, 0] rfl (hk34 (p + 1) h_4 hf)
  ·
    refine V_aload_n (pc' := 65) dX11_repair_64 rfl 0 rfl rfl ?_
    refine V_getR (pc' := 68) 11 1 dX11_repair_65 rfl (by decide) (Nat.le_of_ble_eq_true rfl) bm_1225 hs0 (fun _ _ _ => rfl) rfl hf (fun a_5 ha_5 hf => ?_)
    refine V_sipush (v := 495) (pc' := 71) dX11_repair_68 rfl (by decide) ?_
    refine V_aload_n (pc' := 72) dX11_repair_71 rfl 0 rfl rfl ?_
    refine V_getI (pc' := 75) 11 27 dX11_repair_72 rfl (by decide) (Nat.le_of_ble_eq_true rfl) bm_1251 hs0 (fun _ _ _ => rfl) ?_
    refine V_iast (pc' := 76) dX11_repair_75 rfl ha_5 hf (fun h_6 hf => ?_)
    refine V_aload_n (pc' := 77) dX11_repair_76 rfl 0 rfl rfl ?_
    refine V_cvI (pc' := 80) (As := []) (rest := []) dX11_repair_77 rfl mok_X11_writes bm_1629 11 (by decide) rfl hs0 rfl rfl (Nat.le_of_ble_eq_true rfl) (by decide) hf (fun q e => ct_X11_writes hs0 e) (fun q_7 hf => ?_)
    obtain rfl := Option.some.inj hf
    exact V_iret dX11_repair_80 rfl rfl rfl ⟨rfl, rfl, rfl⟩
theorem v_X11_repair_34 {l : Launch} {G : GE} {B N : Nat} {S : List SHP} {o : Int32 × MH} {a0 : Nat}    (hs0 : S[a0]? = some (.inl 11)) {n : Nat} {p : Int32} {h : MH} (hf : f_X11_repair_34 a0 n p h = some o) : V l G B N mX11_repair (rmm 134 0 0) false 0 0 (QI S o) S 0 0 34 [(0, .ref a0), (3, .int p)] [] h :=
  V_lp (VV := fun p h => V l G B N mX11_repair (rmm 134 0 0) false 0 0 (QI S o) S 0 0 34 [(0, .ref a0), (3, .int p)] [] h) (fun _ hk _ _ hf => v_X11_repair_34b hs0 hk hf) n p h hf
set_option maxRecDepth 100000 in
set_option maxHeartbeats 4000000 in
theorem v_X11_repair {l : Launch} {G : GE} {B N : Nat} {S : List SHP} {o : Int32 × MH} {a0 : Nat} {x1 : Int32} {x2 : Int32}    (hs0 : S[a0]? = some (.inl 11)) {h : MH} (hf : f_X11_repair a0 x1 x2 h = some o) : V l G B N mX11_repair (rmm 134 0 0) false 0 0 (QI S o) S 0 0 0 [(0, .ref a0), (1, .int x1), (2, .int x2)] [] h := by
  unfold f_X11_repair at hf
  refine V_aload_n (pc' := 1) dX11_repair_0 rfl 0 rfl rfl ?_
  refine V_iconst (v := 0) (pc' := 2) dX11_repair_1 rfl (by decide) ?_
  refine V_putI (pc' := 5) 11 0 dX11_repair_2 rfl (by decide) (Nat.le_of_ble_eq_true rfl) bm_1224 hs0 (Or.inl rfl) rfl ?_
  refine V_nmH hf (fun h_1 hf => ?_)
  refine V_aload_n (pc' := 6) dX11_repair_5 rfl 0 rfl rfl ?_
  refine V_iload_n (pc' := 7) dX11_repair_6 rfl 1 rfl rfl ?_
  refine V_cvI (pc' := 10) (As := [.int x1]) (rest := []) dX11_repair_7 rfl mok_X11_isLink bm_1410 11 (by decide) rfl hs0 rfl rfl (Nat.le_of_ble_eq_true rfl) (by decide) hf (fun q e => ct_X11_isLink hs0 e) (fun q_2 hf => ?_)
  refine V_if_eq (tgt := 30) (pc' := 13) dX11_repair_10 (by decide) rfl hf (fun hf => ?_) (fun hf => ?_)
  ·
    refine V_iconst (v := (-1)) (pc' := 31) dX11_repair_30 rfl (by decide) ?_
    obtain rfl := Option.some.inj hf
    exact V_iret dX11_repair_31 rfl rfl rfl ⟨rfl, rfl, rfl⟩
  ·
    refine V_aload_n (pc' := 14) dX11_repair_13 rfl 0 rfl rfl ?_
    refine V_iload_n (pc' := 15) dX11_repair_14 rfl 2 rfl rfl ?_
    refine V_cvI (pc' := 18) (As := [.int x2]) (rest := []) dX11_repair_15 rfl mok_X11_isNode bm_1389 11 (by decide) rfl hs0 rfl rfl (Nat.le_of_ble_eq_true rfl) (by decide) hf (fun q e => ct_X11_isNode hs0 e) (fun q_3 hf => ?_)
    refine V_if_eq (tgt := 30) (pc' := 21) dX11_repair_18 (by decide) rfl hf (fun hf => ?_) (fun hf => ?_)
    ·
      refine V_iconst (v := (-1)) (pc' := 31) dX11_repair_30 rfl (by decide) ?_
      obtain rfl := Option.some.inj hf
      exact V_iret dX11_repair_31 rfl rfl rfl ⟨rfl, rfl, rfl⟩
    ·
      refine V_aload_n (pc' := 22) dX11_repair_21 rfl 0 rfl rfl ?_
      refine V_iload_n (pc' := 23) dX11_repair_22 rfl 1 rfl rfl ?_
      refine V_iload_n (pc' := 24) dX11_repair_23 rfl 2 rfl rfl ?_
      refine V_cvI (pc' := 27) (As := [.int x1, .int x2]) (rest := []) dX11_repair_24 rfl mok_X11_laysRepair bm_1683 11 (by decide) rfl hs0 rfl rfl (Nat.le_of_ble_eq_true rfl) (by decide) hf (fun q e => ct_X11_laysRepair hs0 e) (fun q_4 hf => ?_)
      refine V_if_ne (tgt := 32) (pc' := 30) dX11_repair_27 (by decide) rfl hf (fun hf => ?_) (fun hf => ?_)
      ·
        refine V_iconst (v := (-1)) (pc' := 31) dX11_repair_30 rfl (by decide) ?_
        obtain rfl := Option.some.inj hf
        exact V_iret dX11_repair_31 rfl rfl rfl ⟨rfl, rfl, rfl⟩
      ·
        refine V_iconst (v := 0) (pc' := 33) dX11_repair_32 rfl (by decide) ?_
        refine V_istore_n (lv' := [(3, .int 0), (0, .ref a0), (1, .int x1), (2, .int x2)]) (pc' := 34) dX11_repair_33 rfl rfl (Nat.le_of_ble_eq_true rfl) rfl ?_
        exact V_sub (lv' := [(0, .ref a0), (3, .int 0)]) [1, 0] rfl (v_X11_repair_34 hs0 hf)
theorem ct_X11_repair {l : Launch} {S : List SHP} {h : MH} {a0 : Nat} {x1 : Int32} {x2 : Int32} (hs0 : S[a0]? = some (.inl 11)) {q : Int32 × MH} (hf : f_X11_repair a0 x1 x2 h = some q) : CT l mX11_repair 134 false 0 0 S [.ref a0, .int x1, .int x2] h (QI S q) :=
  CT_ofV (by decide) rfl (Nat.le_of_ble_eq_true rfl) (fun G B hT => v_X11_repair hs0 hf)
/-! LabelStacksModel.guards(I)I -/
theorem dX11_guards_0 : decode cX11_guards 0 = .ok (.aload_n 0, 1) := by decide +kernel
theorem dX11_guards_1 : decode cX11_guards 1 = .ok (.iconst 0, 1) := by decide +kernel
theorem dX11_guards_2 : decode cX11_guards 2 = .ok (.putfield 84, 3) := by decide +kernel
theorem dX11_guards_5 : decode cX11_guards 5 = .ok (.aload_n 0, 1) := by decide +kernel
theorem dX11_guards_6 : decode cX11_guards 6 = .ok (.invokevirtual 152, 3) := by decide +kernel
theorem dX11_guards_9 : decode cX11_guards 9 = .ok (.ifCond .eq 16, 3) := by decide +kernel
theorem dX11_guards_12 : decode cX11_guards 12 = .ok (.aload_n 0, 1) := by decide +kernel
theorem dX11_guards_13 : decode cX11_guards 13 = .ok (.iload_n 1, 1) := by decide +kernel
theorem dX11_guards_14 : decode cX11_guards 14 = .ok (.i2l, 1) := by decide +kernel
theorem dX11_guards_15 : decode cX11_guards 15 = .ok (.lconst 0, 1) := by decide +kernel
theorem dX11_guards_16 : decode cX11_guards 16 = .ok (.ldc2_w 105, 3) := by decide +kernel
theorem dX11_guards_19 : decode cX11_guards 19 = .ok (.invokevirtual 91, 3) := by decide +kernel
theorem dX11_guards_22 : decode cX11_guards 22 = .ok (.ifCond .ne 5, 3) := by decide +kernel
theorem dX11_guards_25 : decode cX11_guards 25 = .ok (.iconst (-1), 1) := by decide +kernel
theorem dX11_guards_26 : decode cX11_guards 26 = .ok (.ireturn, 1) := by decide +kernel
theorem dX11_guards_27 : decode cX11_guards 27 = .ok (.aload_n 0, 1) := by decide +kernel
theorem dX11_guards_28 : decode cX11_guards 28 = .ok (.aload_n 0, 1) := by decide +kernel
theorem dX11_guards_29 : decode cX11_guards 29 = .ok (.aload_n 0, 1) := by decide +kernel
theorem dX11_guards_30 : decode cX11_guards 30 = .ok (.invokevirtual 152, 3) := by decide +kernel
theorem dX11_guards_33 : decode cX11_guards 33 = .ok (.iconst 1, 1) := by decide +kernel
theorem dX11_guards_34 : decode cX11_guards 34 = .ok (.isub, 1) := by decide +kernel
theorem dX11_guards_35 : decode cX11_guards 35 = .ok (.invokevirtual 155, 3) := by decide +kernel
theorem dX11_guards_38 : decode cX11_guards 38 = .ok (.invokevirtual 158, 3) := by decide +kernel
theorem dX11_guards_41 : decode cX11_guards 41 = .ok (.istore_n 2, 1) := by decide +kernel
theorem dX11_guards_42 : decode cX11_guards 42 = .ok (.iconst 0, 1) := by decide +kernel
theorem dX11_guards_43 : decode cX11_guards 43 = .ok (.istore_n 3, 1) := by decide +kernel
theorem dX11_guards_44 : decode cX11_guards 44 = .ok (.iconst 0, 1) := by decide +kernel
theorem dX11_guards_45 : decode cX11_guards 45 = .ok (.istore 4, 2) := by decide +kernel
theorem dX11_guards_47 : decode cX11_guards 47 = .ok (.iconst 0, 1) := by decide +kernel
theorem dX11_guards_48 : decode cX11_guards 48 = .ok (.istore 5, 2) := by decide +kernel
theorem dX11_guards_50 : decode cX11_guards 50 = .ok (.iconst 0, 1) := by decide +kernel
theorem dX11_guards_51 : decode cX11_guards 51 = .ok (.istore 6, 2) := by decide +kernel
theorem dX11_guards_53 : decode cX11_guards 53 = .ok (.iconst 0, 1) := by decide +kernel
theorem dX11_guards_54 : decode cX11_guards 54 = .ok (.istore 7, 2) := by decide +kernel
theorem dX11_guards_56 : decode cX11_guards 56 = .ok (.iload 7, 2) := by decide +kernel
theorem dX11_guards_58 : decode cX11_guards 58 = .ok (.aload_n 0, 1) := by decide +kernel
theorem dX11_guards_59 : decode cX11_guards 59 = .ok (.invokevirtual 152, 3) := by decide +kernel
theorem dX11_guards_62 : decode cX11_guards 62 = .ok (.if_icmp .ge 79, 3) := by decide +kernel
theorem dX11_guards_65 : decode cX11_guards 65 = .ok (.aload_n 0, 1) := by decide +kernel
theorem dX11_guards_66 : decode cX11_guards 66 = .ok (.iload 7, 2) := by decide +kernel
theorem dX11_guards_68 : decode cX11_guards 68 = .ok (.invokevirtual 155, 3) := by decide +kernel
theorem dX11_guards_71 : decode cX11_guards 71 = .ok (.istore 8, 2) := by decide +kernel
theorem dX11_guards_73 : decode cX11_guards 73 = .ok (.aload_n 0, 1) := by decide +kernel
theorem dX11_guards_74 : decode cX11_guards 74 = .ok (.iload 8, 2) := by decide +kernel
theorem dX11_guards_76 : decode cX11_guards 76 = .ok (.iload_n 2, 1) := by decide +kernel
theorem dX11_guards_77 : decode cX11_guards 77 = .ok (.invokevirtual 330, 3) := by decide +kernel
theorem dX11_guards_80 : decode cX11_guards 80 = .ok (.ifCond .eq 44, 3) := by decide +kernel
theorem dX11_guards_83 : decode cX11_guards 83 = .ok (.iload_n 3, 1) := by decide +kernel
theorem dX11_guards_84 : decode cX11_guards 84 = .ok (.iconst 1, 1) := by decide +kernel
theorem dX11_guards_85 : decode cX11_guards 85 = .ok (.iload 7, 2) := by decide +kernel
theorem dX11_guards_87 : decode cX11_guards 87 = .ok (.ishl, 1) := by decide +kernel
theorem dX11_guards_88 : decode cX11_guards 88 = .ok (.ior, 1) := by decide +kernel
theorem dX11_guards_89 : decode cX11_guards 89 = .ok (.istore_n 3, 1) := by decide +kernel
theorem dX11_guards_90 : decode cX11_guards 90 = .ok (.iload 4, 2) := by decide +kernel
theorem dX11_guards_92 : decode cX11_guards 92 = .ok (.aload_n 0, 1) := by decide +kernel
theorem dX11_guards_93 : decode cX11_guards 93 = .ok (.getfield 51, 3) := by decide +kernel
theorem dX11_guards_96 : decode cX11_guards 96 = .ok (.iconst 0, 1) := by decide +kernel
theorem dX11_guards_97 : decode cX11_guards 97 = .ok (.iaload, 1) := by decide +kernel
theorem dX11_guards_98 : decode cX11_guards 98 = .ok (.invokestatic 303, 3) := by decide +kernel
theorem dX11_guards_101 : decode cX11_guards 101 = .ok (.istore 4, 2) := by decide +kernel
theorem dX11_guards_103 : decode cX11_guards 103 = .ok (.iload 5, 2) := by decide +kernel
theorem dX11_guards_105 : decode cX11_guards 105 = .ok (.iload 6, 2) := by decide +kernel
theorem dX11_guards_107 : decode cX11_guards 107 = .ok (.aload_n 0, 1) := by decide +kernel
theorem dX11_guards_108 : decode cX11_guards 108 = .ok (.getfield 69, 3) := by decide +kernel
theorem dX11_guards_111 : decode cX11_guards 111 = .ok (.aload_n 0, 1) := by decide +kernel
theorem dX11_guards_112 : decode cX11_guards 112 = .ok (.iload 8, 2) := by decide +kernel
theorem dX11_guards_114 : decode cX11_guards 114 = .ok (.invokevirtual 161, 3) := by decide +kernel
theorem dX11_guards_117 : decode cX11_guards 117 = .ok (.iaload, 1) := by decide +kernel
theorem dX11_guards_118 : decode cX11_guards 118 = .ok (.iadd, 1) := by decide +kernel
theorem dX11_guards_119 : decode cX11_guards 119 = .ok (.invokestatic 303, 3) := by decide +kernel
theorem dX11_guards_122 : decode cX11_guards 122 = .ok (.istore 5, 2) := by decide +kernel
theorem dX11_guards_124 : decode cX11_guards 124 = .ok (.iload 6, 2) := by decide +kernel
theorem dX11_guards_126 : decode cX11_guards 126 = .ok (.aload_n 0, 1) := by decide +kernel
theorem dX11_guards_127 : decode cX11_guards 127 = .ok (.iload 8, 2) := by decide +kernel
theorem dX11_guards_129 : decode cX11_guards 129 = .ok (.invokevirtual 132, 3) := by decide +kernel
theorem dX11_guards_132 : decode cX11_guards 132 = .ok (.iadd, 1) := by decide +kernel
theorem dX11_guards_133 : decode cX11_guards 133 = .ok (.istore 6, 2) := by decide +kernel
theorem dX11_guards_135 : decode cX11_guards 135 = .ok (.iinc 7 1, 3) := by decide +kernel
theorem dX11_guards_138 : decode cX11_guards 138 = .ok (.goto (-82), 3) := by decide +kernel
theorem dX11_guards_141 : decode cX11_guards 141 = .ok (.iload_n 1, 1) := by decide +kernel
theorem dX11_guards_142 : decode cX11_guards 142 = .ok (.ifCond .ne 7, 3) := by decide +kernel
theorem dX11_guards_145 : decode cX11_guards 145 = .ok (.iload_n 3, 1) := by decide +kernel
theorem dX11_guards_146 : decode cX11_guards 146 = .ok (.goto 15, 3) := by decide +kernel
theorem dX11_guards_149 : decode cX11_guards 149 = .ok (.iload_n 1, 1) := by decide +kernel
theorem dX11_guards_150 : decode cX11_guards 150 = .ok (.iconst 1, 1) := by decide +kernel
theorem dX11_guards_151 : decode cX11_guards 151 = .ok (.if_icmp .ne 8, 3) := by decide +kernel
theorem dX11_guards_154 : decode cX11_guards 154 = .ok (.iload 4, 2) := by decide +kernel
theorem dX11_guards_156 : decode cX11_guards 156 = .ok (.goto 5, 3) := by decide +kernel
theorem dX11_guards_159 : decode cX11_guards 159 = .ok (.iload 5, 2) := by decide +kernel
theorem dX11_guards_161 : decode cX11_guards 161 = .ok (.ireturn, 1) := by decide +kernel
abbrev mX11_guards : MI := (RX11, yX11_guards, cX11_guards, 9, (some .int))
theorem mok_X11_guards : MOKv mX11_guards 1 := ⟨⟨bm_1694, bm_127, ⟨by decide, by decide⟩, by decide +kernel⟩, bm_1692, bm_1693⟩
def f_X11_guards_124  (k56 : Int32 × Int32 × Int32 × Int32 × Int32 → MH → Option (Int32 × MH)) (a0 : Nat) (x1 : Int32) (x2 : Int32) (x3 : Int32) (x4 : Int32) (x5 : Int32) (x6 : Int32) (x7 : Int32) (x8 : Int32) (h : MH) : Option (Int32 × MH) :=
  (f_X11_costOf a0 x8 h).bind fun q_1 =>
  lt (x6 + q_1.1) fun x_2 =>
  k56 (x3, x4, x5, x_2, (x7 + 1)) q_1.2
def f_X11_guards_56b   (a0 : Nat) (x1 : Int32) (x2 : Int32) (k56 : Int32 × Int32 × Int32 × Int32 × Int32 → MH → Option (Int32 × MH)) (p : Int32 × Int32 × Int32 × Int32 × Int32) (h : MH) : Option (Int32 × MH) :=
  (f_X11_wayLong a0 h).bind fun q_1 =>
  if p.2.2.2.2 < q_1.1 then
    (f_X11_wayLink a0 p.2.2.2.2 q_1.2).bind fun q_2 =>
    (f_X11_laysRepair a0 q_2.1 x2 q_2.2).bind fun q_3 =>
    if q_3.1 = 0 then
      f_X11_guards_124 k56 a0 x1 x2 p.1 p.2.1 p.2.2.1 p.2.2.2.1 p.2.2.2.2 q_2.1 q_3.2
    else
      lt (p.1 ||| ((1 : Int32) <<< (p.2.2.2.2 &&& 31))) fun x_4 =>
      (gR q_3.2 a0 28).bind fun a_5 =>
      (ldI q_3.2 a_5 0).bind fun x_6 =>
      lt ((if p.2.1 < x_6 then x_6 else p.2.1) : Int32) fun x_7 =>
      (gR q_3.2 a0 34).bind fun a_8 =>
      (f_X11_from a0 q_2.1 q_3.2).bind fun q_9 =>
      (ldI q_9.2 a_8 q_9.1).bind fun x_10 =>
      lt ((if p.2.2.1 < (p.2.2.2.1 + x_10) then (p.2.2.2.1 + x_10) else p.2.2.1) : Int32) fun x_11 =>
      f_X11_guards_124 k56 a0 x1 x2 x_4 x_7 x_11 p.2.2.2.1 p.2.2.2.2 q_2.1 q_9.2
  else
    if x1 = 0 then
      some (p.1, q_1.2)
    else
      if x1 = 1 then
        some (p.2.1, q_1.2)
      else
        some (p.2.2.1, q_1.2)
def f_X11_guards_56   (a0 : Nat) (x1 : Int32) (x2 : Int32) : Nat → Int32 × Int32 × Int32 × Int32 × Int32 → MH → Option (Int32 × MH) := lp (f_X11_guards_56b a0 x1 x2)
def f_X11_guards   (a0 : Nat) (x1 : Int32) (h : MH) : Option (Int32 × MH) :=
  lt (sI h a0 0 0) fun h_1 =>
  (f_X11_wayLong a0 h_1).bind fun q_2 =>
  if q_2.1 = 0 then
    some ((-1 : Int32), q_2.2)
  else
    (f_X11_isIn a0 (Int32.toInt64 x1) 0 2 q_2.2).bind fun q_3 =>
    if q_3.1 = 0 then
      some ((-1 : Int32), q_3.2)
    else
      (f_X11_wayLong a0 q_3.2).bind fun q_4 =>
      (f_X11_wayLink a0 (q_4.1 - 1) q_4.2).bind fun q_5 =>
      (f_X11_to a0 q_5.1 q_5.2).bind fun q_6 =>
      f_X11_guards_56 a0 x1 q_6.1 FU (0, 0, 0, 0, 0) q_6.2
set_option maxRecDepth 100000 in
set_option maxHeartbeats 4000000 in
theorem v_X11_guards_124 {l : Launch} {G : GE} {B N : Nat} {S : List SHP} {o : Int32 × MH} {a0 : Nat} {x1 : Int32} {x2 : Int32} {x3 : Int32} {x4 : Int32} {x5 : Int32} {x6 : Int32} {x7 : Int32} {x8 : Int32}  {k56 : Int32 × Int32 × Int32 × Int32 × Int32 → MH → Option (Int32 × MH)} (hk56 : ∀ (p : Int32 × Int32 × Int32 × Int32 × Int32) (h : MH), k56 p h = some o → V l G B N mX11_guards (rmm 134 0 0) false 0 0 (QI S o) S 0 0 56 [(0, .ref a0), (1, .int x1), (2, .int x2), (3, .int p.1), (4, .int p.2.1), (5, .int p.2.2.1), (6, .int p.2.2.2.1), (7, .int p.2.2.2.2)] [] h) (hs0 : S[a0]? = some (.inl 11)) {h : MH} (hf : f_X11_guards_124 k56 a0 x1 x2 x3 x4 x5 x6 x7 x8 h = some o) : V l G B N mX11_guards (rmm 134 0 0) false 0 0 (QI S o) S 0 0 124 [(0, .ref a0), (1, .int x1), (2, .int x2), (3, .int x3), (4, .int x4), (5, .int x5), (6, .int x6), (7, .int x7), (8, .int x8)] [] h := by
  unfold f_X11_guards_124 at hf
  refine V_iload (pc' := 126) dX11_guards_124 rfl 6 rfl ?_
  refine V_aload_n (pc' := 127) dX11_guards_126 rfl 0 rfl rfl ?_
  refine V_iload (pc' := 129) dX11_guards_127 rfl 8 rfl ?_
  refine V_cvI (pc' := 132) (As := [.int x8]) (rest := [.int x6]) dX11_guards_129 rfl mok_X11_costOf bm_1422 11 (by decide) rfl hs0 rfl rfl (Nat.le_of_ble_eq_true rfl) (by decide) hf (fun q e => ct_X11_costOf hs0 e) (fun q_1 hf => ?_)
  refine V_iadd (pc' := 133) dX11_guards_132 rfl ?_
  refine V_nmI hf (fun x_2 hf => ?_)
  refine V_istore (lv' := [(6, .int x_2), (0, .ref a0), (1, .int x1), (2, .int x2), (3, .int x3), (4, .int x4), (5, .int x5), (7, .int x7), (8, .int x8)]) (pc' := 135) dX11_guards_133 rfl (Nat.le_of_ble_eq_true rfl) rfl ?_
  refine V_iinc (v := (x7 + 1)) (lv' := [(7, .int (x7 + 1)), (6, .int x_2), (0, .ref a0), (1, .int x1), (2, .int x2), (3, .int x3), (4, .int x4), (5, .int x5), (8, .int x8)]) (pc' := 138) dX11_guards_135 rfl 7 rfl rfl (Nat.le_of_ble_eq_true rfl) rfl ?_
  refine V_goto (tgt := 56) dX11_guards_138 (by decide) ?_
  exact V_sub (lv' := [(0, .ref a0), (1, .int x1), (2, .int x2), (3, .int x3), (4, .int x4), (5, .int x5), (6, .int x_2), (7, .int (x7 + 1))]) [2, 3, 4, 5, 6, 7, 1, 0] rfl (hk56 (x3, x4, x5, x_2, (x7 + 1)) q_1.2 hf)
set_option maxRecDepth 100000 in
set_option maxHeartbeats 4000000 in
theorem v_X11_guards_56b {l : Launch} {G : GE} {B N : Nat} {S : List SHP} {o : Int32 × MH} {a0 : Nat} {x1 : Int32} {x2 : Int32}    (hs0 : S[a0]? = some (.inl 11)) {k56 : Int32 × Int32 × Int32 × Int32 × Int32 → MH → Option (Int32 × MH)} (hk56 : ∀ (p : Int32 × Int32 × Int32 × Int32 × Int32) (h : MH), k56 p h = some o → V l G B N mX11_guards (rmm 134 0 0) false 0 0 (QI S o) S 0 0 56 [(0, .ref a0), (1, .int x1), (2, .int x2), (3, .int p.1), (4, .int p.2.1), (5, .int p.2.2.1), (6, .int p.2.2.2.1), (7, .int p.2.2.2.2)] [] h) {p : Int32 × Int32 × Int32 × Int32 × Int32} {h : MH} (hf : f_X11_guards_56b a0 x1 x2 k56 p h = some o) : V l G B N mX11_guards (rmm 134 0 0) false 0 0 (QI S o) S 0 0 56 [(0, .ref a0), (1, .int x1), (2, .int x2), (3, .int p.1), (4, .int p.2.1), (5, .int p.2.2.1), (6, .int p.2.2.2.1), (7, .int p.2.2.2.2)] [] h := by
  unfold f_X11_guards_56b at hf
  refine V_iload (pc' := 58) dX11_guards_56 rfl 7 rfl ?_
  refine V_aload_n (pc' := 59) dX11_guards_58 rfl 0 rfl rfl ?_
  refine V_cvI (pc' := 62) (As := []) (rest := [.int p.2.2.2.2]) dX11_guards_59 rfl mok_X11_wayLong bm_1453 11 (by decide) rfl hs0 rfl rfl (Nat.le_of_ble_eq_true rfl) (by decide) hf (fun q e => ct_X11_wayLong hs0 e) (fun q_1 hf => ?_)
  refine V_icmp_ge (tgt := 141) (pc' := 65) dX11_guards_62 (by decide) rfl hf (fun hf => ?_) (fun hf => ?_)
  ·
    refine V_aload_n (pc' := 66) dX11_guards_65 rfl 0 rfl rfl ?_
    refine V_iload (pc' := 68) dX11_guards_66 rfl 7 rfl ?_
    refine V_cvI (pc' := 71) (As := [.int p.2.2.2.2]) (rest := []) dX11_guards_68 rfl mok_X11_wayLink bm_1457 11 (by decide) rfl hs0 rfl rfl (Nat.le_of_ble_eq_true rfl) (by decide) hf (fun q e => ct_X11_wayLink hs0 e) (fun q_2 hf => ?_)
    refine V_istore (lv' := [(8, .int q_2.1), (0, .ref a0), (1, .int x1), (2, .int x2), (3, .int p.1), (4, .int p.2.1), (5, .int p.2.2.1), (6, .int p.2.2.2.1), (7, .int p.2.2.2.2)]) (pc' := 73) dX11_guards_71 rfl (Nat.le_of_ble_eq_true rfl) rfl ?_
    refine V_aload_n (pc' := 74) dX11_guards_73 rfl 1 rfl rfl ?_
    refine V_iload (pc' := 76) dX11_guards_74 rfl 0 rfl ?_
    refine V_iload_n (pc' := 77) dX11_guards_76 rfl 3 rfl rfl ?_
    refine V_cvI (pc' := 80) (As := [.int q_2.1, .int x2]) (rest := []) dX11_guards_77 rfl mok_X11_laysRepair bm_1683 11 (by decide) rfl hs0 rfl rfl (Nat.le_of_ble_eq_true rfl) (by decide) hf (fun q e => ct_X11_laysRepair hs0 e) (fun q_3 hf => ?_)
    refine V_if_eq (tgt := 124) (pc' := 83) dX11_guards_80 (by decide) rfl hf (fun hf => ?_) (fun hf => ?_)
    ·
      exact V_sub (lv' := [(0, .ref a0), (1, .int x1), (2, .int x2), (3, .int p.1), (4, .int p.2.1), (5, .int p.2.2.1), (6, .int p.2.2.2.1), (7, .int p.2.2.2.2), (8, .int q_2.1)]) [1, 2, 3, 4, 5, 6, 7, 8, 0] rfl (v_X11_guards_124 hk56 hs0 hf)
    ·
      refine V_iload_n (pc' := 84) dX11_guards_83 rfl 4 rfl rfl ?_
      refine V_iconst (v := 1) (pc' := 85) dX11_guards_84 rfl (by decide) ?_
      refine V_iload (pc' := 87) dX11_guards_85 rfl 8 rfl ?_
      refine V_ishl (pc' := 88) dX11_guards_87 rfl ?_
      refine V_ior (pc' := 89) dX11_guards_88 rfl ?_
      refine V_nmI hf (fun x_4 hf => ?_)
      refine V_istore_n (lv' := [(3, .int x_4), (8, .int q_2.1), (0, .ref a0), (1, .int x1), (2, .int x2), (4, .int p.2.1), (5, .int p.2.2.1), (6, .int p.2.2.2.1), (7, .int p.2.2.2.2)]) (pc' := 90) dX11_guards_89 rfl rfl (Nat.le_of_ble_eq_true rfl) rfl ?_
      refine V_iload (pc' := 92) dX11_guards_90 rfl 5 rfl ?_
      refine V_aload_n (pc' := 93) dX11_guards_92 rfl 2 rfl rfl ?_
      refine V_getR (pc' := 96) 11 28 dX11_guards_93 rfl (by decide) (Nat.le_of_ble_eq_true rfl) bm_1252 hs0 (fun _ _ _ => rfl) rfl hf (fun a_5 ha_5 hf => ?_)
      refine V_iconst (v := 0) (pc' := 97) dX11_guards_96 rfl (by decide) ?_
      refine V_iald (pc' := 98) dX11_guards_97 rfl ha_5 hf (fun x_6 hf => ?_)
      refine V_max (pc' := 101) dX11_guards_98 rfl bm_1645 (Nat.le_of_ble_eq_true rfl) (by decide) ?_
      refine V_nmI hf (fun x_7 hf => ?_)
      refine V_istore (lv' := [(4, .int x_7), (3, .int x_4), (8, .int q_2.1), (0, .ref a0), (1, .int x1), (2, .int x2), (5, .int p.2.2.1), (6, .int p.2.2.2.1), (7, .int p.2.2.2.2)]) (pc' := 103) dX11_guards_101 rfl (Nat.le_of_ble_eq_true rfl) rfl ?_
      refine V_iload (pc' := 105) dX11_guards_103 rfl 6 rfl ?_
      refine V_iload (pc' := 107) dX11_guards_105 rfl 7 rfl ?_
      refine V_aload_n (pc' := 108) dX11_guards_107 rfl 3 rfl rfl ?_
      refine V_getR (pc' := 111) 11 34 dX11_guards_108 rfl (by decide) (Nat.le_of_ble_eq_true rfl) bm_1258 hs0 (fun _ _ _ => rfl) rfl hf (fun a_8 ha_8 hf => ?_)
      refine V_aload_n (pc' := 112) dX11_guards_111 rfl 3 rfl rfl ?_
      refine V_iload (pc' := 114) dX11_guards_112 rfl 2 rfl ?_
      refine V_cvI (pc' := 117) (As := [.int q_2.1]) (rest := [.ref a_8, .int p.2.2.2.1, .int p.2.2.1]) dX11_guards_114 rfl mok_X11_from bm_1465 11 (by decide) rfl hs0 rfl rfl (Nat.le_of_ble_eq_true rfl) (by decide) hf (fun q e => ct_X11_from hs0 e) (fun q_9 hf => ?_)
      refine V_iald (pc' := 118) dX11_guards_117 rfl ha_8 hf (fun x_10 hf => ?_)
      refine V_iadd (pc' := 119) dX11_guards_118 rfl ?_
      refine V_max (pc' := 122) dX11_guards_119 rfl bm_1645 (Nat.le_of_ble_eq_true rfl) (by decide) ?_
      refine V_nmI hf (fun x_11 hf => ?_)
      refine V_istore (lv' := [(5, .int x_11), (4, .int x_7), (3, .int x_4), (8, .int q_2.1), (0, .ref a0), (1, .int x1), (2, .int x2), (6, .int p.2.2.2.1), (7, .int p.2.2.2.2)]) (pc' := 124) dX11_guards_122 rfl (Nat.le_of_ble_eq_true rfl) rfl ?_
      exact V_sub (lv' := [(0, .ref a0), (1, .int x1), (2, .int x2), (3, .int x_4), (4, .int x_7), (5, .int x_11), (6, .int p.2.2.2.1), (7, .int p.2.2.2.2), (8, .int q_2.1)]) [4, 5, 6, 2, 1, 0, 7, 8, 3] rfl (v_X11_guards_124 hk56 hs0 hf)
  ·
    refine V_iload_n (pc' := 142) dX11_guards_141 rfl 1 rfl rfl ?_
    refine V_if_ne (tgt := 149) (pc' := 145) dX11_guards_142 (by decide) rfl hf (fun hf => ?_) (fun hf => ?_)
    ·
      refine V_iload_n (pc' := 146) dX11_guards_145 rfl 3 rfl rfl ?_
      refine V_goto (tgt := 161) dX11_guards_146 (by decide) ?_
      obtain rfl := Option.some.inj hf
      exact V_iret dX11_guards_161 rfl rfl rfl ⟨rfl, rfl, rfl⟩
    ·
      refine V_iload_n (pc' := 150) dX11_guards_149 rfl 1 rfl rfl ?_
      refine V_iconst (v := 1) (pc' := 151) dX11_guards_150 rfl (by decide) ?_
      refine V_icmp_ne (tgt := 159) (pc' := 154) dX11_guards_151 (by decide) rfl hf (fun hf => ?_) (fun hf => ?_)
      ·
        refine V_iload (pc' := 156) dX11_guards_154 rfl 4 rfl ?_
        refine V_goto (tgt := 161) dX11_guards_156 (by decide) ?_
        obtain rfl := Option.some.inj hf
        exact V_iret dX11_guards_161 rfl rfl rfl ⟨rfl, rfl, rfl⟩
      ·
        refine V_iload (pc' := 161) dX11_guards_159 rfl 5 rfl ?_
        obtain rfl := Option.some.inj hf
        exact V_iret dX11_guards_161 rfl rfl rfl ⟨rfl, rfl, rfl⟩
theorem v_X11_guards_56 {l : Launch} {G : GE} {B N : Nat} {S : List SHP} {o : Int32 × MH} {a0 : Nat} {x1 : Int32} {x2 : Int32}    (hs0 : S[a0]? = some (.inl 11)) {n : Nat} {p : Int32 × Int32 × Int32 × Int32 × Int32} {h : MH} (hf : f_X11_guards_56 a0 x1 x2 n p h = some o) : V l G B N mX11_guards (rmm 134 0 0) false 0 0 (QI S o) S 0 0 56 [(0, .ref a0), (1, .int x1), (2, .int x2), (3, .int p.1), (4, .int p.2.1), (5, .int p.2.2.1), (6, .int p.2.2.2.1), (7, .int p.2.2.2.2)] [] h :=
  V_lp (VV := fun p h => V l G B N mX11_guards (rmm 134 0 0) false 0 0 (QI S o) S 0 0 56 [(0, .ref a0), (1, .int x1), (2, .int x2), (3, .int p.1), (4, .int p.2.1), (5, .int p.2.2.1), (6, .int p.2.2.2.1), (7, .int p.2.2.2.2)] [] h) (fun _ hk _ _ hf => v_X11_guards_56b hs0 hk hf) n p h hf
set_option maxRecDepth 100000 in
set_option maxHeartbeats 4000000 in
theorem v_X11_guards {l : Launch} {G : GE} {B N : Nat} {S : List SHP} {o : Int32 × MH} {a0 : Nat} {x1 : Int32}    (hs0 : S[a0]? = some (.inl 11)) {h : MH} (hf : f_X11_guards a0 x1 h = some o) : V l G B N mX11_guards (rmm 134 0 0) false 0 0 (QI S o) S 0 0 0 [(0, .ref a0), (1, .int x1)] [] h := by
  unfold f_X11_guards at hf
  refine V_aload_n (pc' := 1) dX11_guards_0 rfl 0 rfl rfl ?_
  refine V_iconst (v := 0) (pc' := 2) dX11_guards_1 rfl (by decide) ?_
  refine V_putI (pc' := 5) 11 0 dX11_guards_2 rfl (by decide) (Nat.le_of_ble_eq_true rfl) bm_1224 hs0 (Or.inl rfl) rfl ?_
  refine V_nmH hf (fun h_1 hf => ?_)
  refine V_aload_n (pc' := 6) dX11_guards_5 rfl 0 rfl rfl ?_
  refine V_cvI (pc' := 9) (As := []) (rest := []) dX11_guards_6 rfl mok_X11_wayLong bm_1453 11 (by decide) rfl hs0 rfl rfl (Nat.le_of_ble_eq_true rfl) (by decide) hf (fun q e => ct_X11_wayLong hs0 e) (fun q_2 hf => ?_)
  refine V_if_eq (tgt := 25) (pc' := 12) dX11_guards_9 (by decide) rfl hf (fun hf => ?_) (fun hf => ?_)
  ·
    refine V_iconst (v := (-1)) (pc' := 26) dX11_guards_25 rfl (by decide) ?_
    obtain rfl := Option.some.inj hf
    exact V_iret dX11_guards_26 rfl rfl rfl ⟨rfl, rfl, rfl⟩
  ·
    refine V_aload_n (pc' := 13) dX11_guards_12 rfl 0 rfl rfl ?_
    refine V_iload_n (pc' := 14) dX11_guards_13 rfl 1 rfl rfl ?_
    refine V_i2l (pc' := 15) dX11_guards_14 rfl ?_
    refine V_lconst (v := 0) (pc' := 16) dX11_guards_15 rfl (by decide) ?_
    refine V_ldc2 (v := 2) (pc' := 19) dX11_guards_16 rfl bm_1371 ?_
    refine V_cvI (pc' := 22) (As := [.long (Int32.toInt64 x1), .long 0, .long 2]) (rest := []) dX11_guards_19 rfl mok_X11_isIn bm_1373 11 (by decide) rfl hs0 rfl rfl (Nat.le_of_ble_eq_true rfl) (by decide) hf (fun q e => ct_X11_isIn hs0 e) (fun q_3 hf => ?_)
    refine V_if_ne (tgt := 27) (pc' := 25) dX11_guards_22 (by decide) rfl hf (fun hf => ?_) (fun hf => ?_)
    ·
      refine V_iconst (v := (-1)) (pc' := 26) dX11_guards_25 rfl (by decide) ?_
      obtain rfl := Option.some.inj hf
      exact V_iret dX11_guards_26 rfl rfl rfl ⟨rfl, rfl, rfl⟩
    ·
      refine V_aload_n (pc' := 28) dX11_guards_27 rfl 0 rfl rfl ?_
      refine V_aload_n (pc' := 29) dX11_guards_28 rfl 0 rfl rfl ?_
      refine V_aload_n (pc' := 30) dX11_guards_29 rfl 0 rfl rfl ?_
      refine V_cvI (pc' := 33) (As := []) (rest := [.ref a0, .ref a0]) dX11_guards_30 rfl mok_X11_wayLong bm_1453 11 (by decide) rfl hs0 rfl rfl (Nat.le_of_ble_eq_true rfl) (by decide) hf (fun q e => ct_X11_wayLong hs0 e) (fun q_4 hf => ?_)
      refine V_iconst (v := 1) (pc' := 34) dX11_guards_33 rfl (by decide) ?_
      refine V_isub (pc' := 35) dX11_guards_34 rfl ?_
      refine V_cvI (pc' := 38) (As := [.int (q_4.1 - 1)]) (rest := [.ref a0]) dX11_guards_35 rfl mok_X11_wayLink bm_1457 11 (by decide) rfl hs0 rfl rfl (Nat.le_of_ble_eq_true rfl) (by decide) hf (fun q e => ct_X11_wayLink hs0 e) (fun q_5 hf => ?_)
      refine V_cvI (pc' := 41) (As := [.int q_5.1]) (rest := []) dX11_guards_38 rfl mok_X11_to bm_1461 11 (by decide) rfl hs0 rfl rfl (Nat.le_of_ble_eq_true rfl) (by decide) hf (fun q e => ct_X11_to hs0 e) (fun q_6 hf => ?_)
      refine V_istore_n (lv' := [(2, .int q_6.1), (0, .ref a0), (1, .int x1)]) (pc' := 42) dX11_guards_41 rfl rfl (Nat.le_of_ble_eq_true rfl) rfl ?_
      refine V_iconst (v := 0) (pc' := 43) dX11_guards_42 rfl (by decide) ?_
      refine V_istore_n (lv' := [(3, .int 0), (2, .int q_6.1), (0, .ref a0), (1, .int x1)]) (pc' := 44) dX11_guards_43 rfl rfl (Nat.le_of_ble_eq_true rfl) rfl ?_
      refine V_iconst (v := 0) (pc' := 45) dX11_guards_44 rfl (by decide) ?_
      refine V_istore (lv' := [(4, .int 0), (3, .int 0), (2, .int q_6.1), (0, .ref a0), (1, .int x1)]) (pc' := 47) dX11_guards_45 rfl (Nat.le_of_ble_eq_true rfl) rfl ?_
      refine V_iconst (v := 0) (pc' := 48) dX11_guards_47 rfl (by decide) ?_
      refine V_istore (lv' := [(5, .int 0), (4, .int 0), (3, .int 0), (2, .int q_6.1), (0, .ref a0), (1, .int x1)]) (pc' := 50) dX11_guards_48 rfl (Nat.le_of_ble_eq_true rfl) rfl ?_
      refine V_iconst (v := 0) (pc' := 51) dX11_guards_50 rfl (by decide) ?_
      refine V_istore (lv' := [(6, .int 0), (5, .int 0), (4, .int 0), (3, .int 0), (2, .int q_6.1), (0, .ref a0), (1, .int x1)]) (pc' := 53) dX11_guards_51 rfl (Nat.le_of_ble_eq_true rfl) rfl ?_
      refine V_iconst (v := 0) (pc' := 54) dX11_guards_53 rfl (by decide) ?_
      refine V_istore (lv' := [(7, .int 0), (6, .int 0), (5, .int 0), (4, .int 0), (3, .int 0), (2, .int q_6.1), (0, .ref a0), (1, .int x1)]) (pc' := 56) dX11_guards_54 rfl (Nat.le_of_ble_eq_true rfl) rfl ?_
      exact V_sub (lv' := [(0, .ref a0), (1, .int x1), (2, .int q_6.1), (3, .int 0), (4, .int 0), (5, .int 0), (6, .int 0), (7, .int 0)]) [6, 7, 5, 4, 3, 2, 1, 0] rfl (v_X11_guards_56 hs0 hf)
theorem ct_X11_guards {l : Launch} {S : List SHP} {h : MH} {a0 : Nat} {x1 : Int32} (hs0 : S[a0]? = some (.inl 11)) {q : Int32 × MH} (hf : f_X11_guards a0 x1 h = some q) : CT l mX11_guards 134 false 0 0 S [.ref a0, .int x1] h (QI S q) :=
  CT_ofV (by decide) rfl (Nat.le_of_ble_eq_true rfl) (fun G B hT => v_X11_guards hs0 hf)
/-! LabelStacksModel.ways(IIIII)V -/
theorem dX11_ways_0 : decode cX11_ways 0 = .ok (.iload_n 1, 1) := by decide +kernel
theorem dX11_ways_1 : decode cX11_ways 1 = .ok (.iload_n 2, 1) := by decide +kernel
theorem dX11_ways_2 : decode cX11_ways 2 = .ok (.if_icmp .ne 39, 3) := by decide +kernel
theorem dX11_ways_5 : decode cX11_ways 5 = .ok (.aload_n 0, 1) := by decide +kernel
theorem dX11_ways_6 : decode cX11_ways 6 = .ok (.invokevirtual 297, 3) := by decide +kernel
theorem dX11_ways_9 : decode cX11_ways 9 = .ok (.aload_n 0, 1) := by decide +kernel
theorem dX11_ways_10 : decode cX11_ways 10 = .ok (.getfield 51, 3) := by decide +kernel
theorem dX11_ways_13 : decode cX11_ways 13 = .ok (.iconst 0, 1) := by decide +kernel
theorem dX11_ways_14 : decode cX11_ways 14 = .ok (.iaload, 1) := by decide +kernel
theorem dX11_ways_15 : decode cX11_ways 15 = .ok (.iconst (-1), 1) := by decide +kernel
theorem dX11_ways_16 : decode cX11_ways 16 = .ok (.if_icmp .eq 24, 3) := by decide +kernel
theorem dX11_ways_19 : decode cX11_ways 19 = .ok (.aload_n 0, 1) := by decide +kernel
theorem dX11_ways_20 : decode cX11_ways 20 = .ok (.getfield 51, 3) := by decide +kernel
theorem dX11_ways_23 : decode cX11_ways 23 = .ok (.iconst 0, 1) := by decide +kernel
theorem dX11_ways_24 : decode cX11_ways 24 = .ok (.iaload, 1) := by decide +kernel
theorem dX11_ways_25 : decode cX11_ways 25 = .ok (.iload 4, 2) := by decide +kernel
theorem dX11_ways_27 : decode cX11_ways 27 = .ok (.if_icmp .gt 13, 3) := by decide +kernel
theorem dX11_ways_30 : decode cX11_ways 30 = .ok (.aload_n 0, 1) := by decide +kernel
theorem dX11_ways_31 : decode cX11_ways 31 = .ok (.aload_n 0, 1) := by decide +kernel
theorem dX11_ways_32 : decode cX11_ways 32 = .ok (.getfield 334, 3) := by decide +kernel
theorem dX11_ways_35 : decode cX11_ways 35 = .ok (.iconst 1, 1) := by decide +kernel
theorem dX11_ways_36 : decode cX11_ways 36 = .ok (.iadd, 1) := by decide +kernel
theorem dX11_ways_37 : decode cX11_ways 37 = .ok (.putfield 334, 3) := by decide +kernel
theorem dX11_ways_40 : decode cX11_ways 40 = .ok (.return_, 1) := by decide +kernel
theorem dX11_ways_41 : decode cX11_ways 41 = .ok (.iload_n 3, 1) := by decide +kernel
theorem dX11_ways_42 : decode cX11_ways 42 = .ok (.ifCond .ne 4, 3) := by decide +kernel
theorem dX11_ways_45 : decode cX11_ways 45 = .ok (.return_, 1) := by decide +kernel
theorem dX11_ways_46 : decode cX11_ways 46 = .ok (.iconst 0, 1) := by decide +kernel
theorem dX11_ways_47 : decode cX11_ways 47 = .ok (.istore 6, 2) := by decide +kernel
theorem dX11_ways_49 : decode cX11_ways 49 = .ok (.iload 6, 2) := by decide +kernel
theorem dX11_ways_51 : decode cX11_ways 51 = .ok (.aload_n 0, 1) := by decide +kernel
theorem dX11_ways_52 : decode cX11_ways 52 = .ok (.invokevirtual 95, 3) := by decide +kernel
theorem dX11_ways_55 : decode cX11_ways 55 = .ok (.if_icmp .ge 104, 3) := by decide +kernel
theorem dX11_ways_58 : decode cX11_ways 58 = .ok (.aload_n 0, 1) := by decide +kernel
theorem dX11_ways_59 : decode cX11_ways 59 = .ok (.iload 6, 2) := by decide +kernel
theorem dX11_ways_61 : decode cX11_ways 61 = .ok (.invokevirtual 161, 3) := by decide +kernel
theorem dX11_ways_64 : decode cX11_ways 64 = .ok (.iload_n 1, 1) := by decide +kernel
theorem dX11_ways_65 : decode cX11_ways 65 = .ok (.if_icmp .ne 88, 3) := by decide +kernel
theorem dX11_ways_68 : decode cX11_ways 68 = .ok (.aload_n 0, 1) := by decide +kernel
theorem dX11_ways_69 : decode cX11_ways 69 = .ok (.iload 6, 2) := by decide +kernel
theorem dX11_ways_71 : decode cX11_ways 71 = .ok (.invokevirtual 129, 3) := by decide +kernel
theorem dX11_ways_74 : decode cX11_ways 74 = .ok (.ifCond .eq 79, 3) := by decide +kernel
theorem dX11_ways_77 : decode cX11_ways 77 = .ok (.iload 5, 2) := by decide +kernel
theorem dX11_ways_79 : decode cX11_ways 79 = .ok (.aload_n 0, 1) := by decide +kernel
theorem dX11_ways_80 : decode cX11_ways 80 = .ok (.iload 6, 2) := by decide +kernel
theorem dX11_ways_82 : decode cX11_ways 82 = .ok (.invokevirtual 158, 3) := by decide +kernel
theorem dX11_ways_85 : decode cX11_ways 85 = .ok (.ishr, 1) := by decide +kernel
theorem dX11_ways_86 : decode cX11_ways 86 = .ok (.iconst 1, 1) := by decide +kernel
theorem dX11_ways_87 : decode cX11_ways 87 = .ok (.iand, 1) := by decide +kernel
theorem dX11_ways_88 : decode cX11_ways 88 = .ok (.iconst 1, 1) := by decide +kernel
theorem dX11_ways_89 : decode cX11_ways 89 = .ok (.if_icmp .ne 6, 3) := by decide +kernel
theorem dX11_ways_92 : decode cX11_ways 92 = .ok (.goto 61, 3) := by decide +kernel
theorem dX11_ways_95 : decode cX11_ways 95 = .ok (.aload_n 0, 1) := by decide +kernel
theorem dX11_ways_96 : decode cX11_ways 96 = .ok (.getfield 48, 3) := by decide +kernel
theorem dX11_ways_99 : decode cX11_ways 99 = .ok (.aload_n 0, 1) := by decide +kernel
theorem dX11_ways_100 : decode cX11_ways 100 = .ok (.getfield 275, 3) := by decide +kernel
theorem dX11_ways_103 : decode cX11_ways 103 = .ok (.iload 6, 2) := by decide +kernel
theorem dX11_ways_105 : decode cX11_ways 105 = .ok (.iastore, 1) := by decide +kernel
theorem dX11_ways_106 : decode cX11_ways 106 = .ok (.aload_n 0, 1) := by decide +kernel
theorem dX11_ways_107 : decode cX11_ways 107 = .ok (.aload_n 0, 1) := by decide +kernel
theorem dX11_ways_108 : decode cX11_ways 108 = .ok (.getfield 275, 3) := by decide +kernel
theorem dX11_ways_111 : decode cX11_ways 111 = .ok (.iconst 1, 1) := by decide +kernel
theorem dX11_ways_112 : decode cX11_ways 112 = .ok (.iadd, 1) := by decide +kernel
theorem dX11_ways_113 : decode cX11_ways 113 = .ok (.putfield 275, 3) := by decide +kernel
theorem dX11_ways_116 : decode cX11_ways 116 = .ok (.aload_n 0, 1) := by decide +kernel
theorem dX11_ways_117 : decode cX11_ways 117 = .ok (.aload_n 0, 1) := by decide +kernel
theorem dX11_ways_118 : decode cX11_ways 118 = .ok (.iload 6, 2) := by decide +kernel
theorem dX11_ways_120 : decode cX11_ways 120 = .ok (.invokevirtual 158, 3) := by decide +kernel
theorem dX11_ways_123 : decode cX11_ways 123 = .ok (.iload_n 2, 1) := by decide +kernel
theorem dX11_ways_124 : decode cX11_ways 124 = .ok (.iload_n 3, 1) := by decide +kernel
theorem dX11_ways_125 : decode cX11_ways 125 = .ok (.iconst 1, 1) := by decide +kernel
theorem dX11_ways_126 : decode cX11_ways 126 = .ok (.isub, 1) := by decide +kernel
theorem dX11_ways_127 : decode cX11_ways 127 = .ok (.iload 4, 2) := by decide +kernel
theorem dX11_ways_129 : decode cX11_ways 129 = .ok (.iload 5, 2) := by decide +kernel
theorem dX11_ways_131 : decode cX11_ways 131 = .ok (.iconst 1, 1) := by decide +kernel
theorem dX11_ways_132 : decode cX11_ways 132 = .ok (.aload_n 0, 1) := by decide +kernel
theorem dX11_ways_133 : decode cX11_ways 133 = .ok (.iload 6, 2) := by decide +kernel
theorem dX11_ways_135 : decode cX11_ways 135 = .ok (.invokevirtual 158, 3) := by decide +kernel
theorem dX11_ways_138 : decode cX11_ways 138 = .ok (.ishl, 1) := by decide +kernel
theorem dX11_ways_139 : decode cX11_ways 139 = .ok (.ior, 1) := by decide +kernel
theorem dX11_ways_140 : decode cX11_ways 140 = .ok (.invokevirtual 337, 3) := by decide +kernel
theorem dX11_ways_143 : decode cX11_ways 143 = .ok (.aload_n 0, 1) := by decide +kernel
theorem dX11_ways_144 : decode cX11_ways 144 = .ok (.aload_n 0, 1) := by decide +kernel
theorem dX11_ways_145 : decode cX11_ways 145 = .ok (.getfield 275, 3) := by decide +kernel
theorem dX11_ways_148 : decode cX11_ways 148 = .ok (.iconst 1, 1) := by decide +kernel
theorem dX11_ways_149 : decode cX11_ways 149 = .ok (.isub, 1) := by decide +kernel
theorem dX11_ways_150 : decode cX11_ways 150 = .ok (.putfield 275, 3) := by decide +kernel
theorem dX11_ways_153 : decode cX11_ways 153 = .ok (.iinc 6 1, 3) := by decide +kernel
theorem dX11_ways_156 : decode cX11_ways 156 = .ok (.goto (-107), 3) := by decide +kernel
theorem dX11_ways_159 : decode cX11_ways 159 = .ok (.return_, 1) := by decide +kernel
abbrev mX11_ways : MI := (RX11, yX11_ways, cX11_ways, 7, none)
theorem mok_X11_ways : MOKv mX11_ways 5 := ⟨⟨bm_1702, bm_127, ⟨by decide, by decide⟩, by decide +kernel⟩, bm_1701, bm_93⟩
def f_X11_ways_153 (kr : Int32 × Int32 × Int32 × Int32 × Int32 → MH → Option (MH)) (k49 : Int32 → MH → Option (MH)) (a0 : Nat) (x1 : Int32) (x2 : Int32) (x3 : Int32) (x4 : Int32) (x5 : Int32) (x6 : Int32) (h : MH) : Option (MH) :=
  k49 (x6 + 1) h
def f_X11_ways_49b (kr : Int32 × Int32 × Int32 × Int32 × Int32 → MH → Option (MH))  (a0 : Nat) (x1 : Int32) (x2 : Int32) (x3 : Int32) (x4 : Int32) (x5 : Int32) (k49 : Int32 → MH → Option (MH)) (p : Int32) (h : MH) : Option (MH) :=
  (f_X11_links a0 h).bind fun q_1 =>
  if p < q_1.1 then
    (f_X11_from a0 p q_1.2).bind fun q_2 =>
    if q_2.1 = x1 then
      (f_X11_isUp a0 p q_2.2).bind fun q_3 =>
      if q_3.1 = 0 then
        f_X11_ways_153 kr k49 a0 x1 x2 x3 x4 x5 p q_3.2
      else
        (f_X11_to a0 p q_3.2).bind fun q_4 =>
        if ((x5 >>> (q_4.1 &&& 31)) &&& 1) = 1 then
          f_X11_ways_153 kr k49 a0 x1 x2 x3 x4 x5 p q_4.2
        else
          (gR q_4.2 a0 26).bind fun a_5 =>
          (stI q_4.2 a_5 (gI q_4.2 a0 27) p).bind fun h_6 =>
          lt (sI h_6 a0 27 ((gI h_6 a0 27) + 1)) fun h_7 =>
          (f_X11_to a0 p h_7).bind fun q_8 =>
          (f_X11_to a0 p q_8.2).bind fun q_9 =>
          (kr (q_8.1, x2, (x3 - 1), x4, (x5 ||| ((1 : Int32) <<< (q_9.1 &&& 31)))) q_9.2).bind fun q_10 =>
          lt (sI q_10 a0 27 ((gI q_10 a0 27) - 1)) fun h_11 =>
          f_X11_ways_153 kr k49 a0 x1 x2 x3 x4 x5 p h_11
    else
      f_X11_ways_153 kr k49 a0 x1 x2 x3 x4 x5 p q_2.2
  else
    some q_1.2
def f_X11_ways_49 (kr : Int32 × Int32 × Int32 × Int32 × Int32 → MH → Option (MH))  (a0 : Nat) (x1 : Int32) (x2 : Int32) (x3 : Int32) (x4 : Int32) (x5 : Int32) : Nat → Int32 → MH → Option (MH) := lp (f_X11_ways_49b kr a0 x1 x2 x3 x4 x5)
def f_X11_waysb (kr : Int32 × Int32 × Int32 × Int32 × Int32 → MH → Option (MH))  (a0 : Nat) (x1 : Int32) (x2 : Int32) (x3 : Int32) (x4 : Int32) (x5 : Int32) (h : MH) : Option (MH) :=
  if x1 = x2 then
    (f_X11_laysFewest a0 h).bind fun q_1 =>
    (gR q_1 a0 28).bind fun a_2 =>
    (ldI q_1 a_2 0).bind fun x_3 =>
    if x_3 = (-1 : Int32) then
      some q_1
    else
      (gR q_1 a0 28).bind fun a_4 =>
      (ldI q_1 a_4 0).bind fun x_5 =>
      if x4 < x_5 then
        some q_1
      else
        lt (sI q_1 a0 35 ((gI q_1 a0 35) + 1)) fun h_6 =>
        some h_6
  else
    if x3 = 0 then
      some h
    else
      f_X11_ways_49 kr a0 x1 x2 x3 x4 x5 FU 0 h
def f_X11_ways (a0 : Nat) : Nat → Int32 × Int32 × Int32 × Int32 × Int32 → MH → Option (MH) := lp (fun kr p h => f_X11_waysb kr a0 p.1 p.2.1 p.2.2.1 p.2.2.2.1 p.2.2.2.2 h)
set_option maxRecDepth 100000 in
set_option maxHeartbeats 4000000 in
theorem v_X11_ways_153 {l : Launch} {G : GE} {B N : Nat} {S : List SHP} {o : MH} {a0 : Nat} {x1 : Int32} {x2 : Int32} {x3 : Int32} {x4 : Int32} {x5 : Int32} {x6 : Int32} {kr : Int32 × Int32 × Int32 × Int32 × Int32 → MH → Option (MH)} {dk : Nat} (hdk : 133 ≤ dk) (hkr : ∀ (p : Int32 × Int32 × Int32 × Int32 × Int32) (h : MH) (q : MH), kr p h = some q → CT l mX11_ways dk false 0 0 S [.ref a0, .int p.1, .int p.2.1, .int p.2.2.1, .int p.2.2.2.1, .int p.2.2.2.2] h (QV S q)) {k49 : Int32 → MH → Option (MH)} (hk49 : ∀ (p : Int32) (h : MH), k49 p h = some o → V l G B N mX11_ways (rmm (dk + 1) 0 0) false 0 0 (QV S o) S 0 0 49 [(0, .ref a0), (1, .int x1), (2, .int x2), (3, .int x3), (4, .int x4), (5, .int x5), (6, .int p)] [] h) (hs0 : S[a0]? = some (.inl 11)) {h : MH} (hf : f_X11_ways_153 kr k49 a0 x1 x2 x3 x4 x5 x6 h = some o) : V l G B N mX11_ways (rmm (dk + 1) 0 0) false 0 0 (QV S o) S 0 0 153 [(0, .ref a0), (1, .int x1), (2, .int x2), (3, .int x3), (4, .int x4), (5, .int x5), (6, .int x6)] [] h := by
  unfold f_X11_ways_153 at hf
  refine V_iinc (v := (x6 + 1)) (lv' := [(6, .int (x6 + 1)), (0, .ref a0), (1, .int x1), (2, .int x2), (3, .int x3), (4, .int x4), (5, .int x5)]) (pc' := 156) dX11_ways_153 rfl 6 rfl rfl (Nat.le_of_ble_eq_true rfl) rfl ?_
  refine V_goto (tgt := 49) dX11_ways_156 (by decide) ?_
  exact V_sub (lv' := [(0, .ref a0), (1, .int x1), (2, .int x2), (3, .int x3), (4, .int x4), (5, .int x5), (6, .int (x6 + 1))]) [1, 2, 3, 4, 5, 6, 0] rfl (hk49 (x6 + 1) h hf)
set_option maxRecDepth 100000 in
set_option maxHeartbeats 4000000 in
theorem v_X11_ways_49b {l : Launch} {G : GE} {B N : Nat} {S : List SHP} {o : MH} {a0 : Nat} {x1 : Int32} {x2 : Int32} {x3 : Int32} {x4 : Int32} {x5 : Int32} {kr : Int32 × Int32 × Int32 × Int32 × Int32 → MH → Option (MH)} {dk : Nat} (hdk : 133 ≤ dk) (hkr : ∀ (p : Int32 × Int32 × Int32 × Int32 × Int32) (h : MH) (q : MH), kr p h = some q → CT l mX11_ways dk false 0 0 S [.ref a0, .int p.1, .int p.2.1, .int p.2.2.1, .int p.2.2.2.1, .int p.2.2.2.2] h (QV S q))   (hs0 : S[a0]? = some (.inl 11)) {k49 : Int32 → MH → Option (MH)} (hk49 : ∀ (p : Int32) (h : MH), k49 p h = some o → V l G B N mX11_ways (rmm (dk + 1) 0 0) false 0 0 (QV S o) S 0 0 49 [(0, .ref a0), (1, .int x1), (2, .int x2), (3, .int x3), (4, .int x4), (5, .int x5), (6, .int p)] [] h) {p : Int32} {h : MH} (hf : f_X11_ways_49b kr a0 x1 x2 x3 x4 x5 k49 p h = some o) : V l G B N mX11_ways (rmm (dk + 1) 0 0) false 0 0 (QV S o) S 0 0 49 [(0, .ref a0), (1, .int x1), (2, .int x2), (3, .int x3), (4, .int x4), (5, .int x5), (6, .int p)] [] h := by
  unfold f_X11_ways_49b at hf
  refine V_iload (pc' := 51) dX11_ways_49 rfl 6 rfl ?_
  refine V_aload_n (pc' := 52) dX11_ways_51 rfl 0 rfl rfl ?_
  refine V_cvI (pc' := 55) (As := []) (rest := [.int p]) dX11_ways_52 rfl mok_X11_links bm_1398 11 (by decide) rfl hs0 rfl rfl (Nat.le_of_ble_eq_true rfl) (by simp only [rmm]; omega) hf (fun q e => ct_X11_links hs0 e) (fun q_1 hf => ?_)
  refine V_icmp_ge (tgt := 159) (pc' := 58) dX11_ways_55 (by decide) rfl hf (fun hf => ?_) (fun hf => ?_)
  ·
    refine V_aload_n (pc' := 59) dX11_ways_58 rfl 0 rfl rfl ?_
    refine V_iload (pc' := 61) dX11_ways_59 rfl 6 rfl ?_
    refine V_cvI (pc' := 64) (As := [.int p]) (rest := []) dX11_ways_61 rfl mok_X11_from bm_1465 11 (by decide) rfl hs0 rfl rfl (Nat.le_of_ble_eq_true rfl) (by simp only [rmm]; omega) hf (fun q e => ct_X11_from hs0 e) (fun q_2 hf => ?_)
    refine V_iload_n (pc' := 65) dX11_ways_64 rfl 1 rfl rfl ?_
    refine V_icmp_ne (tgt := 153) (pc' := 68) dX11_ways_65 (by decide) rfl hf (fun hf => ?_) (fun hf => ?_)
    ·
      refine V_aload_n (pc' := 69) dX11_ways_68 rfl 0 rfl rfl ?_
      refine V_iload (pc' := 71) dX11_ways_69 rfl 6 rfl ?_
      refine V_cvI (pc' := 74) (As := [.int p]) (rest := []) dX11_ways_71 rfl mok_X11_isUp bm_1414 11 (by decide) rfl hs0 rfl rfl (Nat.le_of_ble_eq_true rfl) (by simp only [rmm]; omega) hf (fun q e => ct_X11_isUp hs0 e) (fun q_3 hf => ?_)
      refine V_if_eq (tgt := 153) (pc' := 77) dX11_ways_74 (by decide) rfl hf (fun hf => ?_) (fun hf => ?_)
      ·
        exact V_sub (lv' := [(0, .ref a0), (1, .int x1), (2, .int x2), (3, .int x3), (4, .int x4), (5, .int x5), (6, .int p)]) [0, 1, 2, 3, 4, 5, 6] rfl (v_X11_ways_153 hdk hkr hk49 hs0 hf)
      ·
        refine V_iload (pc' := 79) dX11_ways_77 rfl 5 rfl ?_
        refine V_aload_n (pc' := 80) dX11_ways_79 rfl 0 rfl rfl ?_
        refine V_iload (pc' := 82) dX11_ways_80 rfl 6 rfl ?_
        refine V_cvI (pc' := 85) (As := [.int p]) (rest := [.int x5]) dX11_ways_82 rfl mok_X11_to bm_1461 11 (by decide) rfl hs0 rfl rfl (Nat.le_of_ble_eq_true rfl) (by simp only [rmm]; omega) hf (fun q e => ct_X11_to hs0 e) (fun q_4 hf => ?_)
        refine V_ishr (pc' := 86) dX11_ways_85 rfl ?_
        refine V_iconst (v := 1) (pc' := 87) dX11_ways_86 rfl (by decide) ?_
        refine V_iand (pc' := 88) dX11_ways_87 rfl ?_
        refine V_iconst (v := 1) (pc' := 89) dX11_ways_88 rfl (by decide) ?_
        refine V_icmp_ne (tgt := 95) (pc' := 92) dX11_ways_89 (by decide) rfl hf (fun hf => ?_) (fun hf => ?_)
        ·
          refine V_goto (tgt := 153) dX11_ways_92 (by decide) ?_
          exact V_sub (lv' := [(0, .ref a0), (1, .int x1), (2, .int x2), (3, .int x3), (4, .int x4), (5, .int x5), (6, .int p)]) [0, 1, 2, 3, 4, 5, 6] rfl (v_X11_ways_153 hdk hkr hk49 hs0 hf)
        ·
          refine V_aload_n (pc' := 96) dX11_ways_95 rfl 0 rfl rfl ?_
          refine V_getR (pc' := 99) 11 26 dX11_ways_96 rfl (by decide) (Nat.le_of_ble_eq_true rfl) bm_1250 hs0 (fun _ _ _ => rfl) rfl hf (fun a_5 ha_5 hf => ?_)
          refine V_aload_n (pc' := 100) dX11_ways_99 rfl 0 rfl rfl ?_
          refine V_getI (pc' := 103) 11 27 dX11_ways_100 rfl (by decide) (Nat.le_of_ble_eq_true rfl) bm_1251 hs0 (fun _ _ _ => rfl) ?_
          refine V_iload (pc' := 105) dX11_ways_103 rfl 6 rfl ?_
          refine V_iast (pc' := 106) dX11_ways_105 rfl ha_5 hf (fun h_6 hf => ?_)
          refine V_aload_n (pc' := 107) dX11_ways_106 rfl 0 rfl rfl ?_
          refine V_aload_n (pc' := 108) dX11_ways_107 rfl 0 rfl rfl ?_
          refine V_getI (pc' := 111) 11 27 dX11_ways_108 rfl (by decide) (Nat.le_of_ble_eq_true rfl) bm_1251 hs0 (fun _ _ _ => rfl) ?_
          refine V_iconst (v := 1) (pc' := 112) dX11_ways_111 rfl (by decide) ?_
          refine V_iadd (pc' := 113) dX11_ways_112 rfl ?_
          refine V_putI (pc' := 116) 11 27 dX11_ways_113 rfl (by decide) (Nat.le_of_ble_eq_true rfl) bm_1251 hs0 (Or.inl rfl) rfl ?_
          refine V_nmH hf (fun h_7 hf => ?_)
          refine V_aload_n (pc' := 117) dX11_ways_116 rfl 0 rfl rfl ?_
          refine V_aload_n (pc' := 118) dX11_ways_117 rfl 0 rfl rfl ?_
          refine V_iload (pc' := 120) dX11_ways_118 rfl 6 rfl ?_
          refine V_cvI (pc' := 123) (As := [.int p]) (rest := [.ref a0]) dX11_ways_120 rfl mok_X11_to bm_1461 11 (by decide) rfl hs0 rfl rfl (Nat.le_of_ble_eq_true rfl) (by simp only [rmm]; omega) hf (fun q e => ct_X11_to hs0 e) (fun q_8 hf => ?_)
          refine V_iload_n (pc' := 124) dX11_ways_123 rfl 2 rfl rfl ?_
          refine V_iload_n (pc' := 125) dX11_ways_124 rfl 3 rfl rfl ?_
          refine V_iconst (v := 1) (pc' := 126) dX11_ways_125 rfl (by decide) ?_
          refine V_isub (pc' := 127) dX11_ways_126 rfl ?_
          refine V_iload (pc' := 129) dX11_ways_127 rfl 4 rfl ?_
          refine V_iload (pc' := 131) dX11_ways_129 rfl 5 rfl ?_
          refine V_iconst (v := 1) (pc' := 132) dX11_ways_131 rfl (by decide) ?_
          refine V_aload_n (pc' := 133) dX11_ways_132 rfl 0 rfl rfl ?_
          refine V_iload (pc' := 135) dX11_ways_133 rfl 6 rfl ?_
          refine V_cvI (pc' := 138) (As := [.int p]) (rest := [.int 1, .int x5, .int x4, .int (x3 - 1), .int x2, .int q_8.1, .ref a0]) dX11_ways_135 rfl mok_X11_to bm_1461 11 (by decide) rfl hs0 rfl rfl (Nat.le_of_ble_eq_true rfl) (by simp only [rmm]; omega) hf (fun q e => ct_X11_to hs0 e) (fun q_9 hf => ?_)
          refine V_ishl (pc' := 139) dX11_ways_138 rfl ?_
          refine V_ior (pc' := 140) dX11_ways_139 rfl ?_
          refine V_cvV (pc' := 143) (As := [.int q_8.1, .int x2, .int (x3 - 1), .int x4, .int (x5 ||| ((1 : Int32) <<< (q_9.1 &&& 31)))]) (rest := []) dX11_ways_140 rfl mok_X11_ways bm_1699 11 (by decide) rfl hs0 rfl rfl (Nat.le_of_ble_eq_true rfl) (by simp only [rmm]; omega) hf (fun q e => hkr (q_8.1, x2, (x3 - 1), x4, (x5 ||| ((1 : Int32) <<< (q_9.1 &&& 31)))) q_9.2 q e) (fun q_10 hf => ?_)
          refine V_aload_n (pc' := 144) dX11_ways_143 rfl 0 rfl rfl ?_
          refine V_aload_n (pc' := 145) dX11_ways_144 rfl 0 rfl rfl ?_
          refine V_getI (pc' := 148) 11 27 dX11_ways_145 rfl (by decide) (Nat.le_of_ble_eq_true rfl) bm_1251 hs0 (fun _ _ _ => rfl) ?_
          refine V_iconst (v := 1) (pc' := 149) dX11_ways_148 rfl (by decide) ?_
          refine V_isub (pc' := 150) dX11_ways_149 rfl ?_
          refine V_putI (pc' := 153) 11 27 dX11_ways_150 rfl (by decide) (Nat.le_of_ble_eq_true rfl) bm_1251 hs0 (Or.inl rfl) rfl ?_
          refine V_nmH hf (fun h_11 hf => ?_)
          exact V_sub (lv' := [(0, .ref a0), (1, .int x1), (2, .int x2), (3, .int x3), (4, .int x4), (5, .int x5), (6, .int p)]) [0, 1, 2, 3, 4, 5, 6] rfl (v_X11_ways_153 hdk hkr hk49 hs0 hf)
    ·
      exact V_sub (lv' := [(0, .ref a0), (1, .int x1), (2, .int x2), (3, .int x3), (4, .int x4), (5, .int x5), (6, .int p)]) [0, 1, 2, 3, 4, 5, 6] rfl (v_X11_ways_153 hdk hkr hk49 hs0 hf)
  ·
    obtain rfl := Option.some.inj hf
    exact V_vret dX11_ways_159 rfl rfl rfl ⟨rfl, rfl, rfl⟩
theorem v_X11_ways_49 {l : Launch} {G : GE} {B N : Nat} {S : List SHP} {o : MH} {a0 : Nat} {x1 : Int32} {x2 : Int32} {x3 : Int32} {x4 : Int32} {x5 : Int32} {kr : Int32 × Int32 × Int32 × Int32 × Int32 → MH → Option (MH)} {dk : Nat} (hdk : 133 ≤ dk) (hkr : ∀ (p : Int32 × Int32 × Int32 × Int32 × Int32) (h : MH) (q : MH), kr p h = some q → CT l mX11_ways dk false 0 0 S [.ref a0, .int p.1, .int p.2.1, .int p.2.2.1, .int p.2.2.2.1, .int p.2.2.2.2] h (QV S q))   (hs0 : S[a0]? = some (.inl 11)) {n : Nat} {p : Int32} {h : MH} (hf : f_X11_ways_49 kr a0 x1 x2 x3 x4 x5 n p h = some o) : V l G B N mX11_ways (rmm (dk + 1) 0 0) false 0 0 (QV S o) S 0 0 49 [(0, .ref a0), (1, .int x1), (2, .int x2), (3, .int x3), (4, .int x4), (5, .int x5), (6, .int p)] [] h :=
  V_lp (VV := fun p h => V l G B N mX11_ways (rmm (dk + 1) 0 0) false 0 0 (QV S o) S 0 0 49 [(0, .ref a0), (1, .int x1), (2, .int x2), (3, .int x3), (4, .int x4), (5, .int x5), (6, .int p)] [] h) (fun _ hk _ _ hf => v_X11_ways_49b hdk hkr hs0 hk hf) n p h hf
set_option maxRecDepth 100000 in
set_option maxHeartbeats 4000000 in
theorem v_X11_ways {l : Launch} {G : GE} {B N : Nat} {S : List SHP} {o : MH} {a0 : Nat} {x1 : Int32} {x2 : Int32} {x3 : Int32} {x4 : Int32} {x5 : Int32} {kr : Int32 × Int32 × Int32 × Int32 × Int32 → MH → Option (MH)} {dk : Nat} (hdk : 133 ≤ dk) (hkr : ∀ (p : Int32 × Int32 × Int32 × Int32 × Int32) (h : MH) (q : MH), kr p h = some q → CT l mX11_ways dk false 0 0 S [.ref a0, .int p.1, .int p.2.1, .int p.2.2.1, .int p.2.2.2.1, .int p.2.2.2.2] h (QV S q)) (hs0 : S[a0]? = some (.inl 11)) {h : MH} (hf : f_X11_waysb kr a0 x1 x2 x3 x4 x5 h = some o) : V l G B N mX11_ways (rmm (dk + 1) 0 0) false 0 0 (QV S o) S 0 0 0 [(0, .ref a0), (1, .int x1), (2, .int x2), (3, .int x3), (4, .int x4), (5, .int x5)] [] h := by
  unfold f_X11_waysb at hf
  refine V_iload_n (pc' := 1) dX11_ways_0 rfl 1 rfl rfl ?_
  refine V_iload_n (pc' := 2) dX11_ways_1 rfl 2 rfl rfl ?_
  refine V_icmp_ne (tgt := 41) (pc' := 5) dX11_ways_2 (by decide) rfl hf (fun hf => ?_) (fun hf => ?_)
  ·
    refine V_aload_n (pc' := 6) dX11_ways_5 rfl 0 rfl rfl ?_
    refine V_cvV (pc' := 9) (As := []) (rest := []) dX11_ways_6 rfl mok_X11_laysFewest bm_1605 11 (by decide) rfl hs0 rfl rfl (Nat.le_of_ble_eq_true rfl) (by simp only [rmm]; omega) hf (fun q e => ct_X11_laysFewest hs0 e) (fun q_1 hf => ?_)
    refine V_aload_n (pc' := 10) dX11_ways_9 rfl 0 rfl rfl ?_
    refine V_getR (pc' := 13) 11 28 dX11_ways_10 rfl (by decide) (Nat.le_of_ble_eq_true rfl) bm_1252 hs0 (fun _ _ _ => rfl) rfl hf (fun a_2 ha_2 hf => ?_)
    refine V_iconst (v := 0) (pc' := 14) dX11_ways_13 rfl (by decide) ?_
    refine V_iald (pc' := 15) dX11_ways_14 rfl ha_2 hf (fun x_3 hf => ?_)
    refine V_iconst (v := (-1)) (pc' := 16) dX11_ways_15 rfl (by decide) ?_
    refine V_icmp_eq (tgt := 40) (pc' := 19) dX11_ways_16 (by decide) rfl hf (fun hf => ?_) (fun hf => ?_)
    ·
      obtain rfl := Option.some.inj hf
      exact V_vret dX11_ways_40 rfl rfl rfl ⟨rfl, rfl, rfl⟩
    ·
      refine V_aload_n (pc' := 20) dX11_ways_19 rfl 0 rfl rfl ?_
      refine V_getR (pc' := 23) 11 28 dX11_ways_20 rfl (by decide) (Nat.le_of_ble_eq_true rfl) bm_1252 hs0 (fun _ _ _ => rfl) rfl hf (fun a_4 ha_4 hf => ?_)
      refine V_iconst (v := 0) (pc' := 24) dX11_ways_23 rfl (by decide) ?_
      refine V_iald (pc' := 25) dX11_ways_24 rfl ha_4 hf (fun x_5 hf => ?_)
      refine V_iload (pc' := 27) dX11_ways_25 rfl 4 rfl ?_
      refine V_icmp_gt (tgt := 40) (pc' := 30) dX11_ways_27 (by decide) rfl hf (fun hf => ?_) (fun hf => ?_)
      ·
        obtain rfl := Option.some.inj hf
        exact V_vret dX11_ways_40 rfl rfl rfl ⟨rfl, rfl, rfl⟩
      ·
        refine V_aload_n (pc' := 31) dX11_ways_30 rfl 0 rfl rfl ?_
        refine V_aload_n (pc' := 32) dX11_ways_31 rfl 0 rfl rfl ?_
        refine V_getI (pc' := 35) 11 35 dX11_ways_32 rfl (by decide) (Nat.le_of_ble_eq_true rfl) bm_1259 hs0 (fun _ _ _ => rfl) ?_
        refine V_iconst (v := 1) (pc' := 36) dX11_ways_35 rfl (by decide) ?_
        refine V_iadd (pc' := 37) dX11_ways_36 rfl ?_
        refine V_putI (pc' := 40) 11 35 dX11_ways_37 rfl (by decide) (Nat.le_of_ble_eq_true rfl) bm_1259 hs0 (Or.inl rfl) rfl ?_
        refine V_nmH hf (fun h_6 hf => ?_)
        obtain rfl := Option.some.inj hf
        exact V_vret dX11_ways_40 rfl rfl rfl ⟨rfl, rfl, rfl⟩
  ·
    refine V_iload_n (pc' := 42) dX11_ways_41 rfl 3 rfl rfl ?_
    refine V_if_ne (tgt := 46) (pc' := 45) dX11_ways_42 (by decide) rfl hf (fun hf => ?_) (fun hf => ?_)
    ·
      obtain rfl := Option.some.inj hf
      exact V_vret dX11_ways_45 rfl rfl rfl ⟨rfl, rfl, rfl⟩
    ·
      refine V_iconst (v := 0) (pc' := 47) dX11_ways_46 rfl (by decide) ?_
      refine V_istore (lv' := [(6, .int 0), (0, .ref a0), (1, .int x1), (2, .int x2), (3, .int x3), (4, .int x4), (5, .int x5)]) (pc' := 49) dX11_ways_47 rfl (Nat.le_of_ble_eq_true rfl) rfl ?_
      exact V_sub (lv' := [(0, .ref a0), (1, .int x1), (2, .int x2), (3, .int x3), (4, .int x4), (5, .int x5), (6, .int 0)]) [1, 2, 3, 4, 5, 6, 0] rfl (v_X11_ways_49 hdk hkr hs0 hf)
theorem ctd_X11_ways {l : Launch} {S : List SHP} {a0 : Nat} (hs0 : S[a0]? = some (.inl 11)) : ∀ (D : Nat) (p : Int32 × Int32 × Int32 × Int32 × Int32) (h : MH) (q : MH), f_X11_ways a0 D p h = some q → CT l mX11_ways (D + 133) false 0 0 S [.ref a0, .int p.1, .int p.2.1, .int p.2.2.1, .int p.2.2.2.1, .int p.2.2.2.2] h (QV S q)
  | 0, _, _, _, hf => by cases hf
  | D + 1, p, h, q, hf => by
    have e : D + 1 + 133 = (D + 133) + 1 := by omega
    rw [e]
    exact CT_ofV (by decide) rfl (Nat.le_of_ble_eq_true rfl) (fun G B hT => v_X11_ways (kr := f_X11_ways a0 D) (dk := D + 133) (by omega) (fun p h q hq => ctd_X11_ways hs0 D p h q hq) hs0 hf)
theorem ct_X11_ways {l : Launch} {S : List SHP} {h : MH} {a0 : Nat} (hs0 : S[a0]? = some (.inl 11)) {p : Int32 × Int32 × Int32 × Int32 × Int32} {q : MH} (hf : f_X11_ways a0 DW p h = some q) : CT l mX11_ways 143 false 0 0 S [.ref a0, .int p.1, .int p.2.1, .int p.2.2.1, .int p.2.2.2.1, .int p.2.2.2.2] h (QV S q) := ctd_X11_ways hs0 DW p h q hf
/-! LabelStacksModel.writable(IIII)I -/
theorem dX11_writable_0 : decode cX11_writable 0 = .ok (.aload_n 0, 1) := by decide +kernel
theorem dX11_writable_1 : decode cX11_writable 1 = .ok (.iconst 0, 1) := by decide +kernel
theorem dX11_writable_2 : decode cX11_writable 2 = .ok (.putfield 84, 3) := by decide +kernel
theorem dX11_writable_5 : decode cX11_writable 5 = .ok (.aload_n 0, 1) := by decide +kernel
theorem dX11_writable_6 : decode cX11_writable 6 = .ok (.iload_n 1, 1) := by decide +kernel
theorem dX11_writable_7 : decode cX11_writable 7 = .ok (.invokevirtual 116, 3) := by decide +kernel
theorem dX11_writable_10 : decode cX11_writable 10 = .ok (.ifCond .eq 43, 3) := by decide +kernel
theorem dX11_writable_13 : decode cX11_writable 13 = .ok (.aload_n 0, 1) := by decide +kernel
theorem dX11_writable_14 : decode cX11_writable 14 = .ok (.iload_n 2, 1) := by decide +kernel
theorem dX11_writable_15 : decode cX11_writable 15 = .ok (.invokevirtual 116, 3) := by decide +kernel
theorem dX11_writable_18 : decode cX11_writable 18 = .ok (.ifCond .eq 35, 3) := by decide +kernel
theorem dX11_writable_21 : decode cX11_writable 21 = .ok (.iload_n 1, 1) := by decide +kernel
theorem dX11_writable_22 : decode cX11_writable 22 = .ok (.iload_n 2, 1) := by decide +kernel
theorem dX11_writable_23 : decode cX11_writable 23 = .ok (.if_icmp .eq 30, 3) := by decide +kernel
theorem dX11_writable_26 : decode cX11_writable 26 = .ok (.aload_n 0, 1) := by decide +kernel
theorem dX11_writable_27 : decode cX11_writable 27 = .ok (.iload_n 3, 1) := by decide +kernel
theorem dX11_writable_28 : decode cX11_writable 28 = .ok (.i2l, 1) := by decide +kernel
theorem dX11_writable_29 : decode cX11_writable 29 = .ok (.lconst 1, 1) := by decide +kernel
theorem dX11_writable_30 : decode cX11_writable 30 = .ok (.ldc2_w 144, 3) := by decide +kernel
theorem dX11_writable_33 : decode cX11_writable 33 = .ok (.invokevirtual 91, 3) := by decide +kernel
theorem dX11_writable_36 : decode cX11_writable 36 = .ok (.ifCond .eq 17, 3) := by decide +kernel
theorem dX11_writable_39 : decode cX11_writable 39 = .ok (.aload_n 0, 1) := by decide +kernel
theorem dX11_writable_40 : decode cX11_writable 40 = .ok (.iload 4, 2) := by decide +kernel
theorem dX11_writable_42 : decode cX11_writable 42 = .ok (.i2l, 1) := by decide +kernel
theorem dX11_writable_43 : decode cX11_writable 43 = .ok (.lconst 1, 1) := by decide +kernel
theorem dX11_writable_44 : decode cX11_writable 44 = .ok (.ldc2_w 150, 3) := by decide +kernel
theorem dX11_writable_47 : decode cX11_writable 47 = .ok (.invokevirtual 91, 3) := by decide +kernel
theorem dX11_writable_50 : decode cX11_writable 50 = .ok (.ifCond .ne 5, 3) := by decide +kernel
theorem dX11_writable_53 : decode cX11_writable 53 = .ok (.iconst (-1), 1) := by decide +kernel
theorem dX11_writable_54 : decode cX11_writable 54 = .ok (.ireturn, 1) := by decide +kernel
theorem dX11_writable_55 : decode cX11_writable 55 = .ok (.aload_n 0, 1) := by decide +kernel
theorem dX11_writable_56 : decode cX11_writable 56 = .ok (.iconst 0, 1) := by decide +kernel
theorem dX11_writable_57 : decode cX11_writable 57 = .ok (.putfield 275, 3) := by decide +kernel
theorem dX11_writable_60 : decode cX11_writable 60 = .ok (.aload_n 0, 1) := by decide +kernel
theorem dX11_writable_61 : decode cX11_writable 61 = .ok (.iconst 0, 1) := by decide +kernel
theorem dX11_writable_62 : decode cX11_writable 62 = .ok (.putfield 334, 3) := by decide +kernel
theorem dX11_writable_65 : decode cX11_writable 65 = .ok (.aload_n 0, 1) := by decide +kernel
theorem dX11_writable_66 : decode cX11_writable 66 = .ok (.iload_n 1, 1) := by decide +kernel
theorem dX11_writable_67 : decode cX11_writable 67 = .ok (.iload_n 2, 1) := by decide +kernel
theorem dX11_writable_68 : decode cX11_writable 68 = .ok (.iload_n 3, 1) := by decide +kernel
theorem dX11_writable_69 : decode cX11_writable 69 = .ok (.iload 4, 2) := by decide +kernel
theorem dX11_writable_71 : decode cX11_writable 71 = .ok (.iconst 1, 1) := by decide +kernel
theorem dX11_writable_72 : decode cX11_writable 72 = .ok (.iload_n 1, 1) := by decide +kernel
theorem dX11_writable_73 : decode cX11_writable 73 = .ok (.ishl, 1) := by decide +kernel
theorem dX11_writable_74 : decode cX11_writable 74 = .ok (.invokevirtual 337, 3) := by decide +kernel
theorem dX11_writable_77 : decode cX11_writable 77 = .ok (.aload_n 0, 1) := by decide +kernel
theorem dX11_writable_78 : decode cX11_writable 78 = .ok (.getfield 334, 3) := by decide +kernel
theorem dX11_writable_81 : decode cX11_writable 81 = .ok (.ireturn, 1) := by decide +kernel
abbrev mX11_writable : MI := (RX11, yX11_writable, cX11_writable, 5, (some .int))
theorem mok_X11_writable : MOKv mX11_writable 4 := ⟨⟨bm_1698, bm_127, ⟨by decide, by decide⟩, by decide +kernel⟩, bm_1696, bm_1697⟩
def f_X11_writable   (a0 : Nat) (x1 : Int32) (x2 : Int32) (x3 : Int32) (x4 : Int32) (h : MH) : Option (Int32 × MH) :=
  lt (sI h a0 0 0) fun h_1 =>
  (f_X11_isNode a0 x1 h_1).bind fun q_2 =>
  if q_2.1 = 0 then
    some ((-1 : Int32), q_2.2)
  else
    (f_X11_isNode a0 x2 q_2.2).bind fun q_3 =>
    if q_3.1 = 0 then
      some ((-1 : Int32), q_3.2)
    else
      if x1 = x2 then
        some ((-1 : Int32), q_3.2)
      else
        (f_X11_isIn a0 (Int32.toInt64 x3) 1 6 q_3.2).bind fun q_4 =>
        if q_4.1 = 0 then
          some ((-1 : Int32), q_4.2)
        else
          (f_X11_isIn a0 (Int32.toInt64 x4) 1 12 q_4.2).bind fun q_5 =>
          if q_5.1 = 0 then
            some ((-1 : Int32), q_5.2)
          else
            lt (sI q_5.2 a0 27 0) fun h_6 =>
            lt (sI h_6 a0 35 0) fun h_7 =>
            (f_X11_ways a0 DW (x1, x2, x3, x4, ((1 : Int32) <<< (x1 &&& 31))) h_7).bind fun q_8 =>
            some ((gI q_8 a0 35), q_8)
set_option maxRecDepth 100000 in
set_option maxHeartbeats 4000000 in
theorem v_X11_writable {l : Launch} {G : GE} {B N : Nat} {S : List SHP} {o : Int32 × MH} {a0 : Nat} {x1 : Int32} {x2 : Int32} {x3 : Int32} {x4 : Int32}    (hs0 : S[a0]? = some (.inl 11)) {h : MH} (hf : f_X11_writable a0 x1 x2 x3 x4 h = some o) : V l G B N mX11_writable (rmm 144 0 0) false 0 0 (QI S o) S 0 0 0 [(0, .ref a0), (1, .int x1), (2, .int x2), (3, .int x3), (4, .int x4)] [] h := by
  unfold f_X11_writable at hf
  refine V_aload_n (pc' := 1) dX11_writable_0 rfl 0 rfl rfl ?_
  refine V_iconst (v := 0) (pc' := 2) dX11_writable_1 rfl (by decide) ?_
  refine V_putI (pc' := 5) 11 0 dX11_writable_2 rfl (by decide) (Nat.le_of_ble_eq_true rfl) bm_1224 hs0 (Or.inl rfl) rfl ?_
  refine V_nmH hf (fun h_1 hf => ?_)
  refine V_aload_n (pc' := 6) dX11_writable_5 rfl 0 rfl rfl ?_
  refine V_iload_n (pc' := 7) dX11_writable_6 rfl 1 rfl rfl ?_
  refine V_cvI (pc' := 10) (As := [.int x1]) (rest := []) dX11_writable_7 rfl mok_X11_isNode bm_1389 11 (by decide) rfl hs0 rfl rfl (Nat.le_of_ble_eq_true rfl) (by decide) hf (fun q e => ct_X11_isNode hs0 e) (fun q_2 hf => ?_)
  refine V_if_eq (tgt := 53) (pc' := 13) dX11_writable_10 (by decide) rfl hf (fun hf => ?_) (fun hf => ?_)
  ·
    refine V_iconst (v := (-1)) (pc' := 54) dX11_writable_53 rfl (by decide) ?_
    obtain rfl := Option.some.inj hf
    exact V_iret dX11_writable_54 rfl rfl rfl ⟨rfl, rfl, rfl⟩
  ·
    refine V_aload_n (pc' := 14) dX11_writable_13 rfl 0 rfl rfl ?_
    refine V_iload_n (pc' := 15) dX11_writable_14 rfl 2 rfl rfl ?_
    refine V_cvI (pc' := 18) (As := [.int x2]) (rest := []) dX11_writable_15 rfl mok_X11_isNode bm_1389 11 (by decide) rfl hs0 rfl rfl (Nat.le_of_ble_eq_true rfl) (by decide) hf (fun q e => ct_X11_isNode hs0 e) (fun q_3 hf => ?_)
    refine V_if_eq (tgt := 53) (pc' := 21) dX11_writable_18 (by decide) rfl hf (fun hf => ?_) (fun hf => ?_)
    ·
      refine V_iconst (v := (-1)) (pc' := 54) dX11_writable_53 rfl (by decide) ?_
      obtain rfl := Option.some.inj hf
      exact V_iret dX11_writable_54 rfl rfl rfl ⟨rfl, rfl, rfl⟩
    ·
      refine V_iload_n (pc' := 22) dX11_writable_21 rfl 1 rfl rfl ?_
      refine V_iload_n (pc' := 23) dX11_writable_22 rfl 2 rfl rfl ?_
      refine V_icmp_eq (tgt := 53) (pc' := 26) dX11_writable_23 (by decide) rfl hf (fun hf => ?_) (fun hf => ?_)
      ·
        refine V_iconst (v := (-1)) (pc' := 54) dX11_writable_53 rfl (by decide) ?_
        obtain rfl := Option.some.inj hf
        exact V_iret dX11_writable_54 rfl rfl rfl ⟨rfl, rfl, rfl⟩
      ·
        refine V_aload_n (pc' := 27) dX11_writable_26 rfl 0 rfl rfl ?_
        refine V_iload_n (pc' := 28) dX11_writable_27 rfl 3 rfl rfl ?_
        refine V_i2l (pc' := 29) dX11_writable_28 rfl ?_
        refine V_lconst (v := 1) (pc' := 30) dX11_writable_29 rfl (by decide) ?_
        refine V_ldc2 (v := 6) (pc' := 33) dX11_writable_30 rfl bm_1435 ?_
        refine V_cvI (pc' := 36) (As := [.long (Int32.toInt64 x3), .long 1, .long 6]) (rest := []) dX11_writable_33 rfl mok_X11_isIn bm_1373 11 (by decide) rfl hs0 rfl rfl (Nat.le_of_ble_eq_true rfl) (by decide) hf (fun q e => ct_X11_isIn hs0 e) (fun q_4 hf => ?_)
        refine V_if_eq (tgt := 53) (pc' := 39) dX11_writable_36 (by decide) rfl hf (fun hf => ?_) (fun hf => ?_)
        ·
          refine V_iconst (v := (-1)) (pc' := 54) dX11_writable_53 rfl (by decide) ?_
          obtain rfl := Option.some.inj hf
          exact V_iret dX11_writable_54 rfl rfl rfl ⟨rfl, rfl, rfl⟩
        ·
          refine V_aload_n (pc' := 40) dX11_writable_39 rfl 0 rfl rfl ?_
          refine V_iload (pc' := 42) dX11_writable_40 rfl 4 rfl ?_
          refine V_i2l (pc' := 43) dX11_writable_42 rfl ?_
          refine V_lconst (v := 1) (pc' := 44) dX11_writable_43 rfl (by decide) ?_
          refine V_ldc2 (v := 12) (pc' := 47) dX11_writable_44 rfl bm_1448 ?_
          refine V_cvI (pc' := 50) (As := [.long (Int32.toInt64 x4), .long 1, .long 12]) (rest := []) dX11_writable_47 rfl mok_X11_isIn bm_1373 11 (by decide) rfl hs0 rfl rfl (Nat.le_of_ble_eq_true rfl) (by decide) hf (fun q e => ct_X11_isIn hs0 e) (fun q_5 hf => ?_)
          refine V_if_ne (tgt := 55) (pc' := 53) dX11_writable_50 (by decide) rfl hf (fun hf => ?_) (fun hf => ?_)
          ·
            refine V_iconst (v := (-1)) (pc' := 54) dX11_writable_53 rfl (by decide) ?_
            obtain rfl := Option.some.inj hf
            exact V_iret dX11_writable_54 rfl rfl rfl ⟨rfl, rfl, rfl⟩
          ·
            refine V_aload_n (pc' := 56) dX11_writable_55 rfl 0 rfl rfl ?_
            refine V_iconst (v := 0) (pc' := 57) dX11_writable_56 rfl (by decide) ?_
            refine V_putI (pc' := 60) 11 27 dX11_writable_57 rfl (by decide) (Nat.le_of_ble_eq_true rfl) bm_1251 hs0 (Or.inl rfl) rfl ?_
            refine V_nmH hf (fun h_6 hf => ?_)
            refine V_aload_n (pc' := 61) dX11_writable_60 rfl 0 rfl rfl ?_
            refine V_iconst (v := 0) (pc' := 62) dX11_writable_61 rfl (by decide) ?_
            refine V_putI (pc' := 65) 11 35 dX11_writable_62 rfl (by decide) (Nat.le_of_ble_eq_true rfl) bm_1259 hs0 (Or.inl rfl) rfl ?_
            refine V_nmH hf (fun h_7 hf => ?_)
            refine V_aload_n (pc' := 66) dX11_writable_65 rfl 0 rfl rfl ?_
            refine V_iload_n (pc' := 67) dX11_writable_66 rfl 1 rfl rfl ?_
            refine V_iload_n (pc' := 68) dX11_writable_67 rfl 2 rfl rfl ?_
            refine V_iload_n (pc' := 69) dX11_writable_68 rfl 3 rfl rfl ?_
            refine V_iload (pc' := 71) dX11_writable_69 rfl 4 rfl ?_
            refine V_iconst (v := 1) (pc' := 72) dX11_writable_71 rfl (by decide) ?_
            refine V_iload_n (pc' := 73) dX11_writable_72 rfl 1 rfl rfl ?_
            refine V_ishl (pc' := 74) dX11_writable_73 rfl ?_
            refine V_cvV (pc' := 77) (As := [.int x1, .int x2, .int x3, .int x4, .int ((1 : Int32) <<< (x1 &&& 31))]) (rest := []) dX11_writable_74 rfl mok_X11_ways bm_1699 11 (by decide) rfl hs0 rfl rfl (Nat.le_of_ble_eq_true rfl) (by decide) hf (fun q e => ct_X11_ways hs0 e) (fun q_8 hf => ?_)
            refine V_aload_n (pc' := 78) dX11_writable_77 rfl 0 rfl rfl ?_
            refine V_getI (pc' := 81) 11 35 dX11_writable_78 rfl (by decide) (Nat.le_of_ble_eq_true rfl) bm_1259 hs0 (fun _ _ _ => rfl) ?_
            obtain rfl := Option.some.inj hf
            exact V_iret dX11_writable_81 rfl rfl rfl ⟨rfl, rfl, rfl⟩
theorem ct_X11_writable {l : Launch} {S : List SHP} {h : MH} {a0 : Nat} {x1 : Int32} {x2 : Int32} {x3 : Int32} {x4 : Int32} (hs0 : S[a0]? = some (.inl 11)) {q : Int32 × MH} (hf : f_X11_writable a0 x1 x2 x3 x4 h = some q) : CT l mX11_writable 144 false 0 0 S [.ref a0, .int x1, .int x2, .int x3, .int x4] h (QI S q) :=
  CT_ofV (by decide) rfl (Nat.le_of_ble_eq_true rfl) (fun G B hT => v_X11_writable hs0 hf)
/-! LabelStacksModel.fewestBy(II)I -/
theorem dX11_fewestBy_0 : decode cX11_fewestBy 0 = .ok (.aload_n 0, 1) := by decide +kernel
theorem dX11_fewestBy_1 : decode cX11_fewestBy 1 = .ok (.getfield 7, 3) := by decide +kernel
theorem dX11_fewestBy_4 : decode cX11_fewestBy 4 = .ok (.bipush 62, 2) := by decide +kernel
theorem dX11_fewestBy_6 : decode cX11_fewestBy 6 = .ok (.iload_n 1, 1) := by decide +kernel
theorem dX11_fewestBy_7 : decode cX11_fewestBy 7 = .ok (.iadd, 1) := by decide +kernel
theorem dX11_fewestBy_8 : decode cX11_fewestBy 8 = .ok (.iload_n 2, 1) := by decide +kernel
theorem dX11_fewestBy_9 : decode cX11_fewestBy 9 = .ok (.iastore, 1) := by decide +kernel
theorem dX11_fewestBy_10 : decode cX11_fewestBy 10 = .ok (.aload_n 0, 1) := by decide +kernel
theorem dX11_fewestBy_11 : decode cX11_fewestBy 11 = .ok (.iconst 0, 1) := by decide +kernel
theorem dX11_fewestBy_12 : decode cX11_fewestBy 12 = .ok (.putfield 101, 3) := by decide +kernel
theorem dX11_fewestBy_15 : decode cX11_fewestBy 15 = .ok (.aload_n 0, 1) := by decide +kernel
theorem dX11_fewestBy_16 : decode cX11_fewestBy 16 = .ok (.invokevirtual 297, 3) := by decide +kernel
theorem dX11_fewestBy_19 : decode cX11_fewestBy 19 = .ok (.aload_n 0, 1) := by decide +kernel
theorem dX11_fewestBy_20 : decode cX11_fewestBy 20 = .ok (.getfield 51, 3) := by decide +kernel
theorem dX11_fewestBy_23 : decode cX11_fewestBy 23 = .ok (.iconst 0, 1) := by decide +kernel
theorem dX11_fewestBy_24 : decode cX11_fewestBy 24 = .ok (.iaload, 1) := by decide +kernel
theorem dX11_fewestBy_25 : decode cX11_fewestBy 25 = .ok (.ireturn, 1) := by decide +kernel
abbrev mX11_fewestBy : MI := (RX11, yX11_fewestBy, cX11_fewestBy, 3, (some .int))
theorem mok_X11_fewestBy : MOKv mX11_fewestBy 2 := ⟨⟨bm_1710, bm_127, ⟨by decide, by decide⟩, by decide +kernel⟩, bm_1709, bm_94⟩
def f_X11_fewestBy   (a0 : Nat) (x1 : Int32) (x2 : Int32) (h : MH) : Option (Int32 × MH) :=
  (gR h a0 1).bind fun a_1 =>
  (stI h a_1 (62 + x1) x2).bind fun h_2 =>
  lt (sI h_2 a0 7 0) fun h_3 =>
  (f_X11_laysFewest a0 h_3).bind fun q_4 =>
  (gR q_4 a0 28).bind fun a_5 =>
  (ldI q_4 a_5 0).bind fun x_6 =>
  some (x_6, q_4)
set_option maxRecDepth 100000 in
set_option maxHeartbeats 4000000 in
theorem v_X11_fewestBy {l : Launch} {G : GE} {B N : Nat} {S : List SHP} {o : Int32 × MH} {a0 : Nat} {x1 : Int32} {x2 : Int32}    (hs0 : S[a0]? = some (.inl 11)) {h : MH} (hf : f_X11_fewestBy a0 x1 x2 h = some o) : V l G B N mX11_fewestBy (rmm 133 0 0) false 0 0 (QI S o) S 0 0 0 [(0, .ref a0), (1, .int x1), (2, .int x2)] [] h := by
  unfold f_X11_fewestBy at hf
  refine V_aload_n (pc' := 1) dX11_fewestBy_0 rfl 0 rfl rfl ?_
  refine V_getR (pc' := 4) 11 1 dX11_fewestBy_1 rfl (by decide) (Nat.le_of_ble_eq_true rfl) bm_1225 hs0 (fun _ _ _ => rfl) rfl hf (fun a_1 ha_1 hf => ?_)
  refine V_bipush (v := 62) (pc' := 6) dX11_fewestBy_4 rfl (by decide) ?_
  refine V_iload_n (pc' := 7) dX11_fewestBy_6 rfl 1 rfl rfl ?_
  refine V_iadd (pc' := 8) dX11_fewestBy_7 rfl ?_
  refine V_iload_n (pc' := 9) dX11_fewestBy_8 rfl 2 rfl rfl ?_
  refine V_iast (pc' := 10) dX11_fewestBy_9 rfl ha_1 hf (fun h_2 hf => ?_)
  refine V_aload_n (pc' := 11) dX11_fewestBy_10 rfl 0 rfl rfl ?_
  refine V_iconst (v := 0) (pc' := 12) dX11_fewestBy_11 rfl (by decide) ?_
  refine V_putZL (pc' := 15) 11 7 dX11_fewestBy_12 rfl (by decide) (Nat.le_of_ble_eq_true rfl) bm_1231 hs0 rfl rfl (by decide) ?_
  refine V_nmH hf (fun h_3 hf => ?_)
  refine V_aload_n (pc' := 16) dX11_fewestBy_15 rfl 0 rfl rfl ?_
  refine V_cvV (pc' := 19) (As := []) (rest := []) dX11_fewestBy_16 rfl mok_X11_laysFewest bm_1605 11 (by decide) rfl hs0 rfl rfl (Nat.le_of_ble_eq_true rfl) (by decide) hf (fun q e => ct_X11_laysFewest hs0 e) (fun q_4 hf => ?_)
  refine V_aload_n (pc' := 20) dX11_fewestBy_19 rfl 0 rfl rfl ?_
  refine V_getR (pc' := 23) 11 28 dX11_fewestBy_20 rfl (by decide) (Nat.le_of_ble_eq_true rfl) bm_1252 hs0 (fun _ _ _ => rfl) rfl hf (fun a_5 ha_5 hf => ?_)
  refine V_iconst (v := 0) (pc' := 24) dX11_fewestBy_23 rfl (by decide) ?_
  refine V_iald (pc' := 25) dX11_fewestBy_24 rfl ha_5 hf (fun x_6 hf => ?_)
  obtain rfl := Option.some.inj hf
  exact V_iret dX11_fewestBy_25 rfl rfl rfl ⟨rfl, rfl, rfl⟩
theorem ct_X11_fewestBy {l : Launch} {S : List SHP} {h : MH} {a0 : Nat} {x1 : Int32} {x2 : Int32} (hs0 : S[a0]? = some (.inl 11)) {q : Int32 × MH} (hf : f_X11_fewestBy a0 x1 x2 h = some q) : CT l mX11_fewestBy 133 false 0 0 S [.ref a0, .int x1, .int x2] h (QI S q) :=
  CT_ofV (by decide) rfl (Nat.le_of_ble_eq_true rfl) (fun G B hT => v_X11_fewestBy hs0 hf)
/-! LabelStacksModel.stays(II)I -/
theorem dX11_stays_0 : decode cX11_stays 0 = .ok (.aload_n 0, 1) := by decide +kernel
theorem dX11_stays_1 : decode cX11_stays 1 = .ok (.iconst 0, 1) := by decide +kernel
theorem dX11_stays_2 : decode cX11_stays 2 = .ok (.putfield 84, 3) := by decide +kernel
theorem dX11_stays_5 : decode cX11_stays 5 = .ok (.aload_n 0, 1) := by decide +kernel
theorem dX11_stays_6 : decode cX11_stays 6 = .ok (.iload_n 1, 1) := by decide +kernel
theorem dX11_stays_7 : decode cX11_stays 7 = .ok (.invokevirtual 126, 3) := by decide +kernel
theorem dX11_stays_10 : decode cX11_stays 10 = .ok (.ifCond .eq 21, 3) := by decide +kernel
theorem dX11_stays_13 : decode cX11_stays 13 = .ok (.aload_n 0, 1) := by decide +kernel
theorem dX11_stays_14 : decode cX11_stays 14 = .ok (.invokevirtual 152, 3) := by decide +kernel
theorem dX11_stays_17 : decode cX11_stays 17 = .ok (.ifCond .eq 14, 3) := by decide +kernel
theorem dX11_stays_20 : decode cX11_stays 20 = .ok (.aload_n 0, 1) := by decide +kernel
theorem dX11_stays_21 : decode cX11_stays 21 = .ok (.iload_n 2, 1) := by decide +kernel
theorem dX11_stays_22 : decode cX11_stays 22 = .ok (.i2l, 1) := by decide +kernel
theorem dX11_stays_23 : decode cX11_stays 23 = .ok (.lconst 0, 1) := by decide +kernel
theorem dX11_stays_24 : decode cX11_stays 24 = .ok (.lconst 1, 1) := by decide +kernel
theorem dX11_stays_25 : decode cX11_stays 25 = .ok (.invokevirtual 91, 3) := by decide +kernel
theorem dX11_stays_28 : decode cX11_stays 28 = .ok (.ifCond .ne 5, 3) := by decide +kernel
theorem dX11_stays_31 : decode cX11_stays 31 = .ok (.iconst (-1), 1) := by decide +kernel
theorem dX11_stays_32 : decode cX11_stays 32 = .ok (.ireturn, 1) := by decide +kernel
theorem dX11_stays_33 : decode cX11_stays 33 = .ok (.aload_n 0, 1) := by decide +kernel
theorem dX11_stays_34 : decode cX11_stays 34 = .ok (.invokevirtual 294, 3) := by decide +kernel
theorem dX11_stays_37 : decode cX11_stays 37 = .ok (.aload_n 0, 1) := by decide +kernel
theorem dX11_stays_38 : decode cX11_stays 38 = .ok (.iload_n 1, 1) := by decide +kernel
theorem dX11_stays_39 : decode cX11_stays 39 = .ok (.invokevirtual 132, 3) := by decide +kernel
theorem dX11_stays_42 : decode cX11_stays 42 = .ok (.istore_n 3, 1) := by decide +kernel
theorem dX11_stays_43 : decode cX11_stays 43 = .ok (.aload_n 0, 1) := by decide +kernel
theorem dX11_stays_44 : decode cX11_stays 44 = .ok (.iload_n 1, 1) := by decide +kernel
theorem dX11_stays_45 : decode cX11_stays 45 = .ok (.iload_n 3, 1) := by decide +kernel
theorem dX11_stays_46 : decode cX11_stays 46 = .ok (.invokevirtual 341, 3) := by decide +kernel
theorem dX11_stays_49 : decode cX11_stays 49 = .ok (.istore 4, 2) := by decide +kernel
theorem dX11_stays_51 : decode cX11_stays 51 = .ok (.iload_n 2, 1) := by decide +kernel
theorem dX11_stays_52 : decode cX11_stays 52 = .ok (.ifCond .ne 7, 3) := by decide +kernel
theorem dX11_stays_55 : decode cX11_stays 55 = .ok (.iconst (-1), 1) := by decide +kernel
theorem dX11_stays_56 : decode cX11_stays 56 = .ok (.goto 4, 3) := by decide +kernel
theorem dX11_stays_59 : decode cX11_stays 59 = .ok (.iconst 1, 1) := by decide +kernel
theorem dX11_stays_60 : decode cX11_stays 60 = .ok (.istore 5, 2) := by decide +kernel
theorem dX11_stays_62 : decode cX11_stays 62 = .ok (.iload_n 3, 1) := by decide +kernel
theorem dX11_stays_63 : decode cX11_stays 63 = .ok (.istore 6, 2) := by decide +kernel
theorem dX11_stays_65 : decode cX11_stays 65 = .ok (.aload_n 0, 1) := by decide +kernel
theorem dX11_stays_66 : decode cX11_stays 66 = .ok (.iload 6, 2) := by decide +kernel
theorem dX11_stays_68 : decode cX11_stays 68 = .ok (.iload 5, 2) := by decide +kernel
theorem dX11_stays_70 : decode cX11_stays 70 = .ok (.iadd, 1) := by decide +kernel
theorem dX11_stays_71 : decode cX11_stays 71 = .ok (.i2l, 1) := by decide +kernel
theorem dX11_stays_72 : decode cX11_stays 72 = .ok (.lconst 1, 1) := by decide +kernel
theorem dX11_stays_73 : decode cX11_stays 73 = .ok (.ldc2_w 120, 3) := by decide +kernel
theorem dX11_stays_76 : decode cX11_stays 76 = .ok (.invokevirtual 91, 3) := by decide +kernel
theorem dX11_stays_79 : decode cX11_stays 79 = .ok (.ifCond .eq 28, 3) := by decide +kernel
theorem dX11_stays_82 : decode cX11_stays 82 = .ok (.aload_n 0, 1) := by decide +kernel
theorem dX11_stays_83 : decode cX11_stays 83 = .ok (.iload_n 1, 1) := by decide +kernel
theorem dX11_stays_84 : decode cX11_stays 84 = .ok (.iload 6, 2) := by decide +kernel
theorem dX11_stays_86 : decode cX11_stays 86 = .ok (.iload 5, 2) := by decide +kernel
theorem dX11_stays_88 : decode cX11_stays 88 = .ok (.iadd, 1) := by decide +kernel
theorem dX11_stays_89 : decode cX11_stays 89 = .ok (.invokevirtual 341, 3) := by decide +kernel
theorem dX11_stays_92 : decode cX11_stays 92 = .ok (.iload 4, 2) := by decide +kernel
theorem dX11_stays_94 : decode cX11_stays 94 = .ok (.if_icmp .ne 13, 3) := by decide +kernel
theorem dX11_stays_97 : decode cX11_stays 97 = .ok (.iload 6, 2) := by decide +kernel
theorem dX11_stays_99 : decode cX11_stays 99 = .ok (.iload 5, 2) := by decide +kernel
theorem dX11_stays_101 : decode cX11_stays 101 = .ok (.iadd, 1) := by decide +kernel
theorem dX11_stays_102 : decode cX11_stays 102 = .ok (.istore 6, 2) := by decide +kernel
theorem dX11_stays_104 : decode cX11_stays 104 = .ok (.goto (-39), 3) := by decide +kernel
theorem dX11_stays_107 : decode cX11_stays 107 = .ok (.aload_n 0, 1) := by decide +kernel
theorem dX11_stays_108 : decode cX11_stays 108 = .ok (.getfield 7, 3) := by decide +kernel
theorem dX11_stays_111 : decode cX11_stays 111 = .ok (.bipush 62, 2) := by decide +kernel
theorem dX11_stays_113 : decode cX11_stays 113 = .ok (.iload_n 1, 1) := by decide +kernel
theorem dX11_stays_114 : decode cX11_stays 114 = .ok (.iadd, 1) := by decide +kernel
theorem dX11_stays_115 : decode cX11_stays 115 = .ok (.iload_n 3, 1) := by decide +kernel
theorem dX11_stays_116 : decode cX11_stays 116 = .ok (.iastore, 1) := by decide +kernel
theorem dX11_stays_117 : decode cX11_stays 117 = .ok (.aload_n 0, 1) := by decide +kernel
theorem dX11_stays_118 : decode cX11_stays 118 = .ok (.iconst 0, 1) := by decide +kernel
theorem dX11_stays_119 : decode cX11_stays 119 = .ok (.putfield 101, 3) := by decide +kernel
theorem dX11_stays_122 : decode cX11_stays 122 = .ok (.iload 6, 2) := by decide +kernel
theorem dX11_stays_124 : decode cX11_stays 124 = .ok (.ireturn, 1) := by decide +kernel
abbrev mX11_stays : MI := (RX11, yX11_stays, cX11_stays, 7, (some .int))
theorem mok_X11_stays : MOKv mX11_stays 2 := ⟨⟨bm_1706, bm_127, ⟨by decide, by decide⟩, by decide +kernel⟩, bm_1704, bm_1705⟩
def f_X11_stays_107   (a0 : Nat) (x1 : Int32) (x3 : Int32) (x6 : Int32) (h : MH) : Option (Int32 × MH) :=
  (gR h a0 1).bind fun a_1 =>
  (stI h a_1 (62 + x1) x3).bind fun h_2 =>
  lt (sI h_2 a0 7 0) fun h_3 =>
  some (x6, h_3)
def f_X11_stays_65b   (a0 : Nat) (x1 : Int32) (x3 : Int32) (x4 : Int32) (x5 : Int32) (k65 : Int32 → MH → Option (Int32 × MH)) (p : Int32) (h : MH) : Option (Int32 × MH) :=
  (f_X11_isIn a0 (Int32.toInt64 (p + x5)) 1 99 h).bind fun q_1 =>
  if q_1.1 = 0 then
    f_X11_stays_107 a0 x1 x3 p q_1.2
  else
    (f_X11_fewestBy a0 x1 (p + x5) q_1.2).bind fun q_2 =>
    if q_2.1 = x4 then
      lt (p + x5) fun x_3 =>
      k65 x_3 q_2.2
    else
      f_X11_stays_107 a0 x1 x3 p q_2.2
def f_X11_stays_65   (a0 : Nat) (x1 : Int32) (x3 : Int32) (x4 : Int32) (x5 : Int32) : Nat → Int32 → MH → Option (Int32 × MH) := lp (f_X11_stays_65b a0 x1 x3 x4 x5)
def f_X11_stays_60   (a0 : Nat) (x1 : Int32) (x3 : Int32) (x4 : Int32) (t0 : Int32) (h : MH) : Option (Int32 × MH) :=
  f_X11_stays_65 a0 x1 x3 x4 t0 FU x3 h
def f_X11_stays   (a0 : Nat) (x1 : Int32) (x2 : Int32) (h : MH) : Option (Int32 × MH) :=
  lt (sI h a0 0 0) fun h_1 =>
  (f_X11_isLink a0 x1 h_1).bind fun q_2 =>
  if q_2.1 = 0 then
    some ((-1 : Int32), q_2.2)
  else
    (f_X11_wayLong a0 q_2.2).bind fun q_3 =>
    if q_3.1 = 0 then
      some ((-1 : Int32), q_3.2)
    else
      (f_X11_isIn a0 (Int32.toInt64 x2) 0 1 q_3.2).bind fun q_4 =>
      if q_4.1 = 0 then
        some ((-1 : Int32), q_4.2)
      else
        (f_X11_takesWay a0 q_4.2).bind fun q_5 =>
        (f_X11_costOf a0 x1 q_5).bind fun q_6 =>
        (f_X11_fewestBy a0 x1 q_6.1 q_6.2).bind fun q_7 =>
        if x2 = 0 then
          f_X11_stays_60 a0 x1 q_6.1 q_7.1 (-1 : Int32) q_7.2
        else
          f_X11_stays_60 a0 x1 q_6.1 q_7.1 1 q_7.2
set_option maxRecDepth 100000 in
set_option maxHeartbeats 4000000 in
theorem v_X11_stays_107 {l : Launch} {G : GE} {B N : Nat} {S : List SHP} {o : Int32 × MH} {a0 : Nat} {x1 : Int32} {x3 : Int32} {x6 : Int32}    (hs0 : S[a0]? = some (.inl 11)) {h : MH} (hf : f_X11_stays_107 a0 x1 x3 x6 h = some o) : V l G B N mX11_stays (rmm 134 0 0) false 0 0 (QI S o) S 0 0 107 [(0, .ref a0), (1, .int x1), (3, .int x3), (6, .int x6)] [] h := by
  unfold f_X11_stays_107 at hf
  refine V_aload_n (pc' := 108) dX11_stays_107 rfl 0 rfl rfl ?_
  refine V_getR (pc' := 111) 11 1 dX11_stays_108 rfl (by decide) (Nat.le_of_ble_eq_true rfl) bm_1225 hs0 (fun _ _ _ => rfl) rfl hf (fun a_1 ha_1 hf => ?_)
  refine V_bipush (v := 62) (pc' := 113) dX11_stays_111 rfl (by decide) ?_
  refine V_iload_n (pc' := 114) dX11_stays_113 rfl 1 rfl rfl ?_
  refine V_iadd (pc' := 115) dX11_stays_114 rfl ?_
  refine V_iload_n (pc' := 116) dX11_stays_115 rfl 2 rfl rfl ?_
  refine V_iast (pc' := 117) dX11_stays_116 rfl ha_1 hf (fun h_2 hf => ?_)
  refine V_aload_n (pc' := 118) dX11_stays_117 rfl 0 rfl rfl ?_
  refine V_iconst (v := 0) (pc' := 119) dX11_stays_118 rfl (by decide) ?_
  refine V_putZL (pc' := 122) 11 7 dX11_stays_119 rfl (by decide) (Nat.le_of_ble_eq_true rfl) bm_1231 hs0 rfl rfl (by decide) ?_
  refine V_nmH hf (fun h_3 hf => ?_)
  refine V_iload (pc' := 124) dX11_stays_122 rfl 3 rfl ?_
  obtain rfl := Option.some.inj hf
  exact V_iret dX11_stays_124 rfl rfl rfl ⟨rfl, rfl, rfl⟩
set_option maxRecDepth 100000 in
set_option maxHeartbeats 4000000 in
theorem v_X11_stays_65b {l : Launch} {G : GE} {B N : Nat} {S : List SHP} {o : Int32 × MH} {a0 : Nat} {x1 : Int32} {x3 : Int32} {x4 : Int32} {x5 : Int32}    (hs0 : S[a0]? = some (.inl 11)) {k65 : Int32 → MH → Option (Int32 × MH)} (hk65 : ∀ (p : Int32) (h : MH), k65 p h = some o → V l G B N mX11_stays (rmm 134 0 0) false 0 0 (QI S o) S 0 0 65 [(0, .ref a0), (1, .int x1), (3, .int x3), (4, .int x4), (5, .int x5), (6, .int p)] [] h) {p : Int32} {h : MH} (hf : f_X11_stays_65b a0 x1 x3 x4 x5 k65 p h = some o) : V l G B N mX11_stays (rmm 134 0 0) false 0 0 (QI S o) S 0 0 65 [(0, .ref a0), (1, .int x1), (3, .int x3), (4, .int x4), (5, .int x5), (6, .int p)] [] h := by
  unfold f_X11_stays_65b at hf
  refine V_aload_n (pc' := 66) dX11_stays_65 rfl 0 rfl rfl ?_
  refine V_iload (pc' := 68) dX11_stays_66 rfl 5 rfl ?_
  refine V_iload (pc' := 70) dX11_stays_68 rfl 4 rfl ?_
  refine V_iadd (pc' := 71) dX11_stays_70 rfl ?_
  refine V_i2l (pc' := 72) dX11_stays_71 rfl ?_
  refine V_lconst (v := 1) (pc' := 73) dX11_stays_72 rfl (by decide) ?_
  refine V_ldc2 (v := 99) (pc' := 76) dX11_stays_73 rfl bm_1397 ?_
  refine V_cvI (pc' := 79) (As := [.long (Int32.toInt64 (p + x5)), .long 1, .long 99]) (rest := []) dX11_stays_76 rfl mok_X11_isIn bm_1373 11 (by decide) rfl hs0 rfl rfl (Nat.le_of_ble_eq_true rfl) (by decide) hf (fun q e => ct_X11_isIn hs0 e) (fun q_1 hf => ?_)
  refine V_if_eq (tgt := 107) (pc' := 82) dX11_stays_79 (by decide) rfl hf (fun hf => ?_) (fun hf => ?_)
  ·
    exact V_sub (lv' := [(0, .ref a0), (1, .int x1), (3, .int x3), (6, .int p)]) [0, 1, 2, 5] rfl (v_X11_stays_107 hs0 hf)
  ·
    refine V_aload_n (pc' := 83) dX11_stays_82 rfl 0 rfl rfl ?_
    refine V_iload_n (pc' := 84) dX11_stays_83 rfl 1 rfl rfl ?_
    refine V_iload (pc' := 86) dX11_stays_84 rfl 5 rfl ?_
    refine V_iload (pc' := 88) dX11_stays_86 rfl 4 rfl ?_
    refine V_iadd (pc' := 89) dX11_stays_88 rfl ?_
    refine V_cvI (pc' := 92) (As := [.int x1, .int (p + x5)]) (rest := []) dX11_stays_89 rfl mok_X11_fewestBy bm_1707 11 (by decide) rfl hs0 rfl rfl (Nat.le_of_ble_eq_true rfl) (by decide) hf (fun q e => ct_X11_fewestBy hs0 e) (fun q_2 hf => ?_)
    refine V_iload (pc' := 94) dX11_stays_92 rfl 3 rfl ?_
    refine V_icmp_ne (tgt := 107) (pc' := 97) dX11_stays_94 (by decide) rfl hf (fun hf => ?_) (fun hf => ?_)
    ·
      refine V_iload (pc' := 99) dX11_stays_97 rfl 5 rfl ?_
      refine V_iload (pc' := 101) dX11_stays_99 rfl 4 rfl ?_
      refine V_iadd (pc' := 102) dX11_stays_101 rfl ?_
      refine V_nmI hf (fun x_3 hf => ?_)
      refine V_istore (lv' := [(6, .int x_3), (0, .ref a0), (1, .int x1), (3, .int x3), (4, .int x4), (5, .int x5)]) (pc' := 104) dX11_stays_102 rfl (Nat.le_of_ble_eq_true rfl) rfl ?_
      refine V_goto (tgt := 65) dX11_stays_104 (by decide) ?_
      exact V_sub (lv' := [(0, .ref a0), (1, .int x1), (3, .int x3), (4, .int x4), (5, .int x5), (6, .int x_3)]) [1, 2, 3, 4, 5, 0] rfl (hk65 x_3 q_2.2 hf)
    ·
      exact V_sub (lv' := [(0, .ref a0), (1, .int x1), (3, .int x3), (6, .int p)]) [0, 1, 2, 5] rfl (v_X11_stays_107 hs0 hf)
theorem v_X11_stays_65 {l : Launch} {G : GE} {B N : Nat} {S : List SHP} {o : Int32 × MH} {a0 : Nat} {x1 : Int32} {x3 : Int32} {x4 : Int32} {x5 : Int32}    (hs0 : S[a0]? = some (.inl 11)) {n : Nat} {p : Int32} {h : MH} (hf : f_X11_stays_65 a0 x1 x3 x4 x5 n p h = some o) : V l G B N mX11_stays (rmm 134 0 0) false 0 0 (QI S o) S 0 0 65 [(0, .ref a0), (1, .int x1), (3, .int x3), (4, .int x4), (5, .int x5), (6, .int p)] [] h :=
  V_lp (VV := fun p h => V l G B N mX11_stays (rmm 134 0 0) false 0 0 (QI S o) S 0 0 65 [(0, .ref a0), (1, .int x1), (3, .int x3), (4, .int x4), (5, .int x5), (6, .int p)] [] h) (fun _ hk _ _ hf => v_X11_stays_65b hs0 hk hf) n p h hf
set_option maxRecDepth 100000 in
set_option maxHeartbeats 4000000 in
theorem v_X11_stays_60 {l : Launch} {G : GE} {B N : Nat} {S : List SHP} {o : Int32 × MH} {a0 : Nat} {x1 : Int32} {x3 : Int32} {x4 : Int32} {t0 : Int32}    (hs0 : S[a0]? = some (.inl 11)) {h : MH} (hf : f_X11_stays_60 a0 x1 x3 x4 t0 h = some o) : V l G B N mX11_stays (rmm 134 0 0) false 0 0 (QI S o) S 0 0 60 [(0, .ref a0), (1, .int x1), (3, .int x3), (4, .int x4)] [.int t0] h := by
  unfold f_X11_stays_60 at hf
  refine V_istore (lv' := [(5, .int t0), (0, .ref a0), (1, .int x1), (3, .int x3), (4, .int x4)]) (pc' := 62) dX11_stays_60 rfl (Nat.le_of_ble_eq_true rfl) rfl ?_
  refine V_iload_n (pc' := 63) dX11_stays_62 rfl 3 rfl rfl ?_
  refine V_istore (lv' := [(6, .int x3), (5, .int t0), (0, .ref a0), (1, .int x1), (3, .int x3), (4, .int x4)]) (pc' := 65) dX11_stays_63 rfl (Nat.le_of_ble_eq_true rfl) rfl ?_
  exact V_sub (lv' := [(0, .ref a0), (1, .int x1), (3, .int x3), (4, .int x4), (5, .int t0), (6, .int x3)]) [2, 3, 4, 5, 1, 0] rfl (v_X11_stays_65 hs0 hf)
set_option maxRecDepth 100000 in
set_option maxHeartbeats 4000000 in
theorem v_X11_stays {l : Launch} {G : GE} {B N : Nat} {S : List SHP} {o : Int32 × MH} {a0 : Nat} {x1 : Int32} {x2 : Int32}    (hs0 : S[a0]? = some (.inl 11)) {h : MH} (hf : f_X11_stays a0 x1 x2 h = some o) : V l G B N mX11_stays (rmm 134 0 0) false 0 0 (QI S o) S 0 0 0 [(0, .ref a0), (1, .int x1), (2, .int x2)] [] h := by
  unfold f_X11_stays at hf
  refine V_aload_n (pc' := 1) dX11_stays_0 rfl 0 rfl rfl ?_
  refine V_iconst (v := 0) (pc' := 2) dX11_stays_1 rfl (by decide) ?_
  refine V_putI (pc' := 5) 11 0 dX11_stays_2 rfl (by decide) (Nat.le_of_ble_eq_true rfl) bm_1224 hs0 (Or.inl rfl) rfl ?_
  refine V_nmH hf (fun h_1 hf => ?_)
  refine V_aload_n (pc' := 6) dX11_stays_5 rfl 0 rfl rfl ?_
  refine V_iload_n (pc' := 7) dX11_stays_6 rfl 1 rfl rfl ?_
  refine V_cvI (pc' := 10) (As := [.int x1]) (rest := []) dX11_stays_7 rfl mok_X11_isLink bm_1410 11 (by decide) rfl hs0 rfl rfl (Nat.le_of_ble_eq_true rfl) (by decide) hf (fun q e => ct_X11_isLink hs0 e) (fun q_2 hf => ?_)
  refine V_if_eq (tgt := 31) (pc' := 13) dX11_stays_10 (by decide) rfl hf (fun hf => ?_) (fun hf => ?_)
  ·
    refine V_iconst (v := (-1)) (pc' := 32) dX11_stays_31 rfl (by decide) ?_
    obtain rfl := Option.some.inj hf
    exact V_iret dX11_stays_32 rfl rfl rfl ⟨rfl, rfl, rfl⟩
  ·
    refine V_aload_n (pc' := 14) dX11_stays_13 rfl 0 rfl rfl ?_
    refine V_cvI (pc' := 17) (As := []) (rest := []) dX11_stays_14 rfl mok_X11_wayLong bm_1453 11 (by decide) rfl hs0 rfl rfl (Nat.le_of_ble_eq_true rfl) (by decide) hf (fun q e => ct_X11_wayLong hs0 e) (fun q_3 hf => ?_)
    refine V_if_eq (tgt := 31) (pc' := 20) dX11_stays_17 (by decide) rfl hf (fun hf => ?_) (fun hf => ?_)
    ·
      refine V_iconst (v := (-1)) (pc' := 32) dX11_stays_31 rfl (by decide) ?_
      obtain rfl := Option.some.inj hf
      exact V_iret dX11_stays_32 rfl rfl rfl ⟨rfl, rfl, rfl⟩
    ·
      refine V_aload_n (pc' := 21) dX11_stays_20 rfl 0 rfl rfl ?_
      refine V_iload_n (pc' := 22) dX11_stays_21 rfl 2 rfl rfl ?_
      refine V_i2l (pc' := 23) dX11_stays_22 rfl ?_
      refine V_lconst (v := 0) (pc' := 24) dX11_stays_23 rfl (by decide) ?_
      refine V_lconst (v := 1) (pc' := 25) dX11_stays_24 rfl (by decide) ?_
      refine V_cvI (pc' := 28) (As := [.long (Int32.toInt64 x2), .long 0, .long 1]) (rest := []) dX11_stays_25 rfl mok_X11_isIn bm_1373 11 (by decide) rfl hs0 rfl rfl (Nat.le_of_ble_eq_true rfl) (by decide) hf (fun q e => ct_X11_isIn hs0 e) (fun q_4 hf => ?_)
      refine V_if_ne (tgt := 33) (pc' := 31) dX11_stays_28 (by decide) rfl hf (fun hf => ?_) (fun hf => ?_)
      ·
        refine V_iconst (v := (-1)) (pc' := 32) dX11_stays_31 rfl (by decide) ?_
        obtain rfl := Option.some.inj hf
        exact V_iret dX11_stays_32 rfl rfl rfl ⟨rfl, rfl, rfl⟩
      ·
        refine V_aload_n (pc' := 34) dX11_stays_33 rfl 0 rfl rfl ?_
        refine V_cvV (pc' := 37) (As := []) (rest := []) dX11_stays_34 rfl mok_X11_takesWay bm_1601 11 (by decide) rfl hs0 rfl rfl (Nat.le_of_ble_eq_true rfl) (by decide) hf (fun q e => ct_X11_takesWay hs0 e) (fun q_5 hf => ?_)
        refine V_aload_n (pc' := 38) dX11_stays_37 rfl 0 rfl rfl ?_
        refine V_iload_n (pc' := 39) dX11_stays_38 rfl 1 rfl rfl ?_
        refine V_cvI (pc' := 42) (As := [.int x1]) (rest := []) dX11_stays_39 rfl mok_X11_costOf bm_1422 11 (by decide) rfl hs0 rfl rfl (Nat.le_of_ble_eq_true rfl) (by decide) hf (fun q e => ct_X11_costOf hs0 e) (fun q_6 hf => ?_)
        refine V_istore_n (lv' := [(3, .int q_6.1), (0, .ref a0), (1, .int x1), (2, .int x2)]) (pc' := 43) dX11_stays_42 rfl rfl (Nat.le_of_ble_eq_true rfl) rfl ?_
        refine V_aload_n (pc' := 44) dX11_stays_43 rfl 1 rfl rfl ?_
        refine V_iload_n (pc' := 45) dX11_stays_44 rfl 2 rfl rfl ?_
        refine V_iload_n (pc' := 46) dX11_stays_45 rfl 0 rfl rfl ?_
        refine V_cvI (pc' := 49) (As := [.int x1, .int q_6.1]) (rest := []) dX11_stays_46 rfl mok_X11_fewestBy bm_1707 11 (by decide) rfl hs0 rfl rfl (Nat.le_of_ble_eq_true rfl) (by decide) hf (fun q e => ct_X11_fewestBy hs0 e) (fun q_7 hf => ?_)
        refine V_istore (lv' := [(4, .int q_7.1), (3, .int q_6.1), (0, .ref a0), (1, .int x1), (2, .int x2)]) (pc' := 51) dX11_stays_49 rfl (Nat.le_of_ble_eq_true rfl) rfl ?_
        refine V_iload_n (pc' := 52) dX11_stays_51 rfl 4 rfl rfl ?_
        refine V_if_ne (tgt := 59) (pc' := 55) dX11_stays_52 (by decide) rfl hf (fun hf => ?_) (fun hf => ?_)
        ·
          refine V_iconst (v := (-1)) (pc' := 56) dX11_stays_55 rfl (by decide) ?_
          refine V_goto (tgt := 60) dX11_stays_56 (by decide) ?_
          exact V_sub (lv' := [(0, .ref a0), (1, .int x1), (3, .int q_6.1), (4, .int q_7.1)]) [2, 3, 1, 0] rfl (v_X11_stays_60 hs0 hf)
        ·
          refine V_iconst (v := 1) (pc' := 60) dX11_stays_59 rfl (by decide) ?_
          exact V_sub (lv' := [(0, .ref a0), (1, .int x1), (3, .int q_6.1), (4, .int q_7.1)]) [2, 3, 1, 0] rfl (v_X11_stays_60 hs0 hf)
theorem ct_X11_stays {l : Launch} {S : List SHP} {h : MH} {a0 : Nat} {x1 : Int32} {x2 : Int32} (hs0 : S[a0]? = some (.inl 11)) {q : Int32 × MH} (hf : f_X11_stays a0 x1 x2 h = some q) : CT l mX11_stays 134 false 0 0 S [.ref a0, .int x1, .int x2] h (QI S q) :=
  CT_ofV (by decide) rfl (Nat.le_of_ble_eq_true rfl) (fun G B hT => v_X11_stays hs0 hf)
/-! LabelStacksModel.isKeptAs(I)Z -/
theorem dX11_isKeptAs_0 : decode cX11_isKeptAs 0 = .ok (.aload_n 0, 1) := by decide +kernel
theorem dX11_isKeptAs_1 : decode cX11_isKeptAs 1 = .ok (.getfield 7, 3) := by decide +kernel
theorem dX11_isKeptAs_4 : decode cX11_isKeptAs 4 = .ok (.sipush 291, 3) := by decide +kernel
theorem dX11_isKeptAs_7 : decode cX11_isKeptAs 7 = .ok (.iload_n 1, 1) := by decide +kernel
theorem dX11_isKeptAs_8 : decode cX11_isKeptAs 8 = .ok (.iadd, 1) := by decide +kernel
theorem dX11_isKeptAs_9 : decode cX11_isKeptAs 9 = .ok (.iaload, 1) := by decide +kernel
theorem dX11_isKeptAs_10 : decode cX11_isKeptAs 10 = .ok (.aload_n 0, 1) := by decide +kernel
theorem dX11_isKeptAs_11 : decode cX11_isKeptAs 11 = .ok (.invokevirtual 152, 3) := by decide +kernel
theorem dX11_isKeptAs_14 : decode cX11_isKeptAs 14 = .ok (.if_icmp .eq 5, 3) := by decide +kernel
theorem dX11_isKeptAs_17 : decode cX11_isKeptAs 17 = .ok (.iconst 0, 1) := by decide +kernel
theorem dX11_isKeptAs_18 : decode cX11_isKeptAs 18 = .ok (.ireturn, 1) := by decide +kernel
theorem dX11_isKeptAs_19 : decode cX11_isKeptAs 19 = .ok (.iconst 0, 1) := by decide +kernel
theorem dX11_isKeptAs_20 : decode cX11_isKeptAs 20 = .ok (.istore_n 2, 1) := by decide +kernel
theorem dX11_isKeptAs_21 : decode cX11_isKeptAs 21 = .ok (.iload_n 2, 1) := by decide +kernel
theorem dX11_isKeptAs_22 : decode cX11_isKeptAs 22 = .ok (.aload_n 0, 1) := by decide +kernel
theorem dX11_isKeptAs_23 : decode cX11_isKeptAs 23 = .ok (.invokevirtual 152, 3) := by decide +kernel
theorem dX11_isKeptAs_26 : decode cX11_isKeptAs 26 = .ok (.if_icmp .ge 34, 3) := by decide +kernel
theorem dX11_isKeptAs_29 : decode cX11_isKeptAs 29 = .ok (.aload_n 0, 1) := by decide +kernel
theorem dX11_isKeptAs_30 : decode cX11_isKeptAs 30 = .ok (.getfield 7, 3) := by decide +kernel
theorem dX11_isKeptAs_33 : decode cX11_isKeptAs 33 = .ok (.sipush 303, 3) := by decide +kernel
theorem dX11_isKeptAs_36 : decode cX11_isKeptAs 36 = .ok (.bipush 16, 2) := by decide +kernel
theorem dX11_isKeptAs_38 : decode cX11_isKeptAs 38 = .ok (.iload_n 1, 1) := by decide +kernel
theorem dX11_isKeptAs_39 : decode cX11_isKeptAs 39 = .ok (.imul, 1) := by decide +kernel
theorem dX11_isKeptAs_40 : decode cX11_isKeptAs 40 = .ok (.iadd, 1) := by decide +kernel
theorem dX11_isKeptAs_41 : decode cX11_isKeptAs 41 = .ok (.iload_n 2, 1) := by decide +kernel
theorem dX11_isKeptAs_42 : decode cX11_isKeptAs 42 = .ok (.iadd, 1) := by decide +kernel
theorem dX11_isKeptAs_43 : decode cX11_isKeptAs 43 = .ok (.iaload, 1) := by decide +kernel
theorem dX11_isKeptAs_44 : decode cX11_isKeptAs 44 = .ok (.aload_n 0, 1) := by decide +kernel
theorem dX11_isKeptAs_45 : decode cX11_isKeptAs 45 = .ok (.iload_n 2, 1) := by decide +kernel
theorem dX11_isKeptAs_46 : decode cX11_isKeptAs 46 = .ok (.invokevirtual 155, 3) := by decide +kernel
theorem dX11_isKeptAs_49 : decode cX11_isKeptAs 49 = .ok (.if_icmp .eq 5, 3) := by decide +kernel
theorem dX11_isKeptAs_52 : decode cX11_isKeptAs 52 = .ok (.iconst 0, 1) := by decide +kernel
theorem dX11_isKeptAs_53 : decode cX11_isKeptAs 53 = .ok (.ireturn, 1) := by decide +kernel
theorem dX11_isKeptAs_54 : decode cX11_isKeptAs 54 = .ok (.iinc 2 1, 3) := by decide +kernel
theorem dX11_isKeptAs_57 : decode cX11_isKeptAs 57 = .ok (.goto (-36), 3) := by decide +kernel
theorem dX11_isKeptAs_60 : decode cX11_isKeptAs 60 = .ok (.iconst 1, 1) := by decide +kernel
theorem dX11_isKeptAs_61 : decode cX11_isKeptAs 61 = .ok (.ireturn, 1) := by decide +kernel
abbrev mX11_isKeptAs : MI := (RX11, yX11_isKeptAs, cX11_isKeptAs, 3, (some .boolean))
theorem mok_X11_isKeptAs : MOKv mX11_isKeptAs 1 := ⟨⟨bm_1718, bm_127, ⟨by decide, by decide⟩, by decide +kernel⟩, bm_1717, bm_95⟩
def f_X11_isKeptAs_21b   (a0 : Nat) (x1 : Int32) (k21 : Int32 → MH → Option (Int32 × MH)) (p : Int32) (h : MH) : Option (Int32 × MH) :=
  (f_X11_wayLong a0 h).bind fun q_1 =>
  if p < q_1.1 then
    (gR q_1.2 a0 1).bind fun a_2 =>
    (ldI q_1.2 a_2 ((303 + (16 * x1)) + p)).bind fun x_3 =>
    (f_X11_wayLink a0 p q_1.2).bind fun q_4 =>
    if x_3 = q_4.1 then
      k21 (p + 1) q_4.2
    else
      some (0, q_4.2)
  else
    some (1, q_1.2)
def f_X11_isKeptAs_21   (a0 : Nat) (x1 : Int32) : Nat → Int32 → MH → Option (Int32 × MH) := lp (f_X11_isKeptAs_21b a0 x1)
def f_X11_isKeptAs   (a0 : Nat) (x1 : Int32) (h : MH) : Option (Int32 × MH) :=
  (gR h a0 1).bind fun a_1 =>
  (ldI h a_1 (291 + x1)).bind fun x_2 =>
  (f_X11_wayLong a0 h).bind fun q_3 =>
  if x_2 = q_3.1 then
    f_X11_isKeptAs_21 a0 x1 FU 0 q_3.2
  else
    some (0, q_3.2)
set_option maxRecDepth 100000 in
set_option maxHeartbeats 4000000 in
theorem v_X11_isKeptAs_21b {l : Launch} {G : GE} {B N : Nat} {S : List SHP} {o : Int32 × MH} {a0 : Nat} {x1 : Int32}    (hs0 : S[a0]? = some (.inl 11)) {k21 : Int32 → MH → Option (Int32 × MH)} (hk21 : ∀ (p : Int32) (h : MH), k21 p h = some o → V l G B N mX11_isKeptAs (rmm 4 0 0) false 0 0 (QI S o) S 0 0 21 [(0, .ref a0), (1, .int x1), (2, .int p)] [] h) {p : Int32} {h : MH} (hf : f_X11_isKeptAs_21b a0 x1 k21 p h = some o) : V l G B N mX11_isKeptAs (rmm 4 0 0) false 0 0 (QI S o) S 0 0 21 [(0, .ref a0), (1, .int x1), (2, .int p)] [] h := by
  unfold f_X11_isKeptAs_21b at hf
  refine V_iload_n (pc' := 22) dX11_isKeptAs_21 rfl 2 rfl rfl ?_
  refine V_aload_n (pc' := 23) dX11_isKeptAs_22 rfl 0 rfl rfl ?_
  refine V_cvI (pc' := 26) (As := []) (rest := [.int p]) dX11_isKeptAs_23 rfl mok_X11_wayLong bm_1453 11 (by decide) rfl hs0 rfl rfl (Nat.le_of_ble_eq_true rfl) (by decide) hf (fun q e => ct_X11_wayLong hs0 e) (fun q_1 hf => ?_)
  refine V_icmp_ge (tgt := 60) (pc' := 29) dX11_isKeptAs_26 (by decide) rfl hf (fun hf => ?_) (fun hf => ?_)
  ·
    refine V_aload_n (pc' := 30) dX11_isKeptAs_29 rfl 0 rfl rfl ?_
    refine V_getR (pc' := 33) 11 1 dX11_isKeptAs_30 rfl (by decide) (Nat.le_of_ble_eq_true rfl) bm_1225 hs0 (fun _ _ _ => rfl) rfl hf (fun a_2 ha_2 hf => ?_)
    refine V_sipush (v := 303) (pc' := 36) dX11_isKeptAs_33 rfl (by decide) ?_
    refine V_bipush (v := 16) (pc' := 38) dX11_isKeptAs_36 rfl (by decide) ?_
    refine V_iload_n (pc' := 39) dX11_isKeptAs_38 rfl 1 rfl rfl ?_
    refine V_imul (pc' := 40) dX11_isKeptAs_39 rfl ?_
    refine V_iadd (pc' := 41) dX11_isKeptAs_40 rfl ?_
    refine V_iload_n (pc' := 42) dX11_isKeptAs_41 rfl 2 rfl rfl ?_
    refine V_iadd (pc' := 43) dX11_isKeptAs_42 rfl ?_
    refine V_iald (pc' := 44) dX11_isKeptAs_43 rfl ha_2 hf (fun x_3 hf => ?_)
    refine V_aload_n (pc' := 45) dX11_isKeptAs_44 rfl 0 rfl rfl ?_
    refine V_iload_n (pc' := 46) dX11_isKeptAs_45 rfl 2 rfl rfl ?_
    refine V_cvI (pc' := 49) (As := [.int p]) (rest := [.int x_3]) dX11_isKeptAs_46 rfl mok_X11_wayLink bm_1457 11 (by decide) rfl hs0 rfl rfl (Nat.le_of_ble_eq_true rfl) (by decide) hf (fun q e => ct_X11_wayLink hs0 e) (fun q_4 hf => ?_)
    refine V_icmp_eq (tgt := 54) (pc' := 52) dX11_isKeptAs_49 (by decide) rfl hf (fun hf => ?_) (fun hf => ?_)
    ·
      refine V_iinc (v := (p + 1)) (lv' := [(2, .int (p + 1)), (0, .ref a0), (1, .int x1)]) (pc' := 57) dX11_isKeptAs_54 rfl 2 rfl rfl (Nat.le_of_ble_eq_true rfl) rfl ?_
      refine V_goto (tgt := 21) dX11_isKeptAs_57 (by decide) ?_
      exact V_sub (lv' := [(0, .ref a0), (1, .int x1), (2, .int (p + 1))]) [1, 2, 0] rfl (hk21 (p + 1) q_4.2 hf)
    ·
      refine V_iconst (v := 0) (pc' := 53) dX11_isKeptAs_52 rfl (by decide) ?_
      obtain rfl := Option.some.inj hf
      exact V_zretL dX11_isKeptAs_53 rfl rfl rfl (by decide) ⟨rfl, rfl, rfl⟩
  ·
    refine V_iconst (v := 1) (pc' := 61) dX11_isKeptAs_60 rfl (by decide) ?_
    obtain rfl := Option.some.inj hf
    exact V_zretL dX11_isKeptAs_61 rfl rfl rfl (by decide) ⟨rfl, rfl, rfl⟩
theorem v_X11_isKeptAs_21 {l : Launch} {G : GE} {B N : Nat} {S : List SHP} {o : Int32 × MH} {a0 : Nat} {x1 : Int32}    (hs0 : S[a0]? = some (.inl 11)) {n : Nat} {p : Int32} {h : MH} (hf : f_X11_isKeptAs_21 a0 x1 n p h = some o) : V l G B N mX11_isKeptAs (rmm 4 0 0) false 0 0 (QI S o) S 0 0 21 [(0, .ref a0), (1, .int x1), (2, .int p)] [] h :=
  V_lp (VV := fun p h => V l G B N mX11_isKeptAs (rmm 4 0 0) false 0 0 (QI S o) S 0 0 21 [(0, .ref a0), (1, .int x1), (2, .int p)] [] h) (fun _ hk _ _ hf => v_X11_isKeptAs_21b hs0 hk hf) n p h hf
set_option maxRecDepth 100000 in
set_option maxHeartbeats 4000000 in
theorem v_X11_isKeptAs {l : Launch} {G : GE} {B N : Nat} {S : List SHP} {o : Int32 × MH} {a0 : Nat} {x1 : Int32}    (hs0 : S[a0]? = some (.inl 11)) {h : MH} (hf : f_X11_isKeptAs a0 x1 h = some o) : V l G B N mX11_isKeptAs (rmm 4 0 0) false 0 0 (QI S o) S 0 0 0 [(0, .ref a0), (1, .int x1)] [] h := by
  unfold f_X11_isKeptAs at hf
  refine V_aload_n (pc' := 1) dX11_isKeptAs_0 rfl 0 rfl rfl ?_
  refine V_getR (pc' := 4) 11 1 dX11_isKeptAs_1 rfl (by decide) (Nat.le_of_ble_eq_true rfl) bm_1225 hs0 (fun _ _ _ => rfl) rfl hf (fun a_1 ha_1 hf => ?_)
  refine V_sipush (v := 291) (pc' := 7) dX11_isKeptAs_4 rfl (by decide) ?_
  refine V_iload_n (pc' := 8) dX11_isKeptAs_7 rfl 1 rfl rfl ?_
  refine V_iadd (pc' := 9) dX11_isKeptAs_8 rfl ?_
  refine V_iald (pc' := 10) dX11_isKeptAs_9 rfl ha_1 hf (fun x_2 hf => ?_)
  refine V_aload_n (pc' := 11) dX11_isKeptAs_10 rfl 0 rfl rfl ?_
  refine V_cvI (pc' := 14) (As := []) (rest := [.int x_2]) dX11_isKeptAs_11 rfl mok_X11_wayLong bm_1453 11 (by decide) rfl hs0 rfl rfl (Nat.le_of_ble_eq_true rfl) (by decide) hf (fun q e => ct_X11_wayLong hs0 e) (fun q_3 hf => ?_)
  refine V_icmp_eq (tgt := 19) (pc' := 17) dX11_isKeptAs_14 (by decide) rfl hf (fun hf => ?_) (fun hf => ?_)
  ·
    refine V_iconst (v := 0) (pc' := 20) dX11_isKeptAs_19 rfl (by decide) ?_
    refine V_istore_n (lv' := [(2, .int 0), (0, .ref a0), (1, .int x1)]) (pc' := 21) dX11_isKeptAs_20 rfl rfl (Nat.le_of_ble_eq_true rfl) rfl ?_
    exact V_sub (lv' := [(0, .ref a0), (1, .int x1), (2, .int 0)]) [1, 2, 0] rfl (v_X11_isKeptAs_21 hs0 hf)
  ·
    refine V_iconst (v := 0) (pc' := 18) dX11_isKeptAs_17 rfl (by decide) ?_
    obtain rfl := Option.some.inj hf
    exact V_zretL dX11_isKeptAs_18 rfl rfl rfl (by decide) ⟨rfl, rfl, rfl⟩
theorem ct_X11_isKeptAs {l : Launch} {S : List SHP} {h : MH} {a0 : Nat} {x1 : Int32} (hs0 : S[a0]? = some (.inl 11)) {q : Int32 × MH} (hf : f_X11_isKeptAs a0 x1 h = some q) : CT l mX11_isKeptAs 4 false 0 0 S [.ref a0, .int x1] h (QI S q) :=
  CT_ofV (by decide) rfl (Nat.le_of_ble_eq_true rfl) (fun G B hT => v_X11_isKeptAs hs0 hf)
/-! LabelStacksModel.keep()I -/
theorem dX11_keep_0 : decode cX11_keep 0 = .ok (.aload_n 0, 1) := by decide +kernel
theorem dX11_keep_1 : decode cX11_keep 1 = .ok (.iconst 0, 1) := by decide +kernel
theorem dX11_keep_2 : decode cX11_keep 2 = .ok (.putfield 84, 3) := by decide +kernel
theorem dX11_keep_5 : decode cX11_keep 5 = .ok (.aload_n 0, 1) := by decide +kernel
theorem dX11_keep_6 : decode cX11_keep 6 = .ok (.invokevirtual 152, 3) := by decide +kernel
theorem dX11_keep_9 : decode cX11_keep 9 = .ok (.ifCond .ne 5, 3) := by decide +kernel
theorem dX11_keep_12 : decode cX11_keep 12 = .ok (.iconst (-1), 1) := by decide +kernel
theorem dX11_keep_13 : decode cX11_keep 13 = .ok (.ireturn, 1) := by decide +kernel
theorem dX11_keep_14 : decode cX11_keep 14 = .ok (.iconst 0, 1) := by decide +kernel
theorem dX11_keep_15 : decode cX11_keep 15 = .ok (.istore_n 1, 1) := by decide +kernel
theorem dX11_keep_16 : decode cX11_keep 16 = .ok (.iload_n 1, 1) := by decide +kernel
theorem dX11_keep_17 : decode cX11_keep 17 = .ok (.aload_n 0, 1) := by decide +kernel
theorem dX11_keep_18 : decode cX11_keep 18 = .ok (.getfield 7, 3) := by decide +kernel
theorem dX11_keep_21 : decode cX11_keep 21 = .ok (.sipush 290, 3) := by decide +kernel
theorem dX11_keep_24 : decode cX11_keep 24 = .ok (.iaload, 1) := by decide +kernel
theorem dX11_keep_25 : decode cX11_keep 25 = .ok (.if_icmp .ge 19, 3) := by decide +kernel
theorem dX11_keep_28 : decode cX11_keep 28 = .ok (.aload_n 0, 1) := by decide +kernel
theorem dX11_keep_29 : decode cX11_keep 29 = .ok (.iload_n 1, 1) := by decide +kernel
theorem dX11_keep_30 : decode cX11_keep 30 = .ok (.invokevirtual 344, 3) := by decide +kernel
theorem dX11_keep_33 : decode cX11_keep 33 = .ok (.ifCond .eq 5, 3) := by decide +kernel
theorem dX11_keep_36 : decode cX11_keep 36 = .ok (.iload_n 1, 1) := by decide +kernel
theorem dX11_keep_37 : decode cX11_keep 37 = .ok (.ireturn, 1) := by decide +kernel
theorem dX11_keep_38 : decode cX11_keep 38 = .ok (.iinc 1 1, 3) := by decide +kernel
theorem dX11_keep_41 : decode cX11_keep 41 = .ok (.goto (-25), 3) := by decide +kernel
theorem dX11_keep_44 : decode cX11_keep 44 = .ok (.aload_n 0, 1) := by decide +kernel
theorem dX11_keep_45 : decode cX11_keep 45 = .ok (.getfield 7, 3) := by decide +kernel
theorem dX11_keep_48 : decode cX11_keep 48 = .ok (.sipush 290, 3) := by decide +kernel
theorem dX11_keep_51 : decode cX11_keep 51 = .ok (.iaload, 1) := by decide +kernel
theorem dX11_keep_52 : decode cX11_keep 52 = .ok (.istore_n 1, 1) := by decide +kernel
theorem dX11_keep_53 : decode cX11_keep 53 = .ok (.iload_n 1, 1) := by decide +kernel
theorem dX11_keep_54 : decode cX11_keep 54 = .ok (.bipush 12, 2) := by decide +kernel
theorem dX11_keep_56 : decode cX11_keep 56 = .ok (.if_icmp .ne 5, 3) := by decide +kernel
theorem dX11_keep_59 : decode cX11_keep 59 = .ok (.iconst (-1), 1) := by decide +kernel
theorem dX11_keep_60 : decode cX11_keep 60 = .ok (.ireturn, 1) := by decide +kernel
theorem dX11_keep_61 : decode cX11_keep 61 = .ok (.aload_n 0, 1) := by decide +kernel
theorem dX11_keep_62 : decode cX11_keep 62 = .ok (.invokevirtual 109, 3) := by decide +kernel
theorem dX11_keep_65 : decode cX11_keep 65 = .ok (.aload_n 0, 1) := by decide +kernel
theorem dX11_keep_66 : decode cX11_keep 66 = .ok (.getfield 7, 3) := by decide +kernel
theorem dX11_keep_69 : decode cX11_keep 69 = .ok (.sipush 291, 3) := by decide +kernel
theorem dX11_keep_72 : decode cX11_keep 72 = .ok (.iload_n 1, 1) := by decide +kernel
theorem dX11_keep_73 : decode cX11_keep 73 = .ok (.iadd, 1) := by decide +kernel
theorem dX11_keep_74 : decode cX11_keep 74 = .ok (.aload_n 0, 1) := by decide +kernel
theorem dX11_keep_75 : decode cX11_keep 75 = .ok (.invokevirtual 152, 3) := by decide +kernel
theorem dX11_keep_78 : decode cX11_keep 78 = .ok (.iastore, 1) := by decide +kernel
theorem dX11_keep_79 : decode cX11_keep 79 = .ok (.iconst 0, 1) := by decide +kernel
theorem dX11_keep_80 : decode cX11_keep 80 = .ok (.istore_n 2, 1) := by decide +kernel
theorem dX11_keep_81 : decode cX11_keep 81 = .ok (.iload_n 2, 1) := by decide +kernel
theorem dX11_keep_82 : decode cX11_keep 82 = .ok (.aload_n 0, 1) := by decide +kernel
theorem dX11_keep_83 : decode cX11_keep 83 = .ok (.invokevirtual 152, 3) := by decide +kernel
theorem dX11_keep_86 : decode cX11_keep 86 = .ok (.if_icmp .ge 29, 3) := by decide +kernel
theorem dX11_keep_89 : decode cX11_keep 89 = .ok (.aload_n 0, 1) := by decide +kernel
theorem dX11_keep_90 : decode cX11_keep 90 = .ok (.getfield 7, 3) := by decide +kernel
theorem dX11_keep_93 : decode cX11_keep 93 = .ok (.sipush 303, 3) := by decide +kernel
theorem dX11_keep_96 : decode cX11_keep 96 = .ok (.bipush 16, 2) := by decide +kernel
theorem dX11_keep_98 : decode cX11_keep 98 = .ok (.iload_n 1, 1) := by decide +kernel
theorem dX11_keep_99 : decode cX11_keep 99 = .ok (.imul, 1) := by decide +kernel
theorem dX11_keep_100 : decode cX11_keep 100 = .ok (.iadd, 1) := by decide +kernel
theorem dX11_keep_101 : decode cX11_keep 101 = .ok (.iload_n 2, 1) := by decide +kernel
theorem dX11_keep_102 : decode cX11_keep 102 = .ok (.iadd, 1) := by decide +kernel
theorem dX11_keep_103 : decode cX11_keep 103 = .ok (.aload_n 0, 1) := by decide +kernel
theorem dX11_keep_104 : decode cX11_keep 104 = .ok (.iload_n 2, 1) := by decide +kernel
theorem dX11_keep_105 : decode cX11_keep 105 = .ok (.invokevirtual 155, 3) := by decide +kernel
theorem dX11_keep_108 : decode cX11_keep 108 = .ok (.iastore, 1) := by decide +kernel
theorem dX11_keep_109 : decode cX11_keep 109 = .ok (.iinc 2 1, 3) := by decide +kernel
theorem dX11_keep_112 : decode cX11_keep 112 = .ok (.goto (-31), 3) := by decide +kernel
theorem dX11_keep_115 : decode cX11_keep 115 = .ok (.aload_n 0, 1) := by decide +kernel
theorem dX11_keep_116 : decode cX11_keep 116 = .ok (.getfield 7, 3) := by decide +kernel
theorem dX11_keep_119 : decode cX11_keep 119 = .ok (.sipush 290, 3) := by decide +kernel
theorem dX11_keep_122 : decode cX11_keep 122 = .ok (.iload_n 1, 1) := by decide +kernel
theorem dX11_keep_123 : decode cX11_keep 123 = .ok (.iconst 1, 1) := by decide +kernel
theorem dX11_keep_124 : decode cX11_keep 124 = .ok (.iadd, 1) := by decide +kernel
theorem dX11_keep_125 : decode cX11_keep 125 = .ok (.iastore, 1) := by decide +kernel
theorem dX11_keep_126 : decode cX11_keep 126 = .ok (.iload_n 1, 1) := by decide +kernel
theorem dX11_keep_127 : decode cX11_keep 127 = .ok (.ireturn, 1) := by decide +kernel
abbrev mX11_keep : MI := (RX11, yX11_keep, cX11_keep, 3, (some .int))
theorem mok_X11_keep : MOKv mX11_keep 0 := ⟨⟨bm_1714, bm_127, ⟨by decide, by decide⟩, by decide +kernel⟩, bm_1712, bm_1713⟩
def f_X11_keep_81b   (a0 : Nat) (x1 : Int32) (k81 : Int32 → MH → Option (Int32 × MH)) (p : Int32) (h : MH) : Option (Int32 × MH) :=
  (f_X11_wayLong a0 h).bind fun q_1 =>
  if p < q_1.1 then
    (gR q_1.2 a0 1).bind fun a_2 =>
    (f_X11_wayLink a0 p q_1.2).bind fun q_3 =>
    (stI q_3.2 a_2 ((303 + (16 * x1)) + p) q_3.1).bind fun h_4 =>
    k81 (p + 1) h_4
  else
    (gR q_1.2 a0 1).bind fun a_5 =>
    (stI q_1.2 a_5 290 (x1 + 1)).bind fun h_6 =>
    some (x1, h_6)
def f_X11_keep_81   (a0 : Nat) (x1 : Int32) : Nat → Int32 → MH → Option (Int32 × MH) := lp (f_X11_keep_81b a0 x1)
def f_X11_keep_16b   (a0 : Nat) (k16 : Int32 → MH → Option (Int32 × MH)) (p : Int32) (h : MH) : Option (Int32 × MH) :=
  (gR h a0 1).bind fun a_1 =>
  (ldI h a_1 290).bind fun x_2 =>
  if p < x_2 then
    (f_X11_isKeptAs a0 p h).bind fun q_3 =>
    if q_3.1 = 0 then
      k16 (p + 1) q_3.2
    else
      some (p, q_3.2)
  else
    (gR h a0 1).bind fun a_4 =>
    (ldI h a_4 290).bind fun x_5 =>
    if x_5 = 12 then
      some ((-1 : Int32), h)
    else
      (f_X11_keepsAct a0 h).bind fun q_6 =>
      (gR q_6 a0 1).bind fun a_7 =>
      (f_X11_wayLong a0 q_6).bind fun q_8 =>
      (stI q_8.2 a_7 (291 + x_5) q_8.1).bind fun h_9 =>
      f_X11_keep_81 a0 x_5 FU 0 h_9
def f_X11_keep_16   (a0 : Nat) : Nat → Int32 → MH → Option (Int32 × MH) := lp (f_X11_keep_16b a0)
def f_X11_keep   (a0 : Nat) (h : MH) : Option (Int32 × MH) :=
  lt (sI h a0 0 0) fun h_1 =>
  (f_X11_wayLong a0 h_1).bind fun q_2 =>
  if q_2.1 = 0 then
    some ((-1 : Int32), q_2.2)
  else
    f_X11_keep_16 a0 FU 0 q_2.2
set_option maxRecDepth 100000 in
set_option maxHeartbeats 4000000 in
theorem v_X11_keep_81b {l : Launch} {G : GE} {B N : Nat} {S : List SHP} {o : Int32 × MH} {a0 : Nat} {x1 : Int32}    (hs0 : S[a0]? = some (.inl 11)) {k81 : Int32 → MH → Option (Int32 × MH)} (hk81 : ∀ (p : Int32) (h : MH), k81 p h = some o → V l G B N mX11_keep (rmm 5 0 0) false 0 0 (QI S o) S 0 0 81 [(0, .ref a0), (1, .int x1), (2, .int p)] [] h) {p : Int32} {h : MH} (hf : f_X11_keep_81b a0 x1 k81 p h = some o) : V l G B N mX11_keep (rmm 5 0 0) false 0 0 (QI S o) S 0 0 81 [(0, .ref a0), (1, .int x1), (2, .int p)] [] h := by
  unfold f_X11_keep_81b at hf
  refine V_iload_n (pc' := 82) dX11_keep_81 rfl 2 rfl rfl ?_
  refine V_aload_n (pc' := 83) dX11_keep_82 rfl 0 rfl rfl ?_
  refine V_cvI (pc' := 86) (As := []) (rest := [.int p]) dX11_keep_83 rfl mok_X11_wayLong bm_1453 11 (by decide) rfl hs0 rfl rfl (Nat.le_of_ble_eq_true rfl) (by decide) hf (fun q e => ct_X11_wayLong hs0 e) (fun q_1 hf => ?_)
  refine V_icmp_ge (tgt := 115) (pc' := 89) dX11_keep_86 (by decide) rfl hf (fun hf => ?_) (fun hf => ?_)
  ·
    refine V_aload_n (pc' := 90) dX11_keep_89 rfl 0 rfl rfl ?_
    refine V_getR (pc' := 93) 11 1 dX11_keep_90 rfl (by decide) (Nat.le_of_ble_eq_true rfl) bm_1225 hs0 (fun _ _ _ => rfl) rfl hf (fun a_2 ha_2 hf => ?_)
    refine V_sipush (v := 303) (pc' := 96) dX11_keep_93 rfl (by decide) ?_
    refine V_bipush (v := 16) (pc' := 98) dX11_keep_96 rfl (by decide) ?_
    refine V_iload_n (pc' := 99) dX11_keep_98 rfl 1 rfl rfl ?_
    refine V_imul (pc' := 100) dX11_keep_99 rfl ?_
    refine V_iadd (pc' := 101) dX11_keep_100 rfl ?_
    refine V_iload_n (pc' := 102) dX11_keep_101 rfl 2 rfl rfl ?_
    refine V_iadd (pc' := 103) dX11_keep_102 rfl ?_
    refine V_aload_n (pc' := 104) dX11_keep_103 rfl 0 rfl rfl ?_
    refine V_iload_n (pc' := 105) dX11_keep_104 rfl 2 rfl rfl ?_
    refine V_cvI (pc' := 108) (As := [.int p]) (rest := [.int ((303 + (16 * x1)) + p), .ref a_2]) dX11_keep_105 rfl mok_X11_wayLink bm_1457 11 (by decide) rfl hs0 rfl rfl (Nat.le_of_ble_eq_true rfl) (by decide) hf (fun q e => ct_X11_wayLink hs0 e) (fun q_3 hf => ?_)
    refine V_iast (pc' := 109) dX11_keep_108 rfl ha_2 hf (fun h_4 hf => ?_)
    refine V_iinc (v := (p + 1)) (lv' := [(2, .int (p + 1)), (0, .ref a0), (1, .int x1)]) (pc' := 112) dX11_keep_109 rfl 2 rfl rfl (Nat.le_of_ble_eq_true rfl) rfl ?_
    refine V_goto (tgt := 81) dX11_keep_112 (by decide) ?_
    exact V_sub (lv' := [(0, .ref a0), (1, .int x1), (2, .int (p + 1))]) [1, 2, 0] rfl (hk81 (p + 1) h_4 hf)
  ·
    refine V_aload_n (pc' := 116) dX11_keep_115 rfl 0 rfl rfl ?_
    refine V_getR (pc' := 119) 11 1 dX11_keep_116 rfl (by decide) (Nat.le_of_ble_eq_true rfl) bm_1225 hs0 (fun _ _ _ => rfl) rfl hf (fun a_5 ha_5 hf => ?_)
    refine V_sipush (v := 290) (pc' := 122) dX11_keep_119 rfl (by decide) ?_
    refine V_iload_n (pc' := 123) dX11_keep_122 rfl 1 rfl rfl ?_
    refine V_iconst (v := 1) (pc' := 124) dX11_keep_123 rfl (by decide) ?_
    refine V_iadd (pc' := 125) dX11_keep_124 rfl ?_
    refine V_iast (pc' := 126) dX11_keep_125 rfl ha_5 hf (fun h_6 hf => ?_)
    refine V_iload_n (pc' := 127) dX11_keep_126 rfl 1 rfl rfl ?_
    obtain rfl := Option.some.inj hf
    exact V_iret dX11_keep_127 rfl rfl rfl ⟨rfl, rfl, rfl⟩
theorem v_X11_keep_81 {l : Launch} {G : GE} {B N : Nat} {S : List SHP} {o : Int32 × MH} {a0 : Nat} {x1 : Int32}    (hs0 : S[a0]? = some (.inl 11)) {n : Nat} {p : Int32} {h : MH} (hf : f_X11_keep_81 a0 x1 n p h = some o) : V l G B N mX11_keep (rmm 5 0 0) false 0 0 (QI S o) S 0 0 81 [(0, .ref a0), (1, .int x1), (2, .int p)] [] h :=
  V_lp (VV := fun p h => V l G B N mX11_keep (rmm 5 0 0) false 0 0 (QI S o) S 0 0 81 [(0, .ref a0), (1, .int x1), (2, .int p)] [] h) (fun _ hk _ _ hf => v_X11_keep_81b hs0 hk hf) n p h hf
set_option maxRecDepth 100000 in
set_option maxHeartbeats 4000000 in
theorem v_X11_keep_16b {l : Launch} {G : GE} {B N : Nat} {S : List SHP} {o : Int32 × MH} {a0 : Nat}    (hs0 : S[a0]? = some (.inl 11)) {k16 : Int32 → MH → Option (Int32 × MH)} (hk16 : ∀ (p : Int32) (h : MH), k16 p h = some o → V l G B N mX11_keep (rmm 5 0 0) false 0 0 (QI S o) S 0 0 16 [(0, .ref a0), (1, .int p)] [] h) {p : Int32} {h : MH} (hf : f_X11_keep_16b a0 k16 p h = some o) : V l G B N mX11_keep (rmm 5 0 0) false 0 0 (QI S o) S 0 0 16 [(0, .ref a0), (1, .int p)] [] h := by
  unfold f_X11_keep_16b at hf
  refine V_iload_n (pc' := 17) dX11_keep_16 rfl 1 rfl rfl ?_
  refine V_aload_n (pc' := 18) dX11_keep_17 rfl 0 rfl rfl ?_
  refine V_getR (pc' := 21) 11 1 dX11_keep_18 rfl (by decide) (Nat.le_of_ble_eq_true rfl) bm_1225 hs0 (fun _ _ _ => rfl) rfl hf (fun a_1 ha_1 hf => ?_)
  refine V_sipush (v := 290) (pc' := 24) dX11_keep_21 rfl (by decide) ?_
  refine V_iald (pc' := 25) dX11_keep_24 rfl ha_1 hf (fun x_2 hf => ?_)
  refine V_icmp_ge (tgt := 44) (pc' := 28) dX11_keep_25 (by decide) rfl hf (fun hf => ?_) (fun hf => ?_)
  ·
    refine V_aload_n (pc' := 29) dX11_keep_28 rfl 0 rfl rfl ?_
    refine V_iload_n (pc' := 30) dX11_keep_29 rfl 1 rfl rfl ?_
    refine V_cvI (pc' := 33) (As := [.int p]) (rest := []) dX11_keep_30 rfl mok_X11_isKeptAs bm_1715 11 (by decide) rfl hs0 rfl rfl (Nat.le_of_ble_eq_true rfl) (by decide) hf (fun q e => ct_X11_isKeptAs hs0 e) (fun q_3 hf => ?_)
    refine V_if_eq (tgt := 38) (pc' := 36) dX11_keep_33 (by decide) rfl hf (fun hf => ?_) (fun hf => ?_)
    ·
      refine V_iinc (v := (p + 1)) (lv' := [(1, .int (p + 1)), (0, .ref a0)]) (pc' := 41) dX11_keep_38 rfl 1 rfl rfl (Nat.le_of_ble_eq_true rfl) rfl ?_
      refine V_goto (tgt := 16) dX11_keep_41 (by decide) ?_
      exact V_sub (lv' := [(0, .ref a0), (1, .int (p + 1))]) [1, 0] rfl (hk16 (p + 1) q_3.2 hf)
    ·
      refine V_iload_n (pc' := 37) dX11_keep_36 rfl 1 rfl rfl ?_
      obtain rfl := Option.some.inj hf
      exact V_iret dX11_keep_37 rfl rfl rfl ⟨rfl, rfl, rfl⟩
  ·
    refine V_aload_n (pc' := 45) dX11_keep_44 rfl 0 rfl rfl ?_
    refine V_getR (pc' := 48) 11 1 dX11_keep_45 rfl (by decide) (Nat.le_of_ble_eq_true rfl) bm_1225 hs0 (fun _ _ _ => rfl) rfl hf (fun a_4 ha_4 hf => ?_)
    refine V_sipush (v := 290) (pc' := 51) dX11_keep_48 rfl (by decide) ?_
    refine V_iald (pc' := 52) dX11_keep_51 rfl ha_4 hf (fun x_5 hf => ?_)
    refine V_istore_n (lv' := [(1, .int x_5), (0, .ref a0)]) (pc' := 53) dX11_keep_52 rfl rfl (Nat.le_of_ble_eq_true rfl) rfl ?_
    refine V_iload_n (pc' := 54) dX11_keep_53 rfl 0 rfl rfl ?_
    refine V_bipush (v := 12) (pc' := 56) dX11_keep_54 rfl (by decide) ?_
    refine V_icmp_ne (tgt := 61) (pc' := 59) dX11_keep_56 (by decide) rfl hf (fun hf => ?_) (fun hf => ?_)
    ·
      refine V_iconst (v := (-1)) (pc' := 60) dX11_keep_59 rfl (by decide) ?_
      obtain rfl := Option.some.inj hf
      exact V_iret dX11_keep_60 rfl rfl rfl ⟨rfl, rfl, rfl⟩
    ·
      refine V_aload_n (pc' := 62) dX11_keep_61 rfl 1 rfl rfl ?_
      refine V_cvV (pc' := 65) (As := []) (rest := []) dX11_keep_62 rfl mok_X11_keepsAct bm_1377 11 (by decide) rfl hs0 rfl rfl (Nat.le_of_ble_eq_true rfl) (by decide) hf (fun q e => ct_X11_keepsAct hs0 e) (fun q_6 hf => ?_)
      refine V_aload_n (pc' := 66) dX11_keep_65 rfl 1 rfl rfl ?_
      refine V_getR (pc' := 69) 11 1 dX11_keep_66 rfl (by decide) (Nat.le_of_ble_eq_true rfl) bm_1225 hs0 (fun _ _ _ => rfl) rfl hf (fun a_7 ha_7 hf => ?_)
      refine V_sipush (v := 291) (pc' := 72) dX11_keep_69 rfl (by decide) ?_
      refine V_iload_n (pc' := 73) dX11_keep_72 rfl 0 rfl rfl ?_
      refine V_iadd (pc' := 74) dX11_keep_73 rfl ?_
      refine V_aload_n (pc' := 75) dX11_keep_74 rfl 1 rfl rfl ?_
      refine V_cvI (pc' := 78) (As := []) (rest := [.int (291 + x_5), .ref a_7]) dX11_keep_75 rfl mok_X11_wayLong bm_1453 11 (by decide) rfl hs0 rfl rfl (Nat.le_of_ble_eq_true rfl) (by decide) hf (fun q e => ct_X11_wayLong hs0 e) (fun q_8 hf => ?_)
      refine V_iast (pc' := 79) dX11_keep_78 rfl ha_7 hf (fun h_9 hf => ?_)
      refine V_iconst (v := 0) (pc' := 80) dX11_keep_79 rfl (by decide) ?_
      refine V_istore_n (lv' := [(2, .int 0), (1, .int x_5), (0, .ref a0)]) (pc' := 81) dX11_keep_80 rfl rfl (Nat.le_of_ble_eq_true rfl) rfl ?_
      exact V_sub (lv' := [(0, .ref a0), (1, .int x_5), (2, .int 0)]) [2, 1, 0] rfl (v_X11_keep_81 hs0 hf)
theorem v_X11_keep_16 {l : Launch} {G : GE} {B N : Nat} {S : List SHP} {o : Int32 × MH} {a0 : Nat}    (hs0 : S[a0]? = some (.inl 11)) {n : Nat} {p : Int32} {h : MH} (hf : f_X11_keep_16 a0 n p h = some o) : V l G B N mX11_keep (rmm 5 0 0) false 0 0 (QI S o) S 0 0 16 [(0, .ref a0), (1, .int p)] [] h :=
  V_lp (VV := fun p h => V l G B N mX11_keep (rmm 5 0 0) false 0 0 (QI S o) S 0 0 16 [(0, .ref a0), (1, .int p)] [] h) (fun _ hk _ _ hf => v_X11_keep_16b hs0 hk hf) n p h hf
set_option maxRecDepth 100000 in
set_option maxHeartbeats 4000000 in
theorem v_X11_keep {l : Launch} {G : GE} {B N : Nat} {S : List SHP} {o : Int32 × MH} {a0 : Nat}    (hs0 : S[a0]? = some (.inl 11)) {h : MH} (hf : f_X11_keep a0 h = some o) : V l G B N mX11_keep (rmm 5 0 0) false 0 0 (QI S o) S 0 0 0 [(0, .ref a0)] [] h := by
  unfold f_X11_keep at hf
  refine V_aload_n (pc' := 1) dX11_keep_0 rfl 0 rfl rfl ?_
  refine V_iconst (v := 0) (pc' := 2) dX11_keep_1 rfl (by decide) ?_
  refine V_putI (pc' := 5) 11 0 dX11_keep_2 rfl (by decide) (Nat.le_of_ble_eq_true rfl) bm_1224 hs0 (Or.inl rfl) rfl ?_
  refine V_nmH hf (fun h_1 hf => ?_)
  refine V_aload_n (pc' := 6) dX11_keep_5 rfl 0 rfl rfl ?_
  refine V_cvI (pc' := 9) (As := []) (rest := []) dX11_keep_6 rfl mok_X11_wayLong bm_1453 11 (by decide) rfl hs0 rfl rfl (Nat.le_of_ble_eq_true rfl) (by decide) hf (fun q e => ct_X11_wayLong hs0 e) (fun q_2 hf => ?_)
  refine V_if_ne (tgt := 14) (pc' := 12) dX11_keep_9 (by decide) rfl hf (fun hf => ?_) (fun hf => ?_)
  ·
    refine V_iconst (v := (-1)) (pc' := 13) dX11_keep_12 rfl (by decide) ?_
    obtain rfl := Option.some.inj hf
    exact V_iret dX11_keep_13 rfl rfl rfl ⟨rfl, rfl, rfl⟩
  ·
    refine V_iconst (v := 0) (pc' := 15) dX11_keep_14 rfl (by decide) ?_
    refine V_istore_n (lv' := [(1, .int 0), (0, .ref a0)]) (pc' := 16) dX11_keep_15 rfl rfl (Nat.le_of_ble_eq_true rfl) rfl ?_
    exact V_sub (lv' := [(0, .ref a0), (1, .int 0)]) [1, 0] rfl (v_X11_keep_16 hs0 hf)
theorem ct_X11_keep {l : Launch} {S : List SHP} {h : MH} {a0 : Nat} (hs0 : S[a0]? = some (.inl 11)) {q : Int32 × MH} (hf : f_X11_keep a0 h = some q) : CT l mX11_keep 5 false 0 0 S [.ref a0] h (QI S q) :=
  CT_ofV (by decide) rfl (Nat.le_of_ble_eq_true rfl) (fun G B hT => v_X11_keep hs0 hf)
/-! LabelStacksModel.take(I)I -/
theorem dX11_take_0 : decode cX11_take 0 = .ok (.aload_n 0, 1) := by decide +kernel
theorem dX11_take_1 : decode cX11_take 1 = .ok (.iconst 0, 1) := by decide +kernel
theorem dX11_take_2 : decode cX11_take 2 = .ok (.putfield 84, 3) := by decide +kernel
theorem dX11_take_5 : decode cX11_take 5 = .ok (.aload_n 0, 1) := by decide +kernel
theorem dX11_take_6 : decode cX11_take 6 = .ok (.iload_n 1, 1) := by decide +kernel
theorem dX11_take_7 : decode cX11_take 7 = .ok (.i2l, 1) := by decide +kernel
theorem dX11_take_8 : decode cX11_take 8 = .ok (.lconst 0, 1) := by decide +kernel
theorem dX11_take_9 : decode cX11_take 9 = .ok (.aload_n 0, 1) := by decide +kernel
theorem dX11_take_10 : decode cX11_take 10 = .ok (.getfield 7, 3) := by decide +kernel
theorem dX11_take_13 : decode cX11_take 13 = .ok (.sipush 290, 3) := by decide +kernel
theorem dX11_take_16 : decode cX11_take 16 = .ok (.iaload, 1) := by decide +kernel
theorem dX11_take_17 : decode cX11_take 17 = .ok (.i2l, 1) := by decide +kernel
theorem dX11_take_18 : decode cX11_take 18 = .ok (.lconst 1, 1) := by decide +kernel
theorem dX11_take_19 : decode cX11_take 19 = .ok (.lsub, 1) := by decide +kernel
theorem dX11_take_20 : decode cX11_take 20 = .ok (.invokevirtual 91, 3) := by decide +kernel
theorem dX11_take_23 : decode cX11_take 23 = .ok (.ifCond .ne 5, 3) := by decide +kernel
theorem dX11_take_26 : decode cX11_take 26 = .ok (.iconst (-1), 1) := by decide +kernel
theorem dX11_take_27 : decode cX11_take 27 = .ok (.ireturn, 1) := by decide +kernel
theorem dX11_take_28 : decode cX11_take 28 = .ok (.aload_n 0, 1) := by decide +kernel
theorem dX11_take_29 : decode cX11_take 29 = .ok (.getfield 7, 3) := by decide +kernel
theorem dX11_take_32 : decode cX11_take 32 = .ok (.sipush 495, 3) := by decide +kernel
theorem dX11_take_35 : decode cX11_take 35 = .ok (.aload_n 0, 1) := by decide +kernel
theorem dX11_take_36 : decode cX11_take 36 = .ok (.getfield 7, 3) := by decide +kernel
theorem dX11_take_39 : decode cX11_take 39 = .ok (.sipush 291, 3) := by decide +kernel
theorem dX11_take_42 : decode cX11_take 42 = .ok (.iload_n 1, 1) := by decide +kernel
theorem dX11_take_43 : decode cX11_take 43 = .ok (.iadd, 1) := by decide +kernel
theorem dX11_take_44 : decode cX11_take 44 = .ok (.iaload, 1) := by decide +kernel
theorem dX11_take_45 : decode cX11_take 45 = .ok (.iastore, 1) := by decide +kernel
theorem dX11_take_46 : decode cX11_take 46 = .ok (.iconst 0, 1) := by decide +kernel
theorem dX11_take_47 : decode cX11_take 47 = .ok (.istore_n 2, 1) := by decide +kernel
theorem dX11_take_48 : decode cX11_take 48 = .ok (.iload_n 2, 1) := by decide +kernel
theorem dX11_take_49 : decode cX11_take 49 = .ok (.aload_n 0, 1) := by decide +kernel
theorem dX11_take_50 : decode cX11_take 50 = .ok (.invokevirtual 152, 3) := by decide +kernel
theorem dX11_take_53 : decode cX11_take 53 = .ok (.if_icmp .ge 34, 3) := by decide +kernel
theorem dX11_take_56 : decode cX11_take 56 = .ok (.aload_n 0, 1) := by decide +kernel
theorem dX11_take_57 : decode cX11_take 57 = .ok (.getfield 7, 3) := by decide +kernel
theorem dX11_take_60 : decode cX11_take 60 = .ok (.sipush 496, 3) := by decide +kernel
theorem dX11_take_63 : decode cX11_take 63 = .ok (.iload_n 2, 1) := by decide +kernel
theorem dX11_take_64 : decode cX11_take 64 = .ok (.iadd, 1) := by decide +kernel
theorem dX11_take_65 : decode cX11_take 65 = .ok (.aload_n 0, 1) := by decide +kernel
theorem dX11_take_66 : decode cX11_take 66 = .ok (.getfield 7, 3) := by decide +kernel
theorem dX11_take_69 : decode cX11_take 69 = .ok (.sipush 303, 3) := by decide +kernel
theorem dX11_take_72 : decode cX11_take 72 = .ok (.bipush 16, 2) := by decide +kernel
theorem dX11_take_74 : decode cX11_take 74 = .ok (.iload_n 1, 1) := by decide +kernel
theorem dX11_take_75 : decode cX11_take 75 = .ok (.imul, 1) := by decide +kernel
theorem dX11_take_76 : decode cX11_take 76 = .ok (.iadd, 1) := by decide +kernel
theorem dX11_take_77 : decode cX11_take 77 = .ok (.iload_n 2, 1) := by decide +kernel
theorem dX11_take_78 : decode cX11_take 78 = .ok (.iadd, 1) := by decide +kernel
theorem dX11_take_79 : decode cX11_take 79 = .ok (.iaload, 1) := by decide +kernel
theorem dX11_take_80 : decode cX11_take 80 = .ok (.iastore, 1) := by decide +kernel
theorem dX11_take_81 : decode cX11_take 81 = .ok (.iinc 2 1, 3) := by decide +kernel
theorem dX11_take_84 : decode cX11_take 84 = .ok (.goto (-36), 3) := by decide +kernel
theorem dX11_take_87 : decode cX11_take 87 = .ok (.aload_n 0, 1) := by decide +kernel
theorem dX11_take_88 : decode cX11_take 88 = .ok (.invokevirtual 152, 3) := by decide +kernel
theorem dX11_take_91 : decode cX11_take 91 = .ok (.ireturn, 1) := by decide +kernel
abbrev mX11_take : MI := (RX11, yX11_take, cX11_take, 3, (some .int))
theorem mok_X11_take : MOKv mX11_take 1 := ⟨⟨bm_1722, bm_127, ⟨by decide, by decide⟩, by decide +kernel⟩, bm_1720, bm_1721⟩
def f_X11_take_48b   (a0 : Nat) (x1 : Int32) (k48 : Int32 → MH → Option (Int32 × MH)) (p : Int32) (h : MH) : Option (Int32 × MH) :=
  (f_X11_wayLong a0 h).bind fun q_1 =>
  if p < q_1.1 then
    (gR q_1.2 a0 1).bind fun a_2 =>
    (gR q_1.2 a0 1).bind fun a_3 =>
    (ldI q_1.2 a_3 ((303 + (16 * x1)) + p)).bind fun x_4 =>
    (stI q_1.2 a_2 (496 + p) x_4).bind fun h_5 =>
    k48 (p + 1) h_5
  else
    (f_X11_wayLong a0 q_1.2).bind fun q_6 =>
    some (q_6.1, q_6.2)
def f_X11_take_48   (a0 : Nat) (x1 : Int32) : Nat → Int32 → MH → Option (Int32 × MH) := lp (f_X11_take_48b a0 x1)
def f_X11_take   (a0 : Nat) (x1 : Int32) (h : MH) : Option (Int32 × MH) :=
  lt (sI h a0 0 0) fun h_1 =>
  (gR h_1 a0 1).bind fun a_2 =>
  (ldI h_1 a_2 290).bind fun x_3 =>
  (f_X11_isIn a0 (Int32.toInt64 x1) 0 ((Int32.toInt64 x_3) - 1) h_1).bind fun q_4 =>
  if q_4.1 = 0 then
    some ((-1 : Int32), q_4.2)
  else
    (gR q_4.2 a0 1).bind fun a_5 =>
    (gR q_4.2 a0 1).bind fun a_6 =>
    (ldI q_4.2 a_6 (291 + x1)).bind fun x_7 =>
    (stI q_4.2 a_5 495 x_7).bind fun h_8 =>
    f_X11_take_48 a0 x1 FU 0 h_8
set_option maxRecDepth 100000 in
set_option maxHeartbeats 4000000 in
theorem v_X11_take_48b {l : Launch} {G : GE} {B N : Nat} {S : List SHP} {o : Int32 × MH} {a0 : Nat} {x1 : Int32}    (hs0 : S[a0]? = some (.inl 11)) {k48 : Int32 → MH → Option (Int32 × MH)} (hk48 : ∀ (p : Int32) (h : MH), k48 p h = some o → V l G B N mX11_take (rmm 4 0 0) false 0 0 (QI S o) S 0 0 48 [(0, .ref a0), (1, .int x1), (2, .int p)] [] h) {p : Int32} {h : MH} (hf : f_X11_take_48b a0 x1 k48 p h = some o) : V l G B N mX11_take (rmm 4 0 0) false 0 0 (QI S o) S 0 0 48 [(0, .ref a0), (1, .int x1), (2, .int p)] [] h := by
  unfold f_X11_take_48b at hf
  refine V_iload_n (pc' := 49) dX11_take_48 rfl 2 rfl rfl ?_
  refine V_aload_n (pc' := 50) dX11_take_49 rfl 0 rfl rfl ?_
  refine V_cvI (pc' := 53) (As := []) (rest := [.int p]) dX11_take_50 rfl mok_X11_wayLong bm_1453 11 (by decide) rfl hs0 rfl rfl (Nat.le_of_ble_eq_true rfl) (by decide) hf (fun q e => ct_X11_wayLong hs0 e) (fun q_1 hf => ?_)
  refine V_icmp_ge (tgt := 87) (pc' := 56) dX11_take_53 (by decide) rfl hf (fun hf => ?_) (fun hf => ?_)
  ·
    refine V_aload_n (pc' := 57) dX11_take_56 rfl 0 rfl rfl ?_
    refine V_getR (pc' := 60) 11 1 dX11_take_57 rfl (by decide) (Nat.le_of_ble_eq_true rfl) bm_1225 hs0 (fun _ _ _ => rfl) rfl hf (fun a_2 ha_2 hf => ?_)
    refine V_sipush (v := 496) (pc' := 63) dX11_take_60 rfl (by decide) ?_
    refine V_iload_n (pc' := 64) dX11_take_63 rfl 2 rfl rfl ?_
    refine V_iadd (pc' := 65) dX11_take_64 rfl ?_
    refine V_aload_n (pc' := 66) dX11_take_65 rfl 0 rfl rfl ?_
    refine V_getR (pc' := 69) 11 1 dX11_take_66 rfl (by decide) (Nat.le_of_ble_eq_true rfl) bm_1225 hs0 (fun _ _ _ => rfl) rfl hf (fun a_3 ha_3 hf => ?_)
    refine V_sipush (v := 303) (pc' := 72) dX11_take_69 rfl (by decide) ?_
    refine V_bipush (v := 16) (pc' := 74) dX11_take_72 rfl (by decide) ?_
    refine V_iload_n (pc' := 75) dX11_take_74 rfl 1 rfl rfl ?_
    refine V_imul (pc' := 76) dX11_take_75 rfl ?_
    refine V_iadd (pc' := 77) dX11_take_76 rfl ?_
    refine V_iload_n (pc' := 78) dX11_take_77 rfl 2 rfl rfl ?_
    refine V_iadd (pc' := 79) dX11_take_78 rfl ?_
    refine V_iald (pc' := 80) dX11_take_79 rfl ha_3 hf (fun x_4 hf => ?_)
    refine V_iast (pc' := 81) dX11_take_80 rfl ha_2 hf (fun h_5 hf => ?_)
    refine V_iinc (v := (p + 1)) (lv' := [(2, .int (p + 1)), (0, .ref a0), (1, .int x1)]) (pc' := 84) dX11_take_81 rfl 2 rfl rfl (Nat.le_of_ble_eq_true rfl) rfl ?_
    refine V_goto (tgt := 48) dX11_take_84 (by decide) ?_
    exact V_sub (lv' := [(0, .ref a0), (1, .int x1), (2, .int (p + 1))]) [1, 2, 0] rfl (hk48 (p + 1) h_5 hf)
  ·
    refine V_aload_n (pc' := 88) dX11_take_87 rfl 0 rfl rfl ?_
    refine V_cvI (pc' := 91) (As := []) (rest := []) dX11_take_88 rfl mok_X11_wayLong bm_1453 11 (by decide) rfl hs0 rfl rfl (Nat.le_of_ble_eq_true rfl) (by decide) hf (fun q e => ct_X11_wayLong hs0 e) (fun q_6 hf => ?_)
    obtain rfl := Option.some.inj hf
    exact V_iret dX11_take_91 rfl rfl rfl ⟨rfl, rfl, rfl⟩
theorem v_X11_take_48 {l : Launch} {G : GE} {B N : Nat} {S : List SHP} {o : Int32 × MH} {a0 : Nat} {x1 : Int32}    (hs0 : S[a0]? = some (.inl 11)) {n : Nat} {p : Int32} {h : MH} (hf : f_X11_take_48 a0 x1 n p h = some o) : V l G B N mX11_take (rmm 4 0 0) false 0 0 (QI S o) S 0 0 48 [(0, .ref a0), (1, .int x1), (2, .int p)] [] h :=
  V_lp (VV := fun p h => V l G B N mX11_take (rmm 4 0 0) false 0 0 (QI S o) S 0 0 48 [(0, .ref a0), (1, .int x1), (2, .int p)] [] h) (fun _ hk _ _ hf => v_X11_take_48b hs0 hk hf) n p h hf
set_option maxRecDepth 100000 in
set_option maxHeartbeats 4000000 in
theorem v_X11_take {l : Launch} {G : GE} {B N : Nat} {S : List SHP} {o : Int32 × MH} {a0 : Nat} {x1 : Int32}    (hs0 : S[a0]? = some (.inl 11)) {h : MH} (hf : f_X11_take a0 x1 h = some o) : V l G B N mX11_take (rmm 4 0 0) false 0 0 (QI S o) S 0 0 0 [(0, .ref a0), (1, .int x1)] [] h := by
  unfold f_X11_take at hf
  refine V_aload_n (pc' := 1) dX11_take_0 rfl 0 rfl rfl ?_
  refine V_iconst (v := 0) (pc' := 2) dX11_take_1 rfl (by decide) ?_
  refine V_putI (pc' := 5) 11 0 dX11_take_2 rfl (by decide) (Nat.le_of_ble_eq_true rfl) bm_1224 hs0 (Or.inl rfl) rfl ?_
  refine V_nmH hf (fun h_1 hf => ?_)
  refine V_aload_n (pc' := 6) dX11_take_5 rfl 0 rfl rfl ?_
  refine V_iload_n (pc' := 7) dX11_take_6 rfl 1 rfl rfl ?_
  refine V_i2l (pc' := 8) dX11_take_7 rfl ?_
  refine V_lconst (v := 0) (pc' := 9) dX11_take_8 rfl (by decide) ?_
  refine V_aload_n (pc' := 10) dX11_take_9 rfl 0 rfl rfl ?_
  refine V_getR (pc' := 13) 11 1 dX11_take_10 rfl (by decide) (Nat.le_of_ble_eq_true rfl) bm_1225 hs0 (fun _ _ _ => rfl) rfl hf (fun a_2 ha_2 hf => ?_)
  refine V_sipush (v := 290) (pc' := 16) dX11_take_13 rfl (by decide) ?_
  refine V_iald (pc' := 17) dX11_take_16 rfl ha_2 hf (fun x_3 hf => ?_)
  refine V_i2l (pc' := 18) dX11_take_17 rfl ?_
  refine V_lconst (v := 1) (pc' := 19) dX11_take_18 rfl (by decide) ?_
  refine V_lsub (pc' := 20) dX11_take_19 rfl ?_
  refine V_cvI (pc' := 23) (As := [.long (Int32.toInt64 x1), .long 0, .long ((Int32.toInt64 x_3) - 1)]) (rest := []) dX11_take_20 rfl mok_X11_isIn bm_1373 11 (by decide) rfl hs0 rfl rfl (Nat.le_of_ble_eq_true rfl) (by decide) hf (fun q e => ct_X11_isIn hs0 e) (fun q_4 hf => ?_)
  refine V_if_ne (tgt := 28) (pc' := 26) dX11_take_23 (by decide) rfl hf (fun hf => ?_) (fun hf => ?_)
  ·
    refine V_iconst (v := (-1)) (pc' := 27) dX11_take_26 rfl (by decide) ?_
    obtain rfl := Option.some.inj hf
    exact V_iret dX11_take_27 rfl rfl rfl ⟨rfl, rfl, rfl⟩
  ·
    refine V_aload_n (pc' := 29) dX11_take_28 rfl 0 rfl rfl ?_
    refine V_getR (pc' := 32) 11 1 dX11_take_29 rfl (by decide) (Nat.le_of_ble_eq_true rfl) bm_1225 hs0 (fun _ _ _ => rfl) rfl hf (fun a_5 ha_5 hf => ?_)
    refine V_sipush (v := 495) (pc' := 35) dX11_take_32 rfl (by decide) ?_
    refine V_aload_n (pc' := 36) dX11_take_35 rfl 0 rfl rfl ?_
    refine V_getR (pc' := 39) 11 1 dX11_take_36 rfl (by decide) (Nat.le_of_ble_eq_true rfl) bm_1225 hs0 (fun _ _ _ => rfl) rfl hf (fun a_6 ha_6 hf => ?_)
    refine V_sipush (v := 291) (pc' := 42) dX11_take_39 rfl (by decide) ?_
    refine V_iload_n (pc' := 43) dX11_take_42 rfl 1 rfl rfl ?_
    refine V_iadd (pc' := 44) dX11_take_43 rfl ?_
    refine V_iald (pc' := 45) dX11_take_44 rfl ha_6 hf (fun x_7 hf => ?_)
    refine V_iast (pc' := 46) dX11_take_45 rfl ha_5 hf (fun h_8 hf => ?_)
    refine V_iconst (v := 0) (pc' := 47) dX11_take_46 rfl (by decide) ?_
    refine V_istore_n (lv' := [(2, .int 0), (0, .ref a0), (1, .int x1)]) (pc' := 48) dX11_take_47 rfl rfl (Nat.le_of_ble_eq_true rfl) rfl ?_
    exact V_sub (lv' := [(0, .ref a0), (1, .int x1), (2, .int 0)]) [1, 2, 0] rfl (v_X11_take_48 hs0 hf)
theorem ct_X11_take {l : Launch} {S : List SHP} {h : MH} {a0 : Nat} {x1 : Int32} (hs0 : S[a0]? = some (.inl 11)) {q : Int32 × MH} (hf : f_X11_take a0 x1 h = some q) : CT l mX11_take 4 false 0 0 S [.ref a0, .int x1] h (QI S q) :=
  CT_ofV (by decide) rfl (Nat.le_of_ble_eq_true rfl) (fun G B hT => v_X11_take hs0 hf)
/-! LabelStacksModel.types(I)V -/
theorem dX11_types_0 : decode cX11_types 0 = .ok (.bipush 24, 2) := by decide +kernel
theorem dX11_types_2 : decode cX11_types 2 = .ok (.istore_n 2, 1) := by decide +kernel
theorem dX11_types_3 : decode cX11_types 3 = .ok (.iload_n 2, 1) := by decide +kernel
theorem dX11_types_4 : decode cX11_types 4 = .ok (.ifCond .lt 35, 3) := by decide +kernel
theorem dX11_types_7 : decode cX11_types 7 = .ok (.aload_n 0, 1) := by decide +kernel
theorem dX11_types_8 : decode cX11_types 8 = .ok (.getfield 72, 3) := by decide +kernel
theorem dX11_types_11 : decode cX11_types 11 = .ok (.aload_n 0, 1) := by decide +kernel
theorem dX11_types_12 : decode cX11_types 12 = .ok (.getfield 347, 3) := by decide +kernel
theorem dX11_types_15 : decode cX11_types 15 = .ok (.iload_n 1, 1) := by decide +kernel
theorem dX11_types_16 : decode cX11_types 16 = .ok (.iload_n 2, 1) := by decide +kernel
theorem dX11_types_17 : decode cX11_types 17 = .ok (.ishr, 1) := by decide +kernel
theorem dX11_types_18 : decode cX11_types 18 = .ok (.sipush 255, 3) := by decide +kernel
theorem dX11_types_21 : decode cX11_types 21 = .ok (.iand, 1) := by decide +kernel
theorem dX11_types_22 : decode cX11_types 22 = .ok (.iastore, 1) := by decide +kernel
theorem dX11_types_23 : decode cX11_types 23 = .ok (.aload_n 0, 1) := by decide +kernel
theorem dX11_types_24 : decode cX11_types 24 = .ok (.aload_n 0, 1) := by decide +kernel
theorem dX11_types_25 : decode cX11_types 25 = .ok (.getfield 347, 3) := by decide +kernel
theorem dX11_types_28 : decode cX11_types 28 = .ok (.iconst 1, 1) := by decide +kernel
theorem dX11_types_29 : decode cX11_types 29 = .ok (.iadd, 1) := by decide +kernel
theorem dX11_types_30 : decode cX11_types 30 = .ok (.putfield 347, 3) := by decide +kernel
theorem dX11_types_33 : decode cX11_types 33 = .ok (.iinc 2 (-8), 3) := by decide +kernel
theorem dX11_types_36 : decode cX11_types 36 = .ok (.goto (-33), 3) := by decide +kernel
theorem dX11_types_39 : decode cX11_types 39 = .ok (.return_, 1) := by decide +kernel
abbrev mX11_types : MI := (RX11, yX11_types, cX11_types, 3, none)
theorem mok_X11_types : MOKv mX11_types 1 := ⟨⟨bm_1730, bm_127, ⟨by decide, by decide⟩, by decide +kernel⟩, bm_1729, bm_96⟩
def f_X11_types_3b   (a0 : Nat) (x1 : Int32) (k3 : Int32 → MH → Option (MH)) (p : Int32) (h : MH) : Option (MH) :=
  if p < 0 then
    some h
  else
    (gR h a0 36).bind fun a_1 =>
    (stI h a_1 (gI h a0 37) ((x1 >>> (p &&& 31)) &&& 255)).bind fun h_2 =>
    lt (sI h_2 a0 37 ((gI h_2 a0 37) + 1)) fun h_3 =>
    k3 (p + (-8)) h_3
def f_X11_types_3   (a0 : Nat) (x1 : Int32) : Nat → Int32 → MH → Option (MH) := lp (f_X11_types_3b a0 x1)
def f_X11_types   (a0 : Nat) (x1 : Int32) (h : MH) : Option (MH) :=
  f_X11_types_3 a0 x1 FU 24 h
set_option maxRecDepth 100000 in
set_option maxHeartbeats 4000000 in
theorem v_X11_types_3b {l : Launch} {G : GE} {B N : Nat} {S : List SHP} {o : MH} {a0 : Nat} {x1 : Int32}    (hs0 : S[a0]? = some (.inl 11)) {k3 : Int32 → MH → Option (MH)} (hk3 : ∀ (p : Int32) (h : MH), k3 p h = some o → V l G B N mX11_types (rmm 3 0 0) false 0 0 (QV S o) S 0 0 3 [(0, .ref a0), (1, .int x1), (2, .int p)] [] h) {p : Int32} {h : MH} (hf : f_X11_types_3b a0 x1 k3 p h = some o) : V l G B N mX11_types (rmm 3 0 0) false 0 0 (QV S o) S 0 0 3 [(0, .ref a0), (1, .int x1), (2, .int p)] [] h := by
  unfold f_X11_types_3b at hf
  refine V_iload_n (pc' := 4) dX11_types_3 rfl 2 rfl rfl ?_
  refine V_if_lt (tgt := 39) (pc' := 7) dX11_types_4 (by decide) rfl hf (fun hf => ?_) (fun hf => ?_)
  ·
    obtain rfl := Option.some.inj hf
    exact V_vret dX11_types_39 rfl rfl rfl ⟨rfl, rfl, rfl⟩
  ·
    refine V_aload_n (pc' := 8) dX11_types_7 rfl 0 rfl rfl ?_
    refine V_getR (pc' := 11) 11 36 dX11_types_8 rfl (by decide) (Nat.le_of_ble_eq_true rfl) bm_1260 hs0 (fun _ _ _ => rfl) rfl hf (fun a_1 ha_1 hf => ?_)
    refine V_aload_n (pc' := 12) dX11_types_11 rfl 0 rfl rfl ?_
    refine V_getI (pc' := 15) 11 37 dX11_types_12 rfl (by decide) (Nat.le_of_ble_eq_true rfl) bm_1261 hs0 (fun _ _ _ => rfl) ?_
    refine V_iload_n (pc' := 16) dX11_types_15 rfl 1 rfl rfl ?_
    refine V_iload_n (pc' := 17) dX11_types_16 rfl 2 rfl rfl ?_
    refine V_ishr (pc' := 18) dX11_types_17 rfl ?_
    refine V_sipush (v := 255) (pc' := 21) dX11_types_18 rfl (by decide) ?_
    refine V_iand (pc' := 22) dX11_types_21 rfl ?_
    refine V_iast (pc' := 23) dX11_types_22 rfl ha_1 hf (fun h_2 hf => ?_)
    refine V_aload_n (pc' := 24) dX11_types_23 rfl 0 rfl rfl ?_
    refine V_aload_n (pc' := 25) dX11_types_24 rfl 0 rfl rfl ?_
    refine V_getI (pc' := 28) 11 37 dX11_types_25 rfl (by decide) (Nat.le_of_ble_eq_true rfl) bm_1261 hs0 (fun _ _ _ => rfl) ?_
    refine V_iconst (v := 1) (pc' := 29) dX11_types_28 rfl (by decide) ?_
    refine V_iadd (pc' := 30) dX11_types_29 rfl ?_
    refine V_putI (pc' := 33) 11 37 dX11_types_30 rfl (by decide) (Nat.le_of_ble_eq_true rfl) bm_1261 hs0 (Or.inl rfl) rfl ?_
    refine V_nmH hf (fun h_3 hf => ?_)
    refine V_iinc (v := (p + (-8))) (lv' := [(2, .int (p + (-8))), (0, .ref a0), (1, .int x1)]) (pc' := 36) dX11_types_33 rfl 2 rfl rfl (Nat.le_of_ble_eq_true rfl) rfl ?_
    refine V_goto (tgt := 3) dX11_types_36 (by decide) ?_
    exact V_sub (lv' := [(0, .ref a0), (1, .int x1), (2, .int (p + (-8)))]) [1, 2, 0] rfl (hk3 (p + (-8)) h_3 hf)
theorem v_X11_types_3 {l : Launch} {G : GE} {B N : Nat} {S : List SHP} {o : MH} {a0 : Nat} {x1 : Int32}    (hs0 : S[a0]? = some (.inl 11)) {n : Nat} {p : Int32} {h : MH} (hf : f_X11_types_3 a0 x1 n p h = some o) : V l G B N mX11_types (rmm 3 0 0) false 0 0 (QV S o) S 0 0 3 [(0, .ref a0), (1, .int x1), (2, .int p)] [] h :=
  V_lp (VV := fun p h => V l G B N mX11_types (rmm 3 0 0) false 0 0 (QV S o) S 0 0 3 [(0, .ref a0), (1, .int x1), (2, .int p)] [] h) (fun _ hk _ _ hf => v_X11_types_3b hs0 hk hf) n p h hf
set_option maxRecDepth 100000 in
set_option maxHeartbeats 4000000 in
theorem v_X11_types {l : Launch} {G : GE} {B N : Nat} {S : List SHP} {o : MH} {a0 : Nat} {x1 : Int32}    (hs0 : S[a0]? = some (.inl 11)) {h : MH} (hf : f_X11_types a0 x1 h = some o) : V l G B N mX11_types (rmm 3 0 0) false 0 0 (QV S o) S 0 0 0 [(0, .ref a0), (1, .int x1)] [] h := by
  unfold f_X11_types at hf
  refine V_bipush (v := 24) (pc' := 2) dX11_types_0 rfl (by decide) ?_
  refine V_istore_n (lv' := [(2, .int 24), (0, .ref a0), (1, .int x1)]) (pc' := 3) dX11_types_2 rfl rfl (Nat.le_of_ble_eq_true rfl) rfl ?_
  exact V_sub (lv' := [(0, .ref a0), (1, .int x1), (2, .int 24)]) [1, 2, 0] rfl (v_X11_types_3 hs0 hf)
theorem ct_X11_types {l : Launch} {S : List SHP} {h : MH} {a0 : Nat} {x1 : Int32} (hs0 : S[a0]? = some (.inl 11)) {q : MH} (hf : f_X11_types a0 x1 h = some q) : CT l mX11_types 3 false 0 0 S [.ref a0, .int x1] h (QV S q) :=
  CT_ofV (by decide) rfl (Nat.le_of_ble_eq_true rfl) (fun G B hT => v_X11_types hs0 hf)
/-! LabelStacksModel.feed(IIIII)I -/
theorem dX11_feed_0 : decode cX11_feed 0 = .ok (.aload_n 0, 1) := by decide +kernel
theorem dX11_feed_1 : decode cX11_feed 1 = .ok (.iconst 0, 1) := by decide +kernel
theorem dX11_feed_2 : decode cX11_feed 2 = .ok (.putfield 84, 3) := by decide +kernel
theorem dX11_feed_5 : decode cX11_feed 5 = .ok (.aload_n 0, 1) := by decide +kernel
theorem dX11_feed_6 : decode cX11_feed 6 = .ok (.getfield 347, 3) := by decide +kernel
theorem dX11_feed_9 : decode cX11_feed 9 = .ok (.sipush 480, 3) := by decide +kernel
theorem dX11_feed_12 : decode cX11_feed 12 = .ok (.if_icmp .le 5, 3) := by decide +kernel
theorem dX11_feed_15 : decode cX11_feed 15 = .ok (.iconst (-1), 1) := by decide +kernel
theorem dX11_feed_16 : decode cX11_feed 16 = .ok (.ireturn, 1) := by decide +kernel
theorem dX11_feed_17 : decode cX11_feed 17 = .ok (.aload_n 0, 1) := by decide +kernel
theorem dX11_feed_18 : decode cX11_feed 18 = .ok (.iload_n 1, 1) := by decide +kernel
theorem dX11_feed_19 : decode cX11_feed 19 = .ok (.invokevirtual 350, 3) := by decide +kernel
theorem dX11_feed_22 : decode cX11_feed 22 = .ok (.aload_n 0, 1) := by decide +kernel
theorem dX11_feed_23 : decode cX11_feed 23 = .ok (.iload_n 2, 1) := by decide +kernel
theorem dX11_feed_24 : decode cX11_feed 24 = .ok (.invokevirtual 350, 3) := by decide +kernel
theorem dX11_feed_27 : decode cX11_feed 27 = .ok (.aload_n 0, 1) := by decide +kernel
theorem dX11_feed_28 : decode cX11_feed 28 = .ok (.iload_n 3, 1) := by decide +kernel
theorem dX11_feed_29 : decode cX11_feed 29 = .ok (.invokevirtual 350, 3) := by decide +kernel
theorem dX11_feed_32 : decode cX11_feed 32 = .ok (.aload_n 0, 1) := by decide +kernel
theorem dX11_feed_33 : decode cX11_feed 33 = .ok (.iload 4, 2) := by decide +kernel
theorem dX11_feed_35 : decode cX11_feed 35 = .ok (.invokevirtual 350, 3) := by decide +kernel
theorem dX11_feed_38 : decode cX11_feed 38 = .ok (.aload_n 0, 1) := by decide +kernel
theorem dX11_feed_39 : decode cX11_feed 39 = .ok (.iload 5, 2) := by decide +kernel
theorem dX11_feed_41 : decode cX11_feed 41 = .ok (.invokevirtual 350, 3) := by decide +kernel
theorem dX11_feed_44 : decode cX11_feed 44 = .ok (.aload_n 0, 1) := by decide +kernel
theorem dX11_feed_45 : decode cX11_feed 45 = .ok (.getfield 347, 3) := by decide +kernel
theorem dX11_feed_48 : decode cX11_feed 48 = .ok (.ireturn, 1) := by decide +kernel
abbrev mX11_feed : MI := (RX11, yX11_feed, cX11_feed, 6, (some .int))
theorem mok_X11_feed : MOKv mX11_feed 5 := ⟨⟨bm_1726, bm_127, ⟨by decide, by decide⟩, by decide +kernel⟩, bm_1724, bm_1725⟩
def f_X11_feed   (a0 : Nat) (x1 : Int32) (x2 : Int32) (x3 : Int32) (x4 : Int32) (x5 : Int32) (h : MH) : Option (Int32 × MH) :=
  lt (sI h a0 0 0) fun h_1 =>
  if 480 < (gI h_1 a0 37) then
    some ((-1 : Int32), h_1)
  else
    (f_X11_types a0 x1 h_1).bind fun q_2 =>
    (f_X11_types a0 x2 q_2).bind fun q_3 =>
    (f_X11_types a0 x3 q_3).bind fun q_4 =>
    (f_X11_types a0 x4 q_4).bind fun q_5 =>
    (f_X11_types a0 x5 q_5).bind fun q_6 =>
    some ((gI q_6 a0 37), q_6)
set_option maxRecDepth 100000 in
set_option maxHeartbeats 4000000 in
theorem v_X11_feed {l : Launch} {G : GE} {B N : Nat} {S : List SHP} {o : Int32 × MH} {a0 : Nat} {x1 : Int32} {x2 : Int32} {x3 : Int32} {x4 : Int32} {x5 : Int32}    (hs0 : S[a0]? = some (.inl 11)) {h : MH} (hf : f_X11_feed a0 x1 x2 x3 x4 x5 h = some o) : V l G B N mX11_feed (rmm 4 0 0) false 0 0 (QI S o) S 0 0 0 [(0, .ref a0), (1, .int x1), (2, .int x2), (3, .int x3), (4, .int x4), (5, .int x5)] [] h := by
  unfold f_X11_feed at hf
  refine V_aload_n (pc' := 1) dX11_feed_0 rfl 0 rfl rfl ?_
  refine V_iconst (v := 0) (pc' := 2) dX11_feed_1 rfl (by decide) ?_
  refine V_putI (pc' := 5) 11 0 dX11_feed_2 rfl (by decide) (Nat.le_of_ble_eq_true rfl) bm_1224 hs0 (Or.inl rfl) rfl ?_
  refine V_nmH hf (fun h_1 hf => ?_)
  refine V_aload_n (pc' := 6) dX11_feed_5 rfl 0 rfl rfl ?_
  refine V_getI (pc' := 9) 11 37 dX11_feed_6 rfl (by decide) (Nat.le_of_ble_eq_true rfl) bm_1261 hs0 (fun _ _ _ => rfl) ?_
  refine V_sipush (v := 480) (pc' := 12) dX11_feed_9 rfl (by decide) ?_
  refine V_icmp_le (tgt := 17) (pc' := 15) dX11_feed_12 (by decide) rfl hf (fun hf => ?_) (fun hf => ?_)
  ·
    refine V_iconst (v := (-1)) (pc' := 16) dX11_feed_15 rfl (by decide) ?_
    obtain rfl := Option.some.inj hf
    exact V_iret dX11_feed_16 rfl rfl rfl ⟨rfl, rfl, rfl⟩
  ·
    refine V_aload_n (pc' := 18) dX11_feed_17 rfl 0 rfl rfl ?_
    refine V_iload_n (pc' := 19) dX11_feed_18 rfl 1 rfl rfl ?_
    refine V_cvV (pc' := 22) (As := [.int x1]) (rest := []) dX11_feed_19 rfl mok_X11_types bm_1727 11 (by decide) rfl hs0 rfl rfl (Nat.le_of_ble_eq_true rfl) (by decide) hf (fun q e => ct_X11_types hs0 e) (fun q_2 hf => ?_)
    refine V_aload_n (pc' := 23) dX11_feed_22 rfl 0 rfl rfl ?_
    refine V_iload_n (pc' := 24) dX11_feed_23 rfl 2 rfl rfl ?_
    refine V_cvV (pc' := 27) (As := [.int x2]) (rest := []) dX11_feed_24 rfl mok_X11_types bm_1727 11 (by decide) rfl hs0 rfl rfl (Nat.le_of_ble_eq_true rfl) (by decide) hf (fun q e => ct_X11_types hs0 e) (fun q_3 hf => ?_)
    refine V_aload_n (pc' := 28) dX11_feed_27 rfl 0 rfl rfl ?_
    refine V_iload_n (pc' := 29) dX11_feed_28 rfl 3 rfl rfl ?_
    refine V_cvV (pc' := 32) (As := [.int x3]) (rest := []) dX11_feed_29 rfl mok_X11_types bm_1727 11 (by decide) rfl hs0 rfl rfl (Nat.le_of_ble_eq_true rfl) (by decide) hf (fun q e => ct_X11_types hs0 e) (fun q_4 hf => ?_)
    refine V_aload_n (pc' := 33) dX11_feed_32 rfl 0 rfl rfl ?_
    refine V_iload (pc' := 35) dX11_feed_33 rfl 4 rfl ?_
    refine V_cvV (pc' := 38) (As := [.int x4]) (rest := []) dX11_feed_35 rfl mok_X11_types bm_1727 11 (by decide) rfl hs0 rfl rfl (Nat.le_of_ble_eq_true rfl) (by decide) hf (fun q e => ct_X11_types hs0 e) (fun q_5 hf => ?_)
    refine V_aload_n (pc' := 39) dX11_feed_38 rfl 0 rfl rfl ?_
    refine V_iload (pc' := 41) dX11_feed_39 rfl 5 rfl ?_
    refine V_cvV (pc' := 44) (As := [.int x5]) (rest := []) dX11_feed_41 rfl mok_X11_types bm_1727 11 (by decide) rfl hs0 rfl rfl (Nat.le_of_ble_eq_true rfl) (by decide) hf (fun q e => ct_X11_types hs0 e) (fun q_6 hf => ?_)
    refine V_aload_n (pc' := 45) dX11_feed_44 rfl 0 rfl rfl ?_
    refine V_getI (pc' := 48) 11 37 dX11_feed_45 rfl (by decide) (Nat.le_of_ble_eq_true rfl) bm_1261 hs0 (fun _ _ _ => rfl) ?_
    obtain rfl := Option.some.inj hf
    exact V_iret dX11_feed_48 rfl rfl rfl ⟨rfl, rfl, rfl⟩
theorem ct_X11_feed {l : Launch} {S : List SHP} {h : MH} {a0 : Nat} {x1 : Int32} {x2 : Int32} {x3 : Int32} {x4 : Int32} {x5 : Int32} (hs0 : S[a0]? = some (.inl 11)) {q : Int32 × MH} (hf : f_X11_feed a0 x1 x2 x3 x4 x5 h = some q) : CT l mX11_feed 4 false 0 0 S [.ref a0, .int x1, .int x2, .int x3, .int x4, .int x5] h (QI S q) :=
  CT_ofV (by decide) rfl (Nat.le_of_ble_eq_true rfl) (fun G B hT => v_X11_feed hs0 hf)
/-! LabelStacksModel.end(I)Z -/
theorem dX11_end_0 : decode cX11_end 0 = .ok (.aload_n 0, 1) := by decide +kernel
theorem dX11_end_1 : decode cX11_end 1 = .ok (.iconst 0, 1) := by decide +kernel
theorem dX11_end_2 : decode cX11_end 2 = .ok (.putfield 84, 3) := by decide +kernel
theorem dX11_end_5 : decode cX11_end 5 = .ok (.aload_n 0, 1) := by decide +kernel
theorem dX11_end_6 : decode cX11_end 6 = .ok (.iload_n 1, 1) := by decide +kernel
theorem dX11_end_7 : decode cX11_end 7 = .ok (.i2l, 1) := by decide +kernel
theorem dX11_end_8 : decode cX11_end 8 = .ok (.lconst 0, 1) := by decide +kernel
theorem dX11_end_9 : decode cX11_end 9 = .ok (.aload_n 0, 1) := by decide +kernel
theorem dX11_end_10 : decode cX11_end 10 = .ok (.getfield 347, 3) := by decide +kernel
theorem dX11_end_13 : decode cX11_end 13 = .ok (.i2l, 1) := by decide +kernel
theorem dX11_end_14 : decode cX11_end 14 = .ok (.invokevirtual 91, 3) := by decide +kernel
theorem dX11_end_17 : decode cX11_end 17 = .ok (.ifCond .ne 5, 3) := by decide +kernel
theorem dX11_end_20 : decode cX11_end 20 = .ok (.iconst 0, 1) := by decide +kernel
theorem dX11_end_21 : decode cX11_end 21 = .ok (.ireturn, 1) := by decide +kernel
theorem dX11_end_22 : decode cX11_end 22 = .ok (.aload_n 0, 1) := by decide +kernel
theorem dX11_end_23 : decode cX11_end 23 = .ok (.iload_n 1, 1) := by decide +kernel
theorem dX11_end_24 : decode cX11_end 24 = .ok (.putfield 347, 3) := by decide +kernel
theorem dX11_end_27 : decode cX11_end 27 = .ok (.iconst 1, 1) := by decide +kernel
theorem dX11_end_28 : decode cX11_end 28 = .ok (.ireturn, 1) := by decide +kernel
abbrev mX11_end : MI := (RX11, yX11_end, cX11_end, 2, (some .boolean))
theorem mok_X11_end : MOKv mX11_end 1 := ⟨⟨bm_1734, bm_127, ⟨by decide, by decide⟩, by decide +kernel⟩, bm_1732, bm_1733⟩
def f_X11_end   (a0 : Nat) (x1 : Int32) (h : MH) : Option (Int32 × MH) :=
  lt (sI h a0 0 0) fun h_1 =>
  (f_X11_isIn a0 (Int32.toInt64 x1) 0 (Int32.toInt64 (gI h_1 a0 37)) h_1).bind fun q_2 =>
  if q_2.1 = 0 then
    some (0, q_2.2)
  else
    lt (sI q_2.2 a0 37 x1) fun h_3 =>
    some (1, h_3)
set_option maxRecDepth 100000 in
set_option maxHeartbeats 4000000 in
theorem v_X11_end {l : Launch} {G : GE} {B N : Nat} {S : List SHP} {o : Int32 × MH} {a0 : Nat} {x1 : Int32}    (hs0 : S[a0]? = some (.inl 11)) {h : MH} (hf : f_X11_end a0 x1 h = some o) : V l G B N mX11_end (rmm 4 0 0) false 0 0 (QI S o) S 0 0 0 [(0, .ref a0), (1, .int x1)] [] h := by
  unfold f_X11_end at hf
  refine V_aload_n (pc' := 1) dX11_end_0 rfl 0 rfl rfl ?_
  refine V_iconst (v := 0) (pc' := 2) dX11_end_1 rfl (by decide) ?_
  refine V_putI (pc' := 5) 11 0 dX11_end_2 rfl (by decide) (Nat.le_of_ble_eq_true rfl) bm_1224 hs0 (Or.inl rfl) rfl ?_
  refine V_nmH hf (fun h_1 hf => ?_)
  refine V_aload_n (pc' := 6) dX11_end_5 rfl 0 rfl rfl ?_
  refine V_iload_n (pc' := 7) dX11_end_6 rfl 1 rfl rfl ?_
  refine V_i2l (pc' := 8) dX11_end_7 rfl ?_
  refine V_lconst (v := 0) (pc' := 9) dX11_end_8 rfl (by decide) ?_
  refine V_aload_n (pc' := 10) dX11_end_9 rfl 0 rfl rfl ?_
  refine V_getI (pc' := 13) 11 37 dX11_end_10 rfl (by decide) (Nat.le_of_ble_eq_true rfl) bm_1261 hs0 (fun _ _ _ => rfl) ?_
  refine V_i2l (pc' := 14) dX11_end_13 rfl ?_
  refine V_cvI (pc' := 17) (As := [.long (Int32.toInt64 x1), .long 0, .long (Int32.toInt64 (gI h_1 a0 37))]) (rest := []) dX11_end_14 rfl mok_X11_isIn bm_1373 11 (by decide) rfl hs0 rfl rfl (Nat.le_of_ble_eq_true rfl) (by decide) hf (fun q e => ct_X11_isIn hs0 e) (fun q_2 hf => ?_)
  refine V_if_ne (tgt := 22) (pc' := 20) dX11_end_17 (by decide) rfl hf (fun hf => ?_) (fun hf => ?_)
  ·
    refine V_iconst (v := 0) (pc' := 21) dX11_end_20 rfl (by decide) ?_
    obtain rfl := Option.some.inj hf
    exact V_zretL dX11_end_21 rfl rfl rfl (by decide) ⟨rfl, rfl, rfl⟩
  ·
    refine V_aload_n (pc' := 23) dX11_end_22 rfl 0 rfl rfl ?_
    refine V_iload_n (pc' := 24) dX11_end_23 rfl 1 rfl rfl ?_
    refine V_putI (pc' := 27) 11 37 dX11_end_24 rfl (by decide) (Nat.le_of_ble_eq_true rfl) bm_1261 hs0 (Or.inl rfl) rfl ?_
    refine V_nmH hf (fun h_3 hf => ?_)
    refine V_iconst (v := 1) (pc' := 28) dX11_end_27 rfl (by decide) ?_
    obtain rfl := Option.some.inj hf
    exact V_zretL dX11_end_28 rfl rfl rfl (by decide) ⟨rfl, rfl, rfl⟩
theorem ct_X11_end {l : Launch} {S : List SHP} {h : MH} {a0 : Nat} {x1 : Int32} (hs0 : S[a0]? = some (.inl 11)) {q : Int32 × MH} (hf : f_X11_end a0 x1 h = some q) : CT l mX11_end 4 false 0 0 S [.ref a0, .int x1] h (QI S q) :=
  CT_ofV (by decide) rfl (Nat.le_of_ble_eq_true rfl) (fun G B hT => v_X11_end hs0 hf)
/-! LabelStacksModel.here()I -/
theorem dX11_here_0 : decode cX11_here 0 = .ok (.aload_n 0, 1) := by decide +kernel
theorem dX11_here_1 : decode cX11_here 1 = .ok (.getfield 353, 3) := by decide +kernel
theorem dX11_here_4 : decode cX11_here 4 = .ok (.aload_n 0, 1) := by decide +kernel
theorem dX11_here_5 : decode cX11_here 5 = .ok (.getfield 356, 3) := by decide +kernel
theorem dX11_here_8 : decode cX11_here 8 = .ok (.if_icmp .ge 15, 3) := by decide +kernel
theorem dX11_here_11 : decode cX11_here 11 = .ok (.aload_n 0, 1) := by decide +kernel
theorem dX11_here_12 : decode cX11_here 12 = .ok (.getfield 72, 3) := by decide +kernel
theorem dX11_here_15 : decode cX11_here 15 = .ok (.aload_n 0, 1) := by decide +kernel
theorem dX11_here_16 : decode cX11_here 16 = .ok (.getfield 353, 3) := by decide +kernel
theorem dX11_here_19 : decode cX11_here 19 = .ok (.iaload, 1) := by decide +kernel
theorem dX11_here_20 : decode cX11_here 20 = .ok (.goto 4, 3) := by decide +kernel
theorem dX11_here_23 : decode cX11_here 23 = .ok (.iconst (-1), 1) := by decide +kernel
theorem dX11_here_24 : decode cX11_here 24 = .ok (.ireturn, 1) := by decide +kernel
abbrev mX11_here : MI := (RX11, yX11_here, cX11_here, 1, (some .int))
theorem mok_X11_here : MOKv mX11_here 0 := ⟨⟨bm_1755, bm_127, ⟨by decide, by decide⟩, by decide +kernel⟩, bm_1754, bm_100⟩
def f_X11_here   (a0 : Nat) (h : MH) : Option (Int32 × MH) :=
  if (gI h a0 40) < (gI h a0 41) then
    (gR h a0 36).bind fun a_1 =>
    (ldI h a_1 (gI h a0 40)).bind fun x_2 =>
    some (x_2, h)
  else
    some ((-1 : Int32), h)
set_option maxRecDepth 100000 in
set_option maxHeartbeats 4000000 in
theorem v_X11_here {l : Launch} {G : GE} {B N : Nat} {S : List SHP} {o : Int32 × MH} {a0 : Nat}    (hs0 : S[a0]? = some (.inl 11)) {h : MH} (hf : f_X11_here a0 h = some o) : V l G B N mX11_here (rmm 3 0 0) false 0 0 (QI S o) S 0 0 0 [(0, .ref a0)] [] h := by
  unfold f_X11_here at hf
  refine V_aload_n (pc' := 1) dX11_here_0 rfl 0 rfl rfl ?_
  refine V_getI (pc' := 4) 11 40 dX11_here_1 rfl (by decide) (Nat.le_of_ble_eq_true rfl) bm_1264 hs0 (fun _ _ _ => rfl) ?_
  refine V_aload_n (pc' := 5) dX11_here_4 rfl 0 rfl rfl ?_
  refine V_getI (pc' := 8) 11 41 dX11_here_5 rfl (by decide) (Nat.le_of_ble_eq_true rfl) bm_1265 hs0 (fun _ _ _ => rfl) ?_
  refine V_icmp_ge (tgt := 23) (pc' := 11) dX11_here_8 (by decide) rfl hf (fun hf => ?_) (fun hf => ?_)
  ·
    refine V_aload_n (pc' := 12) dX11_here_11 rfl 0 rfl rfl ?_
    refine V_getR (pc' := 15) 11 36 dX11_here_12 rfl (by decide) (Nat.le_of_ble_eq_true rfl) bm_1260 hs0 (fun _ _ _ => rfl) rfl hf (fun a_1 ha_1 hf => ?_)
    refine V_aload_n (pc' := 16) dX11_here_15 rfl 0 rfl rfl ?_
    refine V_getI (pc' := 19) 11 40 dX11_here_16 rfl (by decide) (Nat.le_of_ble_eq_true rfl) bm_1264 hs0 (fun _ _ _ => rfl) ?_
    refine V_iald (pc' := 20) dX11_here_19 rfl ha_1 hf (fun x_2 hf => ?_)
    refine V_goto (tgt := 24) dX11_here_20 (by decide) ?_
    obtain rfl := Option.some.inj hf
    exact V_iret dX11_here_24 rfl rfl rfl ⟨rfl, rfl, rfl⟩
  ·
    refine V_iconst (v := (-1)) (pc' := 24) dX11_here_23 rfl (by decide) ?_
    obtain rfl := Option.some.inj hf
    exact V_iret dX11_here_24 rfl rfl rfl ⟨rfl, rfl, rfl⟩
theorem ct_X11_here {l : Launch} {S : List SHP} {h : MH} {a0 : Nat} (hs0 : S[a0]? = some (.inl 11)) {q : Int32 × MH} (hf : f_X11_here a0 h = some q) : CT l mX11_here 3 false 0 0 S [.ref a0] h (QI S q) :=
  CT_ofV (by decide) rfl (Nat.le_of_ble_eq_true rfl) (fun G B hT => v_X11_here hs0 hf)
/-! LabelStacksModel.behindBlanks()I -/
theorem dX11_behindBlanks_0 : decode cX11_behindBlanks 0 = .ok (.aload_n 0, 1) := by decide +kernel
theorem dX11_behindBlanks_1 : decode cX11_behindBlanks 1 = .ok (.invokevirtual 359, 3) := by decide +kernel
theorem dX11_behindBlanks_4 : decode cX11_behindBlanks 4 = .ok (.bipush 32, 2) := by decide +kernel
theorem dX11_behindBlanks_6 : decode cX11_behindBlanks 6 = .ok (.if_icmp .ne 16, 3) := by decide +kernel
theorem dX11_behindBlanks_9 : decode cX11_behindBlanks 9 = .ok (.aload_n 0, 1) := by decide +kernel
theorem dX11_behindBlanks_10 : decode cX11_behindBlanks 10 = .ok (.aload_n 0, 1) := by decide +kernel
theorem dX11_behindBlanks_11 : decode cX11_behindBlanks 11 = .ok (.getfield 353, 3) := by decide +kernel
theorem dX11_behindBlanks_14 : decode cX11_behindBlanks 14 = .ok (.iconst 1, 1) := by decide +kernel
theorem dX11_behindBlanks_15 : decode cX11_behindBlanks 15 = .ok (.iadd, 1) := by decide +kernel
theorem dX11_behindBlanks_16 : decode cX11_behindBlanks 16 = .ok (.putfield 353, 3) := by decide +kernel
theorem dX11_behindBlanks_19 : decode cX11_behindBlanks 19 = .ok (.goto (-19), 3) := by decide +kernel
theorem dX11_behindBlanks_22 : decode cX11_behindBlanks 22 = .ok (.aload_n 0, 1) := by decide +kernel
theorem dX11_behindBlanks_23 : decode cX11_behindBlanks 23 = .ok (.invokevirtual 359, 3) := by decide +kernel
theorem dX11_behindBlanks_26 : decode cX11_behindBlanks 26 = .ok (.ireturn, 1) := by decide +kernel
abbrev mX11_behindBlanks : MI := (RX11, yX11_behindBlanks, cX11_behindBlanks, 1, (some .int))
theorem mok_X11_behindBlanks : MOKv mX11_behindBlanks 0 := ⟨⟨bm_1751, bm_127, ⟨by decide, by decide⟩, by decide +kernel⟩, bm_1750, bm_99⟩
def f_X11_behindBlanks_0b   (a0 : Nat) (k0 : Unit → MH → Option (Int32 × MH)) (p : Unit) (h : MH) : Option (Int32 × MH) :=
  (f_X11_here a0 h).bind fun q_1 =>
  if q_1.1 = 32 then
    lt (sI q_1.2 a0 40 ((gI q_1.2 a0 40) + 1)) fun h_2 =>
    k0 () h_2
  else
    (f_X11_here a0 q_1.2).bind fun q_3 =>
    some (q_3.1, q_3.2)
def f_X11_behindBlanks_0   (a0 : Nat) : Nat → Unit → MH → Option (Int32 × MH) := lp (f_X11_behindBlanks_0b a0)
def f_X11_behindBlanks (a0 : Nat) (h : MH) : Option (Int32 × MH) := f_X11_behindBlanks_0 a0 FU () h
set_option maxRecDepth 100000 in
set_option maxHeartbeats 4000000 in
theorem v_X11_behindBlanks_0b {l : Launch} {G : GE} {B N : Nat} {S : List SHP} {o : Int32 × MH} {a0 : Nat}    (hs0 : S[a0]? = some (.inl 11)) {k0 : Unit → MH → Option (Int32 × MH)} (hk0 : ∀ (p : Unit) (h : MH), k0 p h = some o → V l G B N mX11_behindBlanks (rmm 4 0 0) false 0 0 (QI S o) S 0 0 0 [(0, .ref a0)] [] h) {p : Unit} {h : MH} (hf : f_X11_behindBlanks_0b a0 k0 p h = some o) : V l G B N mX11_behindBlanks (rmm 4 0 0) false 0 0 (QI S o) S 0 0 0 [(0, .ref a0)] [] h := by
  unfold f_X11_behindBlanks_0b at hf
  refine V_aload_n (pc' := 1) dX11_behindBlanks_0 rfl 0 rfl rfl ?_
  refine V_cvI (pc' := 4) (As := []) (rest := []) dX11_behindBlanks_1 rfl mok_X11_here bm_1752 11 (by decide) rfl hs0 rfl rfl (Nat.le_of_ble_eq_true rfl) (by decide) hf (fun q e => ct_X11_here hs0 e) (fun q_1 hf => ?_)
  refine V_bipush (v := 32) (pc' := 6) dX11_behindBlanks_4 rfl (by decide) ?_
  refine V_icmp_ne (tgt := 22) (pc' := 9) dX11_behindBlanks_6 (by decide) rfl hf (fun hf => ?_) (fun hf => ?_)
  ·
    refine V_aload_n (pc' := 10) dX11_behindBlanks_9 rfl 0 rfl rfl ?_
    refine V_aload_n (pc' := 11) dX11_behindBlanks_10 rfl 0 rfl rfl ?_
    refine V_getI (pc' := 14) 11 40 dX11_behindBlanks_11 rfl (by decide) (Nat.le_of_ble_eq_true rfl) bm_1264 hs0 (fun _ _ _ => rfl) ?_
    refine V_iconst (v := 1) (pc' := 15) dX11_behindBlanks_14 rfl (by decide) ?_
    refine V_iadd (pc' := 16) dX11_behindBlanks_15 rfl ?_
    refine V_putI (pc' := 19) 11 40 dX11_behindBlanks_16 rfl (by decide) (Nat.le_of_ble_eq_true rfl) bm_1264 hs0 (Or.inl rfl) rfl ?_
    refine V_nmH hf (fun h_2 hf => ?_)
    refine V_goto (tgt := 0) dX11_behindBlanks_19 (by decide) ?_
    exact V_sub (lv' := [(0, .ref a0)]) [0] rfl (hk0 () h_2 hf)
  ·
    refine V_aload_n (pc' := 23) dX11_behindBlanks_22 rfl 0 rfl rfl ?_
    refine V_cvI (pc' := 26) (As := []) (rest := []) dX11_behindBlanks_23 rfl mok_X11_here bm_1752 11 (by decide) rfl hs0 rfl rfl (Nat.le_of_ble_eq_true rfl) (by decide) hf (fun q e => ct_X11_here hs0 e) (fun q_3 hf => ?_)
    obtain rfl := Option.some.inj hf
    exact V_iret dX11_behindBlanks_26 rfl rfl rfl ⟨rfl, rfl, rfl⟩
theorem v_X11_behindBlanks_0 {l : Launch} {G : GE} {B N : Nat} {S : List SHP} {o : Int32 × MH} {a0 : Nat}    (hs0 : S[a0]? = some (.inl 11)) {n : Nat} {p : Unit} {h : MH} (hf : f_X11_behindBlanks_0 a0 n p h = some o) : V l G B N mX11_behindBlanks (rmm 4 0 0) false 0 0 (QI S o) S 0 0 0 [(0, .ref a0)] [] h :=
  V_lp (VV := fun p h => V l G B N mX11_behindBlanks (rmm 4 0 0) false 0 0 (QI S o) S 0 0 0 [(0, .ref a0)] [] h) (fun _ hk _ _ hf => v_X11_behindBlanks_0b hs0 hk hf) n p h hf
theorem v_X11_behindBlanks {l : Launch} {G : GE} {B N : Nat} {S : List SHP} {o : Int32 × MH} {a0 : Nat} (hs0 : S[a0]? = some (.inl 11)) {h : MH} (hf : f_X11_behindBlanks a0 h = some o) : V l G B N mX11_behindBlanks (rmm 4 0 0) false 0 0 (QI S o) S 0 0 0 [(0, .ref a0)] [] h :=
  V_sub (lv' := [(0, .ref a0)]) [0] rfl (v_X11_behindBlanks_0 hs0 hf)
theorem ct_X11_behindBlanks {l : Launch} {S : List SHP} {h : MH} {a0 : Nat} (hs0 : S[a0]? = some (.inl 11)) {q : Int32 × MH} (hf : f_X11_behindBlanks a0 h = some q) : CT l mX11_behindBlanks 4 false 0 0 S [.ref a0] h (QI S q) :=
  CT_ofV (by decide) rfl (Nat.le_of_ble_eq_true rfl) (fun G B hT => v_X11_behindBlanks hs0 hf)
/-! LabelStacksModel.isDigit(I)Z -/
theorem dX11_isDigit_0 : decode cX11_isDigit 0 = .ok (.iload_n 1, 1) := by decide +kernel
theorem dX11_isDigit_1 : decode cX11_isDigit 1 = .ok (.bipush 48, 2) := by decide +kernel
theorem dX11_isDigit_3 : decode cX11_isDigit 3 = .ok (.if_icmp .lt 13, 3) := by decide +kernel
theorem dX11_isDigit_6 : decode cX11_isDigit 6 = .ok (.iload_n 1, 1) := by decide +kernel
theorem dX11_isDigit_7 : decode cX11_isDigit 7 = .ok (.bipush 57, 2) := by decide +kernel
theorem dX11_isDigit_9 : decode cX11_isDigit 9 = .ok (.if_icmp .gt 7, 3) := by decide +kernel
theorem dX11_isDigit_12 : decode cX11_isDigit 12 = .ok (.iconst 1, 1) := by decide +kernel
theorem dX11_isDigit_13 : decode cX11_isDigit 13 = .ok (.goto 4, 3) := by decide +kernel
theorem dX11_isDigit_16 : decode cX11_isDigit 16 = .ok (.iconst 0, 1) := by decide +kernel
theorem dX11_isDigit_17 : decode cX11_isDigit 17 = .ok (.ireturn, 1) := by decide +kernel
abbrev mX11_isDigit : MI := (RX11, yX11_isDigit, cX11_isDigit, 2, (some .boolean))
theorem mok_X11_isDigit : MOKv mX11_isDigit 1 := ⟨⟨bm_1777, bm_127, ⟨by decide, by decide⟩, by decide +kernel⟩, bm_1776, bm_105⟩
def f_X11_isDigit   (a0 : Nat) (x1 : Int32) (h : MH) : Option (Int32 × MH) :=
  if x1 < 48 then
    some (0, h)
  else
    if 57 < x1 then
      some (0, h)
    else
      some (1, h)
set_option maxRecDepth 100000 in
set_option maxHeartbeats 4000000 in
theorem v_X11_isDigit {l : Launch} {G : GE} {B N : Nat} {S : List SHP} {o : Int32 × MH} {a0 : Nat} {x1 : Int32}    (hs0 : S[a0]? = some (.inl 11)) {h : MH} (hf : f_X11_isDigit a0 x1 h = some o) : V l G B N mX11_isDigit (rmm 3 0 0) false 0 0 (QI S o) S 0 0 0 [(0, .ref a0), (1, .int x1)] [] h := by
  unfold f_X11_isDigit at hf
  refine V_iload_n (pc' := 1) dX11_isDigit_0 rfl 1 rfl rfl ?_
  refine V_bipush (v := 48) (pc' := 3) dX11_isDigit_1 rfl (by decide) ?_
  refine V_icmp_lt (tgt := 16) (pc' := 6) dX11_isDigit_3 (by decide) rfl hf (fun hf => ?_) (fun hf => ?_)
  ·
    refine V_iconst (v := 0) (pc' := 17) dX11_isDigit_16 rfl (by decide) ?_
    obtain rfl := Option.some.inj hf
    exact V_zretL dX11_isDigit_17 rfl rfl rfl (by decide) ⟨rfl, rfl, rfl⟩
  ·
    refine V_iload_n (pc' := 7) dX11_isDigit_6 rfl 1 rfl rfl ?_
    refine V_bipush (v := 57) (pc' := 9) dX11_isDigit_7 rfl (by decide) ?_
    refine V_icmp_gt (tgt := 16) (pc' := 12) dX11_isDigit_9 (by decide) rfl hf (fun hf => ?_) (fun hf => ?_)
    ·
      refine V_iconst (v := 0) (pc' := 17) dX11_isDigit_16 rfl (by decide) ?_
      obtain rfl := Option.some.inj hf
      exact V_zretL dX11_isDigit_17 rfl rfl rfl (by decide) ⟨rfl, rfl, rfl⟩
    ·
      refine V_iconst (v := 1) (pc' := 13) dX11_isDigit_12 rfl (by decide) ?_
      refine V_goto (tgt := 17) dX11_isDigit_13 (by decide) ?_
      obtain rfl := Option.some.inj hf
      exact V_zretL dX11_isDigit_17 rfl rfl rfl (by decide) ⟨rfl, rfl, rfl⟩
theorem ct_X11_isDigit {l : Launch} {S : List SHP} {h : MH} {a0 : Nat} {x1 : Int32} (hs0 : S[a0]? = some (.inl 11)) {q : Int32 × MH} (hf : f_X11_isDigit a0 x1 h = some q) : CT l mX11_isDigit 3 false 0 0 S [.ref a0, .int x1] h (QI S q) :=
  CT_ofV (by decide) rfl (Nat.le_of_ble_eq_true rfl) (fun G B hT => v_X11_isDigit hs0 hf)
/-! LabelStacksModel.isWrong()Z -/
theorem dX11_isWrong_0 : decode cX11_isWrong 0 = .ok (.aload_n 0, 1) := by decide +kernel
theorem dX11_isWrong_1 : decode cX11_isWrong 1 = .ok (.getfield 75, 3) := by decide +kernel
theorem dX11_isWrong_4 : decode cX11_isWrong 4 = .ok (.iconst (-1), 1) := by decide +kernel
theorem dX11_isWrong_5 : decode cX11_isWrong 5 = .ok (.if_icmp .eq 7, 3) := by decide +kernel
theorem dX11_isWrong_8 : decode cX11_isWrong 8 = .ok (.iconst 1, 1) := by decide +kernel
theorem dX11_isWrong_9 : decode cX11_isWrong 9 = .ok (.goto 4, 3) := by decide +kernel
theorem dX11_isWrong_12 : decode cX11_isWrong 12 = .ok (.iconst 0, 1) := by decide +kernel
theorem dX11_isWrong_13 : decode cX11_isWrong 13 = .ok (.ireturn, 1) := by decide +kernel
abbrev mX11_isWrong : MI := (RX11, yX11_isWrong, cX11_isWrong, 1, (some .boolean))
theorem mok_X11_isWrong : MOKv mX11_isWrong 0 := ⟨⟨bm_1747, bm_127, ⟨by decide, by decide⟩, by decide +kernel⟩, bm_1746, bm_98⟩
def f_X11_isWrong   (a0 : Nat) (h : MH) : Option (Int32 × MH) :=
  if (gI h a0 39) = (-1 : Int32) then
    some (0, h)
  else
    some (1, h)
set_option maxRecDepth 100000 in
set_option maxHeartbeats 4000000 in
theorem v_X11_isWrong {l : Launch} {G : GE} {B N : Nat} {S : List SHP} {o : Int32 × MH} {a0 : Nat}    (hs0 : S[a0]? = some (.inl 11)) {h : MH} (hf : f_X11_isWrong a0 h = some o) : V l G B N mX11_isWrong (rmm 3 0 0) false 0 0 (QI S o) S 0 0 0 [(0, .ref a0)] [] h := by
  unfold f_X11_isWrong at hf
  refine V_aload_n (pc' := 1) dX11_isWrong_0 rfl 0 rfl rfl ?_
  refine V_getI (pc' := 4) 11 39 dX11_isWrong_1 rfl (by decide) (Nat.le_of_ble_eq_true rfl) bm_1263 hs0 (fun _ _ _ => rfl) ?_
  refine V_iconst (v := (-1)) (pc' := 5) dX11_isWrong_4 rfl (by decide) ?_
  refine V_icmp_eq (tgt := 12) (pc' := 8) dX11_isWrong_5 (by decide) rfl hf (fun hf => ?_) (fun hf => ?_)
  ·
    refine V_iconst (v := 0) (pc' := 13) dX11_isWrong_12 rfl (by decide) ?_
    obtain rfl := Option.some.inj hf
    exact V_zretL dX11_isWrong_13 rfl rfl rfl (by decide) ⟨rfl, rfl, rfl⟩
  ·
    refine V_iconst (v := 1) (pc' := 9) dX11_isWrong_8 rfl (by decide) ?_
    refine V_goto (tgt := 13) dX11_isWrong_9 (by decide) ?_
    obtain rfl := Option.some.inj hf
    exact V_zretL dX11_isWrong_13 rfl rfl rfl (by decide) ⟨rfl, rfl, rfl⟩
theorem ct_X11_isWrong {l : Launch} {S : List SHP} {h : MH} {a0 : Nat} (hs0 : S[a0]? = some (.inl 11)) {q : Int32 × MH} (hf : f_X11_isWrong a0 h = some q) : CT l mX11_isWrong 3 false 0 0 S [.ref a0] h (QI S q) :=
  CT_ofV (by decide) rfl (Nat.le_of_ble_eq_true rfl) (fun G B hT => v_X11_isWrong hs0 hf)
/-! LabelStacksModel.errs(II)I -/
theorem dX11_errs_0 : decode cX11_errs 0 = .ok (.aload_n 0, 1) := by decide +kernel
theorem dX11_errs_1 : decode cX11_errs 1 = .ok (.invokevirtual 362, 3) := by decide +kernel
theorem dX11_errs_4 : decode cX11_errs 4 = .ok (.ifCond .eq 5, 3) := by decide +kernel
theorem dX11_errs_7 : decode cX11_errs 7 = .ok (.iconst 0, 1) := by decide +kernel
theorem dX11_errs_8 : decode cX11_errs 8 = .ok (.ireturn, 1) := by decide +kernel
theorem dX11_errs_9 : decode cX11_errs 9 = .ok (.aload_n 0, 1) := by decide +kernel
theorem dX11_errs_10 : decode cX11_errs 10 = .ok (.iload_n 1, 1) := by decide +kernel
theorem dX11_errs_11 : decode cX11_errs 11 = .ok (.putfield 365, 3) := by decide +kernel
theorem dX11_errs_14 : decode cX11_errs 14 = .ok (.aload_n 0, 1) := by decide +kernel
theorem dX11_errs_15 : decode cX11_errs 15 = .ok (.iload_n 2, 1) := by decide +kernel
theorem dX11_errs_16 : decode cX11_errs 16 = .ok (.putfield 75, 3) := by decide +kernel
theorem dX11_errs_19 : decode cX11_errs 19 = .ok (.iconst 0, 1) := by decide +kernel
theorem dX11_errs_20 : decode cX11_errs 20 = .ok (.ireturn, 1) := by decide +kernel
abbrev mX11_errs : MI := (RX11, yX11_errs, cX11_errs, 3, (some .int))
theorem mok_X11_errs : MOKv mX11_errs 2 := ⟨⟨bm_1765, bm_127, ⟨by decide, by decide⟩, by decide +kernel⟩, bm_1764, bm_102⟩
def f_X11_errs   (a0 : Nat) (x1 : Int32) (x2 : Int32) (h : MH) : Option (Int32 × MH) :=
  (f_X11_isWrong a0 h).bind fun q_1 =>
  if q_1.1 = 0 then
    lt (sI q_1.2 a0 38 x1) fun h_2 =>
    lt (sI h_2 a0 39 x2) fun h_3 =>
    some (0, h_3)
  else
    some (0, q_1.2)
set_option maxRecDepth 100000 in
set_option maxHeartbeats 4000000 in
theorem v_X11_errs {l : Launch} {G : GE} {B N : Nat} {S : List SHP} {o : Int32 × MH} {a0 : Nat} {x1 : Int32} {x2 : Int32}    (hs0 : S[a0]? = some (.inl 11)) {h : MH} (hf : f_X11_errs a0 x1 x2 h = some o) : V l G B N mX11_errs (rmm 4 0 0) false 0 0 (QI S o) S 0 0 0 [(0, .ref a0), (1, .int x1), (2, .int x2)] [] h := by
  unfold f_X11_errs at hf
  refine V_aload_n (pc' := 1) dX11_errs_0 rfl 0 rfl rfl ?_
  refine V_cvI (pc' := 4) (As := []) (rest := []) dX11_errs_1 rfl mok_X11_isWrong bm_1744 11 (by decide) rfl hs0 rfl rfl (Nat.le_of_ble_eq_true rfl) (by decide) hf (fun q e => ct_X11_isWrong hs0 e) (fun q_1 hf => ?_)
  refine V_if_eq (tgt := 9) (pc' := 7) dX11_errs_4 (by decide) rfl hf (fun hf => ?_) (fun hf => ?_)
  ·
    refine V_aload_n (pc' := 10) dX11_errs_9 rfl 0 rfl rfl ?_
    refine V_iload_n (pc' := 11) dX11_errs_10 rfl 1 rfl rfl ?_
    refine V_putI (pc' := 14) 11 38 dX11_errs_11 rfl (by decide) (Nat.le_of_ble_eq_true rfl) bm_1262 hs0 (Or.inl rfl) rfl ?_
    refine V_nmH hf (fun h_2 hf => ?_)
    refine V_aload_n (pc' := 15) dX11_errs_14 rfl 0 rfl rfl ?_
    refine V_iload_n (pc' := 16) dX11_errs_15 rfl 2 rfl rfl ?_
    refine V_putI (pc' := 19) 11 39 dX11_errs_16 rfl (by decide) (Nat.le_of_ble_eq_true rfl) bm_1263 hs0 (Or.inl rfl) rfl ?_
    refine V_nmH hf (fun h_3 hf => ?_)
    refine V_iconst (v := 0) (pc' := 20) dX11_errs_19 rfl (by decide) ?_
    obtain rfl := Option.some.inj hf
    exact V_iret dX11_errs_20 rfl rfl rfl ⟨rfl, rfl, rfl⟩
  ·
    refine V_iconst (v := 0) (pc' := 8) dX11_errs_7 rfl (by decide) ?_
    obtain rfl := Option.some.inj hf
    exact V_iret dX11_errs_8 rfl rfl rfl ⟨rfl, rfl, rfl⟩
theorem ct_X11_errs {l : Launch} {S : List SHP} {h : MH} {a0 : Nat} {x1 : Int32} {x2 : Int32} (hs0 : S[a0]? = some (.inl 11)) {q : Int32 × MH} (hf : f_X11_errs a0 x1 x2 h = some q) : CT l mX11_errs 4 false 0 0 S [.ref a0, .int x1, .int x2] h (QI S q) :=
  CT_ofV (by decide) rfl (Nat.le_of_ble_eq_true rfl) (fun G B hT => v_X11_errs hs0 hf)
/-! LabelStacksModel.letters()I -/
theorem dX11_letters_0 : decode cX11_letters 0 = .ok (.iconst 0, 1) := by decide +kernel
theorem dX11_letters_1 : decode cX11_letters 1 = .ok (.istore_n 1, 1) := by decide +kernel
theorem dX11_letters_2 : decode cX11_letters 2 = .ok (.aload_n 0, 1) := by decide +kernel
theorem dX11_letters_3 : decode cX11_letters 3 = .ok (.getfield 353, 3) := by decide +kernel
theorem dX11_letters_6 : decode cX11_letters 6 = .ok (.iload_n 1, 1) := by decide +kernel
theorem dX11_letters_7 : decode cX11_letters 7 = .ok (.iadd, 1) := by decide +kernel
theorem dX11_letters_8 : decode cX11_letters 8 = .ok (.aload_n 0, 1) := by decide +kernel
theorem dX11_letters_9 : decode cX11_letters 9 = .ok (.getfield 356, 3) := by decide +kernel
theorem dX11_letters_12 : decode cX11_letters 12 = .ok (.if_icmp .ge 42, 3) := by decide +kernel
theorem dX11_letters_15 : decode cX11_letters 15 = .ok (.aload_n 0, 1) := by decide +kernel
theorem dX11_letters_16 : decode cX11_letters 16 = .ok (.getfield 72, 3) := by decide +kernel
theorem dX11_letters_19 : decode cX11_letters 19 = .ok (.aload_n 0, 1) := by decide +kernel
theorem dX11_letters_20 : decode cX11_letters 20 = .ok (.getfield 353, 3) := by decide +kernel
theorem dX11_letters_23 : decode cX11_letters 23 = .ok (.iload_n 1, 1) := by decide +kernel
theorem dX11_letters_24 : decode cX11_letters 24 = .ok (.iadd, 1) := by decide +kernel
theorem dX11_letters_25 : decode cX11_letters 25 = .ok (.iaload, 1) := by decide +kernel
theorem dX11_letters_26 : decode cX11_letters 26 = .ok (.bipush 97, 2) := by decide +kernel
theorem dX11_letters_28 : decode cX11_letters 28 = .ok (.if_icmp .lt 26, 3) := by decide +kernel
theorem dX11_letters_31 : decode cX11_letters 31 = .ok (.aload_n 0, 1) := by decide +kernel
theorem dX11_letters_32 : decode cX11_letters 32 = .ok (.getfield 72, 3) := by decide +kernel
theorem dX11_letters_35 : decode cX11_letters 35 = .ok (.aload_n 0, 1) := by decide +kernel
theorem dX11_letters_36 : decode cX11_letters 36 = .ok (.getfield 353, 3) := by decide +kernel
theorem dX11_letters_39 : decode cX11_letters 39 = .ok (.iload_n 1, 1) := by decide +kernel
theorem dX11_letters_40 : decode cX11_letters 40 = .ok (.iadd, 1) := by decide +kernel
theorem dX11_letters_41 : decode cX11_letters 41 = .ok (.iaload, 1) := by decide +kernel
theorem dX11_letters_42 : decode cX11_letters 42 = .ok (.bipush 122, 2) := by decide +kernel
theorem dX11_letters_44 : decode cX11_letters 44 = .ok (.if_icmp .gt 10, 3) := by decide +kernel
theorem dX11_letters_47 : decode cX11_letters 47 = .ok (.iload_n 1, 1) := by decide +kernel
theorem dX11_letters_48 : decode cX11_letters 48 = .ok (.iconst 1, 1) := by decide +kernel
theorem dX11_letters_49 : decode cX11_letters 49 = .ok (.iadd, 1) := by decide +kernel
theorem dX11_letters_50 : decode cX11_letters 50 = .ok (.istore_n 1, 1) := by decide +kernel
theorem dX11_letters_51 : decode cX11_letters 51 = .ok (.goto (-49), 3) := by decide +kernel
theorem dX11_letters_54 : decode cX11_letters 54 = .ok (.iload_n 1, 1) := by decide +kernel
theorem dX11_letters_55 : decode cX11_letters 55 = .ok (.ireturn, 1) := by decide +kernel
abbrev mX11_letters : MI := (RX11, yX11_letters, cX11_letters, 2, (some .int))
theorem mok_X11_letters : MOKv mX11_letters 0 := ⟨⟨bm_1759, bm_127, ⟨by decide, by decide⟩, by decide +kernel⟩, bm_1758, bm_101⟩
def f_X11_letters_2b   (a0 : Nat) (k2 : Int32 → MH → Option (Int32 × MH)) (p : Int32) (h : MH) : Option (Int32 × MH) :=
  if ((gI h a0 40) + p) < (gI h a0 41) then
    (gR h a0 36).bind fun a_1 =>
    (ldI h a_1 ((gI h a0 40) + p)).bind fun x_2 =>
    if x_2 < 97 then
      some (p, h)
    else
      (gR h a0 36).bind fun a_3 =>
      (ldI h a_3 ((gI h a0 40) + p)).bind fun x_4 =>
      if 122 < x_4 then
        some (p, h)
      else
        lt (p + 1) fun x_5 =>
        k2 x_5 h
  else
    some (p, h)
def f_X11_letters_2   (a0 : Nat) : Nat → Int32 → MH → Option (Int32 × MH) := lp (f_X11_letters_2b a0)
def f_X11_letters   (a0 : Nat) (h : MH) : Option (Int32 × MH) :=
  f_X11_letters_2 a0 FU 0 h
set_option maxRecDepth 100000 in
set_option maxHeartbeats 4000000 in
theorem v_X11_letters_2b {l : Launch} {G : GE} {B N : Nat} {S : List SHP} {o : Int32 × MH} {a0 : Nat}    (hs0 : S[a0]? = some (.inl 11)) {k2 : Int32 → MH → Option (Int32 × MH)} (hk2 : ∀ (p : Int32) (h : MH), k2 p h = some o → V l G B N mX11_letters (rmm 3 0 0) false 0 0 (QI S o) S 0 0 2 [(0, .ref a0), (1, .int p)] [] h) {p : Int32} {h : MH} (hf : f_X11_letters_2b a0 k2 p h = some o) : V l G B N mX11_letters (rmm 3 0 0) false 0 0 (QI S o) S 0 0 2 [(0, .ref a0), (1, .int p)] [] h := by
  unfold f_X11_letters_2b at hf
  refine V_aload_n (pc' := 3) dX11_letters_2 rfl 0 rfl rfl ?_
  refine V_getI (pc' := 6) 11 40 dX11_letters_3 rfl (by decide) (Nat.le_of_ble_eq_true rfl) bm_1264 hs0 (fun _ _ _ => rfl) ?_
  refine V_iload_n (pc' := 7) dX11_letters_6 rfl 1 rfl rfl ?_
  refine V_iadd (pc' := 8) dX11_letters_7 rfl ?_
  refine V_aload_n (pc' := 9) dX11_letters_8 rfl 0 rfl rfl ?_
  refine V_getI (pc' := 12) 11 41 dX11_letters_9 rfl (by decide) (Nat.le_of_ble_eq_true rfl) bm_1265 hs0 (fun _ _ _ => rfl) ?_
  refine V_icmp_ge (tgt := 54) (pc' := 15) dX11_letters_12 (by decide) rfl hf (fun hf => ?_) (fun hf => ?_)
  ·
    refine V_aload_n (pc' := 16) dX11_letters_15 rfl 0 rfl rfl ?_
    refine V_getR (pc' := 19) 11 36 dX11_letters_16 rfl (by decide) (Nat.le_of_ble_eq_true rfl) bm_1260 hs0 (fun _ _ _ => rfl) rfl hf (fun a_1 ha_1 hf => ?_)
    refine V_aload_n (pc' := 20) dX11_letters_19 rfl 0 rfl rfl ?_
    refine V_getI (pc' := 23) 11 40 dX11_letters_20 rfl (by decide) (Nat.le_of_ble_eq_true rfl) bm_1264 hs0 (fun _ _ _ => rfl) ?_
    refine V_iload_n (pc' := 24) dX11_letters_23 rfl 1 rfl rfl ?_
    refine V_iadd (pc' := 25) dX11_letters_24 rfl ?_
    refine V_iald (pc' := 26) dX11_letters_25 rfl ha_1 hf (fun x_2 hf => ?_)
    refine V_bipush (v := 97) (pc' := 28) dX11_letters_26 rfl (by decide) ?_
    refine V_icmp_lt (tgt := 54) (pc' := 31) dX11_letters_28 (by decide) rfl hf (fun hf => ?_) (fun hf => ?_)
    ·
      refine V_iload_n (pc' := 55) dX11_letters_54 rfl 1 rfl rfl ?_
      obtain rfl := Option.some.inj hf
      exact V_iret dX11_letters_55 rfl rfl rfl ⟨rfl, rfl, rfl⟩
    ·
      refine V_aload_n (pc' := 32) dX11_letters_31 rfl 0 rfl rfl ?_
      refine V_getR (pc' := 35) 11 36 dX11_letters_32 rfl (by decide) (Nat.le_of_ble_eq_true rfl) bm_1260 hs0 (fun _ _ _ => rfl) rfl hf (fun a_3 ha_3 hf => ?_)
      refine V_aload_n (pc' := 36) dX11_letters_35 rfl 0 rfl rfl ?_
      refine V_getI (pc' := 39) 11 40 dX11_letters_36 rfl (by decide) (Nat.le_of_ble_eq_true rfl) bm_1264 hs0 (fun _ _ _ => rfl) ?_
      refine V_iload_n (pc' := 40) dX11_letters_39 rfl 1 rfl rfl ?_
      refine V_iadd (pc' := 41) dX11_letters_40 rfl ?_
      refine V_iald (pc' := 42) dX11_letters_41 rfl ha_3 hf (fun x_4 hf => ?_)
      refine V_bipush (v := 122) (pc' := 44) dX11_letters_42 rfl (by decide) ?_
      refine V_icmp_gt (tgt := 54) (pc' := 47) dX11_letters_44 (by decide) rfl hf (fun hf => ?_) (fun hf => ?_)
      ·
        refine V_iload_n (pc' := 55) dX11_letters_54 rfl 1 rfl rfl ?_
        obtain rfl := Option.some.inj hf
        exact V_iret dX11_letters_55 rfl rfl rfl ⟨rfl, rfl, rfl⟩
      ·
        refine V_iload_n (pc' := 48) dX11_letters_47 rfl 1 rfl rfl ?_
        refine V_iconst (v := 1) (pc' := 49) dX11_letters_48 rfl (by decide) ?_
        refine V_iadd (pc' := 50) dX11_letters_49 rfl ?_
        refine V_nmI hf (fun x_5 hf => ?_)
        refine V_istore_n (lv' := [(1, .int x_5), (0, .ref a0)]) (pc' := 51) dX11_letters_50 rfl rfl (Nat.le_of_ble_eq_true rfl) rfl ?_
        refine V_goto (tgt := 2) dX11_letters_51 (by decide) ?_
        exact V_sub (lv' := [(0, .ref a0), (1, .int x_5)]) [1, 0] rfl (hk2 x_5 h hf)
  ·
    refine V_iload_n (pc' := 55) dX11_letters_54 rfl 1 rfl rfl ?_
    obtain rfl := Option.some.inj hf
    exact V_iret dX11_letters_55 rfl rfl rfl ⟨rfl, rfl, rfl⟩
theorem v_X11_letters_2 {l : Launch} {G : GE} {B N : Nat} {S : List SHP} {o : Int32 × MH} {a0 : Nat}    (hs0 : S[a0]? = some (.inl 11)) {n : Nat} {p : Int32} {h : MH} (hf : f_X11_letters_2 a0 n p h = some o) : V l G B N mX11_letters (rmm 3 0 0) false 0 0 (QI S o) S 0 0 2 [(0, .ref a0), (1, .int p)] [] h :=
  V_lp (VV := fun p h => V l G B N mX11_letters (rmm 3 0 0) false 0 0 (QI S o) S 0 0 2 [(0, .ref a0), (1, .int p)] [] h) (fun _ hk _ _ hf => v_X11_letters_2b hs0 hk hf) n p h hf
set_option maxRecDepth 100000 in
set_option maxHeartbeats 4000000 in
theorem v_X11_letters {l : Launch} {G : GE} {B N : Nat} {S : List SHP} {o : Int32 × MH} {a0 : Nat}    (hs0 : S[a0]? = some (.inl 11)) {h : MH} (hf : f_X11_letters a0 h = some o) : V l G B N mX11_letters (rmm 3 0 0) false 0 0 (QI S o) S 0 0 0 [(0, .ref a0)] [] h := by
  unfold f_X11_letters at hf
  refine V_iconst (v := 0) (pc' := 1) dX11_letters_0 rfl (by decide) ?_
  refine V_istore_n (lv' := [(1, .int 0), (0, .ref a0)]) (pc' := 2) dX11_letters_1 rfl rfl (Nat.le_of_ble_eq_true rfl) rfl ?_
  exact V_sub (lv' := [(0, .ref a0), (1, .int 0)]) [1, 0] rfl (v_X11_letters_2 hs0 hf)
theorem ct_X11_letters {l : Launch} {S : List SHP} {h : MH} {a0 : Nat} (hs0 : S[a0]? = some (.inl 11)) {q : Int32 × MH} (hf : f_X11_letters a0 h = some q) : CT l mX11_letters 3 false 0 0 S [.ref a0] h (QI S q) :=
  CT_ofV (by decide) rfl (Nat.le_of_ble_eq_true rfl) (fun G B hT => v_X11_letters hs0 hf)
