/-! LabelStacksModel.demandOf(II)I -/
theorem dX11_demandOf_0 : decode cX11_demandOf 0 = .ok (.aload_n 0, 1) := by decide +kernel
theorem dX11_demandOf_1 : decode cX11_demandOf 1 = .ok (.iconst 0, 1) := by decide +kernel
theorem dX11_demandOf_2 : decode cX11_demandOf 2 = .ok (.putfield 84, 3) := by decide +kernel
theorem dX11_demandOf_5 : decode cX11_demandOf 5 = .ok (.aload_n 0, 1) := by decide +kernel
theorem dX11_demandOf_6 : decode cX11_demandOf 6 = .ok (.iload_n 1, 1) := by decide +kernel
theorem dX11_demandOf_7 : decode cX11_demandOf 7 = .ok (.invokevirtual 313, 3) := by decide +kernel
theorem dX11_demandOf_10 : decode cX11_demandOf 10 = .ok (.ifCond .eq 16, 3) := by decide +kernel
theorem dX11_demandOf_13 : decode cX11_demandOf 13 = .ok (.aload_n 0, 1) := by decide +kernel
theorem dX11_demandOf_14 : decode cX11_demandOf 14 = .ok (.getfield 7, 3) := by decide +kernel
theorem dX11_demandOf_17 : decode cX11_demandOf 17 = .ok (.sipush 170, 3) := by decide +kernel
theorem dX11_demandOf_20 : decode cX11_demandOf 20 = .ok (.iload_n 1, 1) := by decide +kernel
theorem dX11_demandOf_21 : decode cX11_demandOf 21 = .ok (.iadd, 1) := by decide +kernel
theorem dX11_demandOf_22 : decode cX11_demandOf 22 = .ok (.iaload, 1) := by decide +kernel
theorem dX11_demandOf_23 : decode cX11_demandOf 23 = .ok (.ifCond .ne 5, 3) := by decide +kernel
theorem dX11_demandOf_26 : decode cX11_demandOf 26 = .ok (.iconst (-1), 1) := by decide +kernel
theorem dX11_demandOf_27 : decode cX11_demandOf 27 = .ok (.ireturn, 1) := by decide +kernel
theorem dX11_demandOf_28 : decode cX11_demandOf 28 = .ok (.iload_n 2, 1) := by decide +kernel
theorem dX11_demandOf_29 : decode cX11_demandOf 29 = .ok (.ifCond .ne 16, 3) := by decide +kernel
theorem dX11_demandOf_32 : decode cX11_demandOf 32 = .ok (.aload_n 0, 1) := by decide +kernel
theorem dX11_demandOf_33 : decode cX11_demandOf 33 = .ok (.getfield 7, 3) := by decide +kernel
theorem dX11_demandOf_36 : decode cX11_demandOf 36 = .ok (.sipush 170, 3) := by decide +kernel
theorem dX11_demandOf_39 : decode cX11_demandOf 39 = .ok (.iload_n 1, 1) := by decide +kernel
theorem dX11_demandOf_40 : decode cX11_demandOf 40 = .ok (.iadd, 1) := by decide +kernel
theorem dX11_demandOf_41 : decode cX11_demandOf 41 = .ok (.iaload, 1) := by decide +kernel
theorem dX11_demandOf_42 : decode cX11_demandOf 42 = .ok (.iconst 1, 1) := by decide +kernel
theorem dX11_demandOf_43 : decode cX11_demandOf 43 = .ok (.isub, 1) := by decide +kernel
theorem dX11_demandOf_44 : decode cX11_demandOf 44 = .ok (.ireturn, 1) := by decide +kernel
theorem dX11_demandOf_45 : decode cX11_demandOf 45 = .ok (.iload_n 2, 1) := by decide +kernel
theorem dX11_demandOf_46 : decode cX11_demandOf 46 = .ok (.iconst 1, 1) := by decide +kernel
theorem dX11_demandOf_47 : decode cX11_demandOf 47 = .ok (.if_icmp .ne 14, 3) := by decide +kernel
theorem dX11_demandOf_50 : decode cX11_demandOf 50 = .ok (.aload_n 0, 1) := by decide +kernel
theorem dX11_demandOf_51 : decode cX11_demandOf 51 = .ok (.getfield 7, 3) := by decide +kernel
theorem dX11_demandOf_54 : decode cX11_demandOf 54 = .ok (.sipush 178, 3) := by decide +kernel
theorem dX11_demandOf_57 : decode cX11_demandOf 57 = .ok (.iload_n 1, 1) := by decide +kernel
theorem dX11_demandOf_58 : decode cX11_demandOf 58 = .ok (.iadd, 1) := by decide +kernel
theorem dX11_demandOf_59 : decode cX11_demandOf 59 = .ok (.iaload, 1) := by decide +kernel
theorem dX11_demandOf_60 : decode cX11_demandOf 60 = .ok (.ireturn, 1) := by decide +kernel
theorem dX11_demandOf_61 : decode cX11_demandOf 61 = .ok (.iload_n 2, 1) := by decide +kernel
theorem dX11_demandOf_62 : decode cX11_demandOf 62 = .ok (.iconst 2, 1) := by decide +kernel
theorem dX11_demandOf_63 : decode cX11_demandOf 63 = .ok (.if_icmp .ne 14, 3) := by decide +kernel
theorem dX11_demandOf_66 : decode cX11_demandOf 66 = .ok (.aload_n 0, 1) := by decide +kernel
theorem dX11_demandOf_67 : decode cX11_demandOf 67 = .ok (.getfield 7, 3) := by decide +kernel
theorem dX11_demandOf_70 : decode cX11_demandOf 70 = .ok (.sipush 186, 3) := by decide +kernel
theorem dX11_demandOf_73 : decode cX11_demandOf 73 = .ok (.iload_n 1, 1) := by decide +kernel
theorem dX11_demandOf_74 : decode cX11_demandOf 74 = .ok (.iadd, 1) := by decide +kernel
theorem dX11_demandOf_75 : decode cX11_demandOf 75 = .ok (.iaload, 1) := by decide +kernel
theorem dX11_demandOf_76 : decode cX11_demandOf 76 = .ok (.ireturn, 1) := by decide +kernel
theorem dX11_demandOf_77 : decode cX11_demandOf 77 = .ok (.iload_n 2, 1) := by decide +kernel
theorem dX11_demandOf_78 : decode cX11_demandOf 78 = .ok (.iconst 3, 1) := by decide +kernel
theorem dX11_demandOf_79 : decode cX11_demandOf 79 = .ok (.if_icmp .eq 5, 3) := by decide +kernel
theorem dX11_demandOf_82 : decode cX11_demandOf 82 = .ok (.iconst (-1), 1) := by decide +kernel
theorem dX11_demandOf_83 : decode cX11_demandOf 83 = .ok (.ireturn, 1) := by decide +kernel
theorem dX11_demandOf_84 : decode cX11_demandOf 84 = .ok (.aload_n 0, 1) := by decide +kernel
theorem dX11_demandOf_85 : decode cX11_demandOf 85 = .ok (.iload_n 1, 1) := by decide +kernel
theorem dX11_demandOf_86 : decode cX11_demandOf 86 = .ok (.iconst 0, 1) := by decide +kernel
theorem dX11_demandOf_87 : decode cX11_demandOf 87 = .ok (.invokevirtual 316, 3) := by decide +kernel
theorem dX11_demandOf_90 : decode cX11_demandOf 90 = .ok (.aload_n 0, 1) := by decide +kernel
theorem dX11_demandOf_91 : decode cX11_demandOf 91 = .ok (.invokevirtual 270, 3) := by decide +kernel
theorem dX11_demandOf_94 : decode cX11_demandOf 94 = .ok (.ireturn, 1) := by decide +kernel
abbrev mX11_demandOf : MI := (RX11, yX11_demandOf, cX11_demandOf, 3, (some .int))
theorem mok_X11_demandOf : MOKv mX11_demandOf 2 := ⟨⟨bm_1823, bm_127, ⟨by decide, by decide⟩, by decide +kernel⟩, bm_1821, bm_1822⟩
def f_X11_demandOf   (a0 : Nat) (x1 : Int32) (x2 : Int32) (h : MH) : Option (Int32 × MH) :=
  lt (sI h a0 0 0) fun h_1 =>
  (f_X11_isDemand a0 x1 h_1).bind fun q_2 =>
  if q_2.1 = 0 then
    some ((-1 : Int32), q_2.2)
  else
    (gR q_2.2 a0 1).bind fun a_3 =>
    (ldI q_2.2 a_3 (170 + x1)).bind fun x_4 =>
    if x_4 = 0 then
      some ((-1 : Int32), q_2.2)
    else
      if x2 = 0 then
        (gR q_2.2 a0 1).bind fun a_5 =>
        (ldI q_2.2 a_5 (170 + x1)).bind fun x_6 =>
        some ((x_6 - 1), q_2.2)
      else
        if x2 = 1 then
          (gR q_2.2 a0 1).bind fun a_7 =>
          (ldI q_2.2 a_7 (178 + x1)).bind fun x_8 =>
          some (x_8, q_2.2)
        else
          if x2 = 2 then
            (gR q_2.2 a0 1).bind fun a_9 =>
            (ldI q_2.2 a_9 (186 + x1)).bind fun x_10 =>
            some (x_10, q_2.2)
          else
            if x2 = 3 then
              (f_X11_runsDemand a0 x1 0 q_2.2).bind fun q_11 =>
              (f_X11_endOf a0 q_11).bind fun q_12 =>
              some (q_12.1, q_12.2)
            else
              some ((-1 : Int32), q_2.2)
set_option maxRecDepth 100000 in
set_option maxHeartbeats 4000000 in
theorem v_X11_demandOf {l : Launch} {G : GE} {B N : Nat} {S : List SHP} {o : Int32 × MH} {a0 : Nat} {x1 : Int32} {x2 : Int32}    (hs0 : S[a0]? = some (.inl 11)) {h : MH} (hf : f_X11_demandOf a0 x1 x2 h = some o) : V l G B N mX11_demandOf (rmm 132 0 0) false 0 0 (QI S o) S 0 0 0 [(0, .ref a0), (1, .int x1), (2, .int x2)] [] h := by
  unfold f_X11_demandOf at hf
  refine V_aload_n (pc' := 1) dX11_demandOf_0 rfl 0 rfl rfl ?_
  refine V_iconst (v := 0) (pc' := 2) dX11_demandOf_1 rfl (by decide) ?_
  refine V_putI (pc' := 5) 11 0 dX11_demandOf_2 rfl (by decide) (Nat.le_of_ble_eq_true rfl) bm_1224 hs0 (Or.inl rfl) rfl ?_
  refine V_nmH hf (fun h_1 hf => ?_)
  refine V_aload_n (pc' := 6) dX11_demandOf_5 rfl 0 rfl rfl ?_
  refine V_iload_n (pc' := 7) dX11_demandOf_6 rfl 1 rfl rfl ?_
  refine V_cvI (pc' := 10) (As := [.int x1]) (rest := []) dX11_demandOf_7 rfl mok_X11_isDemand bm_1654 11 (by decide) rfl hs0 rfl rfl (Nat.le_of_ble_eq_true rfl) (by decide) hf (fun q e => ct_X11_isDemand hs0 e) (fun q_2 hf => ?_)
  refine V_if_eq (tgt := 26) (pc' := 13) dX11_demandOf_10 (by decide) rfl hf (fun hf => ?_) (fun hf => ?_)
  ·
    refine V_iconst (v := (-1)) (pc' := 27) dX11_demandOf_26 rfl (by decide) ?_
    obtain rfl := Option.some.inj hf
    exact V_iret dX11_demandOf_27 rfl rfl rfl ⟨rfl, rfl, rfl⟩
  ·
    refine V_aload_n (pc' := 14) dX11_demandOf_13 rfl 0 rfl rfl ?_
    refine V_getR (pc' := 17) 11 1 dX11_demandOf_14 rfl (by decide) (Nat.le_of_ble_eq_true rfl) bm_1225 hs0 (fun _ _ _ => rfl) rfl hf (fun a_3 ha_3 hf => ?_)
    refine V_sipush (v := 170) (pc' := 20) dX11_demandOf_17 rfl (by decide) ?_
    refine V_iload_n (pc' := 21) dX11_demandOf_20 rfl 1 rfl rfl ?_
    refine V_iadd (pc' := 22) dX11_demandOf_21 rfl ?_
    refine V_iald (pc' := 23) dX11_demandOf_22 rfl ha_3 hf (fun x_4 hf => ?_)
    refine V_if_ne (tgt := 28) (pc' := 26) dX11_demandOf_23 (by decide) rfl hf (fun hf => ?_) (fun hf => ?_)
    ·
      refine V_iconst (v := (-1)) (pc' := 27) dX11_demandOf_26 rfl (by decide) ?_
      obtain rfl := Option.some.inj hf
      exact V_iret dX11_demandOf_27 rfl rfl rfl ⟨rfl, rfl, rfl⟩
    ·
      refine V_iload_n (pc' := 29) dX11_demandOf_28 rfl 2 rfl rfl ?_
      refine V_if_ne (tgt := 45) (pc' := 32) dX11_demandOf_29 (by decide) rfl hf (fun hf => ?_) (fun hf => ?_)
      ·
        refine V_aload_n (pc' := 33) dX11_demandOf_32 rfl 0 rfl rfl ?_
        refine V_getR (pc' := 36) 11 1 dX11_demandOf_33 rfl (by decide) (Nat.le_of_ble_eq_true rfl) bm_1225 hs0 (fun _ _ _ => rfl) rfl hf (fun a_5 ha_5 hf => ?_)
        refine V_sipush (v := 170) (pc' := 39) dX11_demandOf_36 rfl (by decide) ?_
        refine V_iload_n (pc' := 40) dX11_demandOf_39 rfl 1 rfl rfl ?_
        refine V_iadd (pc' := 41) dX11_demandOf_40 rfl ?_
        refine V_iald (pc' := 42) dX11_demandOf_41 rfl ha_5 hf (fun x_6 hf => ?_)
        refine V_iconst (v := 1) (pc' := 43) dX11_demandOf_42 rfl (by decide) ?_
        refine V_isub (pc' := 44) dX11_demandOf_43 rfl ?_
        obtain rfl := Option.some.inj hf
        exact V_iret dX11_demandOf_44 rfl rfl rfl ⟨rfl, rfl, rfl⟩
      ·
        refine V_iload_n (pc' := 46) dX11_demandOf_45 rfl 2 rfl rfl ?_
        refine V_iconst (v := 1) (pc' := 47) dX11_demandOf_46 rfl (by decide) ?_
        refine V_icmp_ne (tgt := 61) (pc' := 50) dX11_demandOf_47 (by decide) rfl hf (fun hf => ?_) (fun hf => ?_)
        ·
          refine V_aload_n (pc' := 51) dX11_demandOf_50 rfl 0 rfl rfl ?_
          refine V_getR (pc' := 54) 11 1 dX11_demandOf_51 rfl (by decide) (Nat.le_of_ble_eq_true rfl) bm_1225 hs0 (fun _ _ _ => rfl) rfl hf (fun a_7 ha_7 hf => ?_)
          refine V_sipush (v := 178) (pc' := 57) dX11_demandOf_54 rfl (by decide) ?_
          refine V_iload_n (pc' := 58) dX11_demandOf_57 rfl 1 rfl rfl ?_
          refine V_iadd (pc' := 59) dX11_demandOf_58 rfl ?_
          refine V_iald (pc' := 60) dX11_demandOf_59 rfl ha_7 hf (fun x_8 hf => ?_)
          obtain rfl := Option.some.inj hf
          exact V_iret dX11_demandOf_60 rfl rfl rfl ⟨rfl, rfl, rfl⟩
        ·
          refine V_iload_n (pc' := 62) dX11_demandOf_61 rfl 2 rfl rfl ?_
          refine V_iconst (v := 2) (pc' := 63) dX11_demandOf_62 rfl (by decide) ?_
          refine V_icmp_ne (tgt := 77) (pc' := 66) dX11_demandOf_63 (by decide) rfl hf (fun hf => ?_) (fun hf => ?_)
          ·
            refine V_aload_n (pc' := 67) dX11_demandOf_66 rfl 0 rfl rfl ?_
            refine V_getR (pc' := 70) 11 1 dX11_demandOf_67 rfl (by decide) (Nat.le_of_ble_eq_true rfl) bm_1225 hs0 (fun _ _ _ => rfl) rfl hf (fun a_9 ha_9 hf => ?_)
            refine V_sipush (v := 186) (pc' := 73) dX11_demandOf_70 rfl (by decide) ?_
            refine V_iload_n (pc' := 74) dX11_demandOf_73 rfl 1 rfl rfl ?_
            refine V_iadd (pc' := 75) dX11_demandOf_74 rfl ?_
            refine V_iald (pc' := 76) dX11_demandOf_75 rfl ha_9 hf (fun x_10 hf => ?_)
            obtain rfl := Option.some.inj hf
            exact V_iret dX11_demandOf_76 rfl rfl rfl ⟨rfl, rfl, rfl⟩
          ·
            refine V_iload_n (pc' := 78) dX11_demandOf_77 rfl 2 rfl rfl ?_
            refine V_iconst (v := 3) (pc' := 79) dX11_demandOf_78 rfl (by decide) ?_
            refine V_icmp_eq (tgt := 84) (pc' := 82) dX11_demandOf_79 (by decide) rfl hf (fun hf => ?_) (fun hf => ?_)
            ·
              refine V_aload_n (pc' := 85) dX11_demandOf_84 rfl 0 rfl rfl ?_
              refine V_iload_n (pc' := 86) dX11_demandOf_85 rfl 1 rfl rfl ?_
              refine V_iconst (v := 0) (pc' := 87) dX11_demandOf_86 rfl (by decide) ?_
              refine V_cvV (pc' := 90) (As := [.int x1, .int 0]) (rest := []) dX11_demandOf_87 rfl mok_X11_runsDemand bm_1667 11 (by decide) rfl hs0 rfl rfl (Nat.le_of_ble_eq_true rfl) (by decide) hf (fun q e => ct_X11_runsDemand hs0 e) (fun q_11 hf => ?_)
              refine V_aload_n (pc' := 91) dX11_demandOf_90 rfl 0 rfl rfl ?_
              refine V_cvI (pc' := 94) (As := []) (rest := []) dX11_demandOf_91 rfl mok_X11_endOf bm_1576 11 (by decide) rfl hs0 rfl rfl (Nat.le_of_ble_eq_true rfl) (by decide) hf (fun q e => ct_X11_endOf hs0 e) (fun q_12 hf => ?_)
              obtain rfl := Option.some.inj hf
              exact V_iret dX11_demandOf_94 rfl rfl rfl ⟨rfl, rfl, rfl⟩
            ·
              refine V_iconst (v := (-1)) (pc' := 83) dX11_demandOf_82 rfl (by decide) ?_
              obtain rfl := Option.some.inj hf
              exact V_iret dX11_demandOf_83 rfl rfl rfl ⟨rfl, rfl, rfl⟩
theorem ct_X11_demandOf {l : Launch} {S : List SHP} {h : MH} {a0 : Nat} {x1 : Int32} {x2 : Int32} (hs0 : S[a0]? = some (.inl 11)) {q : Int32 × MH} (hf : f_X11_demandOf a0 x1 x2 h = some q) : CT l mX11_demandOf 132 false 0 0 S [.ref a0, .int x1, .int x2] h (QI S q) :=
  CT_ofV (by decide) rfl (Nat.le_of_ble_eq_true rfl) (fun G B hT => v_X11_demandOf hs0 hf)
/-! LabelStacksModel.image(Z)Z -/
theorem dX11_image_0 : decode cX11_image 0 = .ok (.aload_n 0, 1) := by decide +kernel
theorem dX11_image_1 : decode cX11_image 1 = .ok (.iconst 0, 1) := by decide +kernel
theorem dX11_image_2 : decode cX11_image 2 = .ok (.putfield 84, 3) := by decide +kernel
theorem dX11_image_5 : decode cX11_image 5 = .ok (.iload_n 1, 1) := by decide +kernel
theorem dX11_image_6 : decode cX11_image 6 = .ok (.ifCond .ne 12, 3) := by decide +kernel
theorem dX11_image_9 : decode cX11_image 9 = .ok (.aload_n 0, 1) := by decide +kernel
theorem dX11_image_10 : decode cX11_image 10 = .ok (.getfield 430, 3) := by decide +kernel
theorem dX11_image_13 : decode cX11_image 13 = .ok (.ifCond .ne 5, 3) := by decide +kernel
theorem dX11_image_16 : decode cX11_image 16 = .ok (.iconst 0, 1) := by decide +kernel
theorem dX11_image_17 : decode cX11_image 17 = .ok (.ireturn, 1) := by decide +kernel
theorem dX11_image_18 : decode cX11_image 18 = .ok (.aload_n 0, 1) := by decide +kernel
theorem dX11_image_19 : decode cX11_image 19 = .ok (.iconst 1, 1) := by decide +kernel
theorem dX11_image_20 : decode cX11_image 20 = .ok (.putfield 430, 3) := by decide +kernel
theorem dX11_image_23 : decode cX11_image 23 = .ok (.iload_n 1, 1) := by decide +kernel
theorem dX11_image_24 : decode cX11_image 24 = .ok (.ifCond .eq 86, 3) := by decide +kernel
theorem dX11_image_27 : decode cX11_image 27 = .ok (.iconst 0, 1) := by decide +kernel
theorem dX11_image_28 : decode cX11_image 28 = .ok (.istore_n 2, 1) := by decide +kernel
theorem dX11_image_29 : decode cX11_image 29 = .ok (.iload_n 2, 1) := by decide +kernel
theorem dX11_image_30 : decode cX11_image 30 = .ok (.sipush 512, 3) := by decide +kernel
theorem dX11_image_33 : decode cX11_image 33 = .ok (.if_icmp .ge 21, 3) := by decide +kernel
theorem dX11_image_36 : decode cX11_image 36 = .ok (.aload_n 0, 1) := by decide +kernel
theorem dX11_image_37 : decode cX11_image 37 = .ok (.getfield 81, 3) := by decide +kernel
theorem dX11_image_40 : decode cX11_image 40 = .ok (.iload_n 2, 1) := by decide +kernel
theorem dX11_image_41 : decode cX11_image 41 = .ok (.aload_n 0, 1) := by decide +kernel
theorem dX11_image_42 : decode cX11_image 42 = .ok (.getfield 7, 3) := by decide +kernel
theorem dX11_image_45 : decode cX11_image 45 = .ok (.iload_n 2, 1) := by decide +kernel
theorem dX11_image_46 : decode cX11_image 46 = .ok (.iaload, 1) := by decide +kernel
theorem dX11_image_47 : decode cX11_image 47 = .ok (.iastore, 1) := by decide +kernel
theorem dX11_image_48 : decode cX11_image 48 = .ok (.iinc 2 1, 3) := by decide +kernel
theorem dX11_image_51 : decode cX11_image 51 = .ok (.goto (-22), 3) := by decide +kernel
theorem dX11_image_54 : decode cX11_image 54 = .ok (.iconst 0, 1) := by decide +kernel
theorem dX11_image_55 : decode cX11_image 55 = .ok (.istore_n 2, 1) := by decide +kernel
theorem dX11_image_56 : decode cX11_image 56 = .ok (.iload_n 2, 1) := by decide +kernel
theorem dX11_image_57 : decode cX11_image 57 = .ok (.bipush 12, 2) := by decide +kernel
theorem dX11_image_59 : decode cX11_image 59 = .ok (.if_icmp .ge 25, 3) := by decide +kernel
theorem dX11_image_62 : decode cX11_image 62 = .ok (.aload_n 0, 1) := by decide +kernel
theorem dX11_image_63 : decode cX11_image 63 = .ok (.getfield 81, 3) := by decide +kernel
theorem dX11_image_66 : decode cX11_image 66 = .ok (.sipush 512, 3) := by decide +kernel
theorem dX11_image_69 : decode cX11_image 69 = .ok (.iload_n 2, 1) := by decide +kernel
theorem dX11_image_70 : decode cX11_image 70 = .ok (.iadd, 1) := by decide +kernel
theorem dX11_image_71 : decode cX11_image 71 = .ok (.aload_n 0, 1) := by decide +kernel
theorem dX11_image_72 : decode cX11_image 72 = .ok (.getfield 20, 3) := by decide +kernel
theorem dX11_image_75 : decode cX11_image 75 = .ok (.iload_n 2, 1) := by decide +kernel
theorem dX11_image_76 : decode cX11_image 76 = .ok (.iaload, 1) := by decide +kernel
theorem dX11_image_77 : decode cX11_image 77 = .ok (.iastore, 1) := by decide +kernel
theorem dX11_image_78 : decode cX11_image 78 = .ok (.iinc 2 1, 3) := by decide +kernel
theorem dX11_image_81 : decode cX11_image 81 = .ok (.goto (-25), 3) := by decide +kernel
theorem dX11_image_84 : decode cX11_image 84 = .ok (.aload_n 0, 1) := by decide +kernel
theorem dX11_image_85 : decode cX11_image 85 = .ok (.getfield 81, 3) := by decide +kernel
theorem dX11_image_88 : decode cX11_image 88 = .ok (.sipush 524, 3) := by decide +kernel
theorem dX11_image_91 : decode cX11_image 91 = .ok (.aload_n 0, 1) := by decide +kernel
theorem dX11_image_92 : decode cX11_image 92 = .ok (.getfield 138, 3) := by decide +kernel
theorem dX11_image_95 : decode cX11_image 95 = .ok (.iastore, 1) := by decide +kernel
theorem dX11_image_96 : decode cX11_image 96 = .ok (.aload_n 0, 1) := by decide +kernel
theorem dX11_image_97 : decode cX11_image 97 = .ok (.getfield 81, 3) := by decide +kernel
theorem dX11_image_100 : decode cX11_image 100 = .ok (.sipush 525, 3) := by decide +kernel
theorem dX11_image_103 : decode cX11_image 103 = .ok (.aload_n 0, 1) := by decide +kernel
theorem dX11_image_104 : decode cX11_image 104 = .ok (.getfield 16, 3) := by decide +kernel
theorem dX11_image_107 : decode cX11_image 107 = .ok (.iastore, 1) := by decide +kernel
theorem dX11_image_108 : decode cX11_image 108 = .ok (.iconst 1, 1) := by decide +kernel
theorem dX11_image_109 : decode cX11_image 109 = .ok (.ireturn, 1) := by decide +kernel
theorem dX11_image_110 : decode cX11_image 110 = .ok (.iconst 0, 1) := by decide +kernel
theorem dX11_image_111 : decode cX11_image 111 = .ok (.istore_n 2, 1) := by decide +kernel
theorem dX11_image_112 : decode cX11_image 112 = .ok (.iload_n 2, 1) := by decide +kernel
theorem dX11_image_113 : decode cX11_image 113 = .ok (.sipush 512, 3) := by decide +kernel
theorem dX11_image_116 : decode cX11_image 116 = .ok (.if_icmp .ge 21, 3) := by decide +kernel
theorem dX11_image_119 : decode cX11_image 119 = .ok (.aload_n 0, 1) := by decide +kernel
theorem dX11_image_120 : decode cX11_image 120 = .ok (.getfield 7, 3) := by decide +kernel
theorem dX11_image_123 : decode cX11_image 123 = .ok (.iload_n 2, 1) := by decide +kernel
theorem dX11_image_124 : decode cX11_image 124 = .ok (.aload_n 0, 1) := by decide +kernel
theorem dX11_image_125 : decode cX11_image 125 = .ok (.getfield 81, 3) := by decide +kernel
theorem dX11_image_128 : decode cX11_image 128 = .ok (.iload_n 2, 1) := by decide +kernel
theorem dX11_image_129 : decode cX11_image 129 = .ok (.iaload, 1) := by decide +kernel
theorem dX11_image_130 : decode cX11_image 130 = .ok (.iastore, 1) := by decide +kernel
theorem dX11_image_131 : decode cX11_image 131 = .ok (.iinc 2 1, 3) := by decide +kernel
theorem dX11_image_134 : decode cX11_image 134 = .ok (.goto (-22), 3) := by decide +kernel
theorem dX11_image_137 : decode cX11_image 137 = .ok (.iconst 0, 1) := by decide +kernel
theorem dX11_image_138 : decode cX11_image 138 = .ok (.istore_n 2, 1) := by decide +kernel
theorem dX11_image_139 : decode cX11_image 139 = .ok (.iload_n 2, 1) := by decide +kernel
theorem dX11_image_140 : decode cX11_image 140 = .ok (.bipush 12, 2) := by decide +kernel
theorem dX11_image_142 : decode cX11_image 142 = .ok (.if_icmp .ge 25, 3) := by decide +kernel
theorem dX11_image_145 : decode cX11_image 145 = .ok (.aload_n 0, 1) := by decide +kernel
theorem dX11_image_146 : decode cX11_image 146 = .ok (.getfield 20, 3) := by decide +kernel
theorem dX11_image_149 : decode cX11_image 149 = .ok (.iload_n 2, 1) := by decide +kernel
theorem dX11_image_150 : decode cX11_image 150 = .ok (.aload_n 0, 1) := by decide +kernel
theorem dX11_image_151 : decode cX11_image 151 = .ok (.getfield 81, 3) := by decide +kernel
theorem dX11_image_154 : decode cX11_image 154 = .ok (.sipush 512, 3) := by decide +kernel
theorem dX11_image_157 : decode cX11_image 157 = .ok (.iload_n 2, 1) := by decide +kernel
theorem dX11_image_158 : decode cX11_image 158 = .ok (.iadd, 1) := by decide +kernel
theorem dX11_image_159 : decode cX11_image 159 = .ok (.iaload, 1) := by decide +kernel
theorem dX11_image_160 : decode cX11_image 160 = .ok (.iastore, 1) := by decide +kernel
theorem dX11_image_161 : decode cX11_image 161 = .ok (.iinc 2 1, 3) := by decide +kernel
theorem dX11_image_164 : decode cX11_image 164 = .ok (.goto (-25), 3) := by decide +kernel
theorem dX11_image_167 : decode cX11_image 167 = .ok (.aload_n 0, 1) := by decide +kernel
theorem dX11_image_168 : decode cX11_image 168 = .ok (.aload_n 0, 1) := by decide +kernel
theorem dX11_image_169 : decode cX11_image 169 = .ok (.getfield 81, 3) := by decide +kernel
theorem dX11_image_172 : decode cX11_image 172 = .ok (.sipush 524, 3) := by decide +kernel
theorem dX11_image_175 : decode cX11_image 175 = .ok (.iaload, 1) := by decide +kernel
theorem dX11_image_176 : decode cX11_image 176 = .ok (.putfield 138, 3) := by decide +kernel
theorem dX11_image_179 : decode cX11_image 179 = .ok (.aload_n 0, 1) := by decide +kernel
theorem dX11_image_180 : decode cX11_image 180 = .ok (.aload_n 0, 1) := by decide +kernel
theorem dX11_image_181 : decode cX11_image 181 = .ok (.getfield 81, 3) := by decide +kernel
theorem dX11_image_184 : decode cX11_image 184 = .ok (.sipush 525, 3) := by decide +kernel
theorem dX11_image_187 : decode cX11_image 187 = .ok (.iaload, 1) := by decide +kernel
theorem dX11_image_188 : decode cX11_image 188 = .ok (.putfield 16, 3) := by decide +kernel
theorem dX11_image_191 : decode cX11_image 191 = .ok (.aload_n 0, 1) := by decide +kernel
theorem dX11_image_192 : decode cX11_image 192 = .ok (.iconst 0, 1) := by decide +kernel
theorem dX11_image_193 : decode cX11_image 193 = .ok (.putfield 98, 3) := by decide +kernel
theorem dX11_image_196 : decode cX11_image 196 = .ok (.aload_n 0, 1) := by decide +kernel
theorem dX11_image_197 : decode cX11_image 197 = .ok (.iconst 0, 1) := by decide +kernel
theorem dX11_image_198 : decode cX11_image 198 = .ok (.putfield 101, 3) := by decide +kernel
theorem dX11_image_201 : decode cX11_image 201 = .ok (.iconst 1, 1) := by decide +kernel
theorem dX11_image_202 : decode cX11_image 202 = .ok (.ireturn, 1) := by decide +kernel
abbrev mX11_image : MI := (RX11, yX11_image, cX11_image, 3, (some .boolean))
theorem mok_X11_image : MOKv mX11_image 1 := ⟨⟨bm_1827, bm_127, ⟨by decide, by decide⟩, by decide +kernel⟩, bm_1825, bm_1826⟩
def f_X11_image_139b   (a0 : Nat) (k139 : Int32 → MH → Option (Int32 × MH)) (p : Int32) (h : MH) : Option (Int32 × MH) :=
  if p < 12 then
    (gR h a0 5).bind fun a_1 =>
    (gR h a0 45).bind fun a_2 =>
    (ldI h a_2 (512 + p)).bind fun x_3 =>
    (stI h a_1 p x_3).bind fun h_4 =>
    k139 (p + 1) h_4
  else
    (gR h a0 45).bind fun a_5 =>
    (ldI h a_5 524).bind fun x_6 =>
    lt (sI h a0 6 x_6) fun h_7 =>
    (gR h_7 a0 45).bind fun a_8 =>
    (ldI h_7 a_8 525).bind fun x_9 =>
    lt (sI h_7 a0 4 x_9) fun h_10 =>
    lt (sI h_10 a0 3 0) fun h_11 =>
    lt (sI h_11 a0 7 0) fun h_12 =>
    some (1, h_12)
def f_X11_image_139   (a0 : Nat) : Nat → Int32 → MH → Option (Int32 × MH) := lp (f_X11_image_139b a0)
def f_X11_image_112b   (a0 : Nat) (k112 : Int32 → MH → Option (Int32 × MH)) (p : Int32) (h : MH) : Option (Int32 × MH) :=
  if p < 512 then
    (gR h a0 1).bind fun a_1 =>
    (gR h a0 45).bind fun a_2 =>
    (ldI h a_2 p).bind fun x_3 =>
    (stI h a_1 p x_3).bind fun h_4 =>
    k112 (p + 1) h_4
  else
    f_X11_image_139 a0 FU 0 h
def f_X11_image_112   (a0 : Nat) : Nat → Int32 → MH → Option (Int32 × MH) := lp (f_X11_image_112b a0)
def f_X11_image_56b   (a0 : Nat) (k56 : Int32 → MH → Option (Int32 × MH)) (p : Int32) (h : MH) : Option (Int32 × MH) :=
  if p < 12 then
    (gR h a0 45).bind fun a_1 =>
    (gR h a0 5).bind fun a_2 =>
    (ldI h a_2 p).bind fun x_3 =>
    (stI h a_1 (512 + p) x_3).bind fun h_4 =>
    k56 (p + 1) h_4
  else
    (gR h a0 45).bind fun a_5 =>
    (stI h a_5 524 (gI h a0 6)).bind fun h_6 =>
    (gR h_6 a0 45).bind fun a_7 =>
    (stI h_6 a_7 525 (gI h_6 a0 4)).bind fun h_8 =>
    some (1, h_8)
def f_X11_image_56   (a0 : Nat) : Nat → Int32 → MH → Option (Int32 × MH) := lp (f_X11_image_56b a0)
def f_X11_image_29b   (a0 : Nat) (k29 : Int32 → MH → Option (Int32 × MH)) (p : Int32) (h : MH) : Option (Int32 × MH) :=
  if p < 512 then
    (gR h a0 45).bind fun a_1 =>
    (gR h a0 1).bind fun a_2 =>
    (ldI h a_2 p).bind fun x_3 =>
    (stI h a_1 p x_3).bind fun h_4 =>
    k29 (p + 1) h_4
  else
    f_X11_image_56 a0 FU 0 h
def f_X11_image_29   (a0 : Nat) : Nat → Int32 → MH → Option (Int32 × MH) := lp (f_X11_image_29b a0)
def f_X11_image_18   (a0 : Nat) (x1 : Int32) (h : MH) : Option (Int32 × MH) :=
  lt (sI h a0 44 1) fun h_1 =>
  if x1 = 0 then
    f_X11_image_112 a0 FU 0 h_1
  else
    f_X11_image_29 a0 FU 0 h_1
def f_X11_image   (a0 : Nat) (x1 : Int32) (h : MH) : Option (Int32 × MH) :=
  lt (sI h a0 0 0) fun h_1 =>
  if x1 = 0 then
    if (gI h_1 a0 44) = 0 then
      some (0, h_1)
    else
      f_X11_image_18 a0 x1 h_1
  else
    f_X11_image_18 a0 x1 h_1
set_option maxRecDepth 100000 in
set_option maxHeartbeats 4000000 in
theorem v_X11_image_139b {l : Launch} {G : GE} {B N : Nat} {S : List SHP} {o : Int32 × MH} {a0 : Nat}    (hs0 : S[a0]? = some (.inl 11)) {k139 : Int32 → MH → Option (Int32 × MH)} (hk139 : ∀ (p : Int32) (h : MH), k139 p h = some o → V l G B N mX11_image (rmm 3 0 0) false 0 0 (QI S o) S 0 0 139 [(0, .ref a0), (2, .int p)] [] h) {p : Int32} {h : MH} (hf : f_X11_image_139b a0 k139 p h = some o) : V l G B N mX11_image (rmm 3 0 0) false 0 0 (QI S o) S 0 0 139 [(0, .ref a0), (2, .int p)] [] h := by
  unfold f_X11_image_139b at hf
  refine V_iload_n (pc' := 140) dX11_image_139 rfl 1 rfl rfl ?_
  refine V_bipush (v := 12) (pc' := 142) dX11_image_140 rfl (by decide) ?_
  refine V_icmp_ge (tgt := 167) (pc' := 145) dX11_image_142 (by decide) rfl hf (fun hf => ?_) (fun hf => ?_)
  ·
    refine V_aload_n (pc' := 146) dX11_image_145 rfl 0 rfl rfl ?_
    refine V_getR (pc' := 149) 11 5 dX11_image_146 rfl (by decide) (Nat.le_of_ble_eq_true rfl) bm_1229 hs0 (fun _ _ _ => rfl) rfl hf (fun a_1 ha_1 hf => ?_)
    refine V_iload_n (pc' := 150) dX11_image_149 rfl 1 rfl rfl ?_
    refine V_aload_n (pc' := 151) dX11_image_150 rfl 0 rfl rfl ?_
    refine V_getR (pc' := 154) 11 45 dX11_image_151 rfl (by decide) (Nat.le_of_ble_eq_true rfl) bm_1269 hs0 (fun _ _ _ => rfl) rfl hf (fun a_2 ha_2 hf => ?_)
    refine V_sipush (v := 512) (pc' := 157) dX11_image_154 rfl (by decide) ?_
    refine V_iload_n (pc' := 158) dX11_image_157 rfl 1 rfl rfl ?_
    refine V_iadd (pc' := 159) dX11_image_158 rfl ?_
    refine V_iald (pc' := 160) dX11_image_159 rfl ha_2 hf (fun x_3 hf => ?_)
    refine V_iast (pc' := 161) dX11_image_160 rfl ha_1 hf (fun h_4 hf => ?_)
    refine V_iinc (v := (p + 1)) (lv' := [(2, .int (p + 1)), (0, .ref a0)]) (pc' := 164) dX11_image_161 rfl 1 rfl rfl (Nat.le_of_ble_eq_true rfl) rfl ?_
    refine V_goto (tgt := 139) dX11_image_164 (by decide) ?_
    exact V_sub (lv' := [(0, .ref a0), (2, .int (p + 1))]) [1, 0] rfl (hk139 (p + 1) h_4 hf)
  ·
    refine V_aload_n (pc' := 168) dX11_image_167 rfl 0 rfl rfl ?_
    refine V_aload_n (pc' := 169) dX11_image_168 rfl 0 rfl rfl ?_
    refine V_getR (pc' := 172) 11 45 dX11_image_169 rfl (by decide) (Nat.le_of_ble_eq_true rfl) bm_1269 hs0 (fun _ _ _ => rfl) rfl hf (fun a_5 ha_5 hf => ?_)
    refine V_sipush (v := 524) (pc' := 175) dX11_image_172 rfl (by decide) ?_
    refine V_iald (pc' := 176) dX11_image_175 rfl ha_5 hf (fun x_6 hf => ?_)
    refine V_putI (pc' := 179) 11 6 dX11_image_176 rfl (by decide) (Nat.le_of_ble_eq_true rfl) bm_1230 hs0 (Or.inl rfl) rfl ?_
    refine V_nmH hf (fun h_7 hf => ?_)
    refine V_aload_n (pc' := 180) dX11_image_179 rfl 0 rfl rfl ?_
    refine V_aload_n (pc' := 181) dX11_image_180 rfl 0 rfl rfl ?_
    refine V_getR (pc' := 184) 11 45 dX11_image_181 rfl (by decide) (Nat.le_of_ble_eq_true rfl) bm_1269 hs0 (fun _ _ _ => rfl) rfl hf (fun a_8 ha_8 hf => ?_)
    refine V_sipush (v := 525) (pc' := 187) dX11_image_184 rfl (by decide) ?_
    refine V_iald (pc' := 188) dX11_image_187 rfl ha_8 hf (fun x_9 hf => ?_)
    refine V_putI (pc' := 191) 11 4 dX11_image_188 rfl (by decide) (Nat.le_of_ble_eq_true rfl) bm_1228 hs0 (Or.inl rfl) rfl ?_
    refine V_nmH hf (fun h_10 hf => ?_)
    refine V_aload_n (pc' := 192) dX11_image_191 rfl 0 rfl rfl ?_
    refine V_iconst (v := 0) (pc' := 193) dX11_image_192 rfl (by decide) ?_
    refine V_putI (pc' := 196) 11 3 dX11_image_193 rfl (by decide) (Nat.le_of_ble_eq_true rfl) bm_1227 hs0 (Or.inl rfl) rfl ?_
    refine V_nmH hf (fun h_11 hf => ?_)
    refine V_aload_n (pc' := 197) dX11_image_196 rfl 0 rfl rfl ?_
    refine V_iconst (v := 0) (pc' := 198) dX11_image_197 rfl (by decide) ?_
    refine V_putZL (pc' := 201) 11 7 dX11_image_198 rfl (by decide) (Nat.le_of_ble_eq_true rfl) bm_1231 hs0 rfl rfl (by decide) ?_
    refine V_nmH hf (fun h_12 hf => ?_)
    refine V_iconst (v := 1) (pc' := 202) dX11_image_201 rfl (by decide) ?_
    obtain rfl := Option.some.inj hf
    exact V_zretL dX11_image_202 rfl rfl rfl (by decide) ⟨rfl, rfl, rfl⟩
theorem v_X11_image_139 {l : Launch} {G : GE} {B N : Nat} {S : List SHP} {o : Int32 × MH} {a0 : Nat}    (hs0 : S[a0]? = some (.inl 11)) {n : Nat} {p : Int32} {h : MH} (hf : f_X11_image_139 a0 n p h = some o) : V l G B N mX11_image (rmm 3 0 0) false 0 0 (QI S o) S 0 0 139 [(0, .ref a0), (2, .int p)] [] h :=
  V_lp (VV := fun p h => V l G B N mX11_image (rmm 3 0 0) false 0 0 (QI S o) S 0 0 139 [(0, .ref a0), (2, .int p)] [] h) (fun _ hk _ _ hf => v_X11_image_139b hs0 hk hf) n p h hf
set_option maxRecDepth 100000 in
set_option maxHeartbeats 4000000 in
theorem v_X11_image_112b {l : Launch} {G : GE} {B N : Nat} {S : List SHP} {o : Int32 × MH} {a0 : Nat}    (hs0 : S[a0]? = some (.inl 11)) {k112 : Int32 → MH → Option (Int32 × MH)} (hk112 : ∀ (p : Int32) (h : MH), k112 p h = some o → V l G B N mX11_image (rmm 3 0 0) false 0 0 (QI S o) S 0 0 112 [(0, .ref a0), (2, .int p)] [] h) {p : Int32} {h : MH} (hf : f_X11_image_112b a0 k112 p h = some o) : V l G B N mX11_image (rmm 3 0 0) false 0 0 (QI S o) S 0 0 112 [(0, .ref a0), (2, .int p)] [] h := by
  unfold f_X11_image_112b at hf
  refine V_iload_n (pc' := 113) dX11_image_112 rfl 1 rfl rfl ?_
  refine V_sipush (v := 512) (pc' := 116) dX11_image_113 rfl (by decide) ?_
  refine V_icmp_ge (tgt := 137) (pc' := 119) dX11_image_116 (by decide) rfl hf (fun hf => ?_) (fun hf => ?_)
  ·
    refine V_aload_n (pc' := 120) dX11_image_119 rfl 0 rfl rfl ?_
    refine V_getR (pc' := 123) 11 1 dX11_image_120 rfl (by decide) (Nat.le_of_ble_eq_true rfl) bm_1225 hs0 (fun _ _ _ => rfl) rfl hf (fun a_1 ha_1 hf => ?_)
    refine V_iload_n (pc' := 124) dX11_image_123 rfl 1 rfl rfl ?_
    refine V_aload_n (pc' := 125) dX11_image_124 rfl 0 rfl rfl ?_
    refine V_getR (pc' := 128) 11 45 dX11_image_125 rfl (by decide) (Nat.le_of_ble_eq_true rfl) bm_1269 hs0 (fun _ _ _ => rfl) rfl hf (fun a_2 ha_2 hf => ?_)
    refine V_iload_n (pc' := 129) dX11_image_128 rfl 1 rfl rfl ?_
    refine V_iald (pc' := 130) dX11_image_129 rfl ha_2 hf (fun x_3 hf => ?_)
    refine V_iast (pc' := 131) dX11_image_130 rfl ha_1 hf (fun h_4 hf => ?_)
    refine V_iinc (v := (p + 1)) (lv' := [(2, .int (p + 1)), (0, .ref a0)]) (pc' := 134) dX11_image_131 rfl 1 rfl rfl (Nat.le_of_ble_eq_true rfl) rfl ?_
    refine V_goto (tgt := 112) dX11_image_134 (by decide) ?_
    exact V_sub (lv' := [(0, .ref a0), (2, .int (p + 1))]) [1, 0] rfl (hk112 (p + 1) h_4 hf)
  ·
    refine V_iconst (v := 0) (pc' := 138) dX11_image_137 rfl (by decide) ?_
    refine V_istore_n (lv' := [(2, .int 0), (0, .ref a0)]) (pc' := 139) dX11_image_138 rfl rfl (Nat.le_of_ble_eq_true rfl) rfl ?_
    exact V_sub (lv' := [(0, .ref a0), (2, .int 0)]) [1, 0] rfl (v_X11_image_139 hs0 hf)
theorem v_X11_image_112 {l : Launch} {G : GE} {B N : Nat} {S : List SHP} {o : Int32 × MH} {a0 : Nat}    (hs0 : S[a0]? = some (.inl 11)) {n : Nat} {p : Int32} {h : MH} (hf : f_X11_image_112 a0 n p h = some o) : V l G B N mX11_image (rmm 3 0 0) false 0 0 (QI S o) S 0 0 112 [(0, .ref a0), (2, .int p)] [] h :=
  V_lp (VV := fun p h => V l G B N mX11_image (rmm 3 0 0) false 0 0 (QI S o) S 0 0 112 [(0, .ref a0), (2, .int p)] [] h) (fun _ hk _ _ hf => v_X11_image_112b hs0 hk hf) n p h hf
set_option maxRecDepth 100000 in
set_option maxHeartbeats 4000000 in
theorem v_X11_image_56b {l : Launch} {G : GE} {B N : Nat} {S : List SHP} {o : Int32 × MH} {a0 : Nat}    (hs0 : S[a0]? = some (.inl 11)) {k56 : Int32 → MH → Option (Int32 × MH)} (hk56 : ∀ (p : Int32) (h : MH), k56 p h = some o → V l G B N mX11_image (rmm 3 0 0) false 0 0 (QI S o) S 0 0 56 [(0, .ref a0), (2, .int p)] [] h) {p : Int32} {h : MH} (hf : f_X11_image_56b a0 k56 p h = some o) : V l G B N mX11_image (rmm 3 0 0) false 0 0 (QI S o) S 0 0 56 [(0, .ref a0), (2, .int p)] [] h := by
  unfold f_X11_image_56b at hf
  refine V_iload_n (pc' := 57) dX11_image_56 rfl 1 rfl rfl ?_
  refine V_bipush (v := 12) (pc' := 59) dX11_image_57 rfl (by decide) ?_
  refine V_icmp_ge (tgt := 84) (pc' := 62) dX11_image_59 (by decide) rfl hf (fun hf => ?_) (fun hf => ?_)
  ·
    refine V_aload_n (pc' := 63) dX11_image_62 rfl 0 rfl rfl ?_
    refine V_getR (pc' := 66) 11 45 dX11_image_63 rfl (by decide) (Nat.le_of_ble_eq_true rfl) bm_1269 hs0 (fun _ _ _ => rfl) rfl hf (fun a_1 ha_1 hf => ?_)
    refine V_sipush (v := 512) (pc' := 69) dX11_image_66 rfl (by decide) ?_
    refine V_iload_n (pc' := 70) dX11_image_69 rfl 1 rfl rfl ?_
    refine V_iadd (pc' := 71) dX11_image_70 rfl ?_
    refine V_aload_n (pc' := 72) dX11_image_71 rfl 0 rfl rfl ?_
    refine V_getR (pc' := 75) 11 5 dX11_image_72 rfl (by decide) (Nat.le_of_ble_eq_true rfl) bm_1229 hs0 (fun _ _ _ => rfl) rfl hf (fun a_2 ha_2 hf => ?_)
    refine V_iload_n (pc' := 76) dX11_image_75 rfl 1 rfl rfl ?_
    refine V_iald (pc' := 77) dX11_image_76 rfl ha_2 hf (fun x_3 hf => ?_)
    refine V_iast (pc' := 78) dX11_image_77 rfl ha_1 hf (fun h_4 hf => ?_)
    refine V_iinc (v := (p + 1)) (lv' := [(2, .int (p + 1)), (0, .ref a0)]) (pc' := 81) dX11_image_78 rfl 1 rfl rfl (Nat.le_of_ble_eq_true rfl) rfl ?_
    refine V_goto (tgt := 56) dX11_image_81 (by decide) ?_
    exact V_sub (lv' := [(0, .ref a0), (2, .int (p + 1))]) [1, 0] rfl (hk56 (p + 1) h_4 hf)
  ·
    refine V_aload_n (pc' := 85) dX11_image_84 rfl 0 rfl rfl ?_
    refine V_getR (pc' := 88) 11 45 dX11_image_85 rfl (by decide) (Nat.le_of_ble_eq_true rfl) bm_1269 hs0 (fun _ _ _ => rfl) rfl hf (fun a_5 ha_5 hf => ?_)
    refine V_sipush (v := 524) (pc' := 91) dX11_image_88 rfl (by decide) ?_
    refine V_aload_n (pc' := 92) dX11_image_91 rfl 0 rfl rfl ?_
    refine V_getI (pc' := 95) 11 6 dX11_image_92 rfl (by decide) (Nat.le_of_ble_eq_true rfl) bm_1230 hs0 (fun _ _ _ => rfl) ?_
    refine V_iast (pc' := 96) dX11_image_95 rfl ha_5 hf (fun h_6 hf => ?_)
    refine V_aload_n (pc' := 97) dX11_image_96 rfl 0 rfl rfl ?_
    refine V_getR (pc' := 100) 11 45 dX11_image_97 rfl (by decide) (Nat.le_of_ble_eq_true rfl) bm_1269 hs0 (fun _ _ _ => rfl) rfl hf (fun a_7 ha_7 hf => ?_)
    refine V_sipush (v := 525) (pc' := 103) dX11_image_100 rfl (by decide) ?_
    refine V_aload_n (pc' := 104) dX11_image_103 rfl 0 rfl rfl ?_
    refine V_getI (pc' := 107) 11 4 dX11_image_104 rfl (by decide) (Nat.le_of_ble_eq_true rfl) bm_1228 hs0 (fun _ _ _ => rfl) ?_
    refine V_iast (pc' := 108) dX11_image_107 rfl ha_7 hf (fun h_8 hf => ?_)
    refine V_iconst (v := 1) (pc' := 109) dX11_image_108 rfl (by decide) ?_
    obtain rfl := Option.some.inj hf
    exact V_zretL dX11_image_109 rfl rfl rfl (by decide) ⟨rfl, rfl, rfl⟩
theorem v_X11_image_56 {l : Launch} {G : GE} {B N : Nat} {S : List SHP} {o : Int32 × MH} {a0 : Nat}    (hs0 : S[a0]? = some (.inl 11)) {n : Nat} {p : Int32} {h : MH} (hf : f_X11_image_56 a0 n p h = some o) : V l G B N mX11_image (rmm 3 0 0) false 0 0 (QI S o) S 0 0 56 [(0, .ref a0), (2, .int p)] [] h :=
  V_lp (VV := fun p h => V l G B N mX11_image (rmm 3 0 0) false 0 0 (QI S o) S 0 0 56 [(0, .ref a0), (2, .int p)] [] h) (fun _ hk _ _ hf => v_X11_image_56b hs0 hk hf) n p h hf
set_option maxRecDepth 100000 in
set_option maxHeartbeats 4000000 in
theorem v_X11_image_29b {l : Launch} {G : GE} {B N : Nat} {S : List SHP} {o : Int32 × MH} {a0 : Nat}    (hs0 : S[a0]? = some (.inl 11)) {k29 : Int32 → MH → Option (Int32 × MH)} (hk29 : ∀ (p : Int32) (h : MH), k29 p h = some o → V l G B N mX11_image (rmm 3 0 0) false 0 0 (QI S o) S 0 0 29 [(0, .ref a0), (2, .int p)] [] h) {p : Int32} {h : MH} (hf : f_X11_image_29b a0 k29 p h = some o) : V l G B N mX11_image (rmm 3 0 0) false 0 0 (QI S o) S 0 0 29 [(0, .ref a0), (2, .int p)] [] h := by
  unfold f_X11_image_29b at hf
  refine V_iload_n (pc' := 30) dX11_image_29 rfl 1 rfl rfl ?_
  refine V_sipush (v := 512) (pc' := 33) dX11_image_30 rfl (by decide) ?_
  refine V_icmp_ge (tgt := 54) (pc' := 36) dX11_image_33 (by decide) rfl hf (fun hf => ?_) (fun hf => ?_)
  ·
    refine V_aload_n (pc' := 37) dX11_image_36 rfl 0 rfl rfl ?_
    refine V_getR (pc' := 40) 11 45 dX11_image_37 rfl (by decide) (Nat.le_of_ble_eq_true rfl) bm_1269 hs0 (fun _ _ _ => rfl) rfl hf (fun a_1 ha_1 hf => ?_)
    refine V_iload_n (pc' := 41) dX11_image_40 rfl 1 rfl rfl ?_
    refine V_aload_n (pc' := 42) dX11_image_41 rfl 0 rfl rfl ?_
    refine V_getR (pc' := 45) 11 1 dX11_image_42 rfl (by decide) (Nat.le_of_ble_eq_true rfl) bm_1225 hs0 (fun _ _ _ => rfl) rfl hf (fun a_2 ha_2 hf => ?_)
    refine V_iload_n (pc' := 46) dX11_image_45 rfl 1 rfl rfl ?_
    refine V_iald (pc' := 47) dX11_image_46 rfl ha_2 hf (fun x_3 hf => ?_)
    refine V_iast (pc' := 48) dX11_image_47 rfl ha_1 hf (fun h_4 hf => ?_)
    refine V_iinc (v := (p + 1)) (lv' := [(2, .int (p + 1)), (0, .ref a0)]) (pc' := 51) dX11_image_48 rfl 1 rfl rfl (Nat.le_of_ble_eq_true rfl) rfl ?_
    refine V_goto (tgt := 29) dX11_image_51 (by decide) ?_
    exact V_sub (lv' := [(0, .ref a0), (2, .int (p + 1))]) [1, 0] rfl (hk29 (p + 1) h_4 hf)
  ·
    refine V_iconst (v := 0) (pc' := 55) dX11_image_54 rfl (by decide) ?_
    refine V_istore_n (lv' := [(2, .int 0), (0, .ref a0)]) (pc' := 56) dX11_image_55 rfl rfl (Nat.le_of_ble_eq_true rfl) rfl ?_
    exact V_sub (lv' := [(0, .ref a0), (2, .int 0)]) [1, 0] rfl (v_X11_image_56 hs0 hf)
theorem v_X11_image_29 {l : Launch} {G : GE} {B N : Nat} {S : List SHP} {o : Int32 × MH} {a0 : Nat}    (hs0 : S[a0]? = some (.inl 11)) {n : Nat} {p : Int32} {h : MH} (hf : f_X11_image_29 a0 n p h = some o) : V l G B N mX11_image (rmm 3 0 0) false 0 0 (QI S o) S 0 0 29 [(0, .ref a0), (2, .int p)] [] h :=
  V_lp (VV := fun p h => V l G B N mX11_image (rmm 3 0 0) false 0 0 (QI S o) S 0 0 29 [(0, .ref a0), (2, .int p)] [] h) (fun _ hk _ _ hf => v_X11_image_29b hs0 hk hf) n p h hf
set_option maxRecDepth 100000 in
set_option maxHeartbeats 4000000 in
theorem v_X11_image_18 {l : Launch} {G : GE} {B N : Nat} {S : List SHP} {o : Int32 × MH} {a0 : Nat} {x1 : Int32}    (hs0 : S[a0]? = some (.inl 11)) {h : MH} (hf : f_X11_image_18 a0 x1 h = some o) : V l G B N mX11_image (rmm 3 0 0) false 0 0 (QI S o) S 0 0 18 [(0, .ref a0), (1, .int x1)] [] h := by
  unfold f_X11_image_18 at hf
  refine V_aload_n (pc' := 19) dX11_image_18 rfl 0 rfl rfl ?_
  refine V_iconst (v := 1) (pc' := 20) dX11_image_19 rfl (by decide) ?_
  refine V_putZL (pc' := 23) 11 44 dX11_image_20 rfl (by decide) (Nat.le_of_ble_eq_true rfl) bm_1268 hs0 rfl rfl (by decide) ?_
  refine V_nmH hf (fun h_1 hf => ?_)
  refine V_iload_n (pc' := 24) dX11_image_23 rfl 1 rfl rfl ?_
  refine V_if_eq (tgt := 110) (pc' := 27) dX11_image_24 (by decide) rfl hf (fun hf => ?_) (fun hf => ?_)
  ·
    refine V_iconst (v := 0) (pc' := 111) dX11_image_110 rfl (by decide) ?_
    refine V_istore_n (lv' := [(2, .int 0), (0, .ref a0), (1, .int x1)]) (pc' := 112) dX11_image_111 rfl rfl (Nat.le_of_ble_eq_true rfl) rfl ?_
    exact V_sub (lv' := [(0, .ref a0), (2, .int 0)]) [1, 0] rfl (v_X11_image_112 hs0 hf)
  ·
    refine V_iconst (v := 0) (pc' := 28) dX11_image_27 rfl (by decide) ?_
    refine V_istore_n (lv' := [(2, .int 0), (0, .ref a0), (1, .int x1)]) (pc' := 29) dX11_image_28 rfl rfl (Nat.le_of_ble_eq_true rfl) rfl ?_
    exact V_sub (lv' := [(0, .ref a0), (2, .int 0)]) [1, 0] rfl (v_X11_image_29 hs0 hf)
set_option maxRecDepth 100000 in
set_option maxHeartbeats 4000000 in
theorem v_X11_image {l : Launch} {G : GE} {B N : Nat} {S : List SHP} {o : Int32 × MH} {a0 : Nat} {x1 : Int32}    (hs0 : S[a0]? = some (.inl 11)) {h : MH} (hf : f_X11_image a0 x1 h = some o) : V l G B N mX11_image (rmm 3 0 0) false 0 0 (QI S o) S 0 0 0 [(0, .ref a0), (1, .int x1)] [] h := by
  unfold f_X11_image at hf
  refine V_aload_n (pc' := 1) dX11_image_0 rfl 0 rfl rfl ?_
  refine V_iconst (v := 0) (pc' := 2) dX11_image_1 rfl (by decide) ?_
  refine V_putI (pc' := 5) 11 0 dX11_image_2 rfl (by decide) (Nat.le_of_ble_eq_true rfl) bm_1224 hs0 (Or.inl rfl) rfl ?_
  refine V_nmH hf (fun h_1 hf => ?_)
  refine V_iload_n (pc' := 6) dX11_image_5 rfl 1 rfl rfl ?_
  refine V_if_ne (tgt := 18) (pc' := 9) dX11_image_6 (by decide) rfl hf (fun hf => ?_) (fun hf => ?_)
  ·
    refine V_aload_n (pc' := 10) dX11_image_9 rfl 0 rfl rfl ?_
    refine V_getI (pc' := 13) 11 44 dX11_image_10 rfl (by decide) (Nat.le_of_ble_eq_true rfl) bm_1268 hs0 (fun _ _ _ => rfl) ?_
    refine V_if_ne (tgt := 18) (pc' := 16) dX11_image_13 (by decide) rfl hf (fun hf => ?_) (fun hf => ?_)
    ·
      refine V_iconst (v := 0) (pc' := 17) dX11_image_16 rfl (by decide) ?_
      obtain rfl := Option.some.inj hf
      exact V_zretL dX11_image_17 rfl rfl rfl (by decide) ⟨rfl, rfl, rfl⟩
    ·
      exact V_sub (lv' := [(0, .ref a0), (1, .int x1)]) [0, 1] rfl (v_X11_image_18 hs0 hf)
  ·
    exact V_sub (lv' := [(0, .ref a0), (1, .int x1)]) [0, 1] rfl (v_X11_image_18 hs0 hf)
theorem ct_X11_image {l : Launch} {S : List SHP} {h : MH} {a0 : Nat} {x1 : Int32} (hs0 : S[a0]? = some (.inl 11)) {q : Int32 × MH} (hf : f_X11_image a0 x1 h = some q) : CT l mX11_image 3 false 0 0 S [.ref a0, .int x1] h (QI S q) :=
  CT_ofV (by decide) rfl (Nat.le_of_ble_eq_true rfl) (fun G B hT => v_X11_image hs0 hf)
/-! LabelStacksModel.setOf(II)I -/
theorem dX11_setOf_0 : decode cX11_setOf 0 = .ok (.iconst 0, 1) := by decide +kernel
theorem dX11_setOf_1 : decode cX11_setOf 1 = .ok (.istore_n 3, 1) := by decide +kernel
theorem dX11_setOf_2 : decode cX11_setOf 2 = .ok (.iconst 0, 1) := by decide +kernel
theorem dX11_setOf_3 : decode cX11_setOf 3 = .ok (.istore 4, 2) := by decide +kernel
theorem dX11_setOf_5 : decode cX11_setOf 5 = .ok (.iload 4, 2) := by decide +kernel
theorem dX11_setOf_7 : decode cX11_setOf 7 = .ok (.iload_n 2, 1) := by decide +kernel
theorem dX11_setOf_8 : decode cX11_setOf 8 = .ok (.if_icmp .ge 28, 3) := by decide +kernel
theorem dX11_setOf_11 : decode cX11_setOf 11 = .ok (.aload_n 0, 1) := by decide +kernel
theorem dX11_setOf_12 : decode cX11_setOf 12 = .ok (.getfield 7, 3) := by decide +kernel
theorem dX11_setOf_15 : decode cX11_setOf 15 = .ok (.iload_n 1, 1) := by decide +kernel
theorem dX11_setOf_16 : decode cX11_setOf 16 = .ok (.iload 4, 2) := by decide +kernel
theorem dX11_setOf_18 : decode cX11_setOf 18 = .ok (.iadd, 1) := by decide +kernel
theorem dX11_setOf_19 : decode cX11_setOf 19 = .ok (.iaload, 1) := by decide +kernel
theorem dX11_setOf_20 : decode cX11_setOf 20 = .ok (.ifCond .le 10, 3) := by decide +kernel
theorem dX11_setOf_23 : decode cX11_setOf 23 = .ok (.iload_n 3, 1) := by decide +kernel
theorem dX11_setOf_24 : decode cX11_setOf 24 = .ok (.iconst 1, 1) := by decide +kernel
theorem dX11_setOf_25 : decode cX11_setOf 25 = .ok (.iload 4, 2) := by decide +kernel
theorem dX11_setOf_27 : decode cX11_setOf 27 = .ok (.ishl, 1) := by decide +kernel
theorem dX11_setOf_28 : decode cX11_setOf 28 = .ok (.ior, 1) := by decide +kernel
theorem dX11_setOf_29 : decode cX11_setOf 29 = .ok (.istore_n 3, 1) := by decide +kernel
theorem dX11_setOf_30 : decode cX11_setOf 30 = .ok (.iinc 4 1, 3) := by decide +kernel
theorem dX11_setOf_33 : decode cX11_setOf 33 = .ok (.goto (-28), 3) := by decide +kernel
theorem dX11_setOf_36 : decode cX11_setOf 36 = .ok (.iload_n 3, 1) := by decide +kernel
theorem dX11_setOf_37 : decode cX11_setOf 37 = .ok (.ireturn, 1) := by decide +kernel
abbrev mX11_setOf : MI := (RX11, yX11_setOf, cX11_setOf, 5, (some .int))
theorem mok_X11_setOf : MOKv mX11_setOf 2 := ⟨⟨bm_1835, bm_127, ⟨by decide, by decide⟩, by decide +kernel⟩, bm_1834, bm_111⟩
def f_X11_setOf_30  (k5 : Int32 × Int32 → MH → Option (Int32 × MH)) (a0 : Nat) (x1 : Int32) (x2 : Int32) (x3 : Int32) (x4 : Int32) (h : MH) : Option (Int32 × MH) :=
  k5 (x3, (x4 + 1)) h
def f_X11_setOf_5b   (a0 : Nat) (x1 : Int32) (x2 : Int32) (k5 : Int32 × Int32 → MH → Option (Int32 × MH)) (p : Int32 × Int32) (h : MH) : Option (Int32 × MH) :=
  if p.2 < x2 then
    (gR h a0 1).bind fun a_1 =>
    (ldI h a_1 (x1 + p.2)).bind fun x_2 =>
    if 0 < x_2 then
      lt (p.1 ||| ((1 : Int32) <<< (p.2 &&& 31))) fun x_3 =>
      f_X11_setOf_30 k5 a0 x1 x2 x_3 p.2 h
    else
      f_X11_setOf_30 k5 a0 x1 x2 p.1 p.2 h
  else
    some (p.1, h)
def f_X11_setOf_5   (a0 : Nat) (x1 : Int32) (x2 : Int32) : Nat → Int32 × Int32 → MH → Option (Int32 × MH) := lp (f_X11_setOf_5b a0 x1 x2)
def f_X11_setOf   (a0 : Nat) (x1 : Int32) (x2 : Int32) (h : MH) : Option (Int32 × MH) :=
  f_X11_setOf_5 a0 x1 x2 FU (0, 0) h
set_option maxRecDepth 100000 in
set_option maxHeartbeats 4000000 in
theorem v_X11_setOf_30 {l : Launch} {G : GE} {B N : Nat} {S : List SHP} {o : Int32 × MH} {a0 : Nat} {x1 : Int32} {x2 : Int32} {x3 : Int32} {x4 : Int32}  {k5 : Int32 × Int32 → MH → Option (Int32 × MH)} (hk5 : ∀ (p : Int32 × Int32) (h : MH), k5 p h = some o → V l G B N mX11_setOf (rmm 3 0 0) false 0 0 (QI S o) S 0 0 5 [(0, .ref a0), (1, .int x1), (2, .int x2), (3, .int p.1), (4, .int p.2)] [] h) (hs0 : S[a0]? = some (.inl 11)) {h : MH} (hf : f_X11_setOf_30 k5 a0 x1 x2 x3 x4 h = some o) : V l G B N mX11_setOf (rmm 3 0 0) false 0 0 (QI S o) S 0 0 30 [(0, .ref a0), (1, .int x1), (2, .int x2), (3, .int x3), (4, .int x4)] [] h := by
  unfold f_X11_setOf_30 at hf
  refine V_iinc (v := (x4 + 1)) (lv' := [(4, .int (x4 + 1)), (0, .ref a0), (1, .int x1), (2, .int x2), (3, .int x3)]) (pc' := 33) dX11_setOf_30 rfl 4 rfl rfl (Nat.le_of_ble_eq_true rfl) rfl ?_
  refine V_goto (tgt := 5) dX11_setOf_33 (by decide) ?_
  exact V_sub (lv' := [(0, .ref a0), (1, .int x1), (2, .int x2), (3, .int x3), (4, .int (x4 + 1))]) [1, 2, 3, 4, 0] rfl (hk5 (x3, (x4 + 1)) h hf)
set_option maxRecDepth 100000 in
set_option maxHeartbeats 4000000 in
theorem v_X11_setOf_5b {l : Launch} {G : GE} {B N : Nat} {S : List SHP} {o : Int32 × MH} {a0 : Nat} {x1 : Int32} {x2 : Int32}    (hs0 : S[a0]? = some (.inl 11)) {k5 : Int32 × Int32 → MH → Option (Int32 × MH)} (hk5 : ∀ (p : Int32 × Int32) (h : MH), k5 p h = some o → V l G B N mX11_setOf (rmm 3 0 0) false 0 0 (QI S o) S 0 0 5 [(0, .ref a0), (1, .int x1), (2, .int x2), (3, .int p.1), (4, .int p.2)] [] h) {p : Int32 × Int32} {h : MH} (hf : f_X11_setOf_5b a0 x1 x2 k5 p h = some o) : V l G B N mX11_setOf (rmm 3 0 0) false 0 0 (QI S o) S 0 0 5 [(0, .ref a0), (1, .int x1), (2, .int x2), (3, .int p.1), (4, .int p.2)] [] h := by
  unfold f_X11_setOf_5b at hf
  refine V_iload (pc' := 7) dX11_setOf_5 rfl 4 rfl ?_
  refine V_iload_n (pc' := 8) dX11_setOf_7 rfl 2 rfl rfl ?_
  refine V_icmp_ge (tgt := 36) (pc' := 11) dX11_setOf_8 (by decide) rfl hf (fun hf => ?_) (fun hf => ?_)
  ·
    refine V_aload_n (pc' := 12) dX11_setOf_11 rfl 0 rfl rfl ?_
    refine V_getR (pc' := 15) 11 1 dX11_setOf_12 rfl (by decide) (Nat.le_of_ble_eq_true rfl) bm_1225 hs0 (fun _ _ _ => rfl) rfl hf (fun a_1 ha_1 hf => ?_)
    refine V_iload_n (pc' := 16) dX11_setOf_15 rfl 1 rfl rfl ?_
    refine V_iload (pc' := 18) dX11_setOf_16 rfl 4 rfl ?_
    refine V_iadd (pc' := 19) dX11_setOf_18 rfl ?_
    refine V_iald (pc' := 20) dX11_setOf_19 rfl ha_1 hf (fun x_2 hf => ?_)
    refine V_if_le (tgt := 30) (pc' := 23) dX11_setOf_20 (by decide) rfl hf (fun hf => ?_) (fun hf => ?_)
    ·
      refine V_iload_n (pc' := 24) dX11_setOf_23 rfl 3 rfl rfl ?_
      refine V_iconst (v := 1) (pc' := 25) dX11_setOf_24 rfl (by decide) ?_
      refine V_iload (pc' := 27) dX11_setOf_25 rfl 4 rfl ?_
      refine V_ishl (pc' := 28) dX11_setOf_27 rfl ?_
      refine V_ior (pc' := 29) dX11_setOf_28 rfl ?_
      refine V_nmI hf (fun x_3 hf => ?_)
      refine V_istore_n (lv' := [(3, .int x_3), (0, .ref a0), (1, .int x1), (2, .int x2), (4, .int p.2)]) (pc' := 30) dX11_setOf_29 rfl rfl (Nat.le_of_ble_eq_true rfl) rfl ?_
      exact V_sub (lv' := [(0, .ref a0), (1, .int x1), (2, .int x2), (3, .int x_3), (4, .int p.2)]) [1, 2, 3, 0, 4] rfl (v_X11_setOf_30 hk5 hs0 hf)
    ·
      exact V_sub (lv' := [(0, .ref a0), (1, .int x1), (2, .int x2), (3, .int p.1), (4, .int p.2)]) [0, 1, 2, 3, 4] rfl (v_X11_setOf_30 hk5 hs0 hf)
  ·
    refine V_iload_n (pc' := 37) dX11_setOf_36 rfl 3 rfl rfl ?_
    obtain rfl := Option.some.inj hf
    exact V_iret dX11_setOf_37 rfl rfl rfl ⟨rfl, rfl, rfl⟩
theorem v_X11_setOf_5 {l : Launch} {G : GE} {B N : Nat} {S : List SHP} {o : Int32 × MH} {a0 : Nat} {x1 : Int32} {x2 : Int32}    (hs0 : S[a0]? = some (.inl 11)) {n : Nat} {p : Int32 × Int32} {h : MH} (hf : f_X11_setOf_5 a0 x1 x2 n p h = some o) : V l G B N mX11_setOf (rmm 3 0 0) false 0 0 (QI S o) S 0 0 5 [(0, .ref a0), (1, .int x1), (2, .int x2), (3, .int p.1), (4, .int p.2)] [] h :=
  V_lp (VV := fun p h => V l G B N mX11_setOf (rmm 3 0 0) false 0 0 (QI S o) S 0 0 5 [(0, .ref a0), (1, .int x1), (2, .int x2), (3, .int p.1), (4, .int p.2)] [] h) (fun _ hk _ _ hf => v_X11_setOf_5b hs0 hk hf) n p h hf
set_option maxRecDepth 100000 in
set_option maxHeartbeats 4000000 in
theorem v_X11_setOf {l : Launch} {G : GE} {B N : Nat} {S : List SHP} {o : Int32 × MH} {a0 : Nat} {x1 : Int32} {x2 : Int32}    (hs0 : S[a0]? = some (.inl 11)) {h : MH} (hf : f_X11_setOf a0 x1 x2 h = some o) : V l G B N mX11_setOf (rmm 3 0 0) false 0 0 (QI S o) S 0 0 0 [(0, .ref a0), (1, .int x1), (2, .int x2)] [] h := by
  unfold f_X11_setOf at hf
  refine V_iconst (v := 0) (pc' := 1) dX11_setOf_0 rfl (by decide) ?_
  refine V_istore_n (lv' := [(3, .int 0), (0, .ref a0), (1, .int x1), (2, .int x2)]) (pc' := 2) dX11_setOf_1 rfl rfl (Nat.le_of_ble_eq_true rfl) rfl ?_
  refine V_iconst (v := 0) (pc' := 3) dX11_setOf_2 rfl (by decide) ?_
  refine V_istore (lv' := [(4, .int 0), (3, .int 0), (0, .ref a0), (1, .int x1), (2, .int x2)]) (pc' := 5) dX11_setOf_3 rfl (Nat.le_of_ble_eq_true rfl) rfl ?_
  exact V_sub (lv' := [(0, .ref a0), (1, .int x1), (2, .int x2), (3, .int 0), (4, .int 0)]) [2, 3, 4, 1, 0] rfl (v_X11_setOf_5 hs0 hf)
theorem ct_X11_setOf {l : Launch} {S : List SHP} {h : MH} {a0 : Nat} {x1 : Int32} {x2 : Int32} (hs0 : S[a0]? = some (.inl 11)) {q : Int32 × MH} (hf : f_X11_setOf a0 x1 x2 h = some q) : CT l mX11_setOf 3 false 0 0 S [.ref a0, .int x1, .int x2] h (QI S q) :=
  CT_ofV (by decide) rfl (Nat.le_of_ble_eq_true rfl) (fun G B hT => v_X11_setOf hs0 hf)
/-! LabelStacksModel.costs()I -/
theorem dX11_costs_0 : decode cX11_costs 0 = .ok (.iconst 0, 1) := by decide +kernel
theorem dX11_costs_1 : decode cX11_costs 1 = .ok (.istore_n 1, 1) := by decide +kernel
theorem dX11_costs_2 : decode cX11_costs 2 = .ok (.iconst 0, 1) := by decide +kernel
theorem dX11_costs_3 : decode cX11_costs 3 = .ok (.istore_n 2, 1) := by decide +kernel
theorem dX11_costs_4 : decode cX11_costs 4 = .ok (.iload_n 2, 1) := by decide +kernel
theorem dX11_costs_5 : decode cX11_costs 5 = .ok (.aload_n 0, 1) := by decide +kernel
theorem dX11_costs_6 : decode cX11_costs 6 = .ok (.invokevirtual 152, 3) := by decide +kernel
theorem dX11_costs_9 : decode cX11_costs 9 = .ok (.if_icmp .ge 21, 3) := by decide +kernel
theorem dX11_costs_12 : decode cX11_costs 12 = .ok (.iload_n 1, 1) := by decide +kernel
theorem dX11_costs_13 : decode cX11_costs 13 = .ok (.aload_n 0, 1) := by decide +kernel
theorem dX11_costs_14 : decode cX11_costs 14 = .ok (.aload_n 0, 1) := by decide +kernel
theorem dX11_costs_15 : decode cX11_costs 15 = .ok (.iload_n 2, 1) := by decide +kernel
theorem dX11_costs_16 : decode cX11_costs 16 = .ok (.invokevirtual 155, 3) := by decide +kernel
theorem dX11_costs_19 : decode cX11_costs 19 = .ok (.invokevirtual 132, 3) := by decide +kernel
theorem dX11_costs_22 : decode cX11_costs 22 = .ok (.iadd, 1) := by decide +kernel
theorem dX11_costs_23 : decode cX11_costs 23 = .ok (.istore_n 1, 1) := by decide +kernel
theorem dX11_costs_24 : decode cX11_costs 24 = .ok (.iinc 2 1, 3) := by decide +kernel
theorem dX11_costs_27 : decode cX11_costs 27 = .ok (.goto (-23), 3) := by decide +kernel
theorem dX11_costs_30 : decode cX11_costs 30 = .ok (.iload_n 1, 1) := by decide +kernel
theorem dX11_costs_31 : decode cX11_costs 31 = .ok (.ireturn, 1) := by decide +kernel
abbrev mX11_costs : MI := (RX11, yX11_costs, cX11_costs, 3, (some .int))
theorem mok_X11_costs : MOKv mX11_costs 0 := ⟨⟨bm_1839, bm_127, ⟨by decide, by decide⟩, by decide +kernel⟩, bm_1838, bm_112⟩
def f_X11_costs_4b   (a0 : Nat) (k4 : Int32 × Int32 → MH → Option (Int32 × MH)) (p : Int32 × Int32) (h : MH) : Option (Int32 × MH) :=
  (f_X11_wayLong a0 h).bind fun q_1 =>
  if p.2 < q_1.1 then
    (f_X11_wayLink a0 p.2 q_1.2).bind fun q_2 =>
    (f_X11_costOf a0 q_2.1 q_2.2).bind fun q_3 =>
    lt (p.1 + q_3.1) fun x_4 =>
    k4 (x_4, (p.2 + 1)) q_3.2
  else
    some (p.1, q_1.2)
def f_X11_costs_4   (a0 : Nat) : Nat → Int32 × Int32 → MH → Option (Int32 × MH) := lp (f_X11_costs_4b a0)
def f_X11_costs   (a0 : Nat) (h : MH) : Option (Int32 × MH) :=
  f_X11_costs_4 a0 FU (0, 0) h
set_option maxRecDepth 100000 in
set_option maxHeartbeats 4000000 in
theorem v_X11_costs_4b {l : Launch} {G : GE} {B N : Nat} {S : List SHP} {o : Int32 × MH} {a0 : Nat}    (hs0 : S[a0]? = some (.inl 11)) {k4 : Int32 × Int32 → MH → Option (Int32 × MH)} (hk4 : ∀ (p : Int32 × Int32) (h : MH), k4 p h = some o → V l G B N mX11_costs (rmm 4 0 0) false 0 0 (QI S o) S 0 0 4 [(0, .ref a0), (1, .int p.1), (2, .int p.2)] [] h) {p : Int32 × Int32} {h : MH} (hf : f_X11_costs_4b a0 k4 p h = some o) : V l G B N mX11_costs (rmm 4 0 0) false 0 0 (QI S o) S 0 0 4 [(0, .ref a0), (1, .int p.1), (2, .int p.2)] [] h := by
  unfold f_X11_costs_4b at hf
  refine V_iload_n (pc' := 5) dX11_costs_4 rfl 2 rfl rfl ?_
  refine V_aload_n (pc' := 6) dX11_costs_5 rfl 0 rfl rfl ?_
  refine V_cvI (pc' := 9) (As := []) (rest := [.int p.2]) dX11_costs_6 rfl mok_X11_wayLong bm_1453 11 (by decide) rfl hs0 rfl rfl (Nat.le_of_ble_eq_true rfl) (by decide) hf (fun q e => ct_X11_wayLong hs0 e) (fun q_1 hf => ?_)
  refine V_icmp_ge (tgt := 30) (pc' := 12) dX11_costs_9 (by decide) rfl hf (fun hf => ?_) (fun hf => ?_)
  ·
    refine V_iload_n (pc' := 13) dX11_costs_12 rfl 1 rfl rfl ?_
    refine V_aload_n (pc' := 14) dX11_costs_13 rfl 0 rfl rfl ?_
    refine V_aload_n (pc' := 15) dX11_costs_14 rfl 0 rfl rfl ?_
    refine V_iload_n (pc' := 16) dX11_costs_15 rfl 2 rfl rfl ?_
    refine V_cvI (pc' := 19) (As := [.int p.2]) (rest := [.ref a0, .int p.1]) dX11_costs_16 rfl mok_X11_wayLink bm_1457 11 (by decide) rfl hs0 rfl rfl (Nat.le_of_ble_eq_true rfl) (by decide) hf (fun q e => ct_X11_wayLink hs0 e) (fun q_2 hf => ?_)
    refine V_cvI (pc' := 22) (As := [.int q_2.1]) (rest := [.int p.1]) dX11_costs_19 rfl mok_X11_costOf bm_1422 11 (by decide) rfl hs0 rfl rfl (Nat.le_of_ble_eq_true rfl) (by decide) hf (fun q e => ct_X11_costOf hs0 e) (fun q_3 hf => ?_)
    refine V_iadd (pc' := 23) dX11_costs_22 rfl ?_
    refine V_nmI hf (fun x_4 hf => ?_)
    refine V_istore_n (lv' := [(1, .int x_4), (0, .ref a0), (2, .int p.2)]) (pc' := 24) dX11_costs_23 rfl rfl (Nat.le_of_ble_eq_true rfl) rfl ?_
    refine V_iinc (v := (p.2 + 1)) (lv' := [(2, .int (p.2 + 1)), (1, .int x_4), (0, .ref a0)]) (pc' := 27) dX11_costs_24 rfl 2 rfl rfl (Nat.le_of_ble_eq_true rfl) rfl ?_
    refine V_goto (tgt := 4) dX11_costs_27 (by decide) ?_
    exact V_sub (lv' := [(0, .ref a0), (1, .int x_4), (2, .int (p.2 + 1))]) [2, 1, 0] rfl (hk4 (x_4, (p.2 + 1)) q_3.2 hf)
  ·
    refine V_iload_n (pc' := 31) dX11_costs_30 rfl 1 rfl rfl ?_
    obtain rfl := Option.some.inj hf
    exact V_iret dX11_costs_31 rfl rfl rfl ⟨rfl, rfl, rfl⟩
theorem v_X11_costs_4 {l : Launch} {G : GE} {B N : Nat} {S : List SHP} {o : Int32 × MH} {a0 : Nat}    (hs0 : S[a0]? = some (.inl 11)) {n : Nat} {p : Int32 × Int32} {h : MH} (hf : f_X11_costs_4 a0 n p h = some o) : V l G B N mX11_costs (rmm 4 0 0) false 0 0 (QI S o) S 0 0 4 [(0, .ref a0), (1, .int p.1), (2, .int p.2)] [] h :=
  V_lp (VV := fun p h => V l G B N mX11_costs (rmm 4 0 0) false 0 0 (QI S o) S 0 0 4 [(0, .ref a0), (1, .int p.1), (2, .int p.2)] [] h) (fun _ hk _ _ hf => v_X11_costs_4b hs0 hk hf) n p h hf
set_option maxRecDepth 100000 in
set_option maxHeartbeats 4000000 in
theorem v_X11_costs {l : Launch} {G : GE} {B N : Nat} {S : List SHP} {o : Int32 × MH} {a0 : Nat}    (hs0 : S[a0]? = some (.inl 11)) {h : MH} (hf : f_X11_costs a0 h = some o) : V l G B N mX11_costs (rmm 4 0 0) false 0 0 (QI S o) S 0 0 0 [(0, .ref a0)] [] h := by
  unfold f_X11_costs at hf
  refine V_iconst (v := 0) (pc' := 1) dX11_costs_0 rfl (by decide) ?_
  refine V_istore_n (lv' := [(1, .int 0), (0, .ref a0)]) (pc' := 2) dX11_costs_1 rfl rfl (Nat.le_of_ble_eq_true rfl) rfl ?_
  refine V_iconst (v := 0) (pc' := 3) dX11_costs_2 rfl (by decide) ?_
  refine V_istore_n (lv' := [(2, .int 0), (1, .int 0), (0, .ref a0)]) (pc' := 4) dX11_costs_3 rfl rfl (Nat.le_of_ble_eq_true rfl) rfl ?_
  exact V_sub (lv' := [(0, .ref a0), (1, .int 0), (2, .int 0)]) [2, 1, 0] rfl (v_X11_costs_4 hs0 hf)
theorem ct_X11_costs {l : Launch} {S : List SHP} {h : MH} {a0 : Nat} (hs0 : S[a0]? = some (.inl 11)) {q : Int32 × MH} (hf : f_X11_costs a0 h = some q) : CT l mX11_costs 4 false 0 0 S [.ref a0] h (QI S q) :=
  CT_ofV (by decide) rfl (Nat.le_of_ble_eq_true rfl) (fun G B hT => v_X11_costs hs0 hf)
/-! LabelStacksModel.look(I)I -/
theorem dX11_look_0 : decode cX11_look 0 = .ok (.aload_n 0, 1) := by decide +kernel
theorem dX11_look_1 : decode cX11_look 1 = .ok (.iconst 0, 1) := by decide +kernel
theorem dX11_look_2 : decode cX11_look 2 = .ok (.putfield 84, 3) := by decide +kernel
theorem dX11_look_5 : decode cX11_look 5 = .ok (.iload_n 1, 1) := by decide +kernel
theorem dX11_look_6 : decode cX11_look 6 = .ok (.ifCond .ne 8, 3) := by decide +kernel
theorem dX11_look_9 : decode cX11_look 9 = .ok (.aload_n 0, 1) := by decide +kernel
theorem dX11_look_10 : decode cX11_look 10 = .ok (.invokevirtual 87, 3) := by decide +kernel
theorem dX11_look_13 : decode cX11_look 13 = .ok (.ireturn, 1) := by decide +kernel
theorem dX11_look_14 : decode cX11_look 14 = .ok (.iload_n 1, 1) := by decide +kernel
theorem dX11_look_15 : decode cX11_look 15 = .ok (.iconst 1, 1) := by decide +kernel
theorem dX11_look_16 : decode cX11_look 16 = .ok (.if_icmp .ne 8, 3) := by decide +kernel
theorem dX11_look_19 : decode cX11_look 19 = .ok (.aload_n 0, 1) := by decide +kernel
theorem dX11_look_20 : decode cX11_look 20 = .ok (.invokevirtual 95, 3) := by decide +kernel
theorem dX11_look_23 : decode cX11_look 23 = .ok (.ireturn, 1) := by decide +kernel
theorem dX11_look_24 : decode cX11_look 24 = .ok (.iload_n 1, 1) := by decide +kernel
theorem dX11_look_25 : decode cX11_look 25 = .ok (.iconst 2, 1) := by decide +kernel
theorem dX11_look_26 : decode cX11_look 26 = .ok (.if_icmp .ne 25, 3) := by decide +kernel
theorem dX11_look_29 : decode cX11_look 29 = .ok (.iconst 1, 1) := by decide +kernel
theorem dX11_look_30 : decode cX11_look 30 = .ok (.aload_n 0, 1) := by decide +kernel
theorem dX11_look_31 : decode cX11_look 31 = .ok (.invokevirtual 95, 3) := by decide +kernel
theorem dX11_look_34 : decode cX11_look 34 = .ok (.ishl, 1) := by decide +kernel
theorem dX11_look_35 : decode cX11_look 35 = .ok (.iconst 1, 1) := by decide +kernel
theorem dX11_look_36 : decode cX11_look 36 = .ok (.isub, 1) := by decide +kernel
theorem dX11_look_37 : decode cX11_look 37 = .ok (.aload_n 0, 1) := by decide +kernel
theorem dX11_look_38 : decode cX11_look 38 = .ok (.bipush 92, 2) := by decide +kernel
theorem dX11_look_40 : decode cX11_look 40 = .ok (.aload_n 0, 1) := by decide +kernel
theorem dX11_look_41 : decode cX11_look 41 = .ok (.invokevirtual 95, 3) := by decide +kernel
theorem dX11_look_44 : decode cX11_look 44 = .ok (.invokevirtual 433, 3) := by decide +kernel
theorem dX11_look_47 : decode cX11_look 47 = .ok (.iconst (-1), 1) := by decide +kernel
theorem dX11_look_48 : decode cX11_look 48 = .ok (.ixor, 1) := by decide +kernel
theorem dX11_look_49 : decode cX11_look 49 = .ok (.iand, 1) := by decide +kernel
theorem dX11_look_50 : decode cX11_look 50 = .ok (.ireturn, 1) := by decide +kernel
theorem dX11_look_51 : decode cX11_look 51 = .ok (.iload_n 1, 1) := by decide +kernel
theorem dX11_look_52 : decode cX11_look 52 = .ok (.iconst 3, 1) := by decide +kernel
theorem dX11_look_53 : decode cX11_look 53 = .ok (.if_icmp .ne 8, 3) := by decide +kernel
theorem dX11_look_56 : decode cX11_look 56 = .ok (.aload_n 0, 1) := by decide +kernel
theorem dX11_look_57 : decode cX11_look 57 = .ok (.getfield 16, 3) := by decide +kernel
theorem dX11_look_60 : decode cX11_look 60 = .ok (.ireturn, 1) := by decide +kernel
theorem dX11_look_61 : decode cX11_look 61 = .ok (.iload_n 1, 1) := by decide +kernel
theorem dX11_look_62 : decode cX11_look 62 = .ok (.iconst 4, 1) := by decide +kernel
theorem dX11_look_63 : decode cX11_look 63 = .ok (.if_icmp .ne 8, 3) := by decide +kernel
theorem dX11_look_66 : decode cX11_look 66 = .ok (.aload_n 0, 1) := by decide +kernel
theorem dX11_look_67 : decode cX11_look 67 = .ok (.invokevirtual 152, 3) := by decide +kernel
theorem dX11_look_70 : decode cX11_look 70 = .ok (.ireturn, 1) := by decide +kernel
theorem dX11_look_71 : decode cX11_look 71 = .ok (.iload_n 1, 1) := by decide +kernel
theorem dX11_look_72 : decode cX11_look 72 = .ok (.iconst 5, 1) := by decide +kernel
theorem dX11_look_73 : decode cX11_look 73 = .ok (.if_icmp .ne 8, 3) := by decide +kernel
theorem dX11_look_76 : decode cX11_look 76 = .ok (.aload_n 0, 1) := by decide +kernel
theorem dX11_look_77 : decode cX11_look 77 = .ok (.getfield 138, 3) := by decide +kernel
theorem dX11_look_80 : decode cX11_look 80 = .ok (.ireturn, 1) := by decide +kernel
theorem dX11_look_81 : decode cX11_look 81 = .ok (.iload_n 1, 1) := by decide +kernel
theorem dX11_look_82 : decode cX11_look 82 = .ok (.bipush 6, 2) := by decide +kernel
theorem dX11_look_84 : decode cX11_look 84 = .ok (.if_icmp .ne 12, 3) := by decide +kernel
theorem dX11_look_87 : decode cX11_look 87 = .ok (.aload_n 0, 1) := by decide +kernel
theorem dX11_look_88 : decode cX11_look 88 = .ok (.bipush 122, 2) := by decide +kernel
theorem dX11_look_90 : decode cX11_look 90 = .ok (.bipush 6, 2) := by decide +kernel
theorem dX11_look_92 : decode cX11_look 92 = .ok (.invokevirtual 433, 3) := by decide +kernel
theorem dX11_look_95 : decode cX11_look 95 = .ok (.ireturn, 1) := by decide +kernel
theorem dX11_look_96 : decode cX11_look 96 = .ok (.iload_n 1, 1) := by decide +kernel
theorem dX11_look_97 : decode cX11_look 97 = .ok (.bipush 7, 2) := by decide +kernel
theorem dX11_look_99 : decode cX11_look 99 = .ok (.if_icmp .ne 13, 3) := by decide +kernel
theorem dX11_look_102 : decode cX11_look 102 = .ok (.aload_n 0, 1) := by decide +kernel
theorem dX11_look_103 : decode cX11_look 103 = .ok (.sipush 170, 3) := by decide +kernel
theorem dX11_look_106 : decode cX11_look 106 = .ok (.bipush 8, 2) := by decide +kernel
theorem dX11_look_108 : decode cX11_look 108 = .ok (.invokevirtual 433, 3) := by decide +kernel
theorem dX11_look_111 : decode cX11_look 111 = .ok (.ireturn, 1) := by decide +kernel
theorem dX11_look_112 : decode cX11_look 112 = .ok (.iload_n 1, 1) := by decide +kernel
theorem dX11_look_113 : decode cX11_look 113 = .ok (.bipush 8, 2) := by decide +kernel
theorem dX11_look_115 : decode cX11_look 115 = .ok (.if_icmp .ne 12, 3) := by decide +kernel
theorem dX11_look_118 : decode cX11_look 118 = .ok (.aload_n 0, 1) := by decide +kernel
theorem dX11_look_119 : decode cX11_look 119 = .ok (.getfield 7, 3) := by decide +kernel
theorem dX11_look_122 : decode cX11_look 122 = .ok (.sipush 290, 3) := by decide +kernel
theorem dX11_look_125 : decode cX11_look 125 = .ok (.iaload, 1) := by decide +kernel
theorem dX11_look_126 : decode cX11_look 126 = .ok (.ireturn, 1) := by decide +kernel
theorem dX11_look_127 : decode cX11_look 127 = .ok (.iload_n 1, 1) := by decide +kernel
theorem dX11_look_128 : decode cX11_look 128 = .ok (.bipush 9, 2) := by decide +kernel
theorem dX11_look_130 : decode cX11_look 130 = .ok (.if_icmp .ne 8, 3) := by decide +kernel
theorem dX11_look_133 : decode cX11_look 133 = .ok (.aload_n 0, 1) := by decide +kernel
theorem dX11_look_134 : decode cX11_look 134 = .ok (.getfield 98, 3) := by decide +kernel
theorem dX11_look_137 : decode cX11_look 137 = .ok (.ireturn, 1) := by decide +kernel
theorem dX11_look_138 : decode cX11_look 138 = .ok (.iload_n 1, 1) := by decide +kernel
theorem dX11_look_139 : decode cX11_look 139 = .ok (.bipush 10, 2) := by decide +kernel
theorem dX11_look_141 : decode cX11_look 141 = .ok (.if_icmp .ne 8, 3) := by decide +kernel
theorem dX11_look_144 : decode cX11_look 144 = .ok (.aload_n 0, 1) := by decide +kernel
theorem dX11_look_145 : decode cX11_look 145 = .ok (.getfield 347, 3) := by decide +kernel
theorem dX11_look_148 : decode cX11_look 148 = .ok (.ireturn, 1) := by decide +kernel
theorem dX11_look_149 : decode cX11_look 149 = .ok (.iload_n 1, 1) := by decide +kernel
theorem dX11_look_150 : decode cX11_look 150 = .ok (.bipush 11, 2) := by decide +kernel
theorem dX11_look_152 : decode cX11_look 152 = .ok (.if_icmp .ne 8, 3) := by decide +kernel
theorem dX11_look_155 : decode cX11_look 155 = .ok (.aload_n 0, 1) := by decide +kernel
theorem dX11_look_156 : decode cX11_look 156 = .ok (.invokevirtual 436, 3) := by decide +kernel
theorem dX11_look_159 : decode cX11_look 159 = .ok (.ireturn, 1) := by decide +kernel
theorem dX11_look_160 : decode cX11_look 160 = .ok (.iload_n 1, 1) := by decide +kernel
theorem dX11_look_161 : decode cX11_look 161 = .ok (.bipush 12, 2) := by decide +kernel
theorem dX11_look_163 : decode cX11_look 163 = .ok (.if_icmp .ne 24, 3) := by decide +kernel
theorem dX11_look_166 : decode cX11_look 166 = .ok (.aload_n 0, 1) := by decide +kernel
theorem dX11_look_167 : decode cX11_look 167 = .ok (.invokevirtual 152, 3) := by decide +kernel
theorem dX11_look_170 : decode cX11_look 170 = .ok (.ifCond .ne 7, 3) := by decide +kernel
theorem dX11_look_173 : decode cX11_look 173 = .ok (.iconst (-1), 1) := by decide +kernel
theorem dX11_look_174 : decode cX11_look 174 = .ok (.goto 12, 3) := by decide +kernel
theorem dX11_look_177 : decode cX11_look 177 = .ok (.aload_n 0, 1) := by decide +kernel
theorem dX11_look_178 : decode cX11_look 178 = .ok (.aload_n 0, 1) := by decide +kernel
theorem dX11_look_179 : decode cX11_look 179 = .ok (.iconst 0, 1) := by decide +kernel
theorem dX11_look_180 : decode cX11_look 180 = .ok (.invokevirtual 155, 3) := by decide +kernel
theorem dX11_look_183 : decode cX11_look 183 = .ok (.invokevirtual 161, 3) := by decide +kernel
theorem dX11_look_186 : decode cX11_look 186 = .ok (.ireturn, 1) := by decide +kernel
theorem dX11_look_187 : decode cX11_look 187 = .ok (.iload_n 1, 1) := by decide +kernel
theorem dX11_look_188 : decode cX11_look 188 = .ok (.bipush 13, 2) := by decide +kernel
theorem dX11_look_190 : decode cX11_look 190 = .ok (.if_icmp .ne 27, 3) := by decide +kernel
theorem dX11_look_193 : decode cX11_look 193 = .ok (.aload_n 0, 1) := by decide +kernel
theorem dX11_look_194 : decode cX11_look 194 = .ok (.invokevirtual 152, 3) := by decide +kernel
theorem dX11_look_197 : decode cX11_look 197 = .ok (.ifCond .le 20, 3) := by decide +kernel
theorem dX11_look_200 : decode cX11_look 200 = .ok (.aload_n 0, 1) := by decide +kernel
theorem dX11_look_201 : decode cX11_look 201 = .ok (.aload_n 0, 1) := by decide +kernel
theorem dX11_look_202 : decode cX11_look 202 = .ok (.aload_n 0, 1) := by decide +kernel
theorem dX11_look_203 : decode cX11_look 203 = .ok (.invokevirtual 152, 3) := by decide +kernel
theorem dX11_look_206 : decode cX11_look 206 = .ok (.iconst 1, 1) := by decide +kernel
theorem dX11_look_207 : decode cX11_look 207 = .ok (.isub, 1) := by decide +kernel
theorem dX11_look_208 : decode cX11_look 208 = .ok (.invokevirtual 155, 3) := by decide +kernel
theorem dX11_look_211 : decode cX11_look 211 = .ok (.invokevirtual 158, 3) := by decide +kernel
theorem dX11_look_214 : decode cX11_look 214 = .ok (.goto 4, 3) := by decide +kernel
theorem dX11_look_217 : decode cX11_look 217 = .ok (.iconst (-1), 1) := by decide +kernel
theorem dX11_look_218 : decode cX11_look 218 = .ok (.ireturn, 1) := by decide +kernel
abbrev mX11_look : MI := (RX11, yX11_look, cX11_look, 2, (some .int))
theorem mok_X11_look : MOKv mX11_look 1 := ⟨⟨bm_1831, bm_127, ⟨by decide, by decide⟩, by decide +kernel⟩, bm_1829, bm_1830⟩
def f_X11_look   (a0 : Nat) (x1 : Int32) (h : MH) : Option (Int32 × MH) :=
  lt (sI h a0 0 0) fun h_1 =>
  if x1 = 0 then
    (f_X11_n a0 h_1).bind fun q_2 =>
    some (q_2.1, q_2.2)
  else
    if x1 = 1 then
      (f_X11_links a0 h_1).bind fun q_3 =>
      some (q_3.1, q_3.2)
    else
      if x1 = 2 then
        (f_X11_links a0 h_1).bind fun q_4 =>
        (f_X11_links a0 q_4.2).bind fun q_5 =>
        (f_X11_setOf a0 92 q_5.1 q_5.2).bind fun q_6 =>
        some (((((1 : Int32) <<< (q_4.1 &&& 31)) - 1) &&& (q_6.1 ^^^ (-1 : Int32))), q_6.2)
      else
        if x1 = 3 then
          some ((gI h_1 a0 4), h_1)
        else
          if x1 = 4 then
            (f_X11_wayLong a0 h_1).bind fun q_7 =>
            some (q_7.1, q_7.2)
          else
            if x1 = 5 then
              some ((gI h_1 a0 6), h_1)
            else
              if x1 = 6 then
                (f_X11_setOf a0 122 6 h_1).bind fun q_8 =>
                some (q_8.1, q_8.2)
              else
                if x1 = 7 then
                  (f_X11_setOf a0 170 8 h_1).bind fun q_9 =>
                  some (q_9.1, q_9.2)
                else
                  if x1 = 8 then
                    (gR h_1 a0 1).bind fun a_10 =>
                    (ldI h_1 a_10 290).bind fun x_11 =>
                    some (x_11, h_1)
                  else
                    if x1 = 9 then
                      some ((gI h_1 a0 3), h_1)
                    else
                      if x1 = 10 then
                        some ((gI h_1 a0 37), h_1)
                      else
                        if x1 = 11 then
                          (f_X11_costs a0 h_1).bind fun q_12 =>
                          some (q_12.1, q_12.2)
                        else
                          if x1 = 12 then
                            (f_X11_wayLong a0 h_1).bind fun q_13 =>
                            if q_13.1 = 0 then
                              some ((-1 : Int32), q_13.2)
                            else
                              (f_X11_wayLink a0 0 q_13.2).bind fun q_14 =>
                              (f_X11_from a0 q_14.1 q_14.2).bind fun q_15 =>
                              some (q_15.1, q_15.2)
                          else
                            if x1 = 13 then
                              (f_X11_wayLong a0 h_1).bind fun q_16 =>
                              if 0 < q_16.1 then
                                (f_X11_wayLong a0 q_16.2).bind fun q_17 =>
                                (f_X11_wayLink a0 (q_17.1 - 1) q_17.2).bind fun q_18 =>
                                (f_X11_to a0 q_18.1 q_18.2).bind fun q_19 =>
                                some (q_19.1, q_19.2)
                              else
                                some ((-1 : Int32), q_16.2)
                            else
                              some ((-1 : Int32), h_1)
set_option maxRecDepth 100000 in
set_option maxHeartbeats 4000000 in
theorem v_X11_look {l : Launch} {G : GE} {B N : Nat} {S : List SHP} {o : Int32 × MH} {a0 : Nat} {x1 : Int32}    (hs0 : S[a0]? = some (.inl 11)) {h : MH} (hf : f_X11_look a0 x1 h = some o) : V l G B N mX11_look (rmm 5 0 0) false 0 0 (QI S o) S 0 0 0 [(0, .ref a0), (1, .int x1)] [] h := by
  unfold f_X11_look at hf
  refine V_aload_n (pc' := 1) dX11_look_0 rfl 0 rfl rfl ?_
  refine V_iconst (v := 0) (pc' := 2) dX11_look_1 rfl (by decide) ?_
  refine V_putI (pc' := 5) 11 0 dX11_look_2 rfl (by decide) (Nat.le_of_ble_eq_true rfl) bm_1224 hs0 (Or.inl rfl) rfl ?_
  refine V_nmH hf (fun h_1 hf => ?_)
  refine V_iload_n (pc' := 6) dX11_look_5 rfl 1 rfl rfl ?_
  refine V_if_ne (tgt := 14) (pc' := 9) dX11_look_6 (by decide) rfl hf (fun hf => ?_) (fun hf => ?_)
  ·
    refine V_aload_n (pc' := 10) dX11_look_9 rfl 0 rfl rfl ?_
    refine V_cvI (pc' := 13) (As := []) (rest := []) dX11_look_10 rfl mok_X11_n bm_1393 11 (by decide) rfl hs0 rfl rfl (Nat.le_of_ble_eq_true rfl) (by decide) hf (fun q e => ct_X11_n hs0 e) (fun q_2 hf => ?_)
    obtain rfl := Option.some.inj hf
    exact V_iret dX11_look_13 rfl rfl rfl ⟨rfl, rfl, rfl⟩
  ·
    refine V_iload_n (pc' := 15) dX11_look_14 rfl 1 rfl rfl ?_
    refine V_iconst (v := 1) (pc' := 16) dX11_look_15 rfl (by decide) ?_
    refine V_icmp_ne (tgt := 24) (pc' := 19) dX11_look_16 (by decide) rfl hf (fun hf => ?_) (fun hf => ?_)
    ·
      refine V_aload_n (pc' := 20) dX11_look_19 rfl 0 rfl rfl ?_
      refine V_cvI (pc' := 23) (As := []) (rest := []) dX11_look_20 rfl mok_X11_links bm_1398 11 (by decide) rfl hs0 rfl rfl (Nat.le_of_ble_eq_true rfl) (by decide) hf (fun q e => ct_X11_links hs0 e) (fun q_3 hf => ?_)
      obtain rfl := Option.some.inj hf
      exact V_iret dX11_look_23 rfl rfl rfl ⟨rfl, rfl, rfl⟩
    ·
      refine V_iload_n (pc' := 25) dX11_look_24 rfl 1 rfl rfl ?_
      refine V_iconst (v := 2) (pc' := 26) dX11_look_25 rfl (by decide) ?_
      refine V_icmp_ne (tgt := 51) (pc' := 29) dX11_look_26 (by decide) rfl hf (fun hf => ?_) (fun hf => ?_)
      ·
        refine V_iconst (v := 1) (pc' := 30) dX11_look_29 rfl (by decide) ?_
        refine V_aload_n (pc' := 31) dX11_look_30 rfl 0 rfl rfl ?_
        refine V_cvI (pc' := 34) (As := []) (rest := [.int 1]) dX11_look_31 rfl mok_X11_links bm_1398 11 (by decide) rfl hs0 rfl rfl (Nat.le_of_ble_eq_true rfl) (by decide) hf (fun q e => ct_X11_links hs0 e) (fun q_4 hf => ?_)
        refine V_ishl (pc' := 35) dX11_look_34 rfl ?_
        refine V_iconst (v := 1) (pc' := 36) dX11_look_35 rfl (by decide) ?_
        refine V_isub (pc' := 37) dX11_look_36 rfl ?_
        refine V_aload_n (pc' := 38) dX11_look_37 rfl 0 rfl rfl ?_
        refine V_bipush (v := 92) (pc' := 40) dX11_look_38 rfl (by decide) ?_
        refine V_aload_n (pc' := 41) dX11_look_40 rfl 0 rfl rfl ?_
        refine V_cvI (pc' := 44) (As := []) (rest := [.int 92, .ref a0, .int (((1 : Int32) <<< (q_4.1 &&& 31)) - 1)]) dX11_look_41 rfl mok_X11_links bm_1398 11 (by decide) rfl hs0 rfl rfl (Nat.le_of_ble_eq_true rfl) (by decide) hf (fun q e => ct_X11_links hs0 e) (fun q_5 hf => ?_)
        refine V_cvI (pc' := 47) (As := [.int 92, .int q_5.1]) (rest := [.int (((1 : Int32) <<< (q_4.1 &&& 31)) - 1)]) dX11_look_44 rfl mok_X11_setOf bm_1832 11 (by decide) rfl hs0 rfl rfl (Nat.le_of_ble_eq_true rfl) (by decide) hf (fun q e => ct_X11_setOf hs0 e) (fun q_6 hf => ?_)
        refine V_iconst (v := (-1)) (pc' := 48) dX11_look_47 rfl (by decide) ?_
        refine V_ixor (pc' := 49) dX11_look_48 rfl ?_
        refine V_iand (pc' := 50) dX11_look_49 rfl ?_
        obtain rfl := Option.some.inj hf
        exact V_iret dX11_look_50 rfl rfl rfl ⟨rfl, rfl, rfl⟩
      ·
        refine V_iload_n (pc' := 52) dX11_look_51 rfl 1 rfl rfl ?_
        refine V_iconst (v := 3) (pc' := 53) dX11_look_52 rfl (by decide) ?_
        refine V_icmp_ne (tgt := 61) (pc' := 56) dX11_look_53 (by decide) rfl hf (fun hf => ?_) (fun hf => ?_)
        ·
          refine V_aload_n (pc' := 57) dX11_look_56 rfl 0 rfl rfl ?_
          refine V_getI (pc' := 60) 11 4 dX11_look_57 rfl (by decide) (Nat.le_of_ble_eq_true rfl) bm_1228 hs0 (fun _ _ _ => rfl) ?_
          obtain rfl := Option.some.inj hf
          exact V_iret dX11_look_60 rfl rfl rfl ⟨rfl, rfl, rfl⟩
        ·
          refine V_iload_n (pc' := 62) dX11_look_61 rfl 1 rfl rfl ?_
          refine V_iconst (v := 4) (pc' := 63) dX11_look_62 rfl (by decide) ?_
          refine V_icmp_ne (tgt := 71) (pc' := 66) dX11_look_63 (by decide) rfl hf (fun hf => ?_) (fun hf => ?_)
          ·
            refine V_aload_n (pc' := 67) dX11_look_66 rfl 0 rfl rfl ?_
            refine V_cvI (pc' := 70) (As := []) (rest := []) dX11_look_67 rfl mok_X11_wayLong bm_1453 11 (by decide) rfl hs0 rfl rfl (Nat.le_of_ble_eq_true rfl) (by decide) hf (fun q e => ct_X11_wayLong hs0 e) (fun q_7 hf => ?_)
            obtain rfl := Option.some.inj hf
            exact V_iret dX11_look_70 rfl rfl rfl ⟨rfl, rfl, rfl⟩
          ·
            refine V_iload_n (pc' := 72) dX11_look_71 rfl 1 rfl rfl ?_
            refine V_iconst (v := 5) (pc' := 73) dX11_look_72 rfl (by decide) ?_
            refine V_icmp_ne (tgt := 81) (pc' := 76) dX11_look_73 (by decide) rfl hf (fun hf => ?_) (fun hf => ?_)
            ·
              refine V_aload_n (pc' := 77) dX11_look_76 rfl 0 rfl rfl ?_
              refine V_getI (pc' := 80) 11 6 dX11_look_77 rfl (by decide) (Nat.le_of_ble_eq_true rfl) bm_1230 hs0 (fun _ _ _ => rfl) ?_
              obtain rfl := Option.some.inj hf
              exact V_iret dX11_look_80 rfl rfl rfl ⟨rfl, rfl, rfl⟩
            ·
              refine V_iload_n (pc' := 82) dX11_look_81 rfl 1 rfl rfl ?_
              refine V_bipush (v := 6) (pc' := 84) dX11_look_82 rfl (by decide) ?_
              refine V_icmp_ne (tgt := 96) (pc' := 87) dX11_look_84 (by decide) rfl hf (fun hf => ?_) (fun hf => ?_)
              ·
                refine V_aload_n (pc' := 88) dX11_look_87 rfl 0 rfl rfl ?_
                refine V_bipush (v := 122) (pc' := 90) dX11_look_88 rfl (by decide) ?_
                refine V_bipush (v := 6) (pc' := 92) dX11_look_90 rfl (by decide) ?_
                refine V_cvI (pc' := 95) (As := [.int 122, .int 6]) (rest := []) dX11_look_92 rfl mok_X11_setOf bm_1832 11 (by decide) rfl hs0 rfl rfl (Nat.le_of_ble_eq_true rfl) (by decide) hf (fun q e => ct_X11_setOf hs0 e) (fun q_8 hf => ?_)
                obtain rfl := Option.some.inj hf
                exact V_iret dX11_look_95 rfl rfl rfl ⟨rfl, rfl, rfl⟩
              ·
                refine V_iload_n (pc' := 97) dX11_look_96 rfl 1 rfl rfl ?_
                refine V_bipush (v := 7) (pc' := 99) dX11_look_97 rfl (by decide) ?_
                refine V_icmp_ne (tgt := 112) (pc' := 102) dX11_look_99 (by decide) rfl hf (fun hf => ?_) (fun hf => ?_)
                ·
                  refine V_aload_n (pc' := 103) dX11_look_102 rfl 0 rfl rfl ?_
                  refine V_sipush (v := 170) (pc' := 106) dX11_look_103 rfl (by decide) ?_
                  refine V_bipush (v := 8) (pc' := 108) dX11_look_106 rfl (by decide) ?_
                  refine V_cvI (pc' := 111) (As := [.int 170, .int 8]) (rest := []) dX11_look_108 rfl mok_X11_setOf bm_1832 11 (by decide) rfl hs0 rfl rfl (Nat.le_of_ble_eq_true rfl) (by decide) hf (fun q e => ct_X11_setOf hs0 e) (fun q_9 hf => ?_)
                  obtain rfl := Option.some.inj hf
                  exact V_iret dX11_look_111 rfl rfl rfl ⟨rfl, rfl, rfl⟩
                ·
                  refine V_iload_n (pc' := 113) dX11_look_112 rfl 1 rfl rfl ?_
                  refine V_bipush (v := 8) (pc' := 115) dX11_look_113 rfl (by decide) ?_
                  refine V_icmp_ne (tgt := 127) (pc' := 118) dX11_look_115 (by decide) rfl hf (fun hf => ?_) (fun hf => ?_)
                  ·
                    refine V_aload_n (pc' := 119) dX11_look_118 rfl 0 rfl rfl ?_
                    refine V_getR (pc' := 122) 11 1 dX11_look_119 rfl (by decide) (Nat.le_of_ble_eq_true rfl) bm_1225 hs0 (fun _ _ _ => rfl) rfl hf (fun a_10 ha_10 hf => ?_)
                    refine V_sipush (v := 290) (pc' := 125) dX11_look_122 rfl (by decide) ?_
                    refine V_iald (pc' := 126) dX11_look_125 rfl ha_10 hf (fun x_11 hf => ?_)
                    obtain rfl := Option.some.inj hf
                    exact V_iret dX11_look_126 rfl rfl rfl ⟨rfl, rfl, rfl⟩
                  ·
                    refine V_iload_n (pc' := 128) dX11_look_127 rfl 1 rfl rfl ?_
                    refine V_bipush (v := 9) (pc' := 130) dX11_look_128 rfl (by decide) ?_
                    refine V_icmp_ne (tgt := 138) (pc' := 133) dX11_look_130 (by decide) rfl hf (fun hf => ?_) (fun hf => ?_)
                    ·
                      refine V_aload_n (pc' := 134) dX11_look_133 rfl 0 rfl rfl ?_
                      refine V_getI (pc' := 137) 11 3 dX11_look_134 rfl (by decide) (Nat.le_of_ble_eq_true rfl) bm_1227 hs0 (fun _ _ _ => rfl) ?_
                      obtain rfl := Option.some.inj hf
                      exact V_iret dX11_look_137 rfl rfl rfl ⟨rfl, rfl, rfl⟩
                    ·
                      refine V_iload_n (pc' := 139) dX11_look_138 rfl 1 rfl rfl ?_
                      refine V_bipush (v := 10) (pc' := 141) dX11_look_139 rfl (by decide) ?_
                      refine V_icmp_ne (tgt := 149) (pc' := 144) dX11_look_141 (by decide) rfl hf (fun hf => ?_) (fun hf => ?_)
                      ·
                        refine V_aload_n (pc' := 145) dX11_look_144 rfl 0 rfl rfl ?_
                        refine V_getI (pc' := 148) 11 37 dX11_look_145 rfl (by decide) (Nat.le_of_ble_eq_true rfl) bm_1261 hs0 (fun _ _ _ => rfl) ?_
                        obtain rfl := Option.some.inj hf
                        exact V_iret dX11_look_148 rfl rfl rfl ⟨rfl, rfl, rfl⟩
                      ·
                        refine V_iload_n (pc' := 150) dX11_look_149 rfl 1 rfl rfl ?_
                        refine V_bipush (v := 11) (pc' := 152) dX11_look_150 rfl (by decide) ?_
                        refine V_icmp_ne (tgt := 160) (pc' := 155) dX11_look_152 (by decide) rfl hf (fun hf => ?_) (fun hf => ?_)
                        ·
                          refine V_aload_n (pc' := 156) dX11_look_155 rfl 0 rfl rfl ?_
                          refine V_cvI (pc' := 159) (As := []) (rest := []) dX11_look_156 rfl mok_X11_costs bm_1836 11 (by decide) rfl hs0 rfl rfl (Nat.le_of_ble_eq_true rfl) (by decide) hf (fun q e => ct_X11_costs hs0 e) (fun q_12 hf => ?_)
                          obtain rfl := Option.some.inj hf
                          exact V_iret dX11_look_159 rfl rfl rfl ⟨rfl, rfl, rfl⟩
                        ·
                          refine V_iload_n (pc' := 161) dX11_look_160 rfl 1 rfl rfl ?_
                          refine V_bipush (v := 12) (pc' := 163) dX11_look_161 rfl (by decide) ?_
                          refine V_icmp_ne (tgt := 187) (pc' := 166) dX11_look_163 (by decide) rfl hf (fun hf => ?_) (fun hf => ?_)
                          ·
                            refine V_aload_n (pc' := 167) dX11_look_166 rfl 0 rfl rfl ?_
                            refine V_cvI (pc' := 170) (As := []) (rest := []) dX11_look_167 rfl mok_X11_wayLong bm_1453 11 (by decide) rfl hs0 rfl rfl (Nat.le_of_ble_eq_true rfl) (by decide) hf (fun q e => ct_X11_wayLong hs0 e) (fun q_13 hf => ?_)
                            refine V_if_ne (tgt := 177) (pc' := 173) dX11_look_170 (by decide) rfl hf (fun hf => ?_) (fun hf => ?_)
                            ·
                              refine V_iconst (v := (-1)) (pc' := 174) dX11_look_173 rfl (by decide) ?_
                              refine V_goto (tgt := 186) dX11_look_174 (by decide) ?_
                              obtain rfl := Option.some.inj hf
                              exact V_iret dX11_look_186 rfl rfl rfl ⟨rfl, rfl, rfl⟩
                            ·
                              refine V_aload_n (pc' := 178) dX11_look_177 rfl 0 rfl rfl ?_
                              refine V_aload_n (pc' := 179) dX11_look_178 rfl 0 rfl rfl ?_
                              refine V_iconst (v := 0) (pc' := 180) dX11_look_179 rfl (by decide) ?_
                              refine V_cvI (pc' := 183) (As := [.int 0]) (rest := [.ref a0]) dX11_look_180 rfl mok_X11_wayLink bm_1457 11 (by decide) rfl hs0 rfl rfl (Nat.le_of_ble_eq_true rfl) (by decide) hf (fun q e => ct_X11_wayLink hs0 e) (fun q_14 hf => ?_)
                              refine V_cvI (pc' := 186) (As := [.int q_14.1]) (rest := []) dX11_look_183 rfl mok_X11_from bm_1465 11 (by decide) rfl hs0 rfl rfl (Nat.le_of_ble_eq_true rfl) (by decide) hf (fun q e => ct_X11_from hs0 e) (fun q_15 hf => ?_)
                              obtain rfl := Option.some.inj hf
                              exact V_iret dX11_look_186 rfl rfl rfl ⟨rfl, rfl, rfl⟩
                          ·
                            refine V_iload_n (pc' := 188) dX11_look_187 rfl 1 rfl rfl ?_
                            refine V_bipush (v := 13) (pc' := 190) dX11_look_188 rfl (by decide) ?_
                            refine V_icmp_ne (tgt := 217) (pc' := 193) dX11_look_190 (by decide) rfl hf (fun hf => ?_) (fun hf => ?_)
                            ·
                              refine V_aload_n (pc' := 194) dX11_look_193 rfl 0 rfl rfl ?_
                              refine V_cvI (pc' := 197) (As := []) (rest := []) dX11_look_194 rfl mok_X11_wayLong bm_1453 11 (by decide) rfl hs0 rfl rfl (Nat.le_of_ble_eq_true rfl) (by decide) hf (fun q e => ct_X11_wayLong hs0 e) (fun q_16 hf => ?_)
                              refine V_if_le (tgt := 217) (pc' := 200) dX11_look_197 (by decide) rfl hf (fun hf => ?_) (fun hf => ?_)
                              ·
                                refine V_aload_n (pc' := 201) dX11_look_200 rfl 0 rfl rfl ?_
                                refine V_aload_n (pc' := 202) dX11_look_201 rfl 0 rfl rfl ?_
                                refine V_aload_n (pc' := 203) dX11_look_202 rfl 0 rfl rfl ?_
                                refine V_cvI (pc' := 206) (As := []) (rest := [.ref a0, .ref a0]) dX11_look_203 rfl mok_X11_wayLong bm_1453 11 (by decide) rfl hs0 rfl rfl (Nat.le_of_ble_eq_true rfl) (by decide) hf (fun q e => ct_X11_wayLong hs0 e) (fun q_17 hf => ?_)
                                refine V_iconst (v := 1) (pc' := 207) dX11_look_206 rfl (by decide) ?_
                                refine V_isub (pc' := 208) dX11_look_207 rfl ?_
                                refine V_cvI (pc' := 211) (As := [.int (q_17.1 - 1)]) (rest := [.ref a0]) dX11_look_208 rfl mok_X11_wayLink bm_1457 11 (by decide) rfl hs0 rfl rfl (Nat.le_of_ble_eq_true rfl) (by decide) hf (fun q e => ct_X11_wayLink hs0 e) (fun q_18 hf => ?_)
                                refine V_cvI (pc' := 214) (As := [.int q_18.1]) (rest := []) dX11_look_211 rfl mok_X11_to bm_1461 11 (by decide) rfl hs0 rfl rfl (Nat.le_of_ble_eq_true rfl) (by decide) hf (fun q e => ct_X11_to hs0 e) (fun q_19 hf => ?_)
                                refine V_goto (tgt := 218) dX11_look_214 (by decide) ?_
                                obtain rfl := Option.some.inj hf
                                exact V_iret dX11_look_218 rfl rfl rfl ⟨rfl, rfl, rfl⟩
                              ·
                                refine V_iconst (v := (-1)) (pc' := 218) dX11_look_217 rfl (by decide) ?_
                                obtain rfl := Option.some.inj hf
                                exact V_iret dX11_look_218 rfl rfl rfl ⟨rfl, rfl, rfl⟩
                            ·
                              refine V_iconst (v := (-1)) (pc' := 218) dX11_look_217 rfl (by decide) ?_
                              obtain rfl := Option.some.inj hf
                              exact V_iret dX11_look_218 rfl rfl rfl ⟨rfl, rfl, rfl⟩
theorem ct_X11_look {l : Launch} {S : List SHP} {h : MH} {a0 : Nat} {x1 : Int32} (hs0 : S[a0]? = some (.inl 11)) {q : Int32 × MH} (hf : f_X11_look a0 x1 h = some q) : CT l mX11_look 5 false 0 0 S [.ref a0, .int x1] h (QI S q) :=
  CT_ofV (by decide) rfl (Nat.le_of_ble_eq_true rfl) (fun G B hT => v_X11_look hs0 hf)
