/-! LabelStacksModel.isOn(III)Z -/
theorem dX11_isOn_0 : decode cX11_isOn 0 = .ok (.aload_n 0, 1) := by decide +kernel
theorem dX11_isOn_1 : decode cX11_isOn 1 = .ok (.iload_n 1, 1) := by decide +kernel
theorem dX11_isOn_2 : decode cX11_isOn 2 = .ok (.invokevirtual 161, 3) := by decide +kernel
theorem dX11_isOn_5 : decode cX11_isOn 5 = .ok (.iload_n 2, 1) := by decide +kernel
theorem dX11_isOn_6 : decode cX11_isOn 6 = .ok (.if_icmp .ne 56, 3) := by decide +kernel
theorem dX11_isOn_9 : decode cX11_isOn 9 = .ok (.aload_n 0, 1) := by decide +kernel
theorem dX11_isOn_10 : decode cX11_isOn 10 = .ok (.iload_n 1, 1) := by decide +kernel
theorem dX11_isOn_11 : decode cX11_isOn 11 = .ok (.invokevirtual 129, 3) := by decide +kernel
theorem dX11_isOn_14 : decode cX11_isOn 14 = .ok (.ifCond .eq 48, 3) := by decide +kernel
theorem dX11_isOn_17 : decode cX11_isOn 17 = .ok (.aload_n 0, 1) := by decide +kernel
theorem dX11_isOn_18 : decode cX11_isOn 18 = .ok (.iload_n 2, 1) := by decide +kernel
theorem dX11_isOn_19 : decode cX11_isOn 19 = .ok (.iload_n 3, 1) := by decide +kernel
theorem dX11_isOn_20 : decode cX11_isOn 20 = .ok (.invokevirtual 177, 3) := by decide +kernel
theorem dX11_isOn_23 : decode cX11_isOn 23 = .ok (.ldc 181, 2) := by decide +kernel
theorem dX11_isOn_25 : decode cX11_isOn 25 = .ok (.if_icmp .ge 37, 3) := by decide +kernel
theorem dX11_isOn_28 : decode cX11_isOn 28 = .ok (.iload_n 2, 1) := by decide +kernel
theorem dX11_isOn_29 : decode cX11_isOn 29 = .ok (.iload_n 3, 1) := by decide +kernel
theorem dX11_isOn_30 : decode cX11_isOn 30 = .ok (.if_icmp .eq 32, 3) := by decide +kernel
theorem dX11_isOn_33 : decode cX11_isOn 33 = .ok (.aload_n 0, 1) := by decide +kernel
theorem dX11_isOn_34 : decode cX11_isOn 34 = .ok (.iload_n 1, 1) := by decide +kernel
theorem dX11_isOn_35 : decode cX11_isOn 35 = .ok (.invokevirtual 132, 3) := by decide +kernel
theorem dX11_isOn_38 : decode cX11_isOn 38 = .ok (.aload_n 0, 1) := by decide +kernel
theorem dX11_isOn_39 : decode cX11_isOn 39 = .ok (.aload_n 0, 1) := by decide +kernel
theorem dX11_isOn_40 : decode cX11_isOn 40 = .ok (.iload_n 1, 1) := by decide +kernel
theorem dX11_isOn_41 : decode cX11_isOn 41 = .ok (.invokevirtual 158, 3) := by decide +kernel
theorem dX11_isOn_44 : decode cX11_isOn 44 = .ok (.iload_n 3, 1) := by decide +kernel
theorem dX11_isOn_45 : decode cX11_isOn 45 = .ok (.invokevirtual 177, 3) := by decide +kernel
theorem dX11_isOn_48 : decode cX11_isOn 48 = .ok (.iadd, 1) := by decide +kernel
theorem dX11_isOn_49 : decode cX11_isOn 49 = .ok (.aload_n 0, 1) := by decide +kernel
theorem dX11_isOn_50 : decode cX11_isOn 50 = .ok (.iload_n 2, 1) := by decide +kernel
theorem dX11_isOn_51 : decode cX11_isOn 51 = .ok (.iload_n 3, 1) := by decide +kernel
theorem dX11_isOn_52 : decode cX11_isOn 52 = .ok (.invokevirtual 177, 3) := by decide +kernel
theorem dX11_isOn_55 : decode cX11_isOn 55 = .ok (.if_icmp .ne 7, 3) := by decide +kernel
theorem dX11_isOn_58 : decode cX11_isOn 58 = .ok (.iconst 1, 1) := by decide +kernel
theorem dX11_isOn_59 : decode cX11_isOn 59 = .ok (.goto 4, 3) := by decide +kernel
theorem dX11_isOn_62 : decode cX11_isOn 62 = .ok (.iconst 0, 1) := by decide +kernel
theorem dX11_isOn_63 : decode cX11_isOn 63 = .ok (.ireturn, 1) := by decide +kernel
abbrev mX11_isOn : MI := (RX11, yX11_isOn, cX11_isOn, 4, (some .boolean))
theorem mok_X11_isOn : MOKv mX11_isOn 3 := ⟨⟨bm_1510, bm_127, ⟨by decide, by decide⟩, by decide +kernel⟩, bm_1509, bm_63⟩
def f_X11_isOn   (a0 : Nat) (x1 : Int32) (x2 : Int32) (x3 : Int32) (h : MH) : Option (Int32 × MH) :=
  (f_X11_from a0 x1 h).bind fun q_1 =>
  if q_1.1 = x2 then
    (f_X11_isUp a0 x1 q_1.2).bind fun q_2 =>
    if q_2.1 = 0 then
      some (0, q_2.2)
    else
      (f_X11_far2 a0 x2 x3 q_2.2).bind fun q_3 =>
      if q_3.1 < 1000000 then
        if x2 = x3 then
          some (0, q_3.2)
        else
          (f_X11_costOf a0 x1 q_3.2).bind fun q_4 =>
          (f_X11_to a0 x1 q_4.2).bind fun q_5 =>
          (f_X11_far2 a0 q_5.1 x3 q_5.2).bind fun q_6 =>
          (f_X11_far2 a0 x2 x3 q_6.2).bind fun q_7 =>
          if (q_4.1 + q_6.1) = q_7.1 then
            some (1, q_7.2)
          else
            some (0, q_7.2)
      else
        some (0, q_3.2)
  else
    some (0, q_1.2)
set_option maxRecDepth 100000 in
set_option maxHeartbeats 4000000 in
theorem v_X11_isOn {l : Launch} {G : GE} {B N : Nat} {S : List SHP} {o : Int32 × MH} {a0 : Nat} {x1 : Int32} {x2 : Int32} {x3 : Int32}    (hs0 : S[a0]? = some (.inl 11)) {h : MH} (hf : f_X11_isOn a0 x1 x2 x3 h = some o) : V l G B N mX11_isOn (rmm 4 0 0) false 0 0 (QI S o) S 0 0 0 [(0, .ref a0), (1, .int x1), (2, .int x2), (3, .int x3)] [] h := by
  unfold f_X11_isOn at hf
  refine V_aload_n (pc' := 1) dX11_isOn_0 rfl 0 rfl rfl ?_
  refine V_iload_n (pc' := 2) dX11_isOn_1 rfl 1 rfl rfl ?_
  refine V_cvI (pc' := 5) (As := [.int x1]) (rest := []) dX11_isOn_2 rfl mok_X11_from bm_1465 11 (by decide) rfl hs0 rfl rfl (Nat.le_of_ble_eq_true rfl) (by decide) hf (fun q e => ct_X11_from hs0 e) (fun q_1 hf => ?_)
  refine V_iload_n (pc' := 6) dX11_isOn_5 rfl 2 rfl rfl ?_
  refine V_icmp_ne (tgt := 62) (pc' := 9) dX11_isOn_6 (by decide) rfl hf (fun hf => ?_) (fun hf => ?_)
  ·
    refine V_aload_n (pc' := 10) dX11_isOn_9 rfl 0 rfl rfl ?_
    refine V_iload_n (pc' := 11) dX11_isOn_10 rfl 1 rfl rfl ?_
    refine V_cvI (pc' := 14) (As := [.int x1]) (rest := []) dX11_isOn_11 rfl mok_X11_isUp bm_1414 11 (by decide) rfl hs0 rfl rfl (Nat.le_of_ble_eq_true rfl) (by decide) hf (fun q e => ct_X11_isUp hs0 e) (fun q_2 hf => ?_)
    refine V_if_eq (tgt := 62) (pc' := 17) dX11_isOn_14 (by decide) rfl hf (fun hf => ?_) (fun hf => ?_)
    ·
      refine V_iconst (v := 0) (pc' := 63) dX11_isOn_62 rfl (by decide) ?_
      obtain rfl := Option.some.inj hf
      exact V_zretL dX11_isOn_63 rfl rfl rfl (by decide) ⟨rfl, rfl, rfl⟩
    ·
      refine V_aload_n (pc' := 18) dX11_isOn_17 rfl 0 rfl rfl ?_
      refine V_iload_n (pc' := 19) dX11_isOn_18 rfl 2 rfl rfl ?_
      refine V_iload_n (pc' := 20) dX11_isOn_19 rfl 3 rfl rfl ?_
      refine V_cvI (pc' := 23) (As := [.int x2, .int x3]) (rest := []) dX11_isOn_20 rfl mok_X11_far2 bm_1499 11 (by decide) rfl hs0 rfl rfl (Nat.le_of_ble_eq_true rfl) (by decide) hf (fun q e => ct_X11_far2 hs0 e) (fun q_3 hf => ?_)
      refine V_ldc (v := 1000000) (pc' := 25) dX11_isOn_23 rfl bm_1498 ?_
      refine V_icmp_ge (tgt := 62) (pc' := 28) dX11_isOn_25 (by decide) rfl hf (fun hf => ?_) (fun hf => ?_)
      ·
        refine V_iload_n (pc' := 29) dX11_isOn_28 rfl 2 rfl rfl ?_
        refine V_iload_n (pc' := 30) dX11_isOn_29 rfl 3 rfl rfl ?_
        refine V_icmp_eq (tgt := 62) (pc' := 33) dX11_isOn_30 (by decide) rfl hf (fun hf => ?_) (fun hf => ?_)
        ·
          refine V_iconst (v := 0) (pc' := 63) dX11_isOn_62 rfl (by decide) ?_
          obtain rfl := Option.some.inj hf
          exact V_zretL dX11_isOn_63 rfl rfl rfl (by decide) ⟨rfl, rfl, rfl⟩
        ·
          refine V_aload_n (pc' := 34) dX11_isOn_33 rfl 0 rfl rfl ?_
          refine V_iload_n (pc' := 35) dX11_isOn_34 rfl 1 rfl rfl ?_
          refine V_cvI (pc' := 38) (As := [.int x1]) (rest := []) dX11_isOn_35 rfl mok_X11_costOf bm_1422 11 (by decide) rfl hs0 rfl rfl (Nat.le_of_ble_eq_true rfl) (by decide) hf (fun q e => ct_X11_costOf hs0 e) (fun q_4 hf => ?_)
          refine V_aload_n (pc' := 39) dX11_isOn_38 rfl 0 rfl rfl ?_
          refine V_aload_n (pc' := 40) dX11_isOn_39 rfl 0 rfl rfl ?_
          refine V_iload_n (pc' := 41) dX11_isOn_40 rfl 1 rfl rfl ?_
          refine V_cvI (pc' := 44) (As := [.int x1]) (rest := [.ref a0, .int q_4.1]) dX11_isOn_41 rfl mok_X11_to bm_1461 11 (by decide) rfl hs0 rfl rfl (Nat.le_of_ble_eq_true rfl) (by decide) hf (fun q e => ct_X11_to hs0 e) (fun q_5 hf => ?_)
          refine V_iload_n (pc' := 45) dX11_isOn_44 rfl 3 rfl rfl ?_
          refine V_cvI (pc' := 48) (As := [.int q_5.1, .int x3]) (rest := [.int q_4.1]) dX11_isOn_45 rfl mok_X11_far2 bm_1499 11 (by decide) rfl hs0 rfl rfl (Nat.le_of_ble_eq_true rfl) (by decide) hf (fun q e => ct_X11_far2 hs0 e) (fun q_6 hf => ?_)
          refine V_iadd (pc' := 49) dX11_isOn_48 rfl ?_
          refine V_aload_n (pc' := 50) dX11_isOn_49 rfl 0 rfl rfl ?_
          refine V_iload_n (pc' := 51) dX11_isOn_50 rfl 2 rfl rfl ?_
          refine V_iload_n (pc' := 52) dX11_isOn_51 rfl 3 rfl rfl ?_
          refine V_cvI (pc' := 55) (As := [.int x2, .int x3]) (rest := [.int (q_4.1 + q_6.1)]) dX11_isOn_52 rfl mok_X11_far2 bm_1499 11 (by decide) rfl hs0 rfl rfl (Nat.le_of_ble_eq_true rfl) (by decide) hf (fun q e => ct_X11_far2 hs0 e) (fun q_7 hf => ?_)
          refine V_icmp_ne (tgt := 62) (pc' := 58) dX11_isOn_55 (by decide) rfl hf (fun hf => ?_) (fun hf => ?_)
          ·
            refine V_iconst (v := 1) (pc' := 59) dX11_isOn_58 rfl (by decide) ?_
            refine V_goto (tgt := 63) dX11_isOn_59 (by decide) ?_
            obtain rfl := Option.some.inj hf
            exact V_zretL dX11_isOn_63 rfl rfl rfl (by decide) ⟨rfl, rfl, rfl⟩
          ·
            refine V_iconst (v := 0) (pc' := 63) dX11_isOn_62 rfl (by decide) ?_
            obtain rfl := Option.some.inj hf
            exact V_zretL dX11_isOn_63 rfl rfl rfl (by decide) ⟨rfl, rfl, rfl⟩
      ·
        refine V_iconst (v := 0) (pc' := 63) dX11_isOn_62 rfl (by decide) ?_
        obtain rfl := Option.some.inj hf
        exact V_zretL dX11_isOn_63 rfl rfl rfl (by decide) ⟨rfl, rfl, rfl⟩
  ·
    refine V_iconst (v := 0) (pc' := 63) dX11_isOn_62 rfl (by decide) ?_
    obtain rfl := Option.some.inj hf
    exact V_zretL dX11_isOn_63 rfl rfl rfl (by decide) ⟨rfl, rfl, rfl⟩
theorem ct_X11_isOn {l : Launch} {S : List SHP} {h : MH} {a0 : Nat} {x1 : Int32} {x2 : Int32} {x3 : Int32} (hs0 : S[a0]? = some (.inl 11)) {q : Int32 × MH} (hf : f_X11_isOn a0 x1 x2 x3 h = some q) : CT l mX11_isOn 4 false 0 0 S [.ref a0, .int x1, .int x2, .int x3] h (QI S q) :=
  CT_ofV (by decide) rfl (Nat.le_of_ble_eq_true rfl) (fun G B hT => v_X11_isOn hs0 hf)
/-! LabelStacksModel.laysPaths(I)V -/
theorem dX11_laysPaths_0 : decode cX11_laysPaths 0 = .ok (.iconst 0, 1) := by decide +kernel
theorem dX11_laysPaths_1 : decode cX11_laysPaths 1 = .ok (.istore_n 2, 1) := by decide +kernel
theorem dX11_laysPaths_2 : decode cX11_laysPaths 2 = .ok (.iload_n 2, 1) := by decide +kernel
theorem dX11_laysPaths_3 : decode cX11_laysPaths 3 = .ok (.bipush 10, 2) := by decide +kernel
theorem dX11_laysPaths_5 : decode cX11_laysPaths 5 = .ok (.if_icmp .ge 30, 3) := by decide +kernel
theorem dX11_laysPaths_8 : decode cX11_laysPaths 8 = .ok (.aload_n 0, 1) := by decide +kernel
theorem dX11_laysPaths_9 : decode cX11_laysPaths 9 = .ok (.getfield 26, 3) := by decide +kernel
theorem dX11_laysPaths_12 : decode cX11_laysPaths 12 = .ok (.bipush 10, 2) := by decide +kernel
theorem dX11_laysPaths_14 : decode cX11_laysPaths 14 = .ok (.iload_n 2, 1) := by decide +kernel
theorem dX11_laysPaths_15 : decode cX11_laysPaths 15 = .ok (.imul, 1) := by decide +kernel
theorem dX11_laysPaths_16 : decode cX11_laysPaths 16 = .ok (.iload_n 1, 1) := by decide +kernel
theorem dX11_laysPaths_17 : decode cX11_laysPaths 17 = .ok (.iadd, 1) := by decide +kernel
theorem dX11_laysPaths_18 : decode cX11_laysPaths 18 = .ok (.iload_n 2, 1) := by decide +kernel
theorem dX11_laysPaths_19 : decode cX11_laysPaths 19 = .ok (.iload_n 1, 1) := by decide +kernel
theorem dX11_laysPaths_20 : decode cX11_laysPaths 20 = .ok (.if_icmp .ne 7, 3) := by decide +kernel
theorem dX11_laysPaths_23 : decode cX11_laysPaths 23 = .ok (.lconst 1, 1) := by decide +kernel
theorem dX11_laysPaths_24 : decode cX11_laysPaths 24 = .ok (.goto 4, 3) := by decide +kernel
theorem dX11_laysPaths_27 : decode cX11_laysPaths 27 = .ok (.lconst 0, 1) := by decide +kernel
theorem dX11_laysPaths_28 : decode cX11_laysPaths 28 = .ok (.lastore, 1) := by decide +kernel
theorem dX11_laysPaths_29 : decode cX11_laysPaths 29 = .ok (.iinc 2 1, 3) := by decide +kernel
theorem dX11_laysPaths_32 : decode cX11_laysPaths 32 = .ok (.goto (-30), 3) := by decide +kernel
theorem dX11_laysPaths_35 : decode cX11_laysPaths 35 = .ok (.iconst 0, 1) := by decide +kernel
theorem dX11_laysPaths_36 : decode cX11_laysPaths 36 = .ok (.istore_n 2, 1) := by decide +kernel
theorem dX11_laysPaths_37 : decode cX11_laysPaths 37 = .ok (.iload_n 2, 1) := by decide +kernel
theorem dX11_laysPaths_38 : decode cX11_laysPaths 38 = .ok (.ldc 181, 2) := by decide +kernel
theorem dX11_laysPaths_40 : decode cX11_laysPaths 40 = .ok (.if_icmp .ge 165, 3) := by decide +kernel
theorem dX11_laysPaths_43 : decode cX11_laysPaths 43 = .ok (.ldc 181, 2) := by decide +kernel
theorem dX11_laysPaths_45 : decode cX11_laysPaths 45 = .ok (.istore_n 3, 1) := by decide +kernel
theorem dX11_laysPaths_46 : decode cX11_laysPaths 46 = .ok (.iconst 0, 1) := by decide +kernel
theorem dX11_laysPaths_47 : decode cX11_laysPaths 47 = .ok (.istore 4, 2) := by decide +kernel
theorem dX11_laysPaths_49 : decode cX11_laysPaths 49 = .ok (.iload 4, 2) := by decide +kernel
theorem dX11_laysPaths_51 : decode cX11_laysPaths 51 = .ok (.aload_n 0, 1) := by decide +kernel
theorem dX11_laysPaths_52 : decode cX11_laysPaths 52 = .ok (.invokevirtual 87, 3) := by decide +kernel
theorem dX11_laysPaths_55 : decode cX11_laysPaths 55 = .ok (.if_icmp .ge 39, 3) := by decide +kernel
theorem dX11_laysPaths_58 : decode cX11_laysPaths 58 = .ok (.aload_n 0, 1) := by decide +kernel
theorem dX11_laysPaths_59 : decode cX11_laysPaths 59 = .ok (.iload 4, 2) := by decide +kernel
theorem dX11_laysPaths_61 : decode cX11_laysPaths 61 = .ok (.iload_n 1, 1) := by decide +kernel
theorem dX11_laysPaths_62 : decode cX11_laysPaths 62 = .ok (.invokevirtual 177, 3) := by decide +kernel
theorem dX11_laysPaths_65 : decode cX11_laysPaths 65 = .ok (.iload_n 2, 1) := by decide +kernel
theorem dX11_laysPaths_66 : decode cX11_laysPaths 66 = .ok (.if_icmp .le 22, 3) := by decide +kernel
theorem dX11_laysPaths_69 : decode cX11_laysPaths 69 = .ok (.aload_n 0, 1) := by decide +kernel
theorem dX11_laysPaths_70 : decode cX11_laysPaths 70 = .ok (.iload 4, 2) := by decide +kernel
theorem dX11_laysPaths_72 : decode cX11_laysPaths 72 = .ok (.iload_n 1, 1) := by decide +kernel
theorem dX11_laysPaths_73 : decode cX11_laysPaths 73 = .ok (.invokevirtual 177, 3) := by decide +kernel
theorem dX11_laysPaths_76 : decode cX11_laysPaths 76 = .ok (.iload_n 3, 1) := by decide +kernel
theorem dX11_laysPaths_77 : decode cX11_laysPaths 77 = .ok (.if_icmp .ge 11, 3) := by decide +kernel
theorem dX11_laysPaths_80 : decode cX11_laysPaths 80 = .ok (.aload_n 0, 1) := by decide +kernel
theorem dX11_laysPaths_81 : decode cX11_laysPaths 81 = .ok (.iload 4, 2) := by decide +kernel
theorem dX11_laysPaths_83 : decode cX11_laysPaths 83 = .ok (.iload_n 1, 1) := by decide +kernel
theorem dX11_laysPaths_84 : decode cX11_laysPaths 84 = .ok (.invokevirtual 177, 3) := by decide +kernel
theorem dX11_laysPaths_87 : decode cX11_laysPaths 87 = .ok (.istore_n 3, 1) := by decide +kernel
theorem dX11_laysPaths_88 : decode cX11_laysPaths 88 = .ok (.iinc 4 1, 3) := by decide +kernel
theorem dX11_laysPaths_91 : decode cX11_laysPaths 91 = .ok (.goto (-42), 3) := by decide +kernel
theorem dX11_laysPaths_94 : decode cX11_laysPaths 94 = .ok (.iconst 0, 1) := by decide +kernel
theorem dX11_laysPaths_95 : decode cX11_laysPaths 95 = .ok (.istore 4, 2) := by decide +kernel
theorem dX11_laysPaths_97 : decode cX11_laysPaths 97 = .ok (.iload 4, 2) := by decide +kernel
theorem dX11_laysPaths_99 : decode cX11_laysPaths 99 = .ok (.aload_n 0, 1) := by decide +kernel
theorem dX11_laysPaths_100 : decode cX11_laysPaths 100 = .ok (.invokevirtual 87, 3) := by decide +kernel
theorem dX11_laysPaths_103 : decode cX11_laysPaths 103 = .ok (.if_icmp .ge 97, 3) := by decide +kernel
theorem dX11_laysPaths_106 : decode cX11_laysPaths 106 = .ok (.iload_n 3, 1) := by decide +kernel
theorem dX11_laysPaths_107 : decode cX11_laysPaths 107 = .ok (.ldc 181, 2) := by decide +kernel
theorem dX11_laysPaths_109 : decode cX11_laysPaths 109 = .ok (.if_icmp .ge 91, 3) := by decide +kernel
theorem dX11_laysPaths_112 : decode cX11_laysPaths 112 = .ok (.aload_n 0, 1) := by decide +kernel
theorem dX11_laysPaths_113 : decode cX11_laysPaths 113 = .ok (.iload 4, 2) := by decide +kernel
theorem dX11_laysPaths_115 : decode cX11_laysPaths 115 = .ok (.iload_n 1, 1) := by decide +kernel
theorem dX11_laysPaths_116 : decode cX11_laysPaths 116 = .ok (.invokevirtual 177, 3) := by decide +kernel
theorem dX11_laysPaths_119 : decode cX11_laysPaths 119 = .ok (.iload_n 3, 1) := by decide +kernel
theorem dX11_laysPaths_120 : decode cX11_laysPaths 120 = .ok (.if_icmp .eq 6, 3) := by decide +kernel
theorem dX11_laysPaths_123 : decode cX11_laysPaths 123 = .ok (.goto 71, 3) := by decide +kernel
theorem dX11_laysPaths_126 : decode cX11_laysPaths 126 = .ok (.lconst 0, 1) := by decide +kernel
theorem dX11_laysPaths_127 : decode cX11_laysPaths 127 = .ok (.lstore 5, 2) := by decide +kernel
theorem dX11_laysPaths_129 : decode cX11_laysPaths 129 = .ok (.iconst 0, 1) := by decide +kernel
theorem dX11_laysPaths_130 : decode cX11_laysPaths 130 = .ok (.istore 7, 2) := by decide +kernel
theorem dX11_laysPaths_132 : decode cX11_laysPaths 132 = .ok (.iload 7, 2) := by decide +kernel
theorem dX11_laysPaths_134 : decode cX11_laysPaths 134 = .ok (.aload_n 0, 1) := by decide +kernel
theorem dX11_laysPaths_135 : decode cX11_laysPaths 135 = .ok (.invokevirtual 95, 3) := by decide +kernel
theorem dX11_laysPaths_138 : decode cX11_laysPaths 138 = .ok (.if_icmp .ge 42, 3) := by decide +kernel
theorem dX11_laysPaths_141 : decode cX11_laysPaths 141 = .ok (.aload_n 0, 1) := by decide +kernel
theorem dX11_laysPaths_142 : decode cX11_laysPaths 142 = .ok (.iload 7, 2) := by decide +kernel
theorem dX11_laysPaths_144 : decode cX11_laysPaths 144 = .ok (.iload 4, 2) := by decide +kernel
theorem dX11_laysPaths_146 : decode cX11_laysPaths 146 = .ok (.iload_n 1, 1) := by decide +kernel
theorem dX11_laysPaths_147 : decode cX11_laysPaths 147 = .ok (.invokevirtual 185, 3) := by decide +kernel
theorem dX11_laysPaths_150 : decode cX11_laysPaths 150 = .ok (.ifCond .eq 24, 3) := by decide +kernel
theorem dX11_laysPaths_153 : decode cX11_laysPaths 153 = .ok (.lload 5, 2) := by decide +kernel
theorem dX11_laysPaths_155 : decode cX11_laysPaths 155 = .ok (.aload_n 0, 1) := by decide +kernel
theorem dX11_laysPaths_156 : decode cX11_laysPaths 156 = .ok (.getfield 26, 3) := by decide +kernel
theorem dX11_laysPaths_159 : decode cX11_laysPaths 159 = .ok (.bipush 10, 2) := by decide +kernel
theorem dX11_laysPaths_161 : decode cX11_laysPaths 161 = .ok (.aload_n 0, 1) := by decide +kernel
theorem dX11_laysPaths_162 : decode cX11_laysPaths 162 = .ok (.iload 7, 2) := by decide +kernel
theorem dX11_laysPaths_164 : decode cX11_laysPaths 164 = .ok (.invokevirtual 158, 3) := by decide +kernel
theorem dX11_laysPaths_167 : decode cX11_laysPaths 167 = .ok (.imul, 1) := by decide +kernel
theorem dX11_laysPaths_168 : decode cX11_laysPaths 168 = .ok (.iload_n 1, 1) := by decide +kernel
theorem dX11_laysPaths_169 : decode cX11_laysPaths 169 = .ok (.iadd, 1) := by decide +kernel
theorem dX11_laysPaths_170 : decode cX11_laysPaths 170 = .ok (.laload, 1) := by decide +kernel
theorem dX11_laysPaths_171 : decode cX11_laysPaths 171 = .ok (.ladd, 1) := by decide +kernel
theorem dX11_laysPaths_172 : decode cX11_laysPaths 172 = .ok (.lstore 5, 2) := by decide +kernel
theorem dX11_laysPaths_174 : decode cX11_laysPaths 174 = .ok (.iinc 7 1, 3) := by decide +kernel
theorem dX11_laysPaths_177 : decode cX11_laysPaths 177 = .ok (.goto (-45), 3) := by decide +kernel
theorem dX11_laysPaths_180 : decode cX11_laysPaths 180 = .ok (.aload_n 0, 1) := by decide +kernel
theorem dX11_laysPaths_181 : decode cX11_laysPaths 181 = .ok (.getfield 26, 3) := by decide +kernel
theorem dX11_laysPaths_184 : decode cX11_laysPaths 184 = .ok (.bipush 10, 2) := by decide +kernel
theorem dX11_laysPaths_186 : decode cX11_laysPaths 186 = .ok (.iload 4, 2) := by decide +kernel
theorem dX11_laysPaths_188 : decode cX11_laysPaths 188 = .ok (.imul, 1) := by decide +kernel
theorem dX11_laysPaths_189 : decode cX11_laysPaths 189 = .ok (.iload_n 1, 1) := by decide +kernel
theorem dX11_laysPaths_190 : decode cX11_laysPaths 190 = .ok (.iadd, 1) := by decide +kernel
theorem dX11_laysPaths_191 : decode cX11_laysPaths 191 = .ok (.lload 5, 2) := by decide +kernel
theorem dX11_laysPaths_193 : decode cX11_laysPaths 193 = .ok (.lastore, 1) := by decide +kernel
theorem dX11_laysPaths_194 : decode cX11_laysPaths 194 = .ok (.iinc 4 1, 3) := by decide +kernel
theorem dX11_laysPaths_197 : decode cX11_laysPaths 197 = .ok (.goto (-100), 3) := by decide +kernel
theorem dX11_laysPaths_200 : decode cX11_laysPaths 200 = .ok (.iload_n 3, 1) := by decide +kernel
theorem dX11_laysPaths_201 : decode cX11_laysPaths 201 = .ok (.istore_n 2, 1) := by decide +kernel
theorem dX11_laysPaths_202 : decode cX11_laysPaths 202 = .ok (.goto (-165), 3) := by decide +kernel
theorem dX11_laysPaths_205 : decode cX11_laysPaths 205 = .ok (.return_, 1) := by decide +kernel
abbrev mX11_laysPaths : MI := (RX11, yX11_laysPaths, cX11_laysPaths, 8, none)
theorem mok_X11_laysPaths : MOKv mX11_laysPaths 1 := ⟨⟨bm_1506, bm_127, ⟨by decide, by decide⟩, by decide +kernel⟩, bm_1505, bm_62⟩
def f_X11_laysPaths_200  (k37 : Int32 → MH → Option (MH)) (a0 : Nat) (x1 : Int32) (x3 : Int32) (h : MH) : Option (MH) :=
  k37 x3 h
def f_X11_laysPaths_194  (k37 : Int32 → MH → Option (MH)) (k97 : Int32 → MH → Option (MH)) (a0 : Nat) (x1 : Int32) (x3 : Int32) (x4 : Int32) (h : MH) : Option (MH) :=
  k97 (x4 + 1) h
def f_X11_laysPaths_174  (k37 : Int32 → MH → Option (MH)) (k97 : Int32 → MH → Option (MH)) (k132 : Int64 × Int32 → MH → Option (MH)) (a0 : Nat) (x1 : Int32) (x3 : Int32) (x4 : Int32) (l5 : Int64) (x7 : Int32) (h : MH) : Option (MH) :=
  k132 (l5, (x7 + 1)) h
def f_X11_laysPaths_132b  (k37 : Int32 → MH → Option (MH)) (k97 : Int32 → MH → Option (MH)) (a0 : Nat) (x1 : Int32) (x3 : Int32) (x4 : Int32) (k132 : Int64 × Int32 → MH → Option (MH)) (p : Int64 × Int32) (h : MH) : Option (MH) :=
  (f_X11_links a0 h).bind fun q_1 =>
  if p.2 < q_1.1 then
    (f_X11_isOn a0 p.2 x4 x1 q_1.2).bind fun q_2 =>
    if q_2.1 = 0 then
      f_X11_laysPaths_174 k37 k97 k132 a0 x1 x3 x4 p.1 p.2 q_2.2
    else
      (gR q_2.2 a0 9).bind fun a_3 =>
      (f_X11_to a0 p.2 q_2.2).bind fun q_4 =>
      (ldL q_4.2 a_3 ((10 * q_4.1) + x1)).bind fun l_5 =>
      lt (p.1 + l_5) fun l_6 =>
      f_X11_laysPaths_174 k37 k97 k132 a0 x1 x3 x4 l_6 p.2 q_4.2
  else
    (gR q_1.2 a0 9).bind fun a_7 =>
    (stL q_1.2 a_7 ((10 * x4) + x1) p.1).bind fun h_8 =>
    f_X11_laysPaths_194 k37 k97 a0 x1 x3 x4 h_8
def f_X11_laysPaths_132  (k37 : Int32 → MH → Option (MH)) (k97 : Int32 → MH → Option (MH)) (a0 : Nat) (x1 : Int32) (x3 : Int32) (x4 : Int32) : Nat → Int64 × Int32 → MH → Option (MH) := lp (f_X11_laysPaths_132b k37 k97 a0 x1 x3 x4)
def f_X11_laysPaths_97b  (k37 : Int32 → MH → Option (MH)) (a0 : Nat) (x1 : Int32) (x3 : Int32) (k97 : Int32 → MH → Option (MH)) (p : Int32) (h : MH) : Option (MH) :=
  (f_X11_n a0 h).bind fun q_1 =>
  if p < q_1.1 then
    if x3 < 1000000 then
      (f_X11_far2 a0 p x1 q_1.2).bind fun q_2 =>
      if q_2.1 = x3 then
        f_X11_laysPaths_132 k37 k97 a0 x1 x3 p FU (0, 0) q_2.2
      else
        f_X11_laysPaths_194 k37 k97 a0 x1 x3 p q_2.2
    else
      f_X11_laysPaths_200 k37 a0 x1 x3 q_1.2
  else
    f_X11_laysPaths_200 k37 a0 x1 x3 q_1.2
def f_X11_laysPaths_97  (k37 : Int32 → MH → Option (MH)) (a0 : Nat) (x1 : Int32) (x3 : Int32) : Nat → Int32 → MH → Option (MH) := lp (f_X11_laysPaths_97b k37 a0 x1 x3)
def f_X11_laysPaths_88  (k37 : Int32 → MH → Option (MH)) (k49 : Int32 × Int32 → MH → Option (MH)) (a0 : Nat) (x1 : Int32) (x2 : Int32) (x3 : Int32) (x4 : Int32) (h : MH) : Option (MH) :=
  k49 (x3, (x4 + 1)) h
def f_X11_laysPaths_49b  (k37 : Int32 → MH → Option (MH)) (a0 : Nat) (x1 : Int32) (x2 : Int32) (k49 : Int32 × Int32 → MH → Option (MH)) (p : Int32 × Int32) (h : MH) : Option (MH) :=
  (f_X11_n a0 h).bind fun q_1 =>
  if p.2 < q_1.1 then
    (f_X11_far2 a0 p.2 x1 q_1.2).bind fun q_2 =>
    if x2 < q_2.1 then
      (f_X11_far2 a0 p.2 x1 q_2.2).bind fun q_3 =>
      if q_3.1 < p.1 then
        (f_X11_far2 a0 p.2 x1 q_3.2).bind fun q_4 =>
        f_X11_laysPaths_88 k37 k49 a0 x1 x2 q_4.1 p.2 q_4.2
      else
        f_X11_laysPaths_88 k37 k49 a0 x1 x2 p.1 p.2 q_3.2
    else
      f_X11_laysPaths_88 k37 k49 a0 x1 x2 p.1 p.2 q_2.2
  else
    f_X11_laysPaths_97 k37 a0 x1 p.1 FU 0 q_1.2
def f_X11_laysPaths_49  (k37 : Int32 → MH → Option (MH)) (a0 : Nat) (x1 : Int32) (x2 : Int32) : Nat → Int32 × Int32 → MH → Option (MH) := lp (f_X11_laysPaths_49b k37 a0 x1 x2)
def f_X11_laysPaths_37b   (a0 : Nat) (x1 : Int32) (k37 : Int32 → MH → Option (MH)) (p : Int32) (h : MH) : Option (MH) :=
  if p < 1000000 then
    f_X11_laysPaths_49 k37 a0 x1 p FU (1000000, 0) h
  else
    some h
def f_X11_laysPaths_37   (a0 : Nat) (x1 : Int32) : Nat → Int32 → MH → Option (MH) := lp (f_X11_laysPaths_37b a0 x1)
def f_X11_laysPaths_28  (k2 : Int32 → MH → Option (MH)) (a0 : Nat) (x1 : Int32) (x2 : Int32) (t0 : Nat) (t1 : Int32) (t2 : Int64) (h : MH) : Option (MH) :=
  (stL h t0 t1 t2).bind fun h_1 =>
  k2 (x2 + 1) h_1
def f_X11_laysPaths_2b   (a0 : Nat) (x1 : Int32) (k2 : Int32 → MH → Option (MH)) (p : Int32) (h : MH) : Option (MH) :=
  if p < 10 then
    (gR h a0 9).bind fun a_1 =>
    if p = x1 then
      f_X11_laysPaths_28 k2 a0 x1 p a_1 ((10 * p) + x1) 1 h
    else
      f_X11_laysPaths_28 k2 a0 x1 p a_1 ((10 * p) + x1) 0 h
  else
    f_X11_laysPaths_37 a0 x1 FU 0 h
def f_X11_laysPaths_2   (a0 : Nat) (x1 : Int32) : Nat → Int32 → MH → Option (MH) := lp (f_X11_laysPaths_2b a0 x1)
def f_X11_laysPaths   (a0 : Nat) (x1 : Int32) (h : MH) : Option (MH) :=
  f_X11_laysPaths_2 a0 x1 FU 0 h
set_option maxRecDepth 100000 in
set_option maxHeartbeats 4000000 in
theorem v_X11_laysPaths_200 {l : Launch} {G : GE} {B N : Nat} {S : List SHP} {o : MH} {a0 : Nat} {x1 : Int32} {x3 : Int32}  {k37 : Int32 → MH → Option (MH)} (hk37 : ∀ (p : Int32) (h : MH), k37 p h = some o → V l G B N mX11_laysPaths (rmm 5 0 0) false 0 0 (QV S o) S 0 0 37 [(0, .ref a0), (1, .int x1), (2, .int p)] [] h) (hs0 : S[a0]? = some (.inl 11)) {h : MH} (hf : f_X11_laysPaths_200 k37 a0 x1 x3 h = some o) : V l G B N mX11_laysPaths (rmm 5 0 0) false 0 0 (QV S o) S 0 0 200 [(0, .ref a0), (1, .int x1), (3, .int x3)] [] h := by
  unfold f_X11_laysPaths_200 at hf
  refine V_iload_n (pc' := 201) dX11_laysPaths_200 rfl 2 rfl rfl ?_
  refine V_istore_n (lv' := [(2, .int x3), (0, .ref a0), (1, .int x1), (3, .int x3)]) (pc' := 202) dX11_laysPaths_201 rfl rfl (Nat.le_of_ble_eq_true rfl) rfl ?_
  refine V_goto (tgt := 37) dX11_laysPaths_202 (by decide) ?_
  exact V_sub (lv' := [(0, .ref a0), (1, .int x1), (2, .int x3)]) [1, 2, 0] rfl (hk37 x3 h hf)
set_option maxRecDepth 100000 in
set_option maxHeartbeats 4000000 in
theorem v_X11_laysPaths_194 {l : Launch} {G : GE} {B N : Nat} {S : List SHP} {o : MH} {a0 : Nat} {x1 : Int32} {x3 : Int32} {x4 : Int32}  {k37 : Int32 → MH → Option (MH)} {k97 : Int32 → MH → Option (MH)} (hk37 : ∀ (p : Int32) (h : MH), k37 p h = some o → V l G B N mX11_laysPaths (rmm 5 0 0) false 0 0 (QV S o) S 0 0 37 [(0, .ref a0), (1, .int x1), (2, .int p)] [] h) (hk97 : ∀ (p : Int32) (h : MH), k97 p h = some o → V l G B N mX11_laysPaths (rmm 5 0 0) false 0 0 (QV S o) S 0 0 97 [(0, .ref a0), (1, .int x1), (3, .int x3), (4, .int p)] [] h) (hs0 : S[a0]? = some (.inl 11)) {h : MH} (hf : f_X11_laysPaths_194 k37 k97 a0 x1 x3 x4 h = some o) : V l G B N mX11_laysPaths (rmm 5 0 0) false 0 0 (QV S o) S 0 0 194 [(0, .ref a0), (1, .int x1), (3, .int x3), (4, .int x4)] [] h := by
  unfold f_X11_laysPaths_194 at hf
  refine V_iinc (v := (x4 + 1)) (lv' := [(4, .int (x4 + 1)), (0, .ref a0), (1, .int x1), (3, .int x3)]) (pc' := 197) dX11_laysPaths_194 rfl 3 rfl rfl (Nat.le_of_ble_eq_true rfl) rfl ?_
  refine V_goto (tgt := 97) dX11_laysPaths_197 (by decide) ?_
  exact V_sub (lv' := [(0, .ref a0), (1, .int x1), (3, .int x3), (4, .int (x4 + 1))]) [1, 2, 3, 0] rfl (hk97 (x4 + 1) h hf)
set_option maxRecDepth 100000 in
set_option maxHeartbeats 4000000 in
theorem v_X11_laysPaths_174 {l : Launch} {G : GE} {B N : Nat} {S : List SHP} {o : MH} {a0 : Nat} {x1 : Int32} {x3 : Int32} {x4 : Int32} {l5 : Int64} {x7 : Int32}  {k37 : Int32 → MH → Option (MH)} {k97 : Int32 → MH → Option (MH)} {k132 : Int64 × Int32 → MH → Option (MH)} (hk37 : ∀ (p : Int32) (h : MH), k37 p h = some o → V l G B N mX11_laysPaths (rmm 5 0 0) false 0 0 (QV S o) S 0 0 37 [(0, .ref a0), (1, .int x1), (2, .int p)] [] h) (hk97 : ∀ (p : Int32) (h : MH), k97 p h = some o → V l G B N mX11_laysPaths (rmm 5 0 0) false 0 0 (QV S o) S 0 0 97 [(0, .ref a0), (1, .int x1), (3, .int x3), (4, .int p)] [] h) (hk132 : ∀ (p : Int64 × Int32) (h : MH), k132 p h = some o → V l G B N mX11_laysPaths (rmm 5 0 0) false 0 0 (QV S o) S 0 0 132 [(0, .ref a0), (1, .int x1), (3, .int x3), (4, .int x4), (5, .long p.1), (7, .int p.2)] [] h) (hs0 : S[a0]? = some (.inl 11)) {h : MH} (hf : f_X11_laysPaths_174 k37 k97 k132 a0 x1 x3 x4 l5 x7 h = some o) : V l G B N mX11_laysPaths (rmm 5 0 0) false 0 0 (QV S o) S 0 0 174 [(0, .ref a0), (1, .int x1), (3, .int x3), (4, .int x4), (5, .long l5), (7, .int x7)] [] h := by
  unfold f_X11_laysPaths_174 at hf
  refine V_iinc (v := (x7 + 1)) (lv' := [(7, .int (x7 + 1)), (0, .ref a0), (1, .int x1), (3, .int x3), (4, .int x4), (5, .long l5)]) (pc' := 177) dX11_laysPaths_174 rfl 5 rfl rfl (Nat.le_of_ble_eq_true rfl) rfl ?_
  refine V_goto (tgt := 132) dX11_laysPaths_177 (by decide) ?_
  exact V_sub (lv' := [(0, .ref a0), (1, .int x1), (3, .int x3), (4, .int x4), (5, .long l5), (7, .int (x7 + 1))]) [1, 2, 3, 4, 5, 0] rfl (hk132 (l5, (x7 + 1)) h hf)
set_option maxRecDepth 100000 in
set_option maxHeartbeats 4000000 in
theorem v_X11_laysPaths_132b {l : Launch} {G : GE} {B N : Nat} {S : List SHP} {o : MH} {a0 : Nat} {x1 : Int32} {x3 : Int32} {x4 : Int32}  {k37 : Int32 → MH → Option (MH)} {k97 : Int32 → MH → Option (MH)} (hk37 : ∀ (p : Int32) (h : MH), k37 p h = some o → V l G B N mX11_laysPaths (rmm 5 0 0) false 0 0 (QV S o) S 0 0 37 [(0, .ref a0), (1, .int x1), (2, .int p)] [] h) (hk97 : ∀ (p : Int32) (h : MH), k97 p h = some o → V l G B N mX11_laysPaths (rmm 5 0 0) false 0 0 (QV S o) S 0 0 97 [(0, .ref a0), (1, .int x1), (3, .int x3), (4, .int p)] [] h) (hs0 : S[a0]? = some (.inl 11)) {k132 : Int64 × Int32 → MH → Option (MH)} (hk132 : ∀ (p : Int64 × Int32) (h : MH), k132 p h = some o → V l G B N mX11_laysPaths (rmm 5 0 0) false 0 0 (QV S o) S 0 0 132 [(0, .ref a0), (1, .int x1), (3, .int x3), (4, .int x4), (5, .long p.1), (7, .int p.2)] [] h) {p : Int64 × Int32} {h : MH} (hf : f_X11_laysPaths_132b k37 k97 a0 x1 x3 x4 k132 p h = some o) : V l G B N mX11_laysPaths (rmm 5 0 0) false 0 0 (QV S o) S 0 0 132 [(0, .ref a0), (1, .int x1), (3, .int x3), (4, .int x4), (5, .long p.1), (7, .int p.2)] [] h := by
  unfold f_X11_laysPaths_132b at hf
  refine V_iload (pc' := 134) dX11_laysPaths_132 rfl 5 rfl ?_
  refine V_aload_n (pc' := 135) dX11_laysPaths_134 rfl 0 rfl rfl ?_
  refine V_cvI (pc' := 138) (As := []) (rest := [.int p.2]) dX11_laysPaths_135 rfl mok_X11_links bm_1398 11 (by decide) rfl hs0 rfl rfl (Nat.le_of_ble_eq_true rfl) (by decide) hf (fun q e => ct_X11_links hs0 e) (fun q_1 hf => ?_)
  refine V_icmp_ge (tgt := 180) (pc' := 141) dX11_laysPaths_138 (by decide) rfl hf (fun hf => ?_) (fun hf => ?_)
  ·
    refine V_aload_n (pc' := 142) dX11_laysPaths_141 rfl 0 rfl rfl ?_
    refine V_iload (pc' := 144) dX11_laysPaths_142 rfl 5 rfl ?_
    refine V_iload (pc' := 146) dX11_laysPaths_144 rfl 3 rfl ?_
    refine V_iload_n (pc' := 147) dX11_laysPaths_146 rfl 1 rfl rfl ?_
    refine V_cvI (pc' := 150) (As := [.int p.2, .int x4, .int x1]) (rest := []) dX11_laysPaths_147 rfl mok_X11_isOn bm_1507 11 (by decide) rfl hs0 rfl rfl (Nat.le_of_ble_eq_true rfl) (by decide) hf (fun q e => ct_X11_isOn hs0 e) (fun q_2 hf => ?_)
    refine V_if_eq (tgt := 174) (pc' := 153) dX11_laysPaths_150 (by decide) rfl hf (fun hf => ?_) (fun hf => ?_)
    ·
      exact V_sub (lv' := [(0, .ref a0), (1, .int x1), (3, .int x3), (4, .int x4), (5, .long p.1), (7, .int p.2)]) [0, 1, 2, 3, 4, 5] rfl (v_X11_laysPaths_174 hk37 hk97 hk132 hs0 hf)
    ·
      refine V_lload (pc' := 155) dX11_laysPaths_153 rfl 4 rfl ?_
      refine V_aload_n (pc' := 156) dX11_laysPaths_155 rfl 0 rfl rfl ?_
      refine V_getR (pc' := 159) 11 9 dX11_laysPaths_156 rfl (by decide) (Nat.le_of_ble_eq_true rfl) bm_1233 hs0 (fun _ _ _ => rfl) rfl hf (fun a_3 ha_3 hf => ?_)
      refine V_bipush (v := 10) (pc' := 161) dX11_laysPaths_159 rfl (by decide) ?_
      refine V_aload_n (pc' := 162) dX11_laysPaths_161 rfl 0 rfl rfl ?_
      refine V_iload (pc' := 164) dX11_laysPaths_162 rfl 5 rfl ?_
      refine V_cvI (pc' := 167) (As := [.int p.2]) (rest := [.int 10, .ref a_3, .long p.1]) dX11_laysPaths_164 rfl mok_X11_to bm_1461 11 (by decide) rfl hs0 rfl rfl (Nat.le_of_ble_eq_true rfl) (by decide) hf (fun q e => ct_X11_to hs0 e) (fun q_4 hf => ?_)
      refine V_imul (pc' := 168) dX11_laysPaths_167 rfl ?_
      refine V_iload_n (pc' := 169) dX11_laysPaths_168 rfl 1 rfl rfl ?_
      refine V_iadd (pc' := 170) dX11_laysPaths_169 rfl ?_
      refine V_lald (pc' := 171) dX11_laysPaths_170 rfl ha_3 hf (fun l_5 hf => ?_)
      refine V_ladd (pc' := 172) dX11_laysPaths_171 rfl ?_
      refine V_nmJ hf (fun l_6 hf => ?_)
      refine V_lstore (lv' := [(5, .long l_6), (0, .ref a0), (1, .int x1), (3, .int x3), (4, .int x4), (7, .int p.2)]) (pc' := 174) dX11_laysPaths_172 rfl (Nat.le_of_ble_eq_true rfl) rfl ?_
      exact V_sub (lv' := [(0, .ref a0), (1, .int x1), (3, .int x3), (4, .int x4), (5, .long l_6), (7, .int p.2)]) [1, 2, 3, 4, 0, 5] rfl (v_X11_laysPaths_174 hk37 hk97 hk132 hs0 hf)
  ·
    refine V_aload_n (pc' := 181) dX11_laysPaths_180 rfl 0 rfl rfl ?_
    refine V_getR (pc' := 184) 11 9 dX11_laysPaths_181 rfl (by decide) (Nat.le_of_ble_eq_true rfl) bm_1233 hs0 (fun _ _ _ => rfl) rfl hf (fun a_7 ha_7 hf => ?_)
    refine V_bipush (v := 10) (pc' := 186) dX11_laysPaths_184 rfl (by decide) ?_
    refine V_iload (pc' := 188) dX11_laysPaths_186 rfl 3 rfl ?_
    refine V_imul (pc' := 189) dX11_laysPaths_188 rfl ?_
    refine V_iload_n (pc' := 190) dX11_laysPaths_189 rfl 1 rfl rfl ?_
    refine V_iadd (pc' := 191) dX11_laysPaths_190 rfl ?_
    refine V_lload (pc' := 193) dX11_laysPaths_191 rfl 4 rfl ?_
    refine V_last (pc' := 194) dX11_laysPaths_193 rfl ha_7 hf (fun h_8 hf => ?_)
    exact V_sub (lv' := [(0, .ref a0), (1, .int x1), (3, .int x3), (4, .int x4)]) [0, 1, 2, 3] rfl (v_X11_laysPaths_194 hk37 hk97 hs0 hf)
theorem v_X11_laysPaths_132 {l : Launch} {G : GE} {B N : Nat} {S : List SHP} {o : MH} {a0 : Nat} {x1 : Int32} {x3 : Int32} {x4 : Int32}  {k37 : Int32 → MH → Option (MH)} {k97 : Int32 → MH → Option (MH)} (hk37 : ∀ (p : Int32) (h : MH), k37 p h = some o → V l G B N mX11_laysPaths (rmm 5 0 0) false 0 0 (QV S o) S 0 0 37 [(0, .ref a0), (1, .int x1), (2, .int p)] [] h) (hk97 : ∀ (p : Int32) (h : MH), k97 p h = some o → V l G B N mX11_laysPaths (rmm 5 0 0) false 0 0 (QV S o) S 0 0 97 [(0, .ref a0), (1, .int x1), (3, .int x3), (4, .int p)] [] h) (hs0 : S[a0]? = some (.inl 11)) {n : Nat} {p : Int64 × Int32} {h : MH} (hf : f_X11_laysPaths_132 k37 k97 a0 x1 x3 x4 n p h = some o) : V l G B N mX11_laysPaths (rmm 5 0 0) false 0 0 (QV S o) S 0 0 132 [(0, .ref a0), (1, .int x1), (3, .int x3), (4, .int x4), (5, .long p.1), (7, .int p.2)] [] h :=
  V_lp (VV := fun p h => V l G B N mX11_laysPaths (rmm 5 0 0) false 0 0 (QV S o) S 0 0 132 [(0, .ref a0), (1, .int x1), (3, .int x3), (4, .int x4), (5, .long p.1), (7, .int p.2)] [] h) (fun _ hk _ _ hf => v_X11_laysPaths_132b hk37 hk97 hs0 hk hf) n p h hf
set_option maxRecDepth 100000 in
set_option maxHeartbeats 4000000 in
theorem v_X11_laysPaths_97b {l : Launch} {G : GE} {B N : Nat} {S : List SHP} {o : MH} {a0 : Nat} {x1 : Int32} {x3 : Int32}  {k37 : Int32 → MH → Option (MH)} (hk37 : ∀ (p : Int32) (h : MH), k37 p h = some o → V l G B N mX11_laysPaths (rmm 5 0 0) false 0 0 (QV S o) S 0 0 37 [(0, .ref a0), (1, .int x1), (2, .int p)] [] h) (hs0 : S[a0]? = some (.inl 11)) {k97 : Int32 → MH → Option (MH)} (hk97 : ∀ (p : Int32) (h : MH), k97 p h = some o → V l G B N mX11_laysPaths (rmm 5 0 0) false 0 0 (QV S o) S 0 0 97 [(0, .ref a0), (1, .int x1), (3, .int x3), (4, .int p)] [] h) {p : Int32} {h : MH} (hf : f_X11_laysPaths_97b k37 a0 x1 x3 k97 p h = some o) : V l G B N mX11_laysPaths (rmm 5 0 0) false 0 0 (QV S o) S 0 0 97 [(0, .ref a0), (1, .int x1), (3, .int x3), (4, .int p)] [] h := by
  unfold f_X11_laysPaths_97b at hf
  refine V_iload (pc' := 99) dX11_laysPaths_97 rfl 3 rfl ?_
  refine V_aload_n (pc' := 100) dX11_laysPaths_99 rfl 0 rfl rfl ?_
  refine V_cvI (pc' := 103) (As := []) (rest := [.int p]) dX11_laysPaths_100 rfl mok_X11_n bm_1393 11 (by decide) rfl hs0 rfl rfl (Nat.le_of_ble_eq_true rfl) (by decide) hf (fun q e => ct_X11_n hs0 e) (fun q_1 hf => ?_)
  refine V_icmp_ge (tgt := 200) (pc' := 106) dX11_laysPaths_103 (by decide) rfl hf (fun hf => ?_) (fun hf => ?_)
  ·
    refine V_iload_n (pc' := 107) dX11_laysPaths_106 rfl 2 rfl rfl ?_
    refine V_ldc (v := 1000000) (pc' := 109) dX11_laysPaths_107 rfl bm_1498 ?_
    refine V_icmp_ge (tgt := 200) (pc' := 112) dX11_laysPaths_109 (by decide) rfl hf (fun hf => ?_) (fun hf => ?_)
    ·
      refine V_aload_n (pc' := 113) dX11_laysPaths_112 rfl 0 rfl rfl ?_
      refine V_iload (pc' := 115) dX11_laysPaths_113 rfl 3 rfl ?_
      refine V_iload_n (pc' := 116) dX11_laysPaths_115 rfl 1 rfl rfl ?_
      refine V_cvI (pc' := 119) (As := [.int p, .int x1]) (rest := []) dX11_laysPaths_116 rfl mok_X11_far2 bm_1499 11 (by decide) rfl hs0 rfl rfl (Nat.le_of_ble_eq_true rfl) (by decide) hf (fun q e => ct_X11_far2 hs0 e) (fun q_2 hf => ?_)
      refine V_iload_n (pc' := 120) dX11_laysPaths_119 rfl 2 rfl rfl ?_
      refine V_icmp_eq (tgt := 126) (pc' := 123) dX11_laysPaths_120 (by decide) rfl hf (fun hf => ?_) (fun hf => ?_)
      ·
        refine V_lconst (v := 0) (pc' := 127) dX11_laysPaths_126 rfl (by decide) ?_
        refine V_lstore (lv' := [(5, .long 0), (0, .ref a0), (1, .int x1), (3, .int x3), (4, .int p)]) (pc' := 129) dX11_laysPaths_127 rfl (Nat.le_of_ble_eq_true rfl) rfl ?_
        refine V_iconst (v := 0) (pc' := 130) dX11_laysPaths_129 rfl (by decide) ?_
        refine V_istore (lv' := [(7, .int 0), (5, .long 0), (0, .ref a0), (1, .int x1), (3, .int x3), (4, .int p)]) (pc' := 132) dX11_laysPaths_130 rfl (Nat.le_of_ble_eq_true rfl) rfl ?_
        exact V_sub (lv' := [(0, .ref a0), (1, .int x1), (3, .int x3), (4, .int p), (5, .long 0), (7, .int 0)]) [2, 3, 4, 5, 1, 0] rfl (v_X11_laysPaths_132 hk37 hk97 hs0 hf)
      ·
        refine V_goto (tgt := 194) dX11_laysPaths_123 (by decide) ?_
        exact V_sub (lv' := [(0, .ref a0), (1, .int x1), (3, .int x3), (4, .int p)]) [0, 1, 2, 3] rfl (v_X11_laysPaths_194 hk37 hk97 hs0 hf)
    ·
      exact V_sub (lv' := [(0, .ref a0), (1, .int x1), (3, .int x3)]) [0, 1, 2] rfl (v_X11_laysPaths_200 hk37 hs0 hf)
  ·
    exact V_sub (lv' := [(0, .ref a0), (1, .int x1), (3, .int x3)]) [0, 1, 2] rfl (v_X11_laysPaths_200 hk37 hs0 hf)
theorem v_X11_laysPaths_97 {l : Launch} {G : GE} {B N : Nat} {S : List SHP} {o : MH} {a0 : Nat} {x1 : Int32} {x3 : Int32}  {k37 : Int32 → MH → Option (MH)} (hk37 : ∀ (p : Int32) (h : MH), k37 p h = some o → V l G B N mX11_laysPaths (rmm 5 0 0) false 0 0 (QV S o) S 0 0 37 [(0, .ref a0), (1, .int x1), (2, .int p)] [] h) (hs0 : S[a0]? = some (.inl 11)) {n : Nat} {p : Int32} {h : MH} (hf : f_X11_laysPaths_97 k37 a0 x1 x3 n p h = some o) : V l G B N mX11_laysPaths (rmm 5 0 0) false 0 0 (QV S o) S 0 0 97 [(0, .ref a0), (1, .int x1), (3, .int x3), (4, .int p)] [] h :=
  V_lp (VV := fun p h => V l G B N mX11_laysPaths (rmm 5 0 0) false 0 0 (QV S o) S 0 0 97 [(0, .ref a0), (1, .int x1), (3, .int x3), (4, .int p)] [] h) (fun _ hk _ _ hf => v_X11_laysPaths_97b hk37 hs0 hk hf) n p h hf
set_option maxRecDepth 100000 in
set_option maxHeartbeats 4000000 in
theorem v_X11_laysPaths_88 {l : Launch} {G : GE} {B N : Nat} {S : List SHP} {o : MH} {a0 : Nat} {x1 : Int32} {x2 : Int32} {x3 : Int32} {x4 : Int32}  {k37 : Int32 → MH → Option (MH)} {k49 : Int32 × Int32 → MH → Option (MH)} (hk37 : ∀ (p : Int32) (h : MH), k37 p h = some o → V l G B N mX11_laysPaths (rmm 5 0 0) false 0 0 (QV S o) S 0 0 37 [(0, .ref a0), (1, .int x1), (2, .int p)] [] h) (hk49 : ∀ (p : Int32 × Int32) (h : MH), k49 p h = some o → V l G B N mX11_laysPaths (rmm 5 0 0) false 0 0 (QV S o) S 0 0 49 [(0, .ref a0), (1, .int x1), (2, .int x2), (3, .int p.1), (4, .int p.2)] [] h) (hs0 : S[a0]? = some (.inl 11)) {h : MH} (hf : f_X11_laysPaths_88 k37 k49 a0 x1 x2 x3 x4 h = some o) : V l G B N mX11_laysPaths (rmm 5 0 0) false 0 0 (QV S o) S 0 0 88 [(0, .ref a0), (1, .int x1), (2, .int x2), (3, .int x3), (4, .int x4)] [] h := by
  unfold f_X11_laysPaths_88 at hf
  refine V_iinc (v := (x4 + 1)) (lv' := [(4, .int (x4 + 1)), (0, .ref a0), (1, .int x1), (2, .int x2), (3, .int x3)]) (pc' := 91) dX11_laysPaths_88 rfl 4 rfl rfl (Nat.le_of_ble_eq_true rfl) rfl ?_
  refine V_goto (tgt := 49) dX11_laysPaths_91 (by decide) ?_
  exact V_sub (lv' := [(0, .ref a0), (1, .int x1), (2, .int x2), (3, .int x3), (4, .int (x4 + 1))]) [1, 2, 3, 4, 0] rfl (hk49 (x3, (x4 + 1)) h hf)
set_option maxRecDepth 100000 in
set_option maxHeartbeats 4000000 in
theorem v_X11_laysPaths_49b {l : Launch} {G : GE} {B N : Nat} {S : List SHP} {o : MH} {a0 : Nat} {x1 : Int32} {x2 : Int32}  {k37 : Int32 → MH → Option (MH)} (hk37 : ∀ (p : Int32) (h : MH), k37 p h = some o → V l G B N mX11_laysPaths (rmm 5 0 0) false 0 0 (QV S o) S 0 0 37 [(0, .ref a0), (1, .int x1), (2, .int p)] [] h) (hs0 : S[a0]? = some (.inl 11)) {k49 : Int32 × Int32 → MH → Option (MH)} (hk49 : ∀ (p : Int32 × Int32) (h : MH), k49 p h = some o → V l G B N mX11_laysPaths (rmm 5 0 0) false 0 0 (QV S o) S 0 0 49 [(0, .ref a0), (1, .int x1), (2, .int x2), (3, .int p.1), (4, .int p.2)] [] h) {p : Int32 × Int32} {h : MH} (hf : f_X11_laysPaths_49b k37 a0 x1 x2 k49 p h = some o) : V l G B N mX11_laysPaths (rmm 5 0 0) false 0 0 (QV S o) S 0 0 49 [(0, .ref a0), (1, .int x1), (2, .int x2), (3, .int p.1), (4, .int p.2)] [] h := by
  unfold f_X11_laysPaths_49b at hf
  refine V_iload (pc' := 51) dX11_laysPaths_49 rfl 4 rfl ?_
  refine V_aload_n (pc' := 52) dX11_laysPaths_51 rfl 0 rfl rfl ?_
  refine V_cvI (pc' := 55) (As := []) (rest := [.int p.2]) dX11_laysPaths_52 rfl mok_X11_n bm_1393 11 (by decide) rfl hs0 rfl rfl (Nat.le_of_ble_eq_true rfl) (by decide) hf (fun q e => ct_X11_n hs0 e) (fun q_1 hf => ?_)
  refine V_icmp_ge (tgt := 94) (pc' := 58) dX11_laysPaths_55 (by decide) rfl hf (fun hf => ?_) (fun hf => ?_)
  ·
    refine V_aload_n (pc' := 59) dX11_laysPaths_58 rfl 0 rfl rfl ?_
    refine V_iload (pc' := 61) dX11_laysPaths_59 rfl 4 rfl ?_
    refine V_iload_n (pc' := 62) dX11_laysPaths_61 rfl 1 rfl rfl ?_
    refine V_cvI (pc' := 65) (As := [.int p.2, .int x1]) (rest := []) dX11_laysPaths_62 rfl mok_X11_far2 bm_1499 11 (by decide) rfl hs0 rfl rfl (Nat.le_of_ble_eq_true rfl) (by decide) hf (fun q e => ct_X11_far2 hs0 e) (fun q_2 hf => ?_)
    refine V_iload_n (pc' := 66) dX11_laysPaths_65 rfl 2 rfl rfl ?_
    refine V_icmp_le (tgt := 88) (pc' := 69) dX11_laysPaths_66 (by decide) rfl hf (fun hf => ?_) (fun hf => ?_)
    ·
      refine V_aload_n (pc' := 70) dX11_laysPaths_69 rfl 0 rfl rfl ?_
      refine V_iload (pc' := 72) dX11_laysPaths_70 rfl 4 rfl ?_
      refine V_iload_n (pc' := 73) dX11_laysPaths_72 rfl 1 rfl rfl ?_
      refine V_cvI (pc' := 76) (As := [.int p.2, .int x1]) (rest := []) dX11_laysPaths_73 rfl mok_X11_far2 bm_1499 11 (by decide) rfl hs0 rfl rfl (Nat.le_of_ble_eq_true rfl) (by decide) hf (fun q e => ct_X11_far2 hs0 e) (fun q_3 hf => ?_)
      refine V_iload_n (pc' := 77) dX11_laysPaths_76 rfl 3 rfl rfl ?_
      refine V_icmp_ge (tgt := 88) (pc' := 80) dX11_laysPaths_77 (by decide) rfl hf (fun hf => ?_) (fun hf => ?_)
      ·
        refine V_aload_n (pc' := 81) dX11_laysPaths_80 rfl 0 rfl rfl ?_
        refine V_iload (pc' := 83) dX11_laysPaths_81 rfl 4 rfl ?_
        refine V_iload_n (pc' := 84) dX11_laysPaths_83 rfl 1 rfl rfl ?_
        refine V_cvI (pc' := 87) (As := [.int p.2, .int x1]) (rest := []) dX11_laysPaths_84 rfl mok_X11_far2 bm_1499 11 (by decide) rfl hs0 rfl rfl (Nat.le_of_ble_eq_true rfl) (by decide) hf (fun q e => ct_X11_far2 hs0 e) (fun q_4 hf => ?_)
        refine V_istore_n (lv' := [(3, .int q_4.1), (0, .ref a0), (1, .int x1), (2, .int x2), (4, .int p.2)]) (pc' := 88) dX11_laysPaths_87 rfl rfl (Nat.le_of_ble_eq_true rfl) rfl ?_
        exact V_sub (lv' := [(0, .ref a0), (1, .int x1), (2, .int x2), (3, .int q_4.1), (4, .int p.2)]) [1, 2, 3, 0, 4] rfl (v_X11_laysPaths_88 hk37 hk49 hs0 hf)
      ·
        exact V_sub (lv' := [(0, .ref a0), (1, .int x1), (2, .int x2), (3, .int p.1), (4, .int p.2)]) [0, 1, 2, 3, 4] rfl (v_X11_laysPaths_88 hk37 hk49 hs0 hf)
    ·
      exact V_sub (lv' := [(0, .ref a0), (1, .int x1), (2, .int x2), (3, .int p.1), (4, .int p.2)]) [0, 1, 2, 3, 4] rfl (v_X11_laysPaths_88 hk37 hk49 hs0 hf)
  ·
    refine V_iconst (v := 0) (pc' := 95) dX11_laysPaths_94 rfl (by decide) ?_
    refine V_istore (lv' := [(4, .int 0), (0, .ref a0), (1, .int x1), (2, .int x2), (3, .int p.1)]) (pc' := 97) dX11_laysPaths_95 rfl (Nat.le_of_ble_eq_true rfl) rfl ?_
    exact V_sub (lv' := [(0, .ref a0), (1, .int x1), (3, .int p.1), (4, .int 0)]) [1, 2, 4, 0] rfl (v_X11_laysPaths_97 hk37 hs0 hf)
theorem v_X11_laysPaths_49 {l : Launch} {G : GE} {B N : Nat} {S : List SHP} {o : MH} {a0 : Nat} {x1 : Int32} {x2 : Int32}  {k37 : Int32 → MH → Option (MH)} (hk37 : ∀ (p : Int32) (h : MH), k37 p h = some o → V l G B N mX11_laysPaths (rmm 5 0 0) false 0 0 (QV S o) S 0 0 37 [(0, .ref a0), (1, .int x1), (2, .int p)] [] h) (hs0 : S[a0]? = some (.inl 11)) {n : Nat} {p : Int32 × Int32} {h : MH} (hf : f_X11_laysPaths_49 k37 a0 x1 x2 n p h = some o) : V l G B N mX11_laysPaths (rmm 5 0 0) false 0 0 (QV S o) S 0 0 49 [(0, .ref a0), (1, .int x1), (2, .int x2), (3, .int p.1), (4, .int p.2)] [] h :=
  V_lp (VV := fun p h => V l G B N mX11_laysPaths (rmm 5 0 0) false 0 0 (QV S o) S 0 0 49 [(0, .ref a0), (1, .int x1), (2, .int x2), (3, .int p.1), (4, .int p.2)] [] h) (fun _ hk _ _ hf => v_X11_laysPaths_49b hk37 hs0 hk hf) n p h hf
set_option maxRecDepth 100000 in
set_option maxHeartbeats 4000000 in
theorem v_X11_laysPaths_37b {l : Launch} {G : GE} {B N : Nat} {S : List SHP} {o : MH} {a0 : Nat} {x1 : Int32}    (hs0 : S[a0]? = some (.inl 11)) {k37 : Int32 → MH → Option (MH)} (hk37 : ∀ (p : Int32) (h : MH), k37 p h = some o → V l G B N mX11_laysPaths (rmm 5 0 0) false 0 0 (QV S o) S 0 0 37 [(0, .ref a0), (1, .int x1), (2, .int p)] [] h) {p : Int32} {h : MH} (hf : f_X11_laysPaths_37b a0 x1 k37 p h = some o) : V l G B N mX11_laysPaths (rmm 5 0 0) false 0 0 (QV S o) S 0 0 37 [(0, .ref a0), (1, .int x1), (2, .int p)] [] h := by
  unfold f_X11_laysPaths_37b at hf
  refine V_iload_n (pc' := 38) dX11_laysPaths_37 rfl 2 rfl rfl ?_
  refine V_ldc (v := 1000000) (pc' := 40) dX11_laysPaths_38 rfl bm_1498 ?_
  refine V_icmp_ge (tgt := 205) (pc' := 43) dX11_laysPaths_40 (by decide) rfl hf (fun hf => ?_) (fun hf => ?_)
  ·
    refine V_ldc (v := 1000000) (pc' := 45) dX11_laysPaths_43 rfl bm_1498 ?_
    refine V_istore_n (lv' := [(3, .int 1000000), (0, .ref a0), (1, .int x1), (2, .int p)]) (pc' := 46) dX11_laysPaths_45 rfl rfl (Nat.le_of_ble_eq_true rfl) rfl ?_
    refine V_iconst (v := 0) (pc' := 47) dX11_laysPaths_46 rfl (by decide) ?_
    refine V_istore (lv' := [(4, .int 0), (3, .int 1000000), (0, .ref a0), (1, .int x1), (2, .int p)]) (pc' := 49) dX11_laysPaths_47 rfl (Nat.le_of_ble_eq_true rfl) rfl ?_
    exact V_sub (lv' := [(0, .ref a0), (1, .int x1), (2, .int p), (3, .int 1000000), (4, .int 0)]) [2, 3, 4, 1, 0] rfl (v_X11_laysPaths_49 hk37 hs0 hf)
  ·
    obtain rfl := Option.some.inj hf
    exact V_vret dX11_laysPaths_205 rfl rfl rfl ⟨rfl, rfl, rfl⟩
theorem v_X11_laysPaths_37 {l : Launch} {G : GE} {B N : Nat} {S : List SHP} {o : MH} {a0 : Nat} {x1 : Int32}    (hs0 : S[a0]? = some (.inl 11)) {n : Nat} {p : Int32} {h : MH} (hf : f_X11_laysPaths_37 a0 x1 n p h = some o) : V l G B N mX11_laysPaths (rmm 5 0 0) false 0 0 (QV S o) S 0 0 37 [(0, .ref a0), (1, .int x1), (2, .int p)] [] h :=
  V_lp (VV := fun p h => V l G B N mX11_laysPaths (rmm 5 0 0) false 0 0 (QV S o) S 0 0 37 [(0, .ref a0), (1, .int x1), (2, .int p)] [] h) (fun _ hk _ _ hf => v_X11_laysPaths_37b hs0 hk hf) n p h hf
set_option maxRecDepth 100000 in
set_option maxHeartbeats 4000000 in
theorem v_X11_laysPaths_28 {l : Launch} {G : GE} {B N : Nat} {S : List SHP} {o : MH} {a0 : Nat} {x1 : Int32} {x2 : Int32} {t0 : Nat} {t1 : Int32} {t2 : Int64}  {k2 : Int32 → MH → Option (MH)} (hk2 : ∀ (p : Int32) (h : MH), k2 p h = some o → V l G B N mX11_laysPaths (rmm 5 0 0) false 0 0 (QV S o) S 0 0 2 [(0, .ref a0), (1, .int x1), (2, .int p)] [] h) (hs0 : S[a0]? = some (.inl 11)) (ht0 : S[t0]? = some (.inr 1)) {h : MH} (hf : f_X11_laysPaths_28 k2 a0 x1 x2 t0 t1 t2 h = some o) : V l G B N mX11_laysPaths (rmm 5 0 0) false 0 0 (QV S o) S 0 0 28 [(0, .ref a0), (1, .int x1), (2, .int x2)] [.long t2, .int t1, .ref t0] h := by
  unfold f_X11_laysPaths_28 at hf
  refine V_last (pc' := 29) dX11_laysPaths_28 rfl ht0 hf (fun h_1 hf => ?_)
  refine V_iinc (v := (x2 + 1)) (lv' := [(2, .int (x2 + 1)), (0, .ref a0), (1, .int x1)]) (pc' := 32) dX11_laysPaths_29 rfl 2 rfl rfl (Nat.le_of_ble_eq_true rfl) rfl ?_
  refine V_goto (tgt := 2) dX11_laysPaths_32 (by decide) ?_
  exact V_sub (lv' := [(0, .ref a0), (1, .int x1), (2, .int (x2 + 1))]) [1, 2, 0] rfl (hk2 (x2 + 1) h_1 hf)
set_option maxRecDepth 100000 in
set_option maxHeartbeats 4000000 in
theorem v_X11_laysPaths_2b {l : Launch} {G : GE} {B N : Nat} {S : List SHP} {o : MH} {a0 : Nat} {x1 : Int32}    (hs0 : S[a0]? = some (.inl 11)) {k2 : Int32 → MH → Option (MH)} (hk2 : ∀ (p : Int32) (h : MH), k2 p h = some o → V l G B N mX11_laysPaths (rmm 5 0 0) false 0 0 (QV S o) S 0 0 2 [(0, .ref a0), (1, .int x1), (2, .int p)] [] h) {p : Int32} {h : MH} (hf : f_X11_laysPaths_2b a0 x1 k2 p h = some o) : V l G B N mX11_laysPaths (rmm 5 0 0) false 0 0 (QV S o) S 0 0 2 [(0, .ref a0), (1, .int x1), (2, .int p)] [] h := by
  unfold f_X11_laysPaths_2b at hf
  refine V_iload_n (pc' := 3) dX11_laysPaths_2 rfl 2 rfl rfl ?_
  refine V_bipush (v := 10) (pc' := 5) dX11_laysPaths_3 rfl (by decide) ?_
  refine V_icmp_ge (tgt := 35) (pc' := 8) dX11_laysPaths_5 (by decide) rfl hf (fun hf => ?_) (fun hf => ?_)
  ·
    refine V_aload_n (pc' := 9) dX11_laysPaths_8 rfl 0 rfl rfl ?_
    refine V_getR (pc' := 12) 11 9 dX11_laysPaths_9 rfl (by decide) (Nat.le_of_ble_eq_true rfl) bm_1233 hs0 (fun _ _ _ => rfl) rfl hf (fun a_1 ha_1 hf => ?_)
    refine V_bipush (v := 10) (pc' := 14) dX11_laysPaths_12 rfl (by decide) ?_
    refine V_iload_n (pc' := 15) dX11_laysPaths_14 rfl 2 rfl rfl ?_
    refine V_imul (pc' := 16) dX11_laysPaths_15 rfl ?_
    refine V_iload_n (pc' := 17) dX11_laysPaths_16 rfl 1 rfl rfl ?_
    refine V_iadd (pc' := 18) dX11_laysPaths_17 rfl ?_
    refine V_iload_n (pc' := 19) dX11_laysPaths_18 rfl 2 rfl rfl ?_
    refine V_iload_n (pc' := 20) dX11_laysPaths_19 rfl 1 rfl rfl ?_
    refine V_icmp_ne (tgt := 27) (pc' := 23) dX11_laysPaths_20 (by decide) rfl hf (fun hf => ?_) (fun hf => ?_)
    ·
      refine V_lconst (v := 1) (pc' := 24) dX11_laysPaths_23 rfl (by decide) ?_
      refine V_goto (tgt := 28) dX11_laysPaths_24 (by decide) ?_
      exact V_sub (lv' := [(0, .ref a0), (1, .int x1), (2, .int p)]) [0, 1, 2] rfl (v_X11_laysPaths_28 hk2 hs0 ha_1 hf)
    ·
      refine V_lconst (v := 0) (pc' := 28) dX11_laysPaths_27 rfl (by decide) ?_
      exact V_sub (lv' := [(0, .ref a0), (1, .int x1), (2, .int p)]) [0, 1, 2] rfl (v_X11_laysPaths_28 hk2 hs0 ha_1 hf)
  ·
    refine V_iconst (v := 0) (pc' := 36) dX11_laysPaths_35 rfl (by decide) ?_
    refine V_istore_n (lv' := [(2, .int 0), (0, .ref a0), (1, .int x1)]) (pc' := 37) dX11_laysPaths_36 rfl rfl (Nat.le_of_ble_eq_true rfl) rfl ?_
    exact V_sub (lv' := [(0, .ref a0), (1, .int x1), (2, .int 0)]) [1, 2, 0] rfl (v_X11_laysPaths_37 hs0 hf)
theorem v_X11_laysPaths_2 {l : Launch} {G : GE} {B N : Nat} {S : List SHP} {o : MH} {a0 : Nat} {x1 : Int32}    (hs0 : S[a0]? = some (.inl 11)) {n : Nat} {p : Int32} {h : MH} (hf : f_X11_laysPaths_2 a0 x1 n p h = some o) : V l G B N mX11_laysPaths (rmm 5 0 0) false 0 0 (QV S o) S 0 0 2 [(0, .ref a0), (1, .int x1), (2, .int p)] [] h :=
  V_lp (VV := fun p h => V l G B N mX11_laysPaths (rmm 5 0 0) false 0 0 (QV S o) S 0 0 2 [(0, .ref a0), (1, .int x1), (2, .int p)] [] h) (fun _ hk _ _ hf => v_X11_laysPaths_2b hs0 hk hf) n p h hf
set_option maxRecDepth 100000 in
set_option maxHeartbeats 4000000 in
theorem v_X11_laysPaths {l : Launch} {G : GE} {B N : Nat} {S : List SHP} {o : MH} {a0 : Nat} {x1 : Int32}    (hs0 : S[a0]? = some (.inl 11)) {h : MH} (hf : f_X11_laysPaths a0 x1 h = some o) : V l G B N mX11_laysPaths (rmm 5 0 0) false 0 0 (QV S o) S 0 0 0 [(0, .ref a0), (1, .int x1)] [] h := by
  unfold f_X11_laysPaths at hf
  refine V_iconst (v := 0) (pc' := 1) dX11_laysPaths_0 rfl (by decide) ?_
  refine V_istore_n (lv' := [(2, .int 0), (0, .ref a0), (1, .int x1)]) (pc' := 2) dX11_laysPaths_1 rfl rfl (Nat.le_of_ble_eq_true rfl) rfl ?_
  exact V_sub (lv' := [(0, .ref a0), (1, .int x1), (2, .int 0)]) [1, 2, 0] rfl (v_X11_laysPaths_2 hs0 hf)
theorem ct_X11_laysPaths {l : Launch} {S : List SHP} {h : MH} {a0 : Nat} {x1 : Int32} (hs0 : S[a0]? = some (.inl 11)) {q : MH} (hf : f_X11_laysPaths a0 x1 h = some q) : CT l mX11_laysPaths 5 false 0 0 S [.ref a0, .int x1] h (QV S q) :=
  CT_ofV (by decide) rfl (Nat.le_of_ble_eq_true rfl) (fun G B hT => v_X11_laysPaths hs0 hf)
/-! LabelStacksModel.laysFar()V -/
theorem dX11_laysFar_0 : decode cX11_laysFar 0 = .ok (.aload_n 0, 1) := by decide +kernel
theorem dX11_laysFar_1 : decode cX11_laysFar 1 = .ok (.getfield 101, 3) := by decide +kernel
theorem dX11_laysFar_4 : decode cX11_laysFar 4 = .ok (.ifCond .eq 4, 3) := by decide +kernel
theorem dX11_laysFar_7 : decode cX11_laysFar 7 = .ok (.return_, 1) := by decide +kernel
theorem dX11_laysFar_8 : decode cX11_laysFar 8 = .ok (.aload_n 0, 1) := by decide +kernel
theorem dX11_laysFar_9 : decode cX11_laysFar 9 = .ok (.iconst 1, 1) := by decide +kernel
theorem dX11_laysFar_10 : decode cX11_laysFar 10 = .ok (.putfield 101, 3) := by decide +kernel
theorem dX11_laysFar_13 : decode cX11_laysFar 13 = .ok (.iconst 0, 1) := by decide +kernel
theorem dX11_laysFar_14 : decode cX11_laysFar 14 = .ok (.istore_n 1, 1) := by decide +kernel
theorem dX11_laysFar_15 : decode cX11_laysFar 15 = .ok (.iload_n 1, 1) := by decide +kernel
theorem dX11_laysFar_16 : decode cX11_laysFar 16 = .ok (.bipush 100, 2) := by decide +kernel
theorem dX11_laysFar_18 : decode cX11_laysFar 18 = .ok (.if_icmp .ge 32, 3) := by decide +kernel
theorem dX11_laysFar_21 : decode cX11_laysFar 21 = .ok (.aload_n 0, 1) := by decide +kernel
theorem dX11_laysFar_22 : decode cX11_laysFar 22 = .ok (.getfield 23, 3) := by decide +kernel
theorem dX11_laysFar_25 : decode cX11_laysFar 25 = .ok (.iload_n 1, 1) := by decide +kernel
theorem dX11_laysFar_26 : decode cX11_laysFar 26 = .ok (.iload_n 1, 1) := by decide +kernel
theorem dX11_laysFar_27 : decode cX11_laysFar 27 = .ok (.bipush 10, 2) := by decide +kernel
theorem dX11_laysFar_29 : decode cX11_laysFar 29 = .ok (.idiv, 1) := by decide +kernel
theorem dX11_laysFar_30 : decode cX11_laysFar 30 = .ok (.iload_n 1, 1) := by decide +kernel
theorem dX11_laysFar_31 : decode cX11_laysFar 31 = .ok (.bipush 10, 2) := by decide +kernel
theorem dX11_laysFar_33 : decode cX11_laysFar 33 = .ok (.irem, 1) := by decide +kernel
theorem dX11_laysFar_34 : decode cX11_laysFar 34 = .ok (.if_icmp .ne 7, 3) := by decide +kernel
theorem dX11_laysFar_37 : decode cX11_laysFar 37 = .ok (.iconst 0, 1) := by decide +kernel
theorem dX11_laysFar_38 : decode cX11_laysFar 38 = .ok (.goto 5, 3) := by decide +kernel
theorem dX11_laysFar_41 : decode cX11_laysFar 41 = .ok (.ldc 181, 2) := by decide +kernel
theorem dX11_laysFar_43 : decode cX11_laysFar 43 = .ok (.iastore, 1) := by decide +kernel
theorem dX11_laysFar_44 : decode cX11_laysFar 44 = .ok (.iinc 1 1, 3) := by decide +kernel
theorem dX11_laysFar_47 : decode cX11_laysFar 47 = .ok (.goto (-32), 3) := by decide +kernel
theorem dX11_laysFar_50 : decode cX11_laysFar 50 = .ok (.iconst 0, 1) := by decide +kernel
theorem dX11_laysFar_51 : decode cX11_laysFar 51 = .ok (.istore_n 1, 1) := by decide +kernel
theorem dX11_laysFar_52 : decode cX11_laysFar 52 = .ok (.iload_n 1, 1) := by decide +kernel
theorem dX11_laysFar_53 : decode cX11_laysFar 53 = .ok (.aload_n 0, 1) := by decide +kernel
theorem dX11_laysFar_54 : decode cX11_laysFar 54 = .ok (.invokevirtual 87, 3) := by decide +kernel
theorem dX11_laysFar_57 : decode cX11_laysFar 57 = .ok (.if_icmp .ge 102, 3) := by decide +kernel
theorem dX11_laysFar_60 : decode cX11_laysFar 60 = .ok (.iconst 0, 1) := by decide +kernel
theorem dX11_laysFar_61 : decode cX11_laysFar 61 = .ok (.istore_n 2, 1) := by decide +kernel
theorem dX11_laysFar_62 : decode cX11_laysFar 62 = .ok (.iload_n 2, 1) := by decide +kernel
theorem dX11_laysFar_63 : decode cX11_laysFar 63 = .ok (.aload_n 0, 1) := by decide +kernel
theorem dX11_laysFar_64 : decode cX11_laysFar 64 = .ok (.invokevirtual 95, 3) := by decide +kernel
theorem dX11_laysFar_67 : decode cX11_laysFar 67 = .ok (.if_icmp .ge 86, 3) := by decide +kernel
theorem dX11_laysFar_70 : decode cX11_laysFar 70 = .ok (.aload_n 0, 1) := by decide +kernel
theorem dX11_laysFar_71 : decode cX11_laysFar 71 = .ok (.iload_n 2, 1) := by decide +kernel
theorem dX11_laysFar_72 : decode cX11_laysFar 72 = .ok (.invokevirtual 129, 3) := by decide +kernel
theorem dX11_laysFar_75 : decode cX11_laysFar 75 = .ok (.ifCond .ne 6, 3) := by decide +kernel
theorem dX11_laysFar_78 : decode cX11_laysFar 78 = .ok (.goto 69, 3) := by decide +kernel
theorem dX11_laysFar_81 : decode cX11_laysFar 81 = .ok (.iconst 0, 1) := by decide +kernel
theorem dX11_laysFar_82 : decode cX11_laysFar 82 = .ok (.istore_n 3, 1) := by decide +kernel
theorem dX11_laysFar_83 : decode cX11_laysFar 83 = .ok (.iload_n 3, 1) := by decide +kernel
theorem dX11_laysFar_84 : decode cX11_laysFar 84 = .ok (.aload_n 0, 1) := by decide +kernel
theorem dX11_laysFar_85 : decode cX11_laysFar 85 = .ok (.invokevirtual 87, 3) := by decide +kernel
theorem dX11_laysFar_88 : decode cX11_laysFar 88 = .ok (.if_icmp .ge 59, 3) := by decide +kernel
theorem dX11_laysFar_91 : decode cX11_laysFar 91 = .ok (.aload_n 0, 1) := by decide +kernel
theorem dX11_laysFar_92 : decode cX11_laysFar 92 = .ok (.iload_n 2, 1) := by decide +kernel
theorem dX11_laysFar_93 : decode cX11_laysFar 93 = .ok (.invokevirtual 132, 3) := by decide +kernel
theorem dX11_laysFar_96 : decode cX11_laysFar 96 = .ok (.aload_n 0, 1) := by decide +kernel
theorem dX11_laysFar_97 : decode cX11_laysFar 97 = .ok (.aload_n 0, 1) := by decide +kernel
theorem dX11_laysFar_98 : decode cX11_laysFar 98 = .ok (.iload_n 2, 1) := by decide +kernel
theorem dX11_laysFar_99 : decode cX11_laysFar 99 = .ok (.invokevirtual 158, 3) := by decide +kernel
theorem dX11_laysFar_102 : decode cX11_laysFar 102 = .ok (.iload_n 3, 1) := by decide +kernel
theorem dX11_laysFar_103 : decode cX11_laysFar 103 = .ok (.invokevirtual 177, 3) := by decide +kernel
theorem dX11_laysFar_106 : decode cX11_laysFar 106 = .ok (.iadd, 1) := by decide +kernel
theorem dX11_laysFar_107 : decode cX11_laysFar 107 = .ok (.istore 4, 2) := by decide +kernel
theorem dX11_laysFar_109 : decode cX11_laysFar 109 = .ok (.iload 4, 2) := by decide +kernel
theorem dX11_laysFar_111 : decode cX11_laysFar 111 = .ok (.aload_n 0, 1) := by decide +kernel
theorem dX11_laysFar_112 : decode cX11_laysFar 112 = .ok (.aload_n 0, 1) := by decide +kernel
theorem dX11_laysFar_113 : decode cX11_laysFar 113 = .ok (.iload_n 2, 1) := by decide +kernel
theorem dX11_laysFar_114 : decode cX11_laysFar 114 = .ok (.invokevirtual 161, 3) := by decide +kernel
theorem dX11_laysFar_117 : decode cX11_laysFar 117 = .ok (.iload_n 3, 1) := by decide +kernel
theorem dX11_laysFar_118 : decode cX11_laysFar 118 = .ok (.invokevirtual 177, 3) := by decide +kernel
theorem dX11_laysFar_121 : decode cX11_laysFar 121 = .ok (.if_icmp .ge 20, 3) := by decide +kernel
theorem dX11_laysFar_124 : decode cX11_laysFar 124 = .ok (.aload_n 0, 1) := by decide +kernel
theorem dX11_laysFar_125 : decode cX11_laysFar 125 = .ok (.getfield 23, 3) := by decide +kernel
theorem dX11_laysFar_128 : decode cX11_laysFar 128 = .ok (.bipush 10, 2) := by decide +kernel
theorem dX11_laysFar_130 : decode cX11_laysFar 130 = .ok (.aload_n 0, 1) := by decide +kernel
theorem dX11_laysFar_131 : decode cX11_laysFar 131 = .ok (.iload_n 2, 1) := by decide +kernel
theorem dX11_laysFar_132 : decode cX11_laysFar 132 = .ok (.invokevirtual 161, 3) := by decide +kernel
theorem dX11_laysFar_135 : decode cX11_laysFar 135 = .ok (.imul, 1) := by decide +kernel
theorem dX11_laysFar_136 : decode cX11_laysFar 136 = .ok (.iload_n 3, 1) := by decide +kernel
theorem dX11_laysFar_137 : decode cX11_laysFar 137 = .ok (.iadd, 1) := by decide +kernel
theorem dX11_laysFar_138 : decode cX11_laysFar 138 = .ok (.iload 4, 2) := by decide +kernel
theorem dX11_laysFar_140 : decode cX11_laysFar 140 = .ok (.iastore, 1) := by decide +kernel
theorem dX11_laysFar_141 : decode cX11_laysFar 141 = .ok (.iinc 3 1, 3) := by decide +kernel
theorem dX11_laysFar_144 : decode cX11_laysFar 144 = .ok (.goto (-61), 3) := by decide +kernel
theorem dX11_laysFar_147 : decode cX11_laysFar 147 = .ok (.iinc 2 1, 3) := by decide +kernel
theorem dX11_laysFar_150 : decode cX11_laysFar 150 = .ok (.goto (-88), 3) := by decide +kernel
theorem dX11_laysFar_153 : decode cX11_laysFar 153 = .ok (.iinc 1 1, 3) := by decide +kernel
theorem dX11_laysFar_156 : decode cX11_laysFar 156 = .ok (.goto (-104), 3) := by decide +kernel
theorem dX11_laysFar_159 : decode cX11_laysFar 159 = .ok (.iconst 0, 1) := by decide +kernel
theorem dX11_laysFar_160 : decode cX11_laysFar 160 = .ok (.istore_n 1, 1) := by decide +kernel
theorem dX11_laysFar_161 : decode cX11_laysFar 161 = .ok (.iload_n 1, 1) := by decide +kernel
theorem dX11_laysFar_162 : decode cX11_laysFar 162 = .ok (.aload_n 0, 1) := by decide +kernel
theorem dX11_laysFar_163 : decode cX11_laysFar 163 = .ok (.invokevirtual 87, 3) := by decide +kernel
theorem dX11_laysFar_166 : decode cX11_laysFar 166 = .ok (.if_icmp .ge 14, 3) := by decide +kernel
theorem dX11_laysFar_169 : decode cX11_laysFar 169 = .ok (.aload_n 0, 1) := by decide +kernel
theorem dX11_laysFar_170 : decode cX11_laysFar 170 = .ok (.iload_n 1, 1) := by decide +kernel
theorem dX11_laysFar_171 : decode cX11_laysFar 171 = .ok (.invokevirtual 182, 3) := by decide +kernel
theorem dX11_laysFar_174 : decode cX11_laysFar 174 = .ok (.iinc 1 1, 3) := by decide +kernel
theorem dX11_laysFar_177 : decode cX11_laysFar 177 = .ok (.goto (-16), 3) := by decide +kernel
theorem dX11_laysFar_180 : decode cX11_laysFar 180 = .ok (.return_, 1) := by decide +kernel
abbrev mX11_laysFar : MI := (RX11, yX11_laysFar, cX11_laysFar, 5, none)
theorem mok_X11_laysFar : MOKv mX11_laysFar 0 := ⟨⟨bm_1497, bm_127, ⟨by decide, by decide⟩, by decide +kernel⟩, bm_1496, bm_60⟩
def f_X11_laysFar_161b   (a0 : Nat) (k161 : Int32 → MH → Option (MH)) (p : Int32) (h : MH) : Option (MH) :=
  (f_X11_n a0 h).bind fun q_1 =>
  if p < q_1.1 then
    (f_X11_laysPaths a0 p q_1.2).bind fun q_2 =>
    k161 (p + 1) q_2
  else
    some q_1.2
def f_X11_laysFar_161   (a0 : Nat) : Nat → Int32 → MH → Option (MH) := lp (f_X11_laysFar_161b a0)
def f_X11_laysFar_147  (k52 : Int32 → MH → Option (MH)) (k62 : Int32 → MH → Option (MH)) (a0 : Nat) (x1 : Int32) (x2 : Int32) (h : MH) : Option (MH) :=
  k62 (x2 + 1) h
def f_X11_laysFar_141  (k52 : Int32 → MH → Option (MH)) (k62 : Int32 → MH → Option (MH)) (k83 : Int32 → MH → Option (MH)) (a0 : Nat) (x1 : Int32) (x2 : Int32) (x3 : Int32) (h : MH) : Option (MH) :=
  k83 (x3 + 1) h
def f_X11_laysFar_83b  (k52 : Int32 → MH → Option (MH)) (k62 : Int32 → MH → Option (MH)) (a0 : Nat) (x1 : Int32) (x2 : Int32) (k83 : Int32 → MH → Option (MH)) (p : Int32) (h : MH) : Option (MH) :=
  (f_X11_n a0 h).bind fun q_1 =>
  if p < q_1.1 then
    (f_X11_costOf a0 x2 q_1.2).bind fun q_2 =>
    (f_X11_to a0 x2 q_2.2).bind fun q_3 =>
    (f_X11_far2 a0 q_3.1 p q_3.2).bind fun q_4 =>
    lt (q_2.1 + q_4.1) fun x_5 =>
    (f_X11_from a0 x2 q_4.2).bind fun q_6 =>
    (f_X11_far2 a0 q_6.1 p q_6.2).bind fun q_7 =>
    if x_5 < q_7.1 then
      (gR q_7.2 a0 8).bind fun a_8 =>
      (f_X11_from a0 x2 q_7.2).bind fun q_9 =>
      (stI q_9.2 a_8 ((10 * q_9.1) + p) x_5).bind fun h_10 =>
      f_X11_laysFar_141 k52 k62 k83 a0 x1 x2 p h_10
    else
      f_X11_laysFar_141 k52 k62 k83 a0 x1 x2 p q_7.2
  else
    f_X11_laysFar_147 k52 k62 a0 x1 x2 q_1.2
def f_X11_laysFar_83  (k52 : Int32 → MH → Option (MH)) (k62 : Int32 → MH → Option (MH)) (a0 : Nat) (x1 : Int32) (x2 : Int32) : Nat → Int32 → MH → Option (MH) := lp (f_X11_laysFar_83b k52 k62 a0 x1 x2)
def f_X11_laysFar_62b  (k52 : Int32 → MH → Option (MH)) (a0 : Nat) (x1 : Int32) (k62 : Int32 → MH → Option (MH)) (p : Int32) (h : MH) : Option (MH) :=
  (f_X11_links a0 h).bind fun q_1 =>
  if p < q_1.1 then
    (f_X11_isUp a0 p q_1.2).bind fun q_2 =>
    if q_2.1 = 0 then
      f_X11_laysFar_147 k52 k62 a0 x1 p q_2.2
    else
      f_X11_laysFar_83 k52 k62 a0 x1 p FU 0 q_2.2
  else
    k52 (x1 + 1) q_1.2
def f_X11_laysFar_62  (k52 : Int32 → MH → Option (MH)) (a0 : Nat) (x1 : Int32) : Nat → Int32 → MH → Option (MH) := lp (f_X11_laysFar_62b k52 a0 x1)
def f_X11_laysFar_52b   (a0 : Nat) (k52 : Int32 → MH → Option (MH)) (p : Int32) (h : MH) : Option (MH) :=
  (f_X11_n a0 h).bind fun q_1 =>
  if p < q_1.1 then
    f_X11_laysFar_62 k52 a0 p FU 0 q_1.2
  else
    f_X11_laysFar_161 a0 FU 0 q_1.2
def f_X11_laysFar_52   (a0 : Nat) : Nat → Int32 → MH → Option (MH) := lp (f_X11_laysFar_52b a0)
def f_X11_laysFar_43  (k15 : Int32 → MH → Option (MH)) (a0 : Nat) (x1 : Int32) (t0 : Nat) (t1 : Int32) (t2 : Int32) (h : MH) : Option (MH) :=
  (stI h t0 t1 t2).bind fun h_1 =>
  k15 (x1 + 1) h_1
def f_X11_laysFar_15b   (a0 : Nat) (k15 : Int32 → MH → Option (MH)) (p : Int32) (h : MH) : Option (MH) :=
  if p < 100 then
    (gR h a0 8).bind fun a_1 =>
    if 10 = (0 : Int32) then none else
    if 10 = (0 : Int32) then none else
    if (p / 10) = (p - p / 10 * 10) then
      f_X11_laysFar_43 k15 a0 p a_1 p 0 h
    else
      f_X11_laysFar_43 k15 a0 p a_1 p 1000000 h
  else
    f_X11_laysFar_52 a0 FU 0 h
def f_X11_laysFar_15   (a0 : Nat) : Nat → Int32 → MH → Option (MH) := lp (f_X11_laysFar_15b a0)
def f_X11_laysFar   (a0 : Nat) (h : MH) : Option (MH) :=
  if (gI h a0 7) = 0 then
    lt (sI h a0 7 1) fun h_1 =>
    f_X11_laysFar_15 a0 FU 0 h_1
  else
    some h
set_option maxRecDepth 100000 in
set_option maxHeartbeats 4000000 in
theorem v_X11_laysFar_161b {l : Launch} {G : GE} {B N : Nat} {S : List SHP} {o : MH} {a0 : Nat}    (hs0 : S[a0]? = some (.inl 11)) {k161 : Int32 → MH → Option (MH)} (hk161 : ∀ (p : Int32) (h : MH), k161 p h = some o → V l G B N mX11_laysFar (rmm 6 0 0) false 0 0 (QV S o) S 0 0 161 [(0, .ref a0), (1, .int p)] [] h) {p : Int32} {h : MH} (hf : f_X11_laysFar_161b a0 k161 p h = some o) : V l G B N mX11_laysFar (rmm 6 0 0) false 0 0 (QV S o) S 0 0 161 [(0, .ref a0), (1, .int p)] [] h := by
  unfold f_X11_laysFar_161b at hf
  refine V_iload_n (pc' := 162) dX11_laysFar_161 rfl 1 rfl rfl ?_
  refine V_aload_n (pc' := 163) dX11_laysFar_162 rfl 0 rfl rfl ?_
  refine V_cvI (pc' := 166) (As := []) (rest := [.int p]) dX11_laysFar_163 rfl mok_X11_n bm_1393 11 (by decide) rfl hs0 rfl rfl (Nat.le_of_ble_eq_true rfl) (by decide) hf (fun q e => ct_X11_n hs0 e) (fun q_1 hf => ?_)
  refine V_icmp_ge (tgt := 180) (pc' := 169) dX11_laysFar_166 (by decide) rfl hf (fun hf => ?_) (fun hf => ?_)
  ·
    refine V_aload_n (pc' := 170) dX11_laysFar_169 rfl 0 rfl rfl ?_
    refine V_iload_n (pc' := 171) dX11_laysFar_170 rfl 1 rfl rfl ?_
    refine V_cvV (pc' := 174) (As := [.int p]) (rest := []) dX11_laysFar_171 rfl mok_X11_laysPaths bm_1503 11 (by decide) rfl hs0 rfl rfl (Nat.le_of_ble_eq_true rfl) (by decide) hf (fun q e => ct_X11_laysPaths hs0 e) (fun q_2 hf => ?_)
    refine V_iinc (v := (p + 1)) (lv' := [(1, .int (p + 1)), (0, .ref a0)]) (pc' := 177) dX11_laysFar_174 rfl 1 rfl rfl (Nat.le_of_ble_eq_true rfl) rfl ?_
    refine V_goto (tgt := 161) dX11_laysFar_177 (by decide) ?_
    exact V_sub (lv' := [(0, .ref a0), (1, .int (p + 1))]) [1, 0] rfl (hk161 (p + 1) q_2 hf)
  ·
    obtain rfl := Option.some.inj hf
    exact V_vret dX11_laysFar_180 rfl rfl rfl ⟨rfl, rfl, rfl⟩
theorem v_X11_laysFar_161 {l : Launch} {G : GE} {B N : Nat} {S : List SHP} {o : MH} {a0 : Nat}    (hs0 : S[a0]? = some (.inl 11)) {n : Nat} {p : Int32} {h : MH} (hf : f_X11_laysFar_161 a0 n p h = some o) : V l G B N mX11_laysFar (rmm 6 0 0) false 0 0 (QV S o) S 0 0 161 [(0, .ref a0), (1, .int p)] [] h :=
  V_lp (VV := fun p h => V l G B N mX11_laysFar (rmm 6 0 0) false 0 0 (QV S o) S 0 0 161 [(0, .ref a0), (1, .int p)] [] h) (fun _ hk _ _ hf => v_X11_laysFar_161b hs0 hk hf) n p h hf
set_option maxRecDepth 100000 in
set_option maxHeartbeats 4000000 in
theorem v_X11_laysFar_147 {l : Launch} {G : GE} {B N : Nat} {S : List SHP} {o : MH} {a0 : Nat} {x1 : Int32} {x2 : Int32}  {k52 : Int32 → MH → Option (MH)} {k62 : Int32 → MH → Option (MH)} (hk52 : ∀ (p : Int32) (h : MH), k52 p h = some o → V l G B N mX11_laysFar (rmm 6 0 0) false 0 0 (QV S o) S 0 0 52 [(0, .ref a0), (1, .int p)] [] h) (hk62 : ∀ (p : Int32) (h : MH), k62 p h = some o → V l G B N mX11_laysFar (rmm 6 0 0) false 0 0 (QV S o) S 0 0 62 [(0, .ref a0), (1, .int x1), (2, .int p)] [] h) (hs0 : S[a0]? = some (.inl 11)) {h : MH} (hf : f_X11_laysFar_147 k52 k62 a0 x1 x2 h = some o) : V l G B N mX11_laysFar (rmm 6 0 0) false 0 0 (QV S o) S 0 0 147 [(0, .ref a0), (1, .int x1), (2, .int x2)] [] h := by
  unfold f_X11_laysFar_147 at hf
  refine V_iinc (v := (x2 + 1)) (lv' := [(2, .int (x2 + 1)), (0, .ref a0), (1, .int x1)]) (pc' := 150) dX11_laysFar_147 rfl 2 rfl rfl (Nat.le_of_ble_eq_true rfl) rfl ?_
  refine V_goto (tgt := 62) dX11_laysFar_150 (by decide) ?_
  exact V_sub (lv' := [(0, .ref a0), (1, .int x1), (2, .int (x2 + 1))]) [1, 2, 0] rfl (hk62 (x2 + 1) h hf)
set_option maxRecDepth 100000 in
set_option maxHeartbeats 4000000 in
theorem v_X11_laysFar_141 {l : Launch} {G : GE} {B N : Nat} {S : List SHP} {o : MH} {a0 : Nat} {x1 : Int32} {x2 : Int32} {x3 : Int32}  {k52 : Int32 → MH → Option (MH)} {k62 : Int32 → MH → Option (MH)} {k83 : Int32 → MH → Option (MH)} (hk52 : ∀ (p : Int32) (h : MH), k52 p h = some o → V l G B N mX11_laysFar (rmm 6 0 0) false 0 0 (QV S o) S 0 0 52 [(0, .ref a0), (1, .int p)] [] h) (hk62 : ∀ (p : Int32) (h : MH), k62 p h = some o → V l G B N mX11_laysFar (rmm 6 0 0) false 0 0 (QV S o) S 0 0 62 [(0, .ref a0), (1, .int x1), (2, .int p)] [] h) (hk83 : ∀ (p : Int32) (h : MH), k83 p h = some o → V l G B N mX11_laysFar (rmm 6 0 0) false 0 0 (QV S o) S 0 0 83 [(0, .ref a0), (1, .int x1), (2, .int x2), (3, .int p)] [] h) (hs0 : S[a0]? = some (.inl 11)) {h : MH} (hf : f_X11_laysFar_141 k52 k62 k83 a0 x1 x2 x3 h = some o) : V l G B N mX11_laysFar (rmm 6 0 0) false 0 0 (QV S o) S 0 0 141 [(0, .ref a0), (1, .int x1), (2, .int x2), (3, .int x3)] [] h := by
  unfold f_X11_laysFar_141 at hf
  refine V_iinc (v := (x3 + 1)) (lv' := [(3, .int (x3 + 1)), (0, .ref a0), (1, .int x1), (2, .int x2)]) (pc' := 144) dX11_laysFar_141 rfl 3 rfl rfl (Nat.le_of_ble_eq_true rfl) rfl ?_
  refine V_goto (tgt := 83) dX11_laysFar_144 (by decide) ?_
  exact V_sub (lv' := [(0, .ref a0), (1, .int x1), (2, .int x2), (3, .int (x3 + 1))]) [1, 2, 3, 0] rfl (hk83 (x3 + 1) h hf)
set_option maxRecDepth 100000 in
set_option maxHeartbeats 4000000 in
theorem v_X11_laysFar_83b {l : Launch} {G : GE} {B N : Nat} {S : List SHP} {o : MH} {a0 : Nat} {x1 : Int32} {x2 : Int32}  {k52 : Int32 → MH → Option (MH)} {k62 : Int32 → MH → Option (MH)} (hk52 : ∀ (p : Int32) (h : MH), k52 p h = some o → V l G B N mX11_laysFar (rmm 6 0 0) false 0 0 (QV S o) S 0 0 52 [(0, .ref a0), (1, .int p)] [] h) (hk62 : ∀ (p : Int32) (h : MH), k62 p h = some o → V l G B N mX11_laysFar (rmm 6 0 0) false 0 0 (QV S o) S 0 0 62 [(0, .ref a0), (1, .int x1), (2, .int p)] [] h) (hs0 : S[a0]? = some (.inl 11)) {k83 : Int32 → MH → Option (MH)} (hk83 : ∀ (p : Int32) (h : MH), k83 p h = some o → V l G B N mX11_laysFar (rmm 6 0 0) false 0 0 (QV S o) S 0 0 83 [(0, .ref a0), (1, .int x1), (2, .int x2), (3, .int p)] [] h) {p : Int32} {h : MH} (hf : f_X11_laysFar_83b k52 k62 a0 x1 x2 k83 p h = some o) : V l G B N mX11_laysFar (rmm 6 0 0) false 0 0 (QV S o) S 0 0 83 [(0, .ref a0), (1, .int x1), (2, .int x2), (3, .int p)] [] h := by
  unfold f_X11_laysFar_83b at hf
  refine V_iload_n (pc' := 84) dX11_laysFar_83 rfl 3 rfl rfl ?_
  refine V_aload_n (pc' := 85) dX11_laysFar_84 rfl 0 rfl rfl ?_
  refine V_cvI (pc' := 88) (As := []) (rest := [.int p]) dX11_laysFar_85 rfl mok_X11_n bm_1393 11 (by decide) rfl hs0 rfl rfl (Nat.le_of_ble_eq_true rfl) (by decide) hf (fun q e => ct_X11_n hs0 e) (fun q_1 hf => ?_)
  refine V_icmp_ge (tgt := 147) (pc' := 91) dX11_laysFar_88 (by decide) rfl hf (fun hf => ?_) (fun hf => ?_)
  ·
    refine V_aload_n (pc' := 92) dX11_laysFar_91 rfl 0 rfl rfl ?_
    refine V_iload_n (pc' := 93) dX11_laysFar_92 rfl 2 rfl rfl ?_
    refine V_cvI (pc' := 96) (As := [.int x2]) (rest := []) dX11_laysFar_93 rfl mok_X11_costOf bm_1422 11 (by decide) rfl hs0 rfl rfl (Nat.le_of_ble_eq_true rfl) (by decide) hf (fun q e => ct_X11_costOf hs0 e) (fun q_2 hf => ?_)
    refine V_aload_n (pc' := 97) dX11_laysFar_96 rfl 0 rfl rfl ?_
    refine V_aload_n (pc' := 98) dX11_laysFar_97 rfl 0 rfl rfl ?_
    refine V_iload_n (pc' := 99) dX11_laysFar_98 rfl 2 rfl rfl ?_
    refine V_cvI (pc' := 102) (As := [.int x2]) (rest := [.ref a0, .int q_2.1]) dX11_laysFar_99 rfl mok_X11_to bm_1461 11 (by decide) rfl hs0 rfl rfl (Nat.le_of_ble_eq_true rfl) (by decide) hf (fun q e => ct_X11_to hs0 e) (fun q_3 hf => ?_)
    refine V_iload_n (pc' := 103) dX11_laysFar_102 rfl 3 rfl rfl ?_
    refine V_cvI (pc' := 106) (As := [.int q_3.1, .int p]) (rest := [.int q_2.1]) dX11_laysFar_103 rfl mok_X11_far2 bm_1499 11 (by decide) rfl hs0 rfl rfl (Nat.le_of_ble_eq_true rfl) (by decide) hf (fun q e => ct_X11_far2 hs0 e) (fun q_4 hf => ?_)
    refine V_iadd (pc' := 107) dX11_laysFar_106 rfl ?_
    refine V_nmI hf (fun x_5 hf => ?_)
    refine V_istore (lv' := [(4, .int x_5), (0, .ref a0), (1, .int x1), (2, .int x2), (3, .int p)]) (pc' := 109) dX11_laysFar_107 rfl (Nat.le_of_ble_eq_true rfl) rfl ?_
    refine V_iload (pc' := 111) dX11_laysFar_109 rfl 0 rfl ?_
    refine V_aload_n (pc' := 112) dX11_laysFar_111 rfl 1 rfl rfl ?_
    refine V_aload_n (pc' := 113) dX11_laysFar_112 rfl 1 rfl rfl ?_
    refine V_iload_n (pc' := 114) dX11_laysFar_113 rfl 3 rfl rfl ?_
    refine V_cvI (pc' := 117) (As := [.int x2]) (rest := [.ref a0, .int x_5]) dX11_laysFar_114 rfl mok_X11_from bm_1465 11 (by decide) rfl hs0 rfl rfl (Nat.le_of_ble_eq_true rfl) (by decide) hf (fun q e => ct_X11_from hs0 e) (fun q_6 hf => ?_)
    refine V_iload_n (pc' := 118) dX11_laysFar_117 rfl 4 rfl rfl ?_
    refine V_cvI (pc' := 121) (As := [.int q_6.1, .int p]) (rest := [.int x_5]) dX11_laysFar_118 rfl mok_X11_far2 bm_1499 11 (by decide) rfl hs0 rfl rfl (Nat.le_of_ble_eq_true rfl) (by decide) hf (fun q e => ct_X11_far2 hs0 e) (fun q_7 hf => ?_)
    refine V_icmp_ge (tgt := 141) (pc' := 124) dX11_laysFar_121 (by decide) rfl hf (fun hf => ?_) (fun hf => ?_)
    ·
      refine V_aload_n (pc' := 125) dX11_laysFar_124 rfl 1 rfl rfl ?_
      refine V_getR (pc' := 128) 11 8 dX11_laysFar_125 rfl (by decide) (Nat.le_of_ble_eq_true rfl) bm_1232 hs0 (fun _ _ _ => rfl) rfl hf (fun a_8 ha_8 hf => ?_)
      refine V_bipush (v := 10) (pc' := 130) dX11_laysFar_128 rfl (by decide) ?_
      refine V_aload_n (pc' := 131) dX11_laysFar_130 rfl 1 rfl rfl ?_
      refine V_iload_n (pc' := 132) dX11_laysFar_131 rfl 3 rfl rfl ?_
      refine V_cvI (pc' := 135) (As := [.int x2]) (rest := [.int 10, .ref a_8]) dX11_laysFar_132 rfl mok_X11_from bm_1465 11 (by decide) rfl hs0 rfl rfl (Nat.le_of_ble_eq_true rfl) (by decide) hf (fun q e => ct_X11_from hs0 e) (fun q_9 hf => ?_)
      refine V_imul (pc' := 136) dX11_laysFar_135 rfl ?_
      refine V_iload_n (pc' := 137) dX11_laysFar_136 rfl 4 rfl rfl ?_
      refine V_iadd (pc' := 138) dX11_laysFar_137 rfl ?_
      refine V_iload (pc' := 140) dX11_laysFar_138 rfl 0 rfl ?_
      refine V_iast (pc' := 141) dX11_laysFar_140 rfl ha_8 hf (fun h_10 hf => ?_)
      exact V_sub (lv' := [(0, .ref a0), (1, .int x1), (2, .int x2), (3, .int p)]) [1, 2, 3, 4] rfl (v_X11_laysFar_141 hk52 hk62 hk83 hs0 hf)
    ·
      exact V_sub (lv' := [(0, .ref a0), (1, .int x1), (2, .int x2), (3, .int p)]) [1, 2, 3, 4] rfl (v_X11_laysFar_141 hk52 hk62 hk83 hs0 hf)
  ·
    exact V_sub (lv' := [(0, .ref a0), (1, .int x1), (2, .int x2)]) [0, 1, 2] rfl (v_X11_laysFar_147 hk52 hk62 hs0 hf)
theorem v_X11_laysFar_83 {l : Launch} {G : GE} {B N : Nat} {S : List SHP} {o : MH} {a0 : Nat} {x1 : Int32} {x2 : Int32}  {k52 : Int32 → MH → Option (MH)} {k62 : Int32 → MH → Option (MH)} (hk52 : ∀ (p : Int32) (h : MH), k52 p h = some o → V l G B N mX11_laysFar (rmm 6 0 0) false 0 0 (QV S o) S 0 0 52 [(0, .ref a0), (1, .int p)] [] h) (hk62 : ∀ (p : Int32) (h : MH), k62 p h = some o → V l G B N mX11_laysFar (rmm 6 0 0) false 0 0 (QV S o) S 0 0 62 [(0, .ref a0), (1, .int x1), (2, .int p)] [] h) (hs0 : S[a0]? = some (.inl 11)) {n : Nat} {p : Int32} {h : MH} (hf : f_X11_laysFar_83 k52 k62 a0 x1 x2 n p h = some o) : V l G B N mX11_laysFar (rmm 6 0 0) false 0 0 (QV S o) S 0 0 83 [(0, .ref a0), (1, .int x1), (2, .int x2), (3, .int p)] [] h :=
  V_lp (VV := fun p h => V l G B N mX11_laysFar (rmm 6 0 0) false 0 0 (QV S o) S 0 0 83 [(0, .ref a0), (1, .int x1), (2, .int x2), (3, .int p)] [] h) (fun _ hk _ _ hf => v_X11_laysFar_83b hk52 hk62 hs0 hk hf) n p h hf
set_option maxRecDepth 100000 in
set_option maxHeartbeats 4000000 in
theorem v_X11_laysFar_62b {l : Launch} {G : GE} {B N : Nat} {S : List SHP} {o : MH} {a0 : Nat} {x1 : Int32}  {k52 : Int32 → MH → Option (MH)} (hk52 : ∀ (p : Int32) (h : MH), k52 p h = some o → V l G B N mX11_laysFar (rmm 6 0 0) false 0 0 (QV S o) S 0 0 52 [(0, .ref a0), (1, .int p)] [] h) (hs0 : S[a0]? = some (.inl 11)) {k62 : Int32 → MH → Option (MH)} (hk62 : ∀ (p : Int32) (h : MH), k62 p h = some o → V l G B N mX11_laysFar (rmm 6 0 0) false 0 0 (QV S o) S 0 0 62 [(0, .ref a0), (1, .int x1), (2, .int p)] [] h) {p : Int32} {h : MH} (hf : f_X11_laysFar_62b k52 a0 x1 k62 p h = some o) : V l G B N mX11_laysFar (rmm 6 0 0) false 0 0 (QV S o) S 0 0 62 [(0, .ref a0), (1, .int x1), (2, .int p)] [] h := by
  unfold f_X11_laysFar_62b at hf
  refine V_iload_n (pc' := 63) dX11_laysFar_62 rfl 2 rfl rfl ?_
  refine V_aload_n (pc' := 64) dX11_laysFar_63 rfl 0 rfl rfl ?_
  refine V_cvI (pc' := 67) (As := []) (rest := [.int p]) dX11_laysFar_64 rfl mok_X11_links bm_1398 11 (by decide) rfl hs0 rfl rfl (Nat.le_of_ble_eq_true rfl) (by decide) hf (fun q e => ct_X11_links hs0 e) (fun q_1 hf => ?_)
  refine V_icmp_ge (tgt := 153) (pc' := 70) dX11_laysFar_67 (by decide) rfl hf (fun hf => ?_) (fun hf => ?_)
  ·
    refine V_aload_n (pc' := 71) dX11_laysFar_70 rfl 0 rfl rfl ?_
    refine V_iload_n (pc' := 72) dX11_laysFar_71 rfl 2 rfl rfl ?_
    refine V_cvI (pc' := 75) (As := [.int p]) (rest := []) dX11_laysFar_72 rfl mok_X11_isUp bm_1414 11 (by decide) rfl hs0 rfl rfl (Nat.le_of_ble_eq_true rfl) (by decide) hf (fun q e => ct_X11_isUp hs0 e) (fun q_2 hf => ?_)
    refine V_if_ne (tgt := 81) (pc' := 78) dX11_laysFar_75 (by decide) rfl hf (fun hf => ?_) (fun hf => ?_)
    ·
      refine V_goto (tgt := 147) dX11_laysFar_78 (by decide) ?_
      exact V_sub (lv' := [(0, .ref a0), (1, .int x1), (2, .int p)]) [0, 1, 2] rfl (v_X11_laysFar_147 hk52 hk62 hs0 hf)
    ·
      refine V_iconst (v := 0) (pc' := 82) dX11_laysFar_81 rfl (by decide) ?_
      refine V_istore_n (lv' := [(3, .int 0), (0, .ref a0), (1, .int x1), (2, .int p)]) (pc' := 83) dX11_laysFar_82 rfl rfl (Nat.le_of_ble_eq_true rfl) rfl ?_
      exact V_sub (lv' := [(0, .ref a0), (1, .int x1), (2, .int p), (3, .int 0)]) [1, 2, 3, 0] rfl (v_X11_laysFar_83 hk52 hk62 hs0 hf)
  ·
    refine V_iinc (v := (x1 + 1)) (lv' := [(1, .int (x1 + 1)), (0, .ref a0), (2, .int p)]) (pc' := 156) dX11_laysFar_153 rfl 1 rfl rfl (Nat.le_of_ble_eq_true rfl) rfl ?_
    refine V_goto (tgt := 52) dX11_laysFar_156 (by decide) ?_
    exact V_sub (lv' := [(0, .ref a0), (1, .int (x1 + 1))]) [1, 0] rfl (hk52 (x1 + 1) q_1.2 hf)
theorem v_X11_laysFar_62 {l : Launch} {G : GE} {B N : Nat} {S : List SHP} {o : MH} {a0 : Nat} {x1 : Int32}  {k52 : Int32 → MH → Option (MH)} (hk52 : ∀ (p : Int32) (h : MH), k52 p h = some o → V l G B N mX11_laysFar (rmm 6 0 0) false 0 0 (QV S o) S 0 0 52 [(0, .ref a0), (1, .int p)] [] h) (hs0 : S[a0]? = some (.inl 11)) {n : Nat} {p : Int32} {h : MH} (hf : f_X11_laysFar_62 k52 a0 x1 n p h = some o) : V l G B N mX11_laysFar (rmm 6 0 0) false 0 0 (QV S o) S 0 0 62 [(0, .ref a0), (1, .int x1), (2, .int p)] [] h :=
  V_lp (VV := fun p h => V l G B N mX11_laysFar (rmm 6 0 0) false 0 0 (QV S o) S 0 0 62 [(0, .ref a0), (1, .int x1), (2, .int p)] [] h) (fun _ hk _ _ hf => v_X11_laysFar_62b hk52 hs0 hk hf) n p h hf
set_option maxRecDepth 100000 in
set_option maxHeartbeats 4000000 in
theorem v_X11_laysFar_52b {l : Launch} {G : GE} {B N : Nat} {S : List SHP} {o : MH} {a0 : Nat}    (hs0 : S[a0]? = some (.inl 11)) {k52 : Int32 → MH → Option (MH)} (hk52 : ∀ (p : Int32) (h : MH), k52 p h = some o → V l G B N mX11_laysFar (rmm 6 0 0) false 0 0 (QV S o) S 0 0 52 [(0, .ref a0), (1, .int p)] [] h) {p : Int32} {h : MH} (hf : f_X11_laysFar_52b a0 k52 p h = some o) : V l G B N mX11_laysFar (rmm 6 0 0) false 0 0 (QV S o) S 0 0 52 [(0, .ref a0), (1, .int p)] [] h := by
  unfold f_X11_laysFar_52b at hf
  refine V_iload_n (pc' := 53) dX11_laysFar_52 rfl 1 rfl rfl ?_
  refine V_aload_n (pc' := 54) dX11_laysFar_53 rfl 0 rfl rfl ?_
  refine V_cvI (pc' := 57) (As := []) (rest := [.int p]) dX11_laysFar_54 rfl mok_X11_n bm_1393 11 (by decide) rfl hs0 rfl rfl (Nat.le_of_ble_eq_true rfl) (by decide) hf (fun q e => ct_X11_n hs0 e) (fun q_1 hf => ?_)
  refine V_icmp_ge (tgt := 159) (pc' := 60) dX11_laysFar_57 (by decide) rfl hf (fun hf => ?_) (fun hf => ?_)
  ·
    refine V_iconst (v := 0) (pc' := 61) dX11_laysFar_60 rfl (by decide) ?_
    refine V_istore_n (lv' := [(2, .int 0), (0, .ref a0), (1, .int p)]) (pc' := 62) dX11_laysFar_61 rfl rfl (Nat.le_of_ble_eq_true rfl) rfl ?_
    exact V_sub (lv' := [(0, .ref a0), (1, .int p), (2, .int 0)]) [1, 2, 0] rfl (v_X11_laysFar_62 hk52 hs0 hf)
  ·
    refine V_iconst (v := 0) (pc' := 160) dX11_laysFar_159 rfl (by decide) ?_
    refine V_istore_n (lv' := [(1, .int 0), (0, .ref a0)]) (pc' := 161) dX11_laysFar_160 rfl rfl (Nat.le_of_ble_eq_true rfl) rfl ?_
    exact V_sub (lv' := [(0, .ref a0), (1, .int 0)]) [1, 0] rfl (v_X11_laysFar_161 hs0 hf)
theorem v_X11_laysFar_52 {l : Launch} {G : GE} {B N : Nat} {S : List SHP} {o : MH} {a0 : Nat}    (hs0 : S[a0]? = some (.inl 11)) {n : Nat} {p : Int32} {h : MH} (hf : f_X11_laysFar_52 a0 n p h = some o) : V l G B N mX11_laysFar (rmm 6 0 0) false 0 0 (QV S o) S 0 0 52 [(0, .ref a0), (1, .int p)] [] h :=
  V_lp (VV := fun p h => V l G B N mX11_laysFar (rmm 6 0 0) false 0 0 (QV S o) S 0 0 52 [(0, .ref a0), (1, .int p)] [] h) (fun _ hk _ _ hf => v_X11_laysFar_52b hs0 hk hf) n p h hf
set_option maxRecDepth 100000 in
set_option maxHeartbeats 4000000 in
theorem v_X11_laysFar_43 {l : Launch} {G : GE} {B N : Nat} {S : List SHP} {o : MH} {a0 : Nat} {x1 : Int32} {t0 : Nat} {t1 : Int32} {t2 : Int32}  {k15 : Int32 → MH → Option (MH)} (hk15 : ∀ (p : Int32) (h : MH), k15 p h = some o → V l G B N mX11_laysFar (rmm 6 0 0) false 0 0 (QV S o) S 0 0 15 [(0, .ref a0), (1, .int p)] [] h) (hs0 : S[a0]? = some (.inl 11)) (ht0 : S[t0]? = some (.inr 0)) {h : MH} (hf : f_X11_laysFar_43 k15 a0 x1 t0 t1 t2 h = some o) : V l G B N mX11_laysFar (rmm 6 0 0) false 0 0 (QV S o) S 0 0 43 [(0, .ref a0), (1, .int x1)] [.int t2, .int t1, .ref t0] h := by
  unfold f_X11_laysFar_43 at hf
  refine V_iast (pc' := 44) dX11_laysFar_43 rfl ht0 hf (fun h_1 hf => ?_)
  refine V_iinc (v := (x1 + 1)) (lv' := [(1, .int (x1 + 1)), (0, .ref a0)]) (pc' := 47) dX11_laysFar_44 rfl 1 rfl rfl (Nat.le_of_ble_eq_true rfl) rfl ?_
  refine V_goto (tgt := 15) dX11_laysFar_47 (by decide) ?_
  exact V_sub (lv' := [(0, .ref a0), (1, .int (x1 + 1))]) [1, 0] rfl (hk15 (x1 + 1) h_1 hf)
set_option maxRecDepth 100000 in
set_option maxHeartbeats 4000000 in
theorem v_X11_laysFar_15b {l : Launch} {G : GE} {B N : Nat} {S : List SHP} {o : MH} {a0 : Nat}    (hs0 : S[a0]? = some (.inl 11)) {k15 : Int32 → MH → Option (MH)} (hk15 : ∀ (p : Int32) (h : MH), k15 p h = some o → V l G B N mX11_laysFar (rmm 6 0 0) false 0 0 (QV S o) S 0 0 15 [(0, .ref a0), (1, .int p)] [] h) {p : Int32} {h : MH} (hf : f_X11_laysFar_15b a0 k15 p h = some o) : V l G B N mX11_laysFar (rmm 6 0 0) false 0 0 (QV S o) S 0 0 15 [(0, .ref a0), (1, .int p)] [] h := by
  unfold f_X11_laysFar_15b at hf
  refine V_iload_n (pc' := 16) dX11_laysFar_15 rfl 1 rfl rfl ?_
  refine V_bipush (v := 100) (pc' := 18) dX11_laysFar_16 rfl (by decide) ?_
  refine V_icmp_ge (tgt := 50) (pc' := 21) dX11_laysFar_18 (by decide) rfl hf (fun hf => ?_) (fun hf => ?_)
  ·
    refine V_aload_n (pc' := 22) dX11_laysFar_21 rfl 0 rfl rfl ?_
    refine V_getR (pc' := 25) 11 8 dX11_laysFar_22 rfl (by decide) (Nat.le_of_ble_eq_true rfl) bm_1232 hs0 (fun _ _ _ => rfl) rfl hf (fun a_1 ha_1 hf => ?_)
    refine V_iload_n (pc' := 26) dX11_laysFar_25 rfl 1 rfl rfl ?_
    refine V_iload_n (pc' := 27) dX11_laysFar_26 rfl 1 rfl rfl ?_
    refine V_bipush (v := 10) (pc' := 29) dX11_laysFar_27 rfl (by decide) ?_
    refine V_idivF (pc' := 30) dX11_laysFar_29 rfl hf (fun hf => ?_)
    refine V_iload_n (pc' := 31) dX11_laysFar_30 rfl 1 rfl rfl ?_
    refine V_bipush (v := 10) (pc' := 33) dX11_laysFar_31 rfl (by decide) ?_
    refine V_iremF (pc' := 34) dX11_laysFar_33 rfl hf (fun hf => ?_)
    refine V_icmp_ne (tgt := 41) (pc' := 37) dX11_laysFar_34 (by decide) rfl hf (fun hf => ?_) (fun hf => ?_)
    ·
      refine V_iconst (v := 0) (pc' := 38) dX11_laysFar_37 rfl (by decide) ?_
      refine V_goto (tgt := 43) dX11_laysFar_38 (by decide) ?_
      exact V_sub (lv' := [(0, .ref a0), (1, .int p)]) [0, 1] rfl (v_X11_laysFar_43 hk15 hs0 ha_1 hf)
    ·
      refine V_ldc (v := 1000000) (pc' := 43) dX11_laysFar_41 rfl bm_1498 ?_
      exact V_sub (lv' := [(0, .ref a0), (1, .int p)]) [0, 1] rfl (v_X11_laysFar_43 hk15 hs0 ha_1 hf)
  ·
    refine V_iconst (v := 0) (pc' := 51) dX11_laysFar_50 rfl (by decide) ?_
    refine V_istore_n (lv' := [(1, .int 0), (0, .ref a0)]) (pc' := 52) dX11_laysFar_51 rfl rfl (Nat.le_of_ble_eq_true rfl) rfl ?_
    exact V_sub (lv' := [(0, .ref a0), (1, .int 0)]) [1, 0] rfl (v_X11_laysFar_52 hs0 hf)
theorem v_X11_laysFar_15 {l : Launch} {G : GE} {B N : Nat} {S : List SHP} {o : MH} {a0 : Nat}    (hs0 : S[a0]? = some (.inl 11)) {n : Nat} {p : Int32} {h : MH} (hf : f_X11_laysFar_15 a0 n p h = some o) : V l G B N mX11_laysFar (rmm 6 0 0) false 0 0 (QV S o) S 0 0 15 [(0, .ref a0), (1, .int p)] [] h :=
  V_lp (VV := fun p h => V l G B N mX11_laysFar (rmm 6 0 0) false 0 0 (QV S o) S 0 0 15 [(0, .ref a0), (1, .int p)] [] h) (fun _ hk _ _ hf => v_X11_laysFar_15b hs0 hk hf) n p h hf
set_option maxRecDepth 100000 in
set_option maxHeartbeats 4000000 in
theorem v_X11_laysFar {l : Launch} {G : GE} {B N : Nat} {S : List SHP} {o : MH} {a0 : Nat}    (hs0 : S[a0]? = some (.inl 11)) {h : MH} (hf : f_X11_laysFar a0 h = some o) : V l G B N mX11_laysFar (rmm 6 0 0) false 0 0 (QV S o) S 0 0 0 [(0, .ref a0)] [] h := by
  unfold f_X11_laysFar at hf
  refine V_aload_n (pc' := 1) dX11_laysFar_0 rfl 0 rfl rfl ?_
  refine V_getI (pc' := 4) 11 7 dX11_laysFar_1 rfl (by decide) (Nat.le_of_ble_eq_true rfl) bm_1231 hs0 (fun _ _ _ => rfl) ?_
  refine V_if_eq (tgt := 8) (pc' := 7) dX11_laysFar_4 (by decide) rfl hf (fun hf => ?_) (fun hf => ?_)
  ·
    refine V_aload_n (pc' := 9) dX11_laysFar_8 rfl 0 rfl rfl ?_
    refine V_iconst (v := 1) (pc' := 10) dX11_laysFar_9 rfl (by decide) ?_
    refine V_putZL (pc' := 13) 11 7 dX11_laysFar_10 rfl (by decide) (Nat.le_of_ble_eq_true rfl) bm_1231 hs0 rfl rfl (by decide) ?_
    refine V_nmH hf (fun h_1 hf => ?_)
    refine V_iconst (v := 0) (pc' := 14) dX11_laysFar_13 rfl (by decide) ?_
    refine V_istore_n (lv' := [(1, .int 0), (0, .ref a0)]) (pc' := 15) dX11_laysFar_14 rfl rfl (Nat.le_of_ble_eq_true rfl) rfl ?_
    exact V_sub (lv' := [(0, .ref a0), (1, .int 0)]) [1, 0] rfl (v_X11_laysFar_15 hs0 hf)
  ·
    obtain rfl := Option.some.inj hf
    exact V_vret dX11_laysFar_7 rfl rfl rfl ⟨rfl, rfl, rfl⟩
theorem ct_X11_laysFar {l : Launch} {S : List SHP} {h : MH} {a0 : Nat} (hs0 : S[a0]? = some (.inl 11)) {q : MH} (hf : f_X11_laysFar a0 h = some q) : CT l mX11_laysFar 6 false 0 0 S [.ref a0] h (QV S q) :=
  CT_ofV (by decide) rfl (Nat.le_of_ble_eq_true rfl) (fun G B hT => v_X11_laysFar hs0 hf)
/-! LabelStacksModel.far(II)I -/
theorem dX11_far_0 : decode cX11_far 0 = .ok (.aload_n 0, 1) := by decide +kernel
theorem dX11_far_1 : decode cX11_far 1 = .ok (.iconst 0, 1) := by decide +kernel
theorem dX11_far_2 : decode cX11_far 2 = .ok (.putfield 84, 3) := by decide +kernel
theorem dX11_far_5 : decode cX11_far 5 = .ok (.aload_n 0, 1) := by decide +kernel
theorem dX11_far_6 : decode cX11_far 6 = .ok (.iload_n 1, 1) := by decide +kernel
theorem dX11_far_7 : decode cX11_far 7 = .ok (.invokevirtual 116, 3) := by decide +kernel
theorem dX11_far_10 : decode cX11_far 10 = .ok (.ifCond .eq 11, 3) := by decide +kernel
theorem dX11_far_13 : decode cX11_far 13 = .ok (.aload_n 0, 1) := by decide +kernel
theorem dX11_far_14 : decode cX11_far 14 = .ok (.iload_n 2, 1) := by decide +kernel
theorem dX11_far_15 : decode cX11_far 15 = .ok (.invokevirtual 116, 3) := by decide +kernel
theorem dX11_far_18 : decode cX11_far 18 = .ok (.ifCond .ne 5, 3) := by decide +kernel
theorem dX11_far_21 : decode cX11_far 21 = .ok (.iconst (-1), 1) := by decide +kernel
theorem dX11_far_22 : decode cX11_far 22 = .ok (.ireturn, 1) := by decide +kernel
theorem dX11_far_23 : decode cX11_far 23 = .ok (.aload_n 0, 1) := by decide +kernel
theorem dX11_far_24 : decode cX11_far 24 = .ok (.invokevirtual 189, 3) := by decide +kernel
theorem dX11_far_27 : decode cX11_far 27 = .ok (.aload_n 0, 1) := by decide +kernel
theorem dX11_far_28 : decode cX11_far 28 = .ok (.iload_n 1, 1) := by decide +kernel
theorem dX11_far_29 : decode cX11_far 29 = .ok (.iload_n 2, 1) := by decide +kernel
theorem dX11_far_30 : decode cX11_far 30 = .ok (.invokevirtual 177, 3) := by decide +kernel
theorem dX11_far_33 : decode cX11_far 33 = .ok (.ldc 181, 2) := by decide +kernel
theorem dX11_far_35 : decode cX11_far 35 = .ok (.if_icmp .ge 12, 3) := by decide +kernel
theorem dX11_far_38 : decode cX11_far 38 = .ok (.aload_n 0, 1) := by decide +kernel
theorem dX11_far_39 : decode cX11_far 39 = .ok (.iload_n 1, 1) := by decide +kernel
theorem dX11_far_40 : decode cX11_far 40 = .ok (.iload_n 2, 1) := by decide +kernel
theorem dX11_far_41 : decode cX11_far 41 = .ok (.invokevirtual 177, 3) := by decide +kernel
theorem dX11_far_44 : decode cX11_far 44 = .ok (.goto 4, 3) := by decide +kernel
theorem dX11_far_47 : decode cX11_far 47 = .ok (.iconst (-1), 1) := by decide +kernel
theorem dX11_far_48 : decode cX11_far 48 = .ok (.ireturn, 1) := by decide +kernel
abbrev mX11_far : MI := (RX11, yX11_far, cX11_far, 3, (some .int))
theorem mok_X11_far : MOKv mX11_far 2 := ⟨⟨bm_1493, bm_127, ⟨by decide, by decide⟩, by decide +kernel⟩, bm_1491, bm_1492⟩
def f_X11_far   (a0 : Nat) (x1 : Int32) (x2 : Int32) (h : MH) : Option (Int32 × MH) :=
  lt (sI h a0 0 0) fun h_1 =>
  (f_X11_isNode a0 x1 h_1).bind fun q_2 =>
  if q_2.1 = 0 then
    some ((-1 : Int32), q_2.2)
  else
    (f_X11_isNode a0 x2 q_2.2).bind fun q_3 =>
    if q_3.1 = 0 then
      some ((-1 : Int32), q_3.2)
    else
      (f_X11_laysFar a0 q_3.2).bind fun q_4 =>
      (f_X11_far2 a0 x1 x2 q_4).bind fun q_5 =>
      if q_5.1 < 1000000 then
        (f_X11_far2 a0 x1 x2 q_5.2).bind fun q_6 =>
        some (q_6.1, q_6.2)
      else
        some ((-1 : Int32), q_5.2)
set_option maxRecDepth 100000 in
set_option maxHeartbeats 4000000 in
theorem v_X11_far {l : Launch} {G : GE} {B N : Nat} {S : List SHP} {o : Int32 × MH} {a0 : Nat} {x1 : Int32} {x2 : Int32}    (hs0 : S[a0]? = some (.inl 11)) {h : MH} (hf : f_X11_far a0 x1 x2 h = some o) : V l G B N mX11_far (rmm 7 0 0) false 0 0 (QI S o) S 0 0 0 [(0, .ref a0), (1, .int x1), (2, .int x2)] [] h := by
  unfold f_X11_far at hf
  refine V_aload_n (pc' := 1) dX11_far_0 rfl 0 rfl rfl ?_
  refine V_iconst (v := 0) (pc' := 2) dX11_far_1 rfl (by decide) ?_
  refine V_putI (pc' := 5) 11 0 dX11_far_2 rfl (by decide) (Nat.le_of_ble_eq_true rfl) bm_1224 hs0 (Or.inl rfl) rfl ?_
  refine V_nmH hf (fun h_1 hf => ?_)
  refine V_aload_n (pc' := 6) dX11_far_5 rfl 0 rfl rfl ?_
  refine V_iload_n (pc' := 7) dX11_far_6 rfl 1 rfl rfl ?_
  refine V_cvI (pc' := 10) (As := [.int x1]) (rest := []) dX11_far_7 rfl mok_X11_isNode bm_1389 11 (by decide) rfl hs0 rfl rfl (Nat.le_of_ble_eq_true rfl) (by decide) hf (fun q e => ct_X11_isNode hs0 e) (fun q_2 hf => ?_)
  refine V_if_eq (tgt := 21) (pc' := 13) dX11_far_10 (by decide) rfl hf (fun hf => ?_) (fun hf => ?_)
  ·
    refine V_iconst (v := (-1)) (pc' := 22) dX11_far_21 rfl (by decide) ?_
    obtain rfl := Option.some.inj hf
    exact V_iret dX11_far_22 rfl rfl rfl ⟨rfl, rfl, rfl⟩
  ·
    refine V_aload_n (pc' := 14) dX11_far_13 rfl 0 rfl rfl ?_
    refine V_iload_n (pc' := 15) dX11_far_14 rfl 2 rfl rfl ?_
    refine V_cvI (pc' := 18) (As := [.int x2]) (rest := []) dX11_far_15 rfl mok_X11_isNode bm_1389 11 (by decide) rfl hs0 rfl rfl (Nat.le_of_ble_eq_true rfl) (by decide) hf (fun q e => ct_X11_isNode hs0 e) (fun q_3 hf => ?_)
    refine V_if_ne (tgt := 23) (pc' := 21) dX11_far_18 (by decide) rfl hf (fun hf => ?_) (fun hf => ?_)
    ·
      refine V_iconst (v := (-1)) (pc' := 22) dX11_far_21 rfl (by decide) ?_
      obtain rfl := Option.some.inj hf
      exact V_iret dX11_far_22 rfl rfl rfl ⟨rfl, rfl, rfl⟩
    ·
      refine V_aload_n (pc' := 24) dX11_far_23 rfl 0 rfl rfl ?_
      refine V_cvV (pc' := 27) (As := []) (rest := []) dX11_far_24 rfl mok_X11_laysFar bm_1494 11 (by decide) rfl hs0 rfl rfl (Nat.le_of_ble_eq_true rfl) (by decide) hf (fun q e => ct_X11_laysFar hs0 e) (fun q_4 hf => ?_)
      refine V_aload_n (pc' := 28) dX11_far_27 rfl 0 rfl rfl ?_
      refine V_iload_n (pc' := 29) dX11_far_28 rfl 1 rfl rfl ?_
      refine V_iload_n (pc' := 30) dX11_far_29 rfl 2 rfl rfl ?_
      refine V_cvI (pc' := 33) (As := [.int x1, .int x2]) (rest := []) dX11_far_30 rfl mok_X11_far2 bm_1499 11 (by decide) rfl hs0 rfl rfl (Nat.le_of_ble_eq_true rfl) (by decide) hf (fun q e => ct_X11_far2 hs0 e) (fun q_5 hf => ?_)
      refine V_ldc (v := 1000000) (pc' := 35) dX11_far_33 rfl bm_1498 ?_
      refine V_icmp_ge (tgt := 47) (pc' := 38) dX11_far_35 (by decide) rfl hf (fun hf => ?_) (fun hf => ?_)
      ·
        refine V_aload_n (pc' := 39) dX11_far_38 rfl 0 rfl rfl ?_
        refine V_iload_n (pc' := 40) dX11_far_39 rfl 1 rfl rfl ?_
        refine V_iload_n (pc' := 41) dX11_far_40 rfl 2 rfl rfl ?_
        refine V_cvI (pc' := 44) (As := [.int x1, .int x2]) (rest := []) dX11_far_41 rfl mok_X11_far2 bm_1499 11 (by decide) rfl hs0 rfl rfl (Nat.le_of_ble_eq_true rfl) (by decide) hf (fun q e => ct_X11_far2 hs0 e) (fun q_6 hf => ?_)
        refine V_goto (tgt := 48) dX11_far_44 (by decide) ?_
        obtain rfl := Option.some.inj hf
        exact V_iret dX11_far_48 rfl rfl rfl ⟨rfl, rfl, rfl⟩
      ·
        refine V_iconst (v := (-1)) (pc' := 48) dX11_far_47 rfl (by decide) ?_
        obtain rfl := Option.some.inj hf
        exact V_iret dX11_far_48 rfl rfl rfl ⟨rfl, rfl, rfl⟩
theorem ct_X11_far {l : Launch} {S : List SHP} {h : MH} {a0 : Nat} {x1 : Int32} {x2 : Int32} (hs0 : S[a0]? = some (.inl 11)) {q : Int32 × MH} (hf : f_X11_far a0 x1 x2 h = some q) : CT l mX11_far 7 false 0 0 S [.ref a0, .int x1, .int x2] h (QI S q) :=
  CT_ofV (by decide) rfl (Nat.le_of_ble_eq_true rfl) (fun G B hT => v_X11_far hs0 hf)
/-! LabelStacksModel.paths(II)J -/
theorem dX11_paths_0 : decode cX11_paths 0 = .ok (.aload_n 0, 1) := by decide +kernel
theorem dX11_paths_1 : decode cX11_paths 1 = .ok (.iconst 0, 1) := by decide +kernel
theorem dX11_paths_2 : decode cX11_paths 2 = .ok (.putfield 84, 3) := by decide +kernel
theorem dX11_paths_5 : decode cX11_paths 5 = .ok (.aload_n 0, 1) := by decide +kernel
theorem dX11_paths_6 : decode cX11_paths 6 = .ok (.iload_n 1, 1) := by decide +kernel
theorem dX11_paths_7 : decode cX11_paths 7 = .ok (.invokevirtual 116, 3) := by decide +kernel
theorem dX11_paths_10 : decode cX11_paths 10 = .ok (.ifCond .eq 11, 3) := by decide +kernel
theorem dX11_paths_13 : decode cX11_paths 13 = .ok (.aload_n 0, 1) := by decide +kernel
theorem dX11_paths_14 : decode cX11_paths 14 = .ok (.iload_n 2, 1) := by decide +kernel
theorem dX11_paths_15 : decode cX11_paths 15 = .ok (.invokevirtual 116, 3) := by decide +kernel
theorem dX11_paths_18 : decode cX11_paths 18 = .ok (.ifCond .ne 7, 3) := by decide +kernel
theorem dX11_paths_21 : decode cX11_paths 21 = .ok (.ldc2_w 192, 3) := by decide +kernel
theorem dX11_paths_24 : decode cX11_paths 24 = .ok (.lreturn, 1) := by decide +kernel
theorem dX11_paths_25 : decode cX11_paths 25 = .ok (.aload_n 0, 1) := by decide +kernel
theorem dX11_paths_26 : decode cX11_paths 26 = .ok (.invokevirtual 189, 3) := by decide +kernel
theorem dX11_paths_29 : decode cX11_paths 29 = .ok (.aload_n 0, 1) := by decide +kernel
theorem dX11_paths_30 : decode cX11_paths 30 = .ok (.getfield 26, 3) := by decide +kernel
theorem dX11_paths_33 : decode cX11_paths 33 = .ok (.bipush 10, 2) := by decide +kernel
theorem dX11_paths_35 : decode cX11_paths 35 = .ok (.iload_n 1, 1) := by decide +kernel
theorem dX11_paths_36 : decode cX11_paths 36 = .ok (.imul, 1) := by decide +kernel
theorem dX11_paths_37 : decode cX11_paths 37 = .ok (.iload_n 2, 1) := by decide +kernel
theorem dX11_paths_38 : decode cX11_paths 38 = .ok (.iadd, 1) := by decide +kernel
theorem dX11_paths_39 : decode cX11_paths 39 = .ok (.laload, 1) := by decide +kernel
theorem dX11_paths_40 : decode cX11_paths 40 = .ok (.lreturn, 1) := by decide +kernel
abbrev mX11_paths : MI := (RX11, yX11_paths, cX11_paths, 3, (some .long))
theorem mok_X11_paths : MOKv mX11_paths 2 := ⟨⟨bm_1514, bm_127, ⟨by decide, by decide⟩, by decide +kernel⟩, bm_1512, bm_1513⟩
def f_X11_paths_21    (h : MH) : Option (Int64 × MH) :=
  some ((-1 : Int64), h)
def f_X11_paths   (a0 : Nat) (x1 : Int32) (x2 : Int32) (h : MH) : Option (Int64 × MH) :=
  lt (sI h a0 0 0) fun h_1 =>
  (f_X11_isNode a0 x1 h_1).bind fun q_2 =>
  if q_2.1 = 0 then
    f_X11_paths_21  q_2.2
  else
    (f_X11_isNode a0 x2 q_2.2).bind fun q_3 =>
    if q_3.1 = 0 then
      f_X11_paths_21  q_3.2
    else
      (f_X11_laysFar a0 q_3.2).bind fun q_4 =>
      (gR q_4 a0 9).bind fun a_5 =>
      (ldL q_4 a_5 ((10 * x1) + x2)).bind fun l_6 =>
      some (l_6, q_4)
set_option maxRecDepth 100000 in
set_option maxHeartbeats 4000000 in
theorem v_X11_paths_21 {l : Launch} {G : GE} {B N : Nat} {S : List SHP} {o : Int64 × MH}      {h : MH} (hf : f_X11_paths_21  h = some o) : V l G B N mX11_paths (rmm 7 0 0) false 0 0 (QL S o) S 0 0 21 [] [] h := by
  unfold f_X11_paths_21 at hf
  refine V_ldc2 (v := (-1)) (pc' := 24) dX11_paths_21 rfl bm_1515 ?_
  obtain rfl := Option.some.inj hf
  exact V_lret dX11_paths_24 rfl rfl rfl ⟨rfl, rfl, rfl⟩
set_option maxRecDepth 100000 in
set_option maxHeartbeats 4000000 in
theorem v_X11_paths {l : Launch} {G : GE} {B N : Nat} {S : List SHP} {o : Int64 × MH} {a0 : Nat} {x1 : Int32} {x2 : Int32}    (hs0 : S[a0]? = some (.inl 11)) {h : MH} (hf : f_X11_paths a0 x1 x2 h = some o) : V l G B N mX11_paths (rmm 7 0 0) false 0 0 (QL S o) S 0 0 0 [(0, .ref a0), (1, .int x1), (2, .int x2)] [] h := by
  unfold f_X11_paths at hf
  refine V_aload_n (pc' := 1) dX11_paths_0 rfl 0 rfl rfl ?_
  refine V_iconst (v := 0) (pc' := 2) dX11_paths_1 rfl (by decide) ?_
  refine V_putI (pc' := 5) 11 0 dX11_paths_2 rfl (by decide) (Nat.le_of_ble_eq_true rfl) bm_1224 hs0 (Or.inl rfl) rfl ?_
  refine V_nmH hf (fun h_1 hf => ?_)
  refine V_aload_n (pc' := 6) dX11_paths_5 rfl 0 rfl rfl ?_
  refine V_iload_n (pc' := 7) dX11_paths_6 rfl 1 rfl rfl ?_
  refine V_cvI (pc' := 10) (As := [.int x1]) (rest := []) dX11_paths_7 rfl mok_X11_isNode bm_1389 11 (by decide) rfl hs0 rfl rfl (Nat.le_of_ble_eq_true rfl) (by decide) hf (fun q e => ct_X11_isNode hs0 e) (fun q_2 hf => ?_)
  refine V_if_eq (tgt := 21) (pc' := 13) dX11_paths_10 (by decide) rfl hf (fun hf => ?_) (fun hf => ?_)
  ·
    exact V_sub (lv' := []) [] rfl (v_X11_paths_21  hf)
  ·
    refine V_aload_n (pc' := 14) dX11_paths_13 rfl 0 rfl rfl ?_
    refine V_iload_n (pc' := 15) dX11_paths_14 rfl 2 rfl rfl ?_
    refine V_cvI (pc' := 18) (As := [.int x2]) (rest := []) dX11_paths_15 rfl mok_X11_isNode bm_1389 11 (by decide) rfl hs0 rfl rfl (Nat.le_of_ble_eq_true rfl) (by decide) hf (fun q e => ct_X11_isNode hs0 e) (fun q_3 hf => ?_)
    refine V_if_ne (tgt := 25) (pc' := 21) dX11_paths_18 (by decide) rfl hf (fun hf => ?_) (fun hf => ?_)
    ·
      exact V_sub (lv' := []) [] rfl (v_X11_paths_21  hf)
    ·
      refine V_aload_n (pc' := 26) dX11_paths_25 rfl 0 rfl rfl ?_
      refine V_cvV (pc' := 29) (As := []) (rest := []) dX11_paths_26 rfl mok_X11_laysFar bm_1494 11 (by decide) rfl hs0 rfl rfl (Nat.le_of_ble_eq_true rfl) (by decide) hf (fun q e => ct_X11_laysFar hs0 e) (fun q_4 hf => ?_)
      refine V_aload_n (pc' := 30) dX11_paths_29 rfl 0 rfl rfl ?_
      refine V_getR (pc' := 33) 11 9 dX11_paths_30 rfl (by decide) (Nat.le_of_ble_eq_true rfl) bm_1233 hs0 (fun _ _ _ => rfl) rfl hf (fun a_5 ha_5 hf => ?_)
      refine V_bipush (v := 10) (pc' := 35) dX11_paths_33 rfl (by decide) ?_
      refine V_iload_n (pc' := 36) dX11_paths_35 rfl 1 rfl rfl ?_
      refine V_imul (pc' := 37) dX11_paths_36 rfl ?_
      refine V_iload_n (pc' := 38) dX11_paths_37 rfl 2 rfl rfl ?_
      refine V_iadd (pc' := 39) dX11_paths_38 rfl ?_
      refine V_lald (pc' := 40) dX11_paths_39 rfl ha_5 hf (fun l_6 hf => ?_)
      obtain rfl := Option.some.inj hf
      exact V_lret dX11_paths_40 rfl rfl rfl ⟨rfl, rfl, rfl⟩
theorem ct_X11_paths {l : Launch} {S : List SHP} {h : MH} {a0 : Nat} {x1 : Int32} {x2 : Int32} (hs0 : S[a0]? = some (.inl 11)) {q : Int64 × MH} (hf : f_X11_paths a0 x1 x2 h = some q) : CT l mX11_paths 7 false 0 0 S [.ref a0, .int x1, .int x2] h (QL S q) :=
  CT_ofV (by decide) rfl (Nat.le_of_ble_eq_true rfl) (fun G B hT => v_X11_paths hs0 hf)
/-! LabelStacksModel.next(II)I -/
theorem dX11_next_0 : decode cX11_next 0 = .ok (.aload_n 0, 1) := by decide +kernel
theorem dX11_next_1 : decode cX11_next 1 = .ok (.iconst 0, 1) := by decide +kernel
theorem dX11_next_2 : decode cX11_next 2 = .ok (.putfield 84, 3) := by decide +kernel
theorem dX11_next_5 : decode cX11_next 5 = .ok (.aload_n 0, 1) := by decide +kernel
theorem dX11_next_6 : decode cX11_next 6 = .ok (.iload_n 1, 1) := by decide +kernel
theorem dX11_next_7 : decode cX11_next 7 = .ok (.invokevirtual 116, 3) := by decide +kernel
theorem dX11_next_10 : decode cX11_next 10 = .ok (.ifCond .eq 11, 3) := by decide +kernel
theorem dX11_next_13 : decode cX11_next 13 = .ok (.aload_n 0, 1) := by decide +kernel
theorem dX11_next_14 : decode cX11_next 14 = .ok (.iload_n 2, 1) := by decide +kernel
theorem dX11_next_15 : decode cX11_next 15 = .ok (.invokevirtual 116, 3) := by decide +kernel
theorem dX11_next_18 : decode cX11_next 18 = .ok (.ifCond .ne 5, 3) := by decide +kernel
theorem dX11_next_21 : decode cX11_next 21 = .ok (.iconst 0, 1) := by decide +kernel
theorem dX11_next_22 : decode cX11_next 22 = .ok (.ireturn, 1) := by decide +kernel
theorem dX11_next_23 : decode cX11_next 23 = .ok (.aload_n 0, 1) := by decide +kernel
theorem dX11_next_24 : decode cX11_next 24 = .ok (.invokevirtual 189, 3) := by decide +kernel
theorem dX11_next_27 : decode cX11_next 27 = .ok (.iconst 0, 1) := by decide +kernel
theorem dX11_next_28 : decode cX11_next 28 = .ok (.istore_n 3, 1) := by decide +kernel
theorem dX11_next_29 : decode cX11_next 29 = .ok (.iconst 0, 1) := by decide +kernel
theorem dX11_next_30 : decode cX11_next 30 = .ok (.istore 4, 2) := by decide +kernel
theorem dX11_next_32 : decode cX11_next 32 = .ok (.iload 4, 2) := by decide +kernel
theorem dX11_next_34 : decode cX11_next 34 = .ok (.aload_n 0, 1) := by decide +kernel
theorem dX11_next_35 : decode cX11_next 35 = .ok (.invokevirtual 95, 3) := by decide +kernel
theorem dX11_next_38 : decode cX11_next 38 = .ok (.if_icmp .ge 27, 3) := by decide +kernel
theorem dX11_next_41 : decode cX11_next 41 = .ok (.aload_n 0, 1) := by decide +kernel
theorem dX11_next_42 : decode cX11_next 42 = .ok (.iload 4, 2) := by decide +kernel
theorem dX11_next_44 : decode cX11_next 44 = .ok (.iload_n 1, 1) := by decide +kernel
theorem dX11_next_45 : decode cX11_next 45 = .ok (.iload_n 2, 1) := by decide +kernel
theorem dX11_next_46 : decode cX11_next 46 = .ok (.invokevirtual 185, 3) := by decide +kernel
theorem dX11_next_49 : decode cX11_next 49 = .ok (.ifCond .eq 10, 3) := by decide +kernel
theorem dX11_next_52 : decode cX11_next 52 = .ok (.iload_n 3, 1) := by decide +kernel
theorem dX11_next_53 : decode cX11_next 53 = .ok (.iconst 1, 1) := by decide +kernel
theorem dX11_next_54 : decode cX11_next 54 = .ok (.iload 4, 2) := by decide +kernel
theorem dX11_next_56 : decode cX11_next 56 = .ok (.ishl, 1) := by decide +kernel
theorem dX11_next_57 : decode cX11_next 57 = .ok (.ior, 1) := by decide +kernel
theorem dX11_next_58 : decode cX11_next 58 = .ok (.istore_n 3, 1) := by decide +kernel
theorem dX11_next_59 : decode cX11_next 59 = .ok (.iinc 4 1, 3) := by decide +kernel
theorem dX11_next_62 : decode cX11_next 62 = .ok (.goto (-30), 3) := by decide +kernel
theorem dX11_next_65 : decode cX11_next 65 = .ok (.iload_n 3, 1) := by decide +kernel
theorem dX11_next_66 : decode cX11_next 66 = .ok (.ireturn, 1) := by decide +kernel
abbrev mX11_next : MI := (RX11, yX11_next, cX11_next, 5, (some .int))
theorem mok_X11_next : MOKv mX11_next 2 := ⟨⟨bm_1519, bm_127, ⟨by decide, by decide⟩, by decide +kernel⟩, bm_1517, bm_1518⟩
def f_X11_next_59  (k32 : Int32 × Int32 → MH → Option (Int32 × MH)) (a0 : Nat) (x1 : Int32) (x2 : Int32) (x3 : Int32) (x4 : Int32) (h : MH) : Option (Int32 × MH) :=
  k32 (x3, (x4 + 1)) h
def f_X11_next_32b   (a0 : Nat) (x1 : Int32) (x2 : Int32) (k32 : Int32 × Int32 → MH → Option (Int32 × MH)) (p : Int32 × Int32) (h : MH) : Option (Int32 × MH) :=
  (f_X11_links a0 h).bind fun q_1 =>
  if p.2 < q_1.1 then
    (f_X11_isOn a0 p.2 x1 x2 q_1.2).bind fun q_2 =>
    if q_2.1 = 0 then
      f_X11_next_59 k32 a0 x1 x2 p.1 p.2 q_2.2
    else
      lt (p.1 ||| ((1 : Int32) <<< (p.2 &&& 31))) fun x_3 =>
      f_X11_next_59 k32 a0 x1 x2 x_3 p.2 q_2.2
  else
    some (p.1, q_1.2)
def f_X11_next_32   (a0 : Nat) (x1 : Int32) (x2 : Int32) : Nat → Int32 × Int32 → MH → Option (Int32 × MH) := lp (f_X11_next_32b a0 x1 x2)
def f_X11_next   (a0 : Nat) (x1 : Int32) (x2 : Int32) (h : MH) : Option (Int32 × MH) :=
  lt (sI h a0 0 0) fun h_1 =>
  (f_X11_isNode a0 x1 h_1).bind fun q_2 =>
  if q_2.1 = 0 then
    some (0, q_2.2)
  else
    (f_X11_isNode a0 x2 q_2.2).bind fun q_3 =>
    if q_3.1 = 0 then
      some (0, q_3.2)
    else
      (f_X11_laysFar a0 q_3.2).bind fun q_4 =>
      f_X11_next_32 a0 x1 x2 FU (0, 0) q_4
set_option maxRecDepth 100000 in
set_option maxHeartbeats 4000000 in
theorem v_X11_next_59 {l : Launch} {G : GE} {B N : Nat} {S : List SHP} {o : Int32 × MH} {a0 : Nat} {x1 : Int32} {x2 : Int32} {x3 : Int32} {x4 : Int32}  {k32 : Int32 × Int32 → MH → Option (Int32 × MH)} (hk32 : ∀ (p : Int32 × Int32) (h : MH), k32 p h = some o → V l G B N mX11_next (rmm 7 0 0) false 0 0 (QI S o) S 0 0 32 [(0, .ref a0), (1, .int x1), (2, .int x2), (3, .int p.1), (4, .int p.2)] [] h) (hs0 : S[a0]? = some (.inl 11)) {h : MH} (hf : f_X11_next_59 k32 a0 x1 x2 x3 x4 h = some o) : V l G B N mX11_next (rmm 7 0 0) false 0 0 (QI S o) S 0 0 59 [(0, .ref a0), (1, .int x1), (2, .int x2), (3, .int x3), (4, .int x4)] [] h := by
  unfold f_X11_next_59 at hf
  refine V_iinc (v := (x4 + 1)) (lv' := [(4, .int (x4 + 1)), (0, .ref a0), (1, .int x1), (2, .int x2), (3, .int x3)]) (pc' := 62) dX11_next_59 rfl 4 rfl rfl (Nat.le_of_ble_eq_true rfl) rfl ?_
  refine V_goto (tgt := 32) dX11_next_62 (by decide) ?_
  exact V_sub (lv' := [(0, .ref a0), (1, .int x1), (2, .int x2), (3, .int x3), (4, .int (x4 + 1))]) [1, 2, 3, 4, 0] rfl (hk32 (x3, (x4 + 1)) h hf)
set_option maxRecDepth 100000 in
set_option maxHeartbeats 4000000 in
theorem v_X11_next_32b {l : Launch} {G : GE} {B N : Nat} {S : List SHP} {o : Int32 × MH} {a0 : Nat} {x1 : Int32} {x2 : Int32}    (hs0 : S[a0]? = some (.inl 11)) {k32 : Int32 × Int32 → MH → Option (Int32 × MH)} (hk32 : ∀ (p : Int32 × Int32) (h : MH), k32 p h = some o → V l G B N mX11_next (rmm 7 0 0) false 0 0 (QI S o) S 0 0 32 [(0, .ref a0), (1, .int x1), (2, .int x2), (3, .int p.1), (4, .int p.2)] [] h) {p : Int32 × Int32} {h : MH} (hf : f_X11_next_32b a0 x1 x2 k32 p h = some o) : V l G B N mX11_next (rmm 7 0 0) false 0 0 (QI S o) S 0 0 32 [(0, .ref a0), (1, .int x1), (2, .int x2), (3, .int p.1), (4, .int p.2)] [] h := by
  unfold f_X11_next_32b at hf
  refine V_iload (pc' := 34) dX11_next_32 rfl 4 rfl ?_
  refine V_aload_n (pc' := 35) dX11_next_34 rfl 0 rfl rfl ?_
  refine V_cvI (pc' := 38) (As := []) (rest := [.int p.2]) dX11_next_35 rfl mok_X11_links bm_1398 11 (by decide) rfl hs0 rfl rfl (Nat.le_of_ble_eq_true rfl) (by decide) hf (fun q e => ct_X11_links hs0 e) (fun q_1 hf => ?_)
  refine V_icmp_ge (tgt := 65) (pc' := 41) dX11_next_38 (by decide) rfl hf (fun hf => ?_) (fun hf => ?_)
  ·
    refine V_aload_n (pc' := 42) dX11_next_41 rfl 0 rfl rfl ?_
    refine V_iload (pc' := 44) dX11_next_42 rfl 4 rfl ?_
    refine V_iload_n (pc' := 45) dX11_next_44 rfl 1 rfl rfl ?_
    refine V_iload_n (pc' := 46) dX11_next_45 rfl 2 rfl rfl ?_
    refine V_cvI (pc' := 49) (As := [.int p.2, .int x1, .int x2]) (rest := []) dX11_next_46 rfl mok_X11_isOn bm_1507 11 (by decide) rfl hs0 rfl rfl (Nat.le_of_ble_eq_true rfl) (by decide) hf (fun q e => ct_X11_isOn hs0 e) (fun q_2 hf => ?_)
    refine V_if_eq (tgt := 59) (pc' := 52) dX11_next_49 (by decide) rfl hf (fun hf => ?_) (fun hf => ?_)
    ·
      exact V_sub (lv' := [(0, .ref a0), (1, .int x1), (2, .int x2), (3, .int p.1), (4, .int p.2)]) [0, 1, 2, 3, 4] rfl (v_X11_next_59 hk32 hs0 hf)
    ·
      refine V_iload_n (pc' := 53) dX11_next_52 rfl 3 rfl rfl ?_
      refine V_iconst (v := 1) (pc' := 54) dX11_next_53 rfl (by decide) ?_
      refine V_iload (pc' := 56) dX11_next_54 rfl 4 rfl ?_
      refine V_ishl (pc' := 57) dX11_next_56 rfl ?_
      refine V_ior (pc' := 58) dX11_next_57 rfl ?_
      refine V_nmI hf (fun x_3 hf => ?_)
      refine V_istore_n (lv' := [(3, .int x_3), (0, .ref a0), (1, .int x1), (2, .int x2), (4, .int p.2)]) (pc' := 59) dX11_next_58 rfl rfl (Nat.le_of_ble_eq_true rfl) rfl ?_
      exact V_sub (lv' := [(0, .ref a0), (1, .int x1), (2, .int x2), (3, .int x_3), (4, .int p.2)]) [1, 2, 3, 0, 4] rfl (v_X11_next_59 hk32 hs0 hf)
  ·
    refine V_iload_n (pc' := 66) dX11_next_65 rfl 3 rfl rfl ?_
    obtain rfl := Option.some.inj hf
    exact V_iret dX11_next_66 rfl rfl rfl ⟨rfl, rfl, rfl⟩
theorem v_X11_next_32 {l : Launch} {G : GE} {B N : Nat} {S : List SHP} {o : Int32 × MH} {a0 : Nat} {x1 : Int32} {x2 : Int32}    (hs0 : S[a0]? = some (.inl 11)) {n : Nat} {p : Int32 × Int32} {h : MH} (hf : f_X11_next_32 a0 x1 x2 n p h = some o) : V l G B N mX11_next (rmm 7 0 0) false 0 0 (QI S o) S 0 0 32 [(0, .ref a0), (1, .int x1), (2, .int x2), (3, .int p.1), (4, .int p.2)] [] h :=
  V_lp (VV := fun p h => V l G B N mX11_next (rmm 7 0 0) false 0 0 (QI S o) S 0 0 32 [(0, .ref a0), (1, .int x1), (2, .int x2), (3, .int p.1), (4, .int p.2)] [] h) (fun _ hk _ _ hf => v_X11_next_32b hs0 hk hf) n p h hf
set_option maxRecDepth 100000 in
set_option maxHeartbeats 4000000 in
theorem v_X11_next {l : Launch} {G : GE} {B N : Nat} {S : List SHP} {o : Int32 × MH} {a0 : Nat} {x1 : Int32} {x2 : Int32}    (hs0 : S[a0]? = some (.inl 11)) {h : MH} (hf : f_X11_next a0 x1 x2 h = some o) : V l G B N mX11_next (rmm 7 0 0) false 0 0 (QI S o) S 0 0 0 [(0, .ref a0), (1, .int x1), (2, .int x2)] [] h := by
  unfold f_X11_next at hf
  refine V_aload_n (pc' := 1) dX11_next_0 rfl 0 rfl rfl ?_
  refine V_iconst (v := 0) (pc' := 2) dX11_next_1 rfl (by decide) ?_
  refine V_putI (pc' := 5) 11 0 dX11_next_2 rfl (by decide) (Nat.le_of_ble_eq_true rfl) bm_1224 hs0 (Or.inl rfl) rfl ?_
  refine V_nmH hf (fun h_1 hf => ?_)
  refine V_aload_n (pc' := 6) dX11_next_5 rfl 0 rfl rfl ?_
  refine V_iload_n (pc' := 7) dX11_next_6 rfl 1 rfl rfl ?_
  refine V_cvI (pc' := 10) (As := [.int x1]) (rest := []) dX11_next_7 rfl mok_X11_isNode bm_1389 11 (by decide) rfl hs0 rfl rfl (Nat.le_of_ble_eq_true rfl) (by decide) hf (fun q e => ct_X11_isNode hs0 e) (fun q_2 hf => ?_)
  refine V_if_eq (tgt := 21) (pc' := 13) dX11_next_10 (by decide) rfl hf (fun hf => ?_) (fun hf => ?_)
  ·
    refine V_iconst (v := 0) (pc' := 22) dX11_next_21 rfl (by decide) ?_
    obtain rfl := Option.some.inj hf
    exact V_iret dX11_next_22 rfl rfl rfl ⟨rfl, rfl, rfl⟩
  ·
    refine V_aload_n (pc' := 14) dX11_next_13 rfl 0 rfl rfl ?_
    refine V_iload_n (pc' := 15) dX11_next_14 rfl 2 rfl rfl ?_
    refine V_cvI (pc' := 18) (As := [.int x2]) (rest := []) dX11_next_15 rfl mok_X11_isNode bm_1389 11 (by decide) rfl hs0 rfl rfl (Nat.le_of_ble_eq_true rfl) (by decide) hf (fun q e => ct_X11_isNode hs0 e) (fun q_3 hf => ?_)
    refine V_if_ne (tgt := 23) (pc' := 21) dX11_next_18 (by decide) rfl hf (fun hf => ?_) (fun hf => ?_)
    ·
      refine V_iconst (v := 0) (pc' := 22) dX11_next_21 rfl (by decide) ?_
      obtain rfl := Option.some.inj hf
      exact V_iret dX11_next_22 rfl rfl rfl ⟨rfl, rfl, rfl⟩
    ·
      refine V_aload_n (pc' := 24) dX11_next_23 rfl 0 rfl rfl ?_
      refine V_cvV (pc' := 27) (As := []) (rest := []) dX11_next_24 rfl mok_X11_laysFar bm_1494 11 (by decide) rfl hs0 rfl rfl (Nat.le_of_ble_eq_true rfl) (by decide) hf (fun q e => ct_X11_laysFar hs0 e) (fun q_4 hf => ?_)
      refine V_iconst (v := 0) (pc' := 28) dX11_next_27 rfl (by decide) ?_
      refine V_istore_n (lv' := [(3, .int 0), (0, .ref a0), (1, .int x1), (2, .int x2)]) (pc' := 29) dX11_next_28 rfl rfl (Nat.le_of_ble_eq_true rfl) rfl ?_
      refine V_iconst (v := 0) (pc' := 30) dX11_next_29 rfl (by decide) ?_
      refine V_istore (lv' := [(4, .int 0), (3, .int 0), (0, .ref a0), (1, .int x1), (2, .int x2)]) (pc' := 32) dX11_next_30 rfl (Nat.le_of_ble_eq_true rfl) rfl ?_
      exact V_sub (lv' := [(0, .ref a0), (1, .int x1), (2, .int x2), (3, .int 0), (4, .int 0)]) [2, 3, 4, 1, 0] rfl (v_X11_next_32 hs0 hf)
theorem ct_X11_next {l : Launch} {S : List SHP} {h : MH} {a0 : Nat} {x1 : Int32} {x2 : Int32} (hs0 : S[a0]? = some (.inl 11)) {q : Int32 × MH} (hf : f_X11_next a0 x1 x2 h = some q) : CT l mX11_next 7 false 0 0 S [.ref a0, .int x1, .int x2] h (QI S q) :=
  CT_ofV (by decide) rfl (Nat.le_of_ble_eq_true rfl) (fun G B hT => v_X11_next hs0 hf)
/-! LabelStacksModel.common(JJ)J -/
theorem dX11_common_0 : decode cX11_common 0 = .ok (.lload_n 3, 1) := by decide +kernel
theorem dX11_common_1 : decode cX11_common 1 = .ok (.lconst 0, 1) := by decide +kernel
theorem dX11_common_2 : decode cX11_common 2 = .ok (.lcmp, 1) := by decide +kernel
theorem dX11_common_3 : decode cX11_common 3 = .ok (.ifCond .ne 7, 3) := by decide +kernel
theorem dX11_common_6 : decode cX11_common 6 = .ok (.lload_n 1, 1) := by decide +kernel
theorem dX11_common_7 : decode cX11_common 7 = .ok (.goto 11, 3) := by decide +kernel
theorem dX11_common_10 : decode cX11_common 10 = .ok (.aload_n 0, 1) := by decide +kernel
theorem dX11_common_11 : decode cX11_common 11 = .ok (.lload_n 3, 1) := by decide +kernel
theorem dX11_common_12 : decode cX11_common 12 = .ok (.lload_n 1, 1) := by decide +kernel
theorem dX11_common_13 : decode cX11_common 13 = .ok (.lload_n 3, 1) := by decide +kernel
theorem dX11_common_14 : decode cX11_common 14 = .ok (.lrem, 1) := by decide +kernel
theorem dX11_common_15 : decode cX11_common 15 = .ok (.invokevirtual 194, 3) := by decide +kernel
theorem dX11_common_18 : decode cX11_common 18 = .ok (.lreturn, 1) := by decide +kernel
abbrev mX11_common : MI := (RX11, yX11_common, cX11_common, 5, (some .long))
theorem mok_X11_common : MOKv mX11_common 2 := ⟨⟨bm_1559, bm_127, ⟨by decide, by decide⟩, by decide +kernel⟩, bm_1558, bm_72⟩
def f_X11_commonb (kr : Int64 × Int64 → MH → Option (Int64 × MH))  (a0 : Nat) (l1 : Int64) (l3 : Int64) (h : MH) : Option (Int64 × MH) :=
  if l3 = 0 then
    some (l1, h)
  else
    if l3 = (0 : Int64) then none else
    (kr (l3, (l1 - l1 / l3 * l3)) h).bind fun q_1 =>
    some (q_1.1, q_1.2)
def f_X11_common (a0 : Nat) : Nat → Int64 × Int64 → MH → Option (Int64 × MH) := lp (fun kr p h => f_X11_commonb kr a0 p.1 p.2 h)
set_option maxRecDepth 100000 in
set_option maxHeartbeats 4000000 in
theorem v_X11_common {l : Launch} {G : GE} {B N : Nat} {S : List SHP} {o : Int64 × MH} {a0 : Nat} {l1 : Int64} {l3 : Int64} {kr : Int64 × Int64 → MH → Option (Int64 × MH)} {dk : Nat} (hdk : 3 ≤ dk) (hkr : ∀ (p : Int64 × Int64) (h : MH) (q : Int64 × MH), kr p h = some q → CT l mX11_common dk false 0 0 S [.ref a0, .long p.1, .long p.2] h (QL S q)) (hs0 : S[a0]? = some (.inl 11)) {h : MH} (hf : f_X11_commonb kr a0 l1 l3 h = some o) : V l G B N mX11_common (rmm (dk + 1) 0 0) false 0 0 (QL S o) S 0 0 0 [(0, .ref a0), (1, .long l1), (3, .long l3)] [] h := by
  unfold f_X11_commonb at hf
  refine V_lload_n (pc' := 1) dX11_common_0 rfl 2 rfl rfl ?_
  refine V_lconst (v := 0) (pc' := 2) dX11_common_1 rfl (by decide) ?_
  refine V_lcmp_ne (pc1 := 3) (tgt := 10) (pc' := 6) dX11_common_2 rfl dX11_common_3 (by decide) rfl hf (fun hf => ?_) (fun hf => ?_)
  ·
    refine V_lload_n (pc' := 7) dX11_common_6 rfl 1 rfl rfl ?_
    refine V_goto (tgt := 18) dX11_common_7 (by decide) ?_
    obtain rfl := Option.some.inj hf
    exact V_lret dX11_common_18 rfl rfl rfl ⟨rfl, rfl, rfl⟩
  ·
    refine V_aload_n (pc' := 11) dX11_common_10 rfl 0 rfl rfl ?_
    refine V_lload_n (pc' := 12) dX11_common_11 rfl 2 rfl rfl ?_
    refine V_lload_n (pc' := 13) dX11_common_12 rfl 1 rfl rfl ?_
    refine V_lload_n (pc' := 14) dX11_common_13 rfl 2 rfl rfl ?_
    refine V_lremF (pc' := 15) dX11_common_14 rfl hf (fun hf => ?_)
    refine V_cvL (pc' := 18) (As := [.long l3, .long (l1 - l1 / l3 * l3)]) (rest := []) dX11_common_15 rfl mok_X11_common bm_1556 11 (by decide) rfl hs0 rfl rfl (Nat.le_of_ble_eq_true rfl) (by simp only [rmm]; omega) hf (fun q e => hkr (l3, (l1 - l1 / l3 * l3)) h q e) (fun q_1 hf => ?_)
    obtain rfl := Option.some.inj hf
    exact V_lret dX11_common_18 rfl rfl rfl ⟨rfl, rfl, rfl⟩
theorem ctd_X11_common {l : Launch} {S : List SHP} {a0 : Nat} (hs0 : S[a0]? = some (.inl 11)) : ∀ (D : Nat) (p : Int64 × Int64) (h : MH) (q : Int64 × MH), f_X11_common a0 D p h = some q → CT l mX11_common (D + 3) false 0 0 S [.ref a0, .long p.1, .long p.2] h (QL S q)
  | 0, _, _, _, hf => by cases hf
  | D + 1, p, h, q, hf => by
    have e : D + 1 + 3 = (D + 3) + 1 := by omega
    rw [e]
    exact CT_ofV (by decide) rfl (Nat.le_of_ble_eq_true rfl) (fun G B hT => v_X11_common (kr := f_X11_common a0 D) (dk := D + 3) (by omega) (fun p h q hq => ctd_X11_common hs0 D p h q hq) hs0 hf)
theorem ct_X11_common {l : Launch} {S : List SHP} {h : MH} {a0 : Nat} (hs0 : S[a0]? = some (.inl 11)) {p : Int64 × Int64} {q : Int64 × MH} (hf : f_X11_common a0 DG p h = some q) : CT l mX11_common 123 false 0 0 S [.ref a0, .long p.1, .long p.2] h (QL S q) := ctd_X11_common hs0 DG p h q hf
/-! LabelStacksModel.adds(JJJJ)V -/
theorem dX11_adds_0 : decode cX11_adds 0 = .ok (.aload_n 0, 1) := by decide +kernel
theorem dX11_adds_1 : decode cX11_adds 1 = .ok (.lload_n 3, 1) := by decide +kernel
theorem dX11_adds_2 : decode cX11_adds 2 = .ok (.lload 7, 2) := by decide +kernel
theorem dX11_adds_4 : decode cX11_adds 4 = .ok (.invokevirtual 194, 3) := by decide +kernel
theorem dX11_adds_7 : decode cX11_adds 7 = .ok (.lstore 9, 2) := by decide +kernel
theorem dX11_adds_9 : decode cX11_adds 9 = .ok (.lload_n 1, 1) := by decide +kernel
theorem dX11_adds_10 : decode cX11_adds 10 = .ok (.lload 7, 2) := by decide +kernel
theorem dX11_adds_12 : decode cX11_adds 12 = .ok (.lload 9, 2) := by decide +kernel
theorem dX11_adds_14 : decode cX11_adds 14 = .ok (.ldiv, 1) := by decide +kernel
theorem dX11_adds_15 : decode cX11_adds 15 = .ok (.lmul, 1) := by decide +kernel
theorem dX11_adds_16 : decode cX11_adds 16 = .ok (.lload 5, 2) := by decide +kernel
theorem dX11_adds_18 : decode cX11_adds 18 = .ok (.lload_n 3, 1) := by decide +kernel
theorem dX11_adds_19 : decode cX11_adds 19 = .ok (.lload 9, 2) := by decide +kernel
theorem dX11_adds_21 : decode cX11_adds 21 = .ok (.ldiv, 1) := by decide +kernel
theorem dX11_adds_22 : decode cX11_adds 22 = .ok (.lmul, 1) := by decide +kernel
theorem dX11_adds_23 : decode cX11_adds 23 = .ok (.ladd, 1) := by decide +kernel
theorem dX11_adds_24 : decode cX11_adds 24 = .ok (.lstore 11, 2) := by decide +kernel
theorem dX11_adds_26 : decode cX11_adds 26 = .ok (.lload_n 3, 1) := by decide +kernel
theorem dX11_adds_27 : decode cX11_adds 27 = .ok (.lload 9, 2) := by decide +kernel
theorem dX11_adds_29 : decode cX11_adds 29 = .ok (.ldiv, 1) := by decide +kernel
theorem dX11_adds_30 : decode cX11_adds 30 = .ok (.lload 7, 2) := by decide +kernel
theorem dX11_adds_32 : decode cX11_adds 32 = .ok (.lmul, 1) := by decide +kernel
theorem dX11_adds_33 : decode cX11_adds 33 = .ok (.lstore 13, 2) := by decide +kernel
theorem dX11_adds_35 : decode cX11_adds 35 = .ok (.aload_n 0, 1) := by decide +kernel
theorem dX11_adds_36 : decode cX11_adds 36 = .ok (.lload 11, 2) := by decide +kernel
theorem dX11_adds_38 : decode cX11_adds 38 = .ok (.lload 13, 2) := by decide +kernel
theorem dX11_adds_40 : decode cX11_adds 40 = .ok (.invokevirtual 194, 3) := by decide +kernel
theorem dX11_adds_43 : decode cX11_adds 43 = .ok (.lstore 15, 2) := by decide +kernel
theorem dX11_adds_45 : decode cX11_adds 45 = .ok (.aload_n 0, 1) := by decide +kernel
theorem dX11_adds_46 : decode cX11_adds 46 = .ok (.lload 11, 2) := by decide +kernel
theorem dX11_adds_48 : decode cX11_adds 48 = .ok (.lload 15, 2) := by decide +kernel
theorem dX11_adds_50 : decode cX11_adds 50 = .ok (.ldiv, 1) := by decide +kernel
theorem dX11_adds_51 : decode cX11_adds 51 = .ok (.putfield 198, 3) := by decide +kernel
theorem dX11_adds_54 : decode cX11_adds 54 = .ok (.aload_n 0, 1) := by decide +kernel
theorem dX11_adds_55 : decode cX11_adds 55 = .ok (.lload 13, 2) := by decide +kernel
theorem dX11_adds_57 : decode cX11_adds 57 = .ok (.lload 15, 2) := by decide +kernel
theorem dX11_adds_59 : decode cX11_adds 59 = .ok (.ldiv, 1) := by decide +kernel
theorem dX11_adds_60 : decode cX11_adds 60 = .ok (.putfield 202, 3) := by decide +kernel
theorem dX11_adds_63 : decode cX11_adds 63 = .ok (.return_, 1) := by decide +kernel
abbrev mX11_adds : MI := (RX11, yX11_adds, cX11_adds, 17, none)
theorem mok_X11_adds : MOKv mX11_adds 4 := ⟨⟨bm_1555, bm_127, ⟨by decide, by decide⟩, by decide +kernel⟩, bm_1554, bm_71⟩
def f_X11_adds   (a0 : Nat) (l1 : Int64) (l3 : Int64) (l5 : Int64) (l7 : Int64) (h : MH) : Option (MH) :=
  (f_X11_common a0 DG (l3, l7) h).bind fun q_1 =>
  if q_1.1 = (0 : Int64) then none else
  if q_1.1 = (0 : Int64) then none else
  lt ((l1 * (l7 / q_1.1)) + (l5 * (l3 / q_1.1))) fun l_2 =>
  if q_1.1 = (0 : Int64) then none else
  lt ((l3 / q_1.1) * l7) fun l_3 =>
  (f_X11_common a0 DG (l_2, l_3) q_1.2).bind fun q_4 =>
  if q_4.1 = (0 : Int64) then none else
  lt (sL q_4.2 a0 10 (l_2 / q_4.1)) fun h_5 =>
  if q_4.1 = (0 : Int64) then none else
  lt (sL h_5 a0 11 (l_3 / q_4.1)) fun h_6 =>
  some h_6
set_option maxRecDepth 100000 in
set_option maxHeartbeats 4000000 in
theorem v_X11_adds {l : Launch} {G : GE} {B N : Nat} {S : List SHP} {o : MH} {a0 : Nat} {l1 : Int64} {l3 : Int64} {l5 : Int64} {l7 : Int64}    (hs0 : S[a0]? = some (.inl 11)) {h : MH} (hf : f_X11_adds a0 l1 l3 l5 l7 h = some o) : V l G B N mX11_adds (rmm 124 0 0) false 0 0 (QV S o) S 0 0 0 [(0, .ref a0), (1, .long l1), (3, .long l3), (5, .long l5), (7, .long l7)] [] h := by
  unfold f_X11_adds at hf
  refine V_aload_n (pc' := 1) dX11_adds_0 rfl 0 rfl rfl ?_
  refine V_lload_n (pc' := 2) dX11_adds_1 rfl 2 rfl rfl ?_
  refine V_lload (pc' := 4) dX11_adds_2 rfl 4 rfl ?_
  refine V_cvL (pc' := 7) (As := [.long l3, .long l7]) (rest := []) dX11_adds_4 rfl mok_X11_common bm_1556 11 (by decide) rfl hs0 rfl rfl (Nat.le_of_ble_eq_true rfl) (by decide) hf (fun q e => ct_X11_common hs0 e) (fun q_1 hf => ?_)
  refine V_lstore (lv' := [(9, .long q_1.1), (0, .ref a0), (1, .long l1), (3, .long l3), (5, .long l5), (7, .long l7)]) (pc' := 9) dX11_adds_7 rfl (Nat.le_of_ble_eq_true rfl) rfl ?_
  refine V_lload_n (pc' := 10) dX11_adds_9 rfl 2 rfl rfl ?_
  refine V_lload (pc' := 12) dX11_adds_10 rfl 5 rfl ?_
  refine V_lload (pc' := 14) dX11_adds_12 rfl 0 rfl ?_
  refine V_ldivF (pc' := 15) dX11_adds_14 rfl hf (fun hf => ?_)
  refine V_lmul (pc' := 16) dX11_adds_15 rfl ?_
  refine V_lload (pc' := 18) dX11_adds_16 rfl 4 rfl ?_
  refine V_lload_n (pc' := 19) dX11_adds_18 rfl 3 rfl rfl ?_
  refine V_lload (pc' := 21) dX11_adds_19 rfl 0 rfl ?_
  refine V_ldivF (pc' := 22) dX11_adds_21 rfl hf (fun hf => ?_)
  refine V_lmul (pc' := 23) dX11_adds_22 rfl ?_
  refine V_ladd (pc' := 24) dX11_adds_23 rfl ?_
  refine V_nmJ hf (fun l_2 hf => ?_)
  refine V_lstore (lv' := [(11, .long l_2), (9, .long q_1.1), (0, .ref a0), (1, .long l1), (3, .long l3), (5, .long l5), (7, .long l7)]) (pc' := 26) dX11_adds_24 rfl (Nat.le_of_ble_eq_true rfl) rfl ?_
  refine V_lload_n (pc' := 27) dX11_adds_26 rfl 4 rfl rfl ?_
  refine V_lload (pc' := 29) dX11_adds_27 rfl 1 rfl ?_
  refine V_ldivF (pc' := 30) dX11_adds_29 rfl hf (fun hf => ?_)
  refine V_lload (pc' := 32) dX11_adds_30 rfl 6 rfl ?_
  refine V_lmul (pc' := 33) dX11_adds_32 rfl ?_
  refine V_nmJ hf (fun l_3 hf => ?_)
  refine V_lstore (lv' := [(13, .long l_3), (11, .long l_2), (9, .long q_1.1), (0, .ref a0), (1, .long l1), (3, .long l3), (5, .long l5), (7, .long l7)]) (pc' := 35) dX11_adds_33 rfl (Nat.le_of_ble_eq_true rfl) rfl ?_
  refine V_aload_n (pc' := 36) dX11_adds_35 rfl 3 rfl rfl ?_
  refine V_lload (pc' := 38) dX11_adds_36 rfl 1 rfl ?_
  refine V_lload (pc' := 40) dX11_adds_38 rfl 0 rfl ?_
  refine V_cvL (pc' := 43) (As := [.long l_2, .long l_3]) (rest := []) dX11_adds_40 rfl mok_X11_common bm_1556 11 (by decide) rfl hs0 rfl rfl (Nat.le_of_ble_eq_true rfl) (by decide) hf (fun q e => ct_X11_common hs0 e) (fun q_4 hf => ?_)
  refine V_lstore (lv' := [(15, .long q_4.1), (13, .long l_3), (11, .long l_2), (9, .long q_1.1), (0, .ref a0), (1, .long l1), (3, .long l3), (5, .long l5), (7, .long l7)]) (pc' := 45) dX11_adds_43 rfl (Nat.le_of_ble_eq_true rfl) rfl ?_
  refine V_aload_n (pc' := 46) dX11_adds_45 rfl 4 rfl rfl ?_
  refine V_lload (pc' := 48) dX11_adds_46 rfl 2 rfl ?_
  refine V_lload (pc' := 50) dX11_adds_48 rfl 0 rfl ?_
  refine V_ldivF (pc' := 51) dX11_adds_50 rfl hf (fun hf => ?_)
  refine V_putL (pc' := 54) 11 10 dX11_adds_51 rfl (by decide) (Nat.le_of_ble_eq_true rfl) bm_1234 hs0 (Or.inl rfl) rfl ?_
  refine V_nmH hf (fun h_5 hf => ?_)
  refine V_aload_n (pc' := 55) dX11_adds_54 rfl 4 rfl rfl ?_
  refine V_lload (pc' := 57) dX11_adds_55 rfl 1 rfl ?_
  refine V_lload (pc' := 59) dX11_adds_57 rfl 0 rfl ?_
  refine V_ldivF (pc' := 60) dX11_adds_59 rfl hf (fun hf => ?_)
  refine V_putL (pc' := 63) 11 11 dX11_adds_60 rfl (by decide) (Nat.le_of_ble_eq_true rfl) bm_1235 hs0 (Or.inl rfl) rfl ?_
  refine V_nmH hf (fun h_6 hf => ?_)
  obtain rfl := Option.some.inj hf
  exact V_vret dX11_adds_63 rfl rfl rfl ⟨rfl, rfl, rfl⟩
theorem ct_X11_adds {l : Launch} {S : List SHP} {h : MH} {a0 : Nat} {l1 : Int64} {l3 : Int64} {l5 : Int64} {l7 : Int64} (hs0 : S[a0]? = some (.inl 11)) {q : MH} (hf : f_X11_adds a0 l1 l3 l5 l7 h = some q) : CT l mX11_adds 124 false 0 0 S [.ref a0, .long l1, .long l3, .long l5, .long l7] h (QV S q) :=
  CT_ofV (by decide) rfl (Nat.le_of_ble_eq_true rfl) (fun G B hT => v_X11_adds hs0 hf)
/-! LabelStacksModel.begins(I)V -/
theorem dX11_begins_0 : decode cX11_begins 0 = .ok (.aload_n 0, 1) := by decide +kernel
theorem dX11_begins_1 : decode cX11_begins 1 = .ok (.iconst 0, 1) := by decide +kernel
theorem dX11_begins_2 : decode cX11_begins 2 = .ok (.putfield 205, 3) := by decide +kernel
theorem dX11_begins_5 : decode cX11_begins 5 = .ok (.aload_n 0, 1) := by decide +kernel
theorem dX11_begins_6 : decode cX11_begins 6 = .ok (.iload_n 1, 1) := by decide +kernel
theorem dX11_begins_7 : decode cX11_begins 7 = .ok (.putfield 208, 3) := by decide +kernel
theorem dX11_begins_10 : decode cX11_begins 10 = .ok (.aload_n 0, 1) := by decide +kernel
theorem dX11_begins_11 : decode cX11_begins 11 = .ok (.iconst 0, 1) := by decide +kernel
theorem dX11_begins_12 : decode cX11_begins 12 = .ok (.putfield 211, 3) := by decide +kernel
theorem dX11_begins_15 : decode cX11_begins 15 = .ok (.aload_n 0, 1) := by decide +kernel
theorem dX11_begins_16 : decode cX11_begins 16 = .ok (.iconst 0, 1) := by decide +kernel
theorem dX11_begins_17 : decode cX11_begins 17 = .ok (.putfield 214, 3) := by decide +kernel
theorem dX11_begins_20 : decode cX11_begins 20 = .ok (.aload_n 0, 1) := by decide +kernel
theorem dX11_begins_21 : decode cX11_begins 21 = .ok (.iconst 1, 1) := by decide +kernel
theorem dX11_begins_22 : decode cX11_begins 22 = .ok (.putfield 217, 3) := by decide +kernel
theorem dX11_begins_25 : decode cX11_begins 25 = .ok (.aload_n 0, 1) := by decide +kernel
theorem dX11_begins_26 : decode cX11_begins 26 = .ok (.iconst 0, 1) := by decide +kernel
theorem dX11_begins_27 : decode cX11_begins 27 = .ok (.putfield 220, 3) := by decide +kernel
theorem dX11_begins_30 : decode cX11_begins 30 = .ok (.aload_n 0, 1) := by decide +kernel
theorem dX11_begins_31 : decode cX11_begins 31 = .ok (.iconst 0, 1) := by decide +kernel
theorem dX11_begins_32 : decode cX11_begins 32 = .ok (.putfield 223, 3) := by decide +kernel
theorem dX11_begins_35 : decode cX11_begins 35 = .ok (.iconst 0, 1) := by decide +kernel
theorem dX11_begins_36 : decode cX11_begins 36 = .ok (.istore_n 2, 1) := by decide +kernel
theorem dX11_begins_37 : decode cX11_begins 37 = .ok (.iload_n 2, 1) := by decide +kernel
theorem dX11_begins_38 : decode cX11_begins 38 = .ok (.bipush 30, 2) := by decide +kernel
theorem dX11_begins_40 : decode cX11_begins 40 = .ok (.if_icmp .ge 23, 3) := by decide +kernel
theorem dX11_begins_43 : decode cX11_begins 43 = .ok (.aload_n 0, 1) := by decide +kernel
theorem dX11_begins_44 : decode cX11_begins 44 = .ok (.getfield 36, 3) := by decide +kernel
theorem dX11_begins_47 : decode cX11_begins 47 = .ok (.iload_n 2, 1) := by decide +kernel
theorem dX11_begins_48 : decode cX11_begins 48 = .ok (.lconst 0, 1) := by decide +kernel
theorem dX11_begins_49 : decode cX11_begins 49 = .ok (.lastore, 1) := by decide +kernel
theorem dX11_begins_50 : decode cX11_begins 50 = .ok (.aload_n 0, 1) := by decide +kernel
theorem dX11_begins_51 : decode cX11_begins 51 = .ok (.getfield 39, 3) := by decide +kernel
theorem dX11_begins_54 : decode cX11_begins 54 = .ok (.iload_n 2, 1) := by decide +kernel
theorem dX11_begins_55 : decode cX11_begins 55 = .ok (.lconst 1, 1) := by decide +kernel
theorem dX11_begins_56 : decode cX11_begins 56 = .ok (.lastore, 1) := by decide +kernel
theorem dX11_begins_57 : decode cX11_begins 57 = .ok (.iinc 2 1, 3) := by decide +kernel
theorem dX11_begins_60 : decode cX11_begins 60 = .ok (.goto (-23), 3) := by decide +kernel
theorem dX11_begins_63 : decode cX11_begins 63 = .ok (.return_, 1) := by decide +kernel
abbrev mX11_begins : MI := (RX11, yX11_begins, cX11_begins, 3, none)
theorem mok_X11_begins : MOKv mX11_begins 1 := ⟨⟨bm_1531, bm_127, ⟨by decide, by decide⟩, by decide +kernel⟩, bm_1530, bm_65⟩
def f_X11_begins_37b   (a0 : Nat) (k37 : Int32 → MH → Option (MH)) (p : Int32) (h : MH) : Option (MH) :=
  if p < 30 then
    (gR h a0 22).bind fun a_1 =>
    (stL h a_1 p 0).bind fun h_2 =>
    (gR h_2 a0 23).bind fun a_3 =>
    (stL h_2 a_3 p 1).bind fun h_4 =>
    k37 (p + 1) h_4
  else
    some h
def f_X11_begins_37   (a0 : Nat) : Nat → Int32 → MH → Option (MH) := lp (f_X11_begins_37b a0)
def f_X11_begins   (a0 : Nat) (x1 : Int32) (h : MH) : Option (MH) :=
  lt (sI h a0 13 0) fun h_1 =>
  lt (sI h_1 a0 14 x1) fun h_2 =>
  lt (sI h_2 a0 15 0) fun h_3 =>
  lt (sI h_3 a0 16 0) fun h_4 =>
  lt (sI h_4 a0 17 1) fun h_5 =>
  lt (sI h_5 a0 18 0) fun h_6 =>
  lt (sI h_6 a0 20 0) fun h_7 =>
  f_X11_begins_37 a0 FU 0 h_7
set_option maxRecDepth 100000 in
set_option maxHeartbeats 4000000 in
theorem v_X11_begins_37b {l : Launch} {G : GE} {B N : Nat} {S : List SHP} {o : MH} {a0 : Nat}    (hs0 : S[a0]? = some (.inl 11)) {k37 : Int32 → MH → Option (MH)} (hk37 : ∀ (p : Int32) (h : MH), k37 p h = some o → V l G B N mX11_begins (rmm 3 0 0) false 0 0 (QV S o) S 0 0 37 [(0, .ref a0), (2, .int p)] [] h) {p : Int32} {h : MH} (hf : f_X11_begins_37b a0 k37 p h = some o) : V l G B N mX11_begins (rmm 3 0 0) false 0 0 (QV S o) S 0 0 37 [(0, .ref a0), (2, .int p)] [] h := by
  unfold f_X11_begins_37b at hf
  refine V_iload_n (pc' := 38) dX11_begins_37 rfl 1 rfl rfl ?_
  refine V_bipush (v := 30) (pc' := 40) dX11_begins_38 rfl (by decide) ?_
  refine V_icmp_ge (tgt := 63) (pc' := 43) dX11_begins_40 (by decide) rfl hf (fun hf => ?_) (fun hf => ?_)
  ·
    refine V_aload_n (pc' := 44) dX11_begins_43 rfl 0 rfl rfl ?_
    refine V_getR (pc' := 47) 11 22 dX11_begins_44 rfl (by decide) (Nat.le_of_ble_eq_true rfl) bm_1246 hs0 (fun _ _ _ => rfl) rfl hf (fun a_1 ha_1 hf => ?_)
    refine V_iload_n (pc' := 48) dX11_begins_47 rfl 1 rfl rfl ?_
    refine V_lconst (v := 0) (pc' := 49) dX11_begins_48 rfl (by decide) ?_
    refine V_last (pc' := 50) dX11_begins_49 rfl ha_1 hf (fun h_2 hf => ?_)
    refine V_aload_n (pc' := 51) dX11_begins_50 rfl 0 rfl rfl ?_
    refine V_getR (pc' := 54) 11 23 dX11_begins_51 rfl (by decide) (Nat.le_of_ble_eq_true rfl) bm_1247 hs0 (fun _ _ _ => rfl) rfl hf (fun a_3 ha_3 hf => ?_)
    refine V_iload_n (pc' := 55) dX11_begins_54 rfl 1 rfl rfl ?_
    refine V_lconst (v := 1) (pc' := 56) dX11_begins_55 rfl (by decide) ?_
    refine V_last (pc' := 57) dX11_begins_56 rfl ha_3 hf (fun h_4 hf => ?_)
    refine V_iinc (v := (p + 1)) (lv' := [(2, .int (p + 1)), (0, .ref a0)]) (pc' := 60) dX11_begins_57 rfl 1 rfl rfl (Nat.le_of_ble_eq_true rfl) rfl ?_
    refine V_goto (tgt := 37) dX11_begins_60 (by decide) ?_
    exact V_sub (lv' := [(0, .ref a0), (2, .int (p + 1))]) [1, 0] rfl (hk37 (p + 1) h_4 hf)
  ·
    obtain rfl := Option.some.inj hf
    exact V_vret dX11_begins_63 rfl rfl rfl ⟨rfl, rfl, rfl⟩
theorem v_X11_begins_37 {l : Launch} {G : GE} {B N : Nat} {S : List SHP} {o : MH} {a0 : Nat}    (hs0 : S[a0]? = some (.inl 11)) {n : Nat} {p : Int32} {h : MH} (hf : f_X11_begins_37 a0 n p h = some o) : V l G B N mX11_begins (rmm 3 0 0) false 0 0 (QV S o) S 0 0 37 [(0, .ref a0), (2, .int p)] [] h :=
  V_lp (VV := fun p h => V l G B N mX11_begins (rmm 3 0 0) false 0 0 (QV S o) S 0 0 37 [(0, .ref a0), (2, .int p)] [] h) (fun _ hk _ _ hf => v_X11_begins_37b hs0 hk hf) n p h hf
set_option maxRecDepth 100000 in
set_option maxHeartbeats 4000000 in
theorem v_X11_begins {l : Launch} {G : GE} {B N : Nat} {S : List SHP} {o : MH} {a0 : Nat} {x1 : Int32}    (hs0 : S[a0]? = some (.inl 11)) {h : MH} (hf : f_X11_begins a0 x1 h = some o) : V l G B N mX11_begins (rmm 3 0 0) false 0 0 (QV S o) S 0 0 0 [(0, .ref a0), (1, .int x1)] [] h := by
  unfold f_X11_begins at hf
  refine V_aload_n (pc' := 1) dX11_begins_0 rfl 0 rfl rfl ?_
  refine V_iconst (v := 0) (pc' := 2) dX11_begins_1 rfl (by decide) ?_
  refine V_putI (pc' := 5) 11 13 dX11_begins_2 rfl (by decide) (Nat.le_of_ble_eq_true rfl) bm_1237 hs0 (Or.inl rfl) rfl ?_
  refine V_nmH hf (fun h_1 hf => ?_)
  refine V_aload_n (pc' := 6) dX11_begins_5 rfl 0 rfl rfl ?_
  refine V_iload_n (pc' := 7) dX11_begins_6 rfl 1 rfl rfl ?_
  refine V_putI (pc' := 10) 11 14 dX11_begins_7 rfl (by decide) (Nat.le_of_ble_eq_true rfl) bm_1238 hs0 (Or.inl rfl) rfl ?_
  refine V_nmH hf (fun h_2 hf => ?_)
  refine V_aload_n (pc' := 11) dX11_begins_10 rfl 0 rfl rfl ?_
  refine V_iconst (v := 0) (pc' := 12) dX11_begins_11 rfl (by decide) ?_
  refine V_putI (pc' := 15) 11 15 dX11_begins_12 rfl (by decide) (Nat.le_of_ble_eq_true rfl) bm_1239 hs0 (Or.inl rfl) rfl ?_
  refine V_nmH hf (fun h_3 hf => ?_)
  refine V_aload_n (pc' := 16) dX11_begins_15 rfl 0 rfl rfl ?_
  refine V_iconst (v := 0) (pc' := 17) dX11_begins_16 rfl (by decide) ?_
  refine V_putZL (pc' := 20) 11 16 dX11_begins_17 rfl (by decide) (Nat.le_of_ble_eq_true rfl) bm_1240 hs0 rfl rfl (by decide) ?_
  refine V_nmH hf (fun h_4 hf => ?_)
  refine V_aload_n (pc' := 21) dX11_begins_20 rfl 0 rfl rfl ?_
  refine V_iconst (v := 1) (pc' := 22) dX11_begins_21 rfl (by decide) ?_
  refine V_putZL (pc' := 25) 11 17 dX11_begins_22 rfl (by decide) (Nat.le_of_ble_eq_true rfl) bm_1241 hs0 rfl rfl (by decide) ?_
  refine V_nmH hf (fun h_5 hf => ?_)
  refine V_aload_n (pc' := 26) dX11_begins_25 rfl 0 rfl rfl ?_
  refine V_iconst (v := 0) (pc' := 27) dX11_begins_26 rfl (by decide) ?_
  refine V_putI (pc' := 30) 11 18 dX11_begins_27 rfl (by decide) (Nat.le_of_ble_eq_true rfl) bm_1242 hs0 (Or.inl rfl) rfl ?_
  refine V_nmH hf (fun h_6 hf => ?_)
  refine V_aload_n (pc' := 31) dX11_begins_30 rfl 0 rfl rfl ?_
  refine V_iconst (v := 0) (pc' := 32) dX11_begins_31 rfl (by decide) ?_
  refine V_putI (pc' := 35) 11 20 dX11_begins_32 rfl (by decide) (Nat.le_of_ble_eq_true rfl) bm_1244 hs0 (Or.inl rfl) rfl ?_
  refine V_nmH hf (fun h_7 hf => ?_)
  refine V_iconst (v := 0) (pc' := 36) dX11_begins_35 rfl (by decide) ?_
  refine V_istore_n (lv' := [(2, .int 0), (0, .ref a0), (1, .int x1)]) (pc' := 37) dX11_begins_36 rfl rfl (Nat.le_of_ble_eq_true rfl) rfl ?_
  exact V_sub (lv' := [(0, .ref a0), (2, .int 0)]) [1, 0] rfl (v_X11_begins_37 hs0 hf)
theorem ct_X11_begins {l : Launch} {S : List SHP} {h : MH} {a0 : Nat} {x1 : Int32} (hs0 : S[a0]? = some (.inl 11)) {q : MH} (hf : f_X11_begins a0 x1 h = some q) : CT l mX11_begins 3 false 0 0 S [.ref a0, .int x1] h (QV S q) :=
  CT_ofV (by decide) rfl (Nat.le_of_ble_eq_true rfl) (fun G B hT => v_X11_begins hs0 hf)
/-! LabelStacksModel.holds([III)V -/
theorem dX11_holds_0 : decode cX11_holds 0 = .ok (.iload_n 3, 1) := by decide +kernel
theorem dX11_holds_1 : decode cX11_holds 1 = .ok (.iconst 1, 1) := by decide +kernel
theorem dX11_holds_2 : decode cX11_holds 2 = .ok (.isub, 1) := by decide +kernel
theorem dX11_holds_3 : decode cX11_holds 3 = .ok (.istore 4, 2) := by decide +kernel
theorem dX11_holds_5 : decode cX11_holds 5 = .ok (.iload 4, 2) := by decide +kernel
theorem dX11_holds_7 : decode cX11_holds 7 = .ok (.ifCond .lt 34, 3) := by decide +kernel
theorem dX11_holds_10 : decode cX11_holds 10 = .ok (.aload_n 0, 1) := by decide +kernel
theorem dX11_holds_11 : decode cX11_holds 11 = .ok (.getfield 30, 3) := by decide +kernel
theorem dX11_holds_14 : decode cX11_holds 14 = .ok (.aload_n 0, 1) := by decide +kernel
theorem dX11_holds_15 : decode cX11_holds 15 = .ok (.getfield 205, 3) := by decide +kernel
theorem dX11_holds_18 : decode cX11_holds 18 = .ok (.aload_n 1, 1) := by decide +kernel
theorem dX11_holds_19 : decode cX11_holds 19 = .ok (.iload_n 2, 1) := by decide +kernel
theorem dX11_holds_20 : decode cX11_holds 20 = .ok (.iload 4, 2) := by decide +kernel
theorem dX11_holds_22 : decode cX11_holds 22 = .ok (.iadd, 1) := by decide +kernel
theorem dX11_holds_23 : decode cX11_holds 23 = .ok (.iaload, 1) := by decide +kernel
theorem dX11_holds_24 : decode cX11_holds 24 = .ok (.iastore, 1) := by decide +kernel
theorem dX11_holds_25 : decode cX11_holds 25 = .ok (.aload_n 0, 1) := by decide +kernel
theorem dX11_holds_26 : decode cX11_holds 26 = .ok (.aload_n 0, 1) := by decide +kernel
theorem dX11_holds_27 : decode cX11_holds 27 = .ok (.getfield 205, 3) := by decide +kernel
theorem dX11_holds_30 : decode cX11_holds 30 = .ok (.iconst 1, 1) := by decide +kernel
theorem dX11_holds_31 : decode cX11_holds 31 = .ok (.iadd, 1) := by decide +kernel
theorem dX11_holds_32 : decode cX11_holds 32 = .ok (.putfield 205, 3) := by decide +kernel
theorem dX11_holds_35 : decode cX11_holds 35 = .ok (.iinc 4 (-1), 3) := by decide +kernel
theorem dX11_holds_38 : decode cX11_holds 38 = .ok (.goto (-33), 3) := by decide +kernel
theorem dX11_holds_41 : decode cX11_holds 41 = .ok (.aload_n 0, 1) := by decide +kernel
theorem dX11_holds_42 : decode cX11_holds 42 = .ok (.getfield 205, 3) := by decide +kernel
theorem dX11_holds_45 : decode cX11_holds 45 = .ok (.aload_n 0, 1) := by decide +kernel
theorem dX11_holds_46 : decode cX11_holds 46 = .ok (.getfield 220, 3) := by decide +kernel
theorem dX11_holds_49 : decode cX11_holds 49 = .ok (.if_icmp .le 11, 3) := by decide +kernel
theorem dX11_holds_52 : decode cX11_holds 52 = .ok (.aload_n 0, 1) := by decide +kernel
theorem dX11_holds_53 : decode cX11_holds 53 = .ok (.aload_n 0, 1) := by decide +kernel
theorem dX11_holds_54 : decode cX11_holds 54 = .ok (.getfield 205, 3) := by decide +kernel
theorem dX11_holds_57 : decode cX11_holds 57 = .ok (.putfield 220, 3) := by decide +kernel
theorem dX11_holds_60 : decode cX11_holds 60 = .ok (.return_, 1) := by decide +kernel
abbrev mX11_holds : MI := (RX11, yX11_holds, cX11_holds, 5, none)
theorem mok_X11_holds : MOKv mX11_holds 3 := ⟨⟨bm_1535, bm_127, ⟨by decide, by decide⟩, by decide +kernel⟩, bm_1534, bm_66⟩
def f_X11_holds_5b   (a0 : Nat) (a1 : Nat) (x2 : Int32) (k5 : Int32 → MH → Option (MH)) (p : Int32) (h : MH) : Option (MH) :=
  if p < 0 then
    if (gI h a0 18) < (gI h a0 13) then
      lt (sI h a0 18 (gI h a0 13)) fun h_1 =>
      some h_1
    else
      some h
  else
    (gR h a0 12).bind fun a_2 =>
    (ldI h a1 (x2 + p)).bind fun x_3 =>
    (stI h a_2 (gI h a0 13) x_3).bind fun h_4 =>
    lt (sI h_4 a0 13 ((gI h_4 a0 13) + 1)) fun h_5 =>
    k5 (p + (-1)) h_5
def f_X11_holds_5   (a0 : Nat) (a1 : Nat) (x2 : Int32) : Nat → Int32 → MH → Option (MH) := lp (f_X11_holds_5b a0 a1 x2)
def f_X11_holds   (a0 : Nat) (a1 : Nat) (x2 : Int32) (x3 : Int32) (h : MH) : Option (MH) :=
  lt (x3 - 1) fun x_1 =>
  f_X11_holds_5 a0 a1 x2 FU x_1 h
set_option maxRecDepth 100000 in
set_option maxHeartbeats 4000000 in
theorem v_X11_holds_5b {l : Launch} {G : GE} {B N : Nat} {S : List SHP} {o : MH} {a0 : Nat} {a1 : Nat} {x2 : Int32}    (hs0 : S[a0]? = some (.inl 11)) (hs1 : S[a1]? = some (.inr 0)) {k5 : Int32 → MH → Option (MH)} (hk5 : ∀ (p : Int32) (h : MH), k5 p h = some o → V l G B N mX11_holds (rmm 3 0 0) false 0 0 (QV S o) S 0 0 5 [(0, .ref a0), (1, .ref a1), (2, .int x2), (4, .int p)] [] h) {p : Int32} {h : MH} (hf : f_X11_holds_5b a0 a1 x2 k5 p h = some o) : V l G B N mX11_holds (rmm 3 0 0) false 0 0 (QV S o) S 0 0 5 [(0, .ref a0), (1, .ref a1), (2, .int x2), (4, .int p)] [] h := by
  unfold f_X11_holds_5b at hf
  refine V_iload (pc' := 7) dX11_holds_5 rfl 3 rfl ?_
  refine V_if_lt (tgt := 41) (pc' := 10) dX11_holds_7 (by decide) rfl hf (fun hf => ?_) (fun hf => ?_)
  ·
    refine V_aload_n (pc' := 42) dX11_holds_41 rfl 0 rfl rfl ?_
    refine V_getI (pc' := 45) 11 13 dX11_holds_42 rfl (by decide) (Nat.le_of_ble_eq_true rfl) bm_1237 hs0 (fun _ _ _ => rfl) ?_
    refine V_aload_n (pc' := 46) dX11_holds_45 rfl 0 rfl rfl ?_
    refine V_getI (pc' := 49) 11 18 dX11_holds_46 rfl (by decide) (Nat.le_of_ble_eq_true rfl) bm_1242 hs0 (fun _ _ _ => rfl) ?_
    refine V_icmp_le (tgt := 60) (pc' := 52) dX11_holds_49 (by decide) rfl hf (fun hf => ?_) (fun hf => ?_)
    ·
      refine V_aload_n (pc' := 53) dX11_holds_52 rfl 0 rfl rfl ?_
      refine V_aload_n (pc' := 54) dX11_holds_53 rfl 0 rfl rfl ?_
      refine V_getI (pc' := 57) 11 13 dX11_holds_54 rfl (by decide) (Nat.le_of_ble_eq_true rfl) bm_1237 hs0 (fun _ _ _ => rfl) ?_
      refine V_putI (pc' := 60) 11 18 dX11_holds_57 rfl (by decide) (Nat.le_of_ble_eq_true rfl) bm_1242 hs0 (Or.inl rfl) rfl ?_
      refine V_nmH hf (fun h_1 hf => ?_)
      obtain rfl := Option.some.inj hf
      exact V_vret dX11_holds_60 rfl rfl rfl ⟨rfl, rfl, rfl⟩
    ·
      obtain rfl := Option.some.inj hf
      exact V_vret dX11_holds_60 rfl rfl rfl ⟨rfl, rfl, rfl⟩
  ·
    refine V_aload_n (pc' := 11) dX11_holds_10 rfl 0 rfl rfl ?_
    refine V_getR (pc' := 14) 11 12 dX11_holds_11 rfl (by decide) (Nat.le_of_ble_eq_true rfl) bm_1236 hs0 (fun _ _ _ => rfl) rfl hf (fun a_2 ha_2 hf => ?_)
    refine V_aload_n (pc' := 15) dX11_holds_14 rfl 0 rfl rfl ?_
    refine V_getI (pc' := 18) 11 13 dX11_holds_15 rfl (by decide) (Nat.le_of_ble_eq_true rfl) bm_1237 hs0 (fun _ _ _ => rfl) ?_
    refine V_aload_n (pc' := 19) dX11_holds_18 rfl 1 rfl rfl ?_
    refine V_iload_n (pc' := 20) dX11_holds_19 rfl 2 rfl rfl ?_
    refine V_iload (pc' := 22) dX11_holds_20 rfl 3 rfl ?_
    refine V_iadd (pc' := 23) dX11_holds_22 rfl ?_
    refine V_iald (pc' := 24) dX11_holds_23 rfl hs1 hf (fun x_3 hf => ?_)
    refine V_iast (pc' := 25) dX11_holds_24 rfl ha_2 hf (fun h_4 hf => ?_)
    refine V_aload_n (pc' := 26) dX11_holds_25 rfl 0 rfl rfl ?_
    refine V_aload_n (pc' := 27) dX11_holds_26 rfl 0 rfl rfl ?_
    refine V_getI (pc' := 30) 11 13 dX11_holds_27 rfl (by decide) (Nat.le_of_ble_eq_true rfl) bm_1237 hs0 (fun _ _ _ => rfl) ?_
    refine V_iconst (v := 1) (pc' := 31) dX11_holds_30 rfl (by decide) ?_
    refine V_iadd (pc' := 32) dX11_holds_31 rfl ?_
    refine V_putI (pc' := 35) 11 13 dX11_holds_32 rfl (by decide) (Nat.le_of_ble_eq_true rfl) bm_1237 hs0 (Or.inl rfl) rfl ?_
    refine V_nmH hf (fun h_5 hf => ?_)
    refine V_iinc (v := (p + (-1))) (lv' := [(4, .int (p + (-1))), (0, .ref a0), (1, .ref a1), (2, .int x2)]) (pc' := 38) dX11_holds_35 rfl 3 rfl rfl (Nat.le_of_ble_eq_true rfl) rfl ?_
    refine V_goto (tgt := 5) dX11_holds_38 (by decide) ?_
    exact V_sub (lv' := [(0, .ref a0), (1, .ref a1), (2, .int x2), (4, .int (p + (-1)))]) [1, 2, 3, 0] rfl (hk5 (p + (-1)) h_5 hf)
theorem v_X11_holds_5 {l : Launch} {G : GE} {B N : Nat} {S : List SHP} {o : MH} {a0 : Nat} {a1 : Nat} {x2 : Int32}    (hs0 : S[a0]? = some (.inl 11)) (hs1 : S[a1]? = some (.inr 0)) {n : Nat} {p : Int32} {h : MH} (hf : f_X11_holds_5 a0 a1 x2 n p h = some o) : V l G B N mX11_holds (rmm 3 0 0) false 0 0 (QV S o) S 0 0 5 [(0, .ref a0), (1, .ref a1), (2, .int x2), (4, .int p)] [] h :=
  V_lp (VV := fun p h => V l G B N mX11_holds (rmm 3 0 0) false 0 0 (QV S o) S 0 0 5 [(0, .ref a0), (1, .ref a1), (2, .int x2), (4, .int p)] [] h) (fun _ hk _ _ hf => v_X11_holds_5b hs0 hs1 hk hf) n p h hf
set_option maxRecDepth 100000 in
set_option maxHeartbeats 4000000 in
theorem v_X11_holds {l : Launch} {G : GE} {B N : Nat} {S : List SHP} {o : MH} {a0 : Nat} {a1 : Nat} {x2 : Int32} {x3 : Int32}    (hs0 : S[a0]? = some (.inl 11)) (hs1 : S[a1]? = some (.inr 0)) {h : MH} (hf : f_X11_holds a0 a1 x2 x3 h = some o) : V l G B N mX11_holds (rmm 3 0 0) false 0 0 (QV S o) S 0 0 0 [(0, .ref a0), (1, .ref a1), (2, .int x2), (3, .int x3)] [] h := by
  unfold f_X11_holds at hf
  refine V_iload_n (pc' := 1) dX11_holds_0 rfl 3 rfl rfl ?_
  refine V_iconst (v := 1) (pc' := 2) dX11_holds_1 rfl (by decide) ?_
  refine V_isub (pc' := 3) dX11_holds_2 rfl ?_
  refine V_nmI hf (fun x_1 hf => ?_)
  refine V_istore (lv' := [(4, .int x_1), (0, .ref a0), (1, .ref a1), (2, .int x2), (3, .int x3)]) (pc' := 5) dX11_holds_3 rfl (Nat.le_of_ble_eq_true rfl) rfl ?_
  exact V_sub (lv' := [(0, .ref a0), (1, .ref a1), (2, .int x2), (4, .int x_1)]) [1, 2, 3, 0] rfl (v_X11_holds_5 hs0 hs1 hf)
theorem ct_X11_holds {l : Launch} {S : List SHP} {h : MH} {a0 : Nat} {a1 : Nat} {x2 : Int32} {x3 : Int32} (hs0 : S[a0]? = some (.inl 11)) (hs1 : S[a1]? = some (.inr 0)) {q : MH} (hf : f_X11_holds a0 a1 x2 x3 h = some q) : CT l mX11_holds 3 false 0 0 S [.ref a0, .ref a1, .int x2, .int x3] h (QV S q) :=
  CT_ofV (by decide) rfl (Nat.le_of_ble_eq_true rfl) (fun G B hT => v_X11_holds hs0 hs1 hf)
/-! LabelStacksModel.goesAlong(I)V -/
theorem dX11_goesAlong_0 : decode cX11_goesAlong 0 = .ok (.aload_n 0, 1) := by decide +kernel
theorem dX11_goesAlong_1 : decode cX11_goesAlong 1 = .ok (.getfield 217, 3) := by decide +kernel
theorem dX11_goesAlong_4 : decode cX11_goesAlong 4 = .ok (.ifCond .eq 23, 3) := by decide +kernel
theorem dX11_goesAlong_7 : decode cX11_goesAlong 7 = .ok (.aload_n 0, 1) := by decide +kernel
theorem dX11_goesAlong_8 : decode cX11_goesAlong 8 = .ok (.getfield 33, 3) := by decide +kernel
theorem dX11_goesAlong_11 : decode cX11_goesAlong 11 = .ok (.aload_n 0, 1) := by decide +kernel
theorem dX11_goesAlong_12 : decode cX11_goesAlong 12 = .ok (.getfield 223, 3) := by decide +kernel
theorem dX11_goesAlong_15 : decode cX11_goesAlong 15 = .ok (.iload_n 1, 1) := by decide +kernel
theorem dX11_goesAlong_16 : decode cX11_goesAlong 16 = .ok (.iastore, 1) := by decide +kernel
theorem dX11_goesAlong_17 : decode cX11_goesAlong 17 = .ok (.aload_n 0, 1) := by decide +kernel
theorem dX11_goesAlong_18 : decode cX11_goesAlong 18 = .ok (.aload_n 0, 1) := by decide +kernel
theorem dX11_goesAlong_19 : decode cX11_goesAlong 19 = .ok (.getfield 223, 3) := by decide +kernel
theorem dX11_goesAlong_22 : decode cX11_goesAlong 22 = .ok (.iconst 1, 1) := by decide +kernel
theorem dX11_goesAlong_23 : decode cX11_goesAlong 23 = .ok (.iadd, 1) := by decide +kernel
theorem dX11_goesAlong_24 : decode cX11_goesAlong 24 = .ok (.putfield 223, 3) := by decide +kernel
theorem dX11_goesAlong_27 : decode cX11_goesAlong 27 = .ok (.aload_n 0, 1) := by decide +kernel
theorem dX11_goesAlong_28 : decode cX11_goesAlong 28 = .ok (.aload_n 0, 1) := by decide +kernel
theorem dX11_goesAlong_29 : decode cX11_goesAlong 29 = .ok (.iload_n 1, 1) := by decide +kernel
theorem dX11_goesAlong_30 : decode cX11_goesAlong 30 = .ok (.invokevirtual 158, 3) := by decide +kernel
theorem dX11_goesAlong_33 : decode cX11_goesAlong 33 = .ok (.putfield 208, 3) := by decide +kernel
theorem dX11_goesAlong_36 : decode cX11_goesAlong 36 = .ok (.return_, 1) := by decide +kernel
abbrev mX11_goesAlong : MI := (RX11, yX11_goesAlong, cX11_goesAlong, 2, none)
theorem mok_X11_goesAlong : MOKv mX11_goesAlong 1 := ⟨⟨bm_1563, bm_127, ⟨by decide, by decide⟩, by decide +kernel⟩, bm_1562, bm_73⟩
def f_X11_goesAlong_27   (a0 : Nat) (x1 : Int32) (h : MH) : Option (MH) :=
  (f_X11_to a0 x1 h).bind fun q_1 =>
  lt (sI q_1.2 a0 14 q_1.1) fun h_2 =>
  some h_2
def f_X11_goesAlong   (a0 : Nat) (x1 : Int32) (h : MH) : Option (MH) :=
  if (gI h a0 17) = 0 then
    f_X11_goesAlong_27 a0 x1 h
  else
    (gR h a0 19).bind fun a_1 =>
    (stI h a_1 (gI h a0 20) x1).bind fun h_2 =>
    lt (sI h_2 a0 20 ((gI h_2 a0 20) + 1)) fun h_3 =>
    f_X11_goesAlong_27 a0 x1 h_3
set_option maxRecDepth 100000 in
set_option maxHeartbeats 4000000 in
theorem v_X11_goesAlong_27 {l : Launch} {G : GE} {B N : Nat} {S : List SHP} {o : MH} {a0 : Nat} {x1 : Int32}    (hs0 : S[a0]? = some (.inl 11)) {h : MH} (hf : f_X11_goesAlong_27 a0 x1 h = some o) : V l G B N mX11_goesAlong (rmm 4 0 0) false 0 0 (QV S o) S 0 0 27 [(0, .ref a0), (1, .int x1)] [] h := by
  unfold f_X11_goesAlong_27 at hf
  refine V_aload_n (pc' := 28) dX11_goesAlong_27 rfl 0 rfl rfl ?_
  refine V_aload_n (pc' := 29) dX11_goesAlong_28 rfl 0 rfl rfl ?_
  refine V_iload_n (pc' := 30) dX11_goesAlong_29 rfl 1 rfl rfl ?_
  refine V_cvI (pc' := 33) (As := [.int x1]) (rest := [.ref a0]) dX11_goesAlong_30 rfl mok_X11_to bm_1461 11 (by decide) rfl hs0 rfl rfl (Nat.le_of_ble_eq_true rfl) (by decide) hf (fun q e => ct_X11_to hs0 e) (fun q_1 hf => ?_)
  refine V_putI (pc' := 36) 11 14 dX11_goesAlong_33 rfl (by decide) (Nat.le_of_ble_eq_true rfl) bm_1238 hs0 (Or.inl rfl) rfl ?_
  refine V_nmH hf (fun h_2 hf => ?_)
  obtain rfl := Option.some.inj hf
  exact V_vret dX11_goesAlong_36 rfl rfl rfl ⟨rfl, rfl, rfl⟩
set_option maxRecDepth 100000 in
set_option maxHeartbeats 4000000 in
theorem v_X11_goesAlong {l : Launch} {G : GE} {B N : Nat} {S : List SHP} {o : MH} {a0 : Nat} {x1 : Int32}    (hs0 : S[a0]? = some (.inl 11)) {h : MH} (hf : f_X11_goesAlong a0 x1 h = some o) : V l G B N mX11_goesAlong (rmm 4 0 0) false 0 0 (QV S o) S 0 0 0 [(0, .ref a0), (1, .int x1)] [] h := by
  unfold f_X11_goesAlong at hf
  refine V_aload_n (pc' := 1) dX11_goesAlong_0 rfl 0 rfl rfl ?_
  refine V_getI (pc' := 4) 11 17 dX11_goesAlong_1 rfl (by decide) (Nat.le_of_ble_eq_true rfl) bm_1241 hs0 (fun _ _ _ => rfl) ?_
  refine V_if_eq (tgt := 27) (pc' := 7) dX11_goesAlong_4 (by decide) rfl hf (fun hf => ?_) (fun hf => ?_)
  ·
    exact V_sub (lv' := [(0, .ref a0), (1, .int x1)]) [0, 1] rfl (v_X11_goesAlong_27 hs0 hf)
  ·
    refine V_aload_n (pc' := 8) dX11_goesAlong_7 rfl 0 rfl rfl ?_
    refine V_getR (pc' := 11) 11 19 dX11_goesAlong_8 rfl (by decide) (Nat.le_of_ble_eq_true rfl) bm_1243 hs0 (fun _ _ _ => rfl) rfl hf (fun a_1 ha_1 hf => ?_)
    refine V_aload_n (pc' := 12) dX11_goesAlong_11 rfl 0 rfl rfl ?_
    refine V_getI (pc' := 15) 11 20 dX11_goesAlong_12 rfl (by decide) (Nat.le_of_ble_eq_true rfl) bm_1244 hs0 (fun _ _ _ => rfl) ?_
    refine V_iload_n (pc' := 16) dX11_goesAlong_15 rfl 1 rfl rfl ?_
    refine V_iast (pc' := 17) dX11_goesAlong_16 rfl ha_1 hf (fun h_2 hf => ?_)
    refine V_aload_n (pc' := 18) dX11_goesAlong_17 rfl 0 rfl rfl ?_
    refine V_aload_n (pc' := 19) dX11_goesAlong_18 rfl 0 rfl rfl ?_
    refine V_getI (pc' := 22) 11 20 dX11_goesAlong_19 rfl (by decide) (Nat.le_of_ble_eq_true rfl) bm_1244 hs0 (fun _ _ _ => rfl) ?_
    refine V_iconst (v := 1) (pc' := 23) dX11_goesAlong_22 rfl (by decide) ?_
    refine V_iadd (pc' := 24) dX11_goesAlong_23 rfl ?_
    refine V_putI (pc' := 27) 11 20 dX11_goesAlong_24 rfl (by decide) (Nat.le_of_ble_eq_true rfl) bm_1244 hs0 (Or.inl rfl) rfl ?_
    refine V_nmH hf (fun h_3 hf => ?_)
    exact V_sub (lv' := [(0, .ref a0), (1, .int x1)]) [0, 1] rfl (v_X11_goesAlong_27 hs0 hf)
theorem ct_X11_goesAlong {l : Launch} {S : List SHP} {h : MH} {a0 : Nat} {x1 : Int32} (hs0 : S[a0]? = some (.inl 11)) {q : MH} (hf : f_X11_goesAlong a0 x1 h = some q) : CT l mX11_goesAlong 4 false 0 0 S [.ref a0, .int x1] h (QV S q) :=
  CT_ofV (by decide) rfl (Nat.le_of_ble_eq_true rfl) (fun G B hT => v_X11_goesAlong hs0 hf)
/-! LabelStacksModel.shares(IJJ)V -/
theorem dX11_shares_0 : decode cX11_shares 0 = .ok (.aload_n 0, 1) := by decide +kernel
theorem dX11_shares_1 : decode cX11_shares 1 = .ok (.aload_n 0, 1) := by decide +kernel
theorem dX11_shares_2 : decode cX11_shares 2 = .ok (.getfield 36, 3) := by decide +kernel
theorem dX11_shares_5 : decode cX11_shares 5 = .ok (.iload_n 1, 1) := by decide +kernel
theorem dX11_shares_6 : decode cX11_shares 6 = .ok (.laload, 1) := by decide +kernel
theorem dX11_shares_7 : decode cX11_shares 7 = .ok (.aload_n 0, 1) := by decide +kernel
theorem dX11_shares_8 : decode cX11_shares 8 = .ok (.getfield 39, 3) := by decide +kernel
theorem dX11_shares_11 : decode cX11_shares 11 = .ok (.iload_n 1, 1) := by decide +kernel
theorem dX11_shares_12 : decode cX11_shares 12 = .ok (.laload, 1) := by decide +kernel
theorem dX11_shares_13 : decode cX11_shares 13 = .ok (.lload_n 2, 1) := by decide +kernel
theorem dX11_shares_14 : decode cX11_shares 14 = .ok (.lload 4, 2) := by decide +kernel
theorem dX11_shares_16 : decode cX11_shares 16 = .ok (.invokevirtual 226, 3) := by decide +kernel
theorem dX11_shares_19 : decode cX11_shares 19 = .ok (.aload_n 0, 1) := by decide +kernel
theorem dX11_shares_20 : decode cX11_shares 20 = .ok (.getfield 36, 3) := by decide +kernel
theorem dX11_shares_23 : decode cX11_shares 23 = .ok (.iload_n 1, 1) := by decide +kernel
theorem dX11_shares_24 : decode cX11_shares 24 = .ok (.aload_n 0, 1) := by decide +kernel
theorem dX11_shares_25 : decode cX11_shares 25 = .ok (.getfield 198, 3) := by decide +kernel
theorem dX11_shares_28 : decode cX11_shares 28 = .ok (.lastore, 1) := by decide +kernel
theorem dX11_shares_29 : decode cX11_shares 29 = .ok (.aload_n 0, 1) := by decide +kernel
theorem dX11_shares_30 : decode cX11_shares 30 = .ok (.getfield 39, 3) := by decide +kernel
theorem dX11_shares_33 : decode cX11_shares 33 = .ok (.iload_n 1, 1) := by decide +kernel
theorem dX11_shares_34 : decode cX11_shares 34 = .ok (.aload_n 0, 1) := by decide +kernel
theorem dX11_shares_35 : decode cX11_shares 35 = .ok (.getfield 202, 3) := by decide +kernel
theorem dX11_shares_38 : decode cX11_shares 38 = .ok (.lastore, 1) := by decide +kernel
theorem dX11_shares_39 : decode cX11_shares 39 = .ok (.return_, 1) := by decide +kernel
abbrev mX11_shares : MI := (RX11, yX11_shares, cX11_shares, 6, none)
theorem mok_X11_shares : MOKv mX11_shares 3 := ⟨⟨bm_1551, bm_127, ⟨by decide, by decide⟩, by decide +kernel⟩, bm_1550, bm_70⟩
def f_X11_shares   (a0 : Nat) (x1 : Int32) (l2 : Int64) (l4 : Int64) (h : MH) : Option (MH) :=
  (gR h a0 22).bind fun a_1 =>
  (ldL h a_1 x1).bind fun l_2 =>
  (gR h a0 23).bind fun a_3 =>
  (ldL h a_3 x1).bind fun l_4 =>
  (f_X11_adds a0 l_2 l_4 l2 l4 h).bind fun q_5 =>
  (gR q_5 a0 22).bind fun a_6 =>
  (stL q_5 a_6 x1 (gL q_5 a0 10)).bind fun h_7 =>
  (gR h_7 a0 23).bind fun a_8 =>
  (stL h_7 a_8 x1 (gL h_7 a0 11)).bind fun h_9 =>
  some h_9
set_option maxRecDepth 100000 in
set_option maxHeartbeats 4000000 in
theorem v_X11_shares {l : Launch} {G : GE} {B N : Nat} {S : List SHP} {o : MH} {a0 : Nat} {x1 : Int32} {l2 : Int64} {l4 : Int64}    (hs0 : S[a0]? = some (.inl 11)) {h : MH} (hf : f_X11_shares a0 x1 l2 l4 h = some o) : V l G B N mX11_shares (rmm 125 0 0) false 0 0 (QV S o) S 0 0 0 [(0, .ref a0), (1, .int x1), (2, .long l2), (4, .long l4)] [] h := by
  unfold f_X11_shares at hf
  refine V_aload_n (pc' := 1) dX11_shares_0 rfl 0 rfl rfl ?_
  refine V_aload_n (pc' := 2) dX11_shares_1 rfl 0 rfl rfl ?_
  refine V_getR (pc' := 5) 11 22 dX11_shares_2 rfl (by decide) (Nat.le_of_ble_eq_true rfl) bm_1246 hs0 (fun _ _ _ => rfl) rfl hf (fun a_1 ha_1 hf => ?_)
  refine V_iload_n (pc' := 6) dX11_shares_5 rfl 1 rfl rfl ?_
  refine V_lald (pc' := 7) dX11_shares_6 rfl ha_1 hf (fun l_2 hf => ?_)
  refine V_aload_n (pc' := 8) dX11_shares_7 rfl 0 rfl rfl ?_
  refine V_getR (pc' := 11) 11 23 dX11_shares_8 rfl (by decide) (Nat.le_of_ble_eq_true rfl) bm_1247 hs0 (fun _ _ _ => rfl) rfl hf (fun a_3 ha_3 hf => ?_)
  refine V_iload_n (pc' := 12) dX11_shares_11 rfl 1 rfl rfl ?_
  refine V_lald (pc' := 13) dX11_shares_12 rfl ha_3 hf (fun l_4 hf => ?_)
  refine V_lload_n (pc' := 14) dX11_shares_13 rfl 2 rfl rfl ?_
  refine V_lload (pc' := 16) dX11_shares_14 rfl 3 rfl ?_
  refine V_cvV (pc' := 19) (As := [.long l_2, .long l_4, .long l2, .long l4]) (rest := []) dX11_shares_16 rfl mok_X11_adds bm_1552 11 (by decide) rfl hs0 rfl rfl (Nat.le_of_ble_eq_true rfl) (by decide) hf (fun q e => ct_X11_adds hs0 e) (fun q_5 hf => ?_)
  refine V_aload_n (pc' := 20) dX11_shares_19 rfl 0 rfl rfl ?_
  refine V_getR (pc' := 23) 11 22 dX11_shares_20 rfl (by decide) (Nat.le_of_ble_eq_true rfl) bm_1246 hs0 (fun _ _ _ => rfl) rfl hf (fun a_6 ha_6 hf => ?_)
  refine V_iload_n (pc' := 24) dX11_shares_23 rfl 1 rfl rfl ?_
  refine V_aload_n (pc' := 25) dX11_shares_24 rfl 0 rfl rfl ?_
  refine V_getL (pc' := 28) 11 10 dX11_shares_25 rfl (by decide) (Nat.le_of_ble_eq_true rfl) bm_1234 hs0 (fun _ _ _ => rfl) ?_
  refine V_last (pc' := 29) dX11_shares_28 rfl ha_6 hf (fun h_7 hf => ?_)
  refine V_aload_n (pc' := 30) dX11_shares_29 rfl 0 rfl rfl ?_
  refine V_getR (pc' := 33) 11 23 dX11_shares_30 rfl (by decide) (Nat.le_of_ble_eq_true rfl) bm_1247 hs0 (fun _ _ _ => rfl) rfl hf (fun a_8 ha_8 hf => ?_)
  refine V_iload_n (pc' := 34) dX11_shares_33 rfl 1 rfl rfl ?_
  refine V_aload_n (pc' := 35) dX11_shares_34 rfl 0 rfl rfl ?_
  refine V_getL (pc' := 38) 11 11 dX11_shares_35 rfl (by decide) (Nat.le_of_ble_eq_true rfl) bm_1235 hs0 (fun _ _ _ => rfl) ?_
  refine V_last (pc' := 39) dX11_shares_38 rfl ha_8 hf (fun h_9 hf => ?_)
  obtain rfl := Option.some.inj hf
  exact V_vret dX11_shares_39 rfl rfl rfl ⟨rfl, rfl, rfl⟩
theorem ct_X11_shares {l : Launch} {S : List SHP} {h : MH} {a0 : Nat} {x1 : Int32} {l2 : Int64} {l4 : Int64} (hs0 : S[a0]? = some (.inl 11)) {q : MH} (hf : f_X11_shares a0 x1 l2 l4 h = some q) : CT l mX11_shares 125 false 0 0 S [.ref a0, .int x1, .long l2, .long l4] h (QV S q) :=
  CT_ofV (by decide) rfl (Nat.le_of_ble_eq_true rfl) (fun G B hT => v_X11_shares hs0 hf)
/-! LabelStacksModel.partsFrom(II)V -/
theorem dX11_partsFrom_0 : decode cX11_partsFrom 0 = .ok (.lconst 0, 1) := by decide +kernel
theorem dX11_partsFrom_1 : decode cX11_partsFrom 1 = .ok (.lstore_n 3, 1) := by decide +kernel
theorem dX11_partsFrom_2 : decode cX11_partsFrom 2 = .ok (.iconst 0, 1) := by decide +kernel
theorem dX11_partsFrom_3 : decode cX11_partsFrom 3 = .ok (.istore 5, 2) := by decide +kernel
theorem dX11_partsFrom_5 : decode cX11_partsFrom 5 = .ok (.iload 5, 2) := by decide +kernel
theorem dX11_partsFrom_7 : decode cX11_partsFrom 7 = .ok (.aload_n 0, 1) := by decide +kernel
theorem dX11_partsFrom_8 : decode cX11_partsFrom 8 = .ok (.invokevirtual 95, 3) := by decide +kernel
theorem dX11_partsFrom_11 : decode cX11_partsFrom 11 = .ok (.if_icmp .ge 24, 3) := by decide +kernel
theorem dX11_partsFrom_14 : decode cX11_partsFrom 14 = .ok (.aload_n 0, 1) := by decide +kernel
theorem dX11_partsFrom_15 : decode cX11_partsFrom 15 = .ok (.iload 5, 2) := by decide +kernel
theorem dX11_partsFrom_17 : decode cX11_partsFrom 17 = .ok (.iload_n 1, 1) := by decide +kernel
theorem dX11_partsFrom_18 : decode cX11_partsFrom 18 = .ok (.iload_n 2, 1) := by decide +kernel
theorem dX11_partsFrom_19 : decode cX11_partsFrom 19 = .ok (.invokevirtual 185, 3) := by decide +kernel
theorem dX11_partsFrom_22 : decode cX11_partsFrom 22 = .ok (.ifCond .eq 7, 3) := by decide +kernel
theorem dX11_partsFrom_25 : decode cX11_partsFrom 25 = .ok (.lload_n 3, 1) := by decide +kernel
theorem dX11_partsFrom_26 : decode cX11_partsFrom 26 = .ok (.lconst 1, 1) := by decide +kernel
theorem dX11_partsFrom_27 : decode cX11_partsFrom 27 = .ok (.ladd, 1) := by decide +kernel
theorem dX11_partsFrom_28 : decode cX11_partsFrom 28 = .ok (.lstore_n 3, 1) := by decide +kernel
theorem dX11_partsFrom_29 : decode cX11_partsFrom 29 = .ok (.iinc 5 1, 3) := by decide +kernel
theorem dX11_partsFrom_32 : decode cX11_partsFrom 32 = .ok (.goto (-27), 3) := by decide +kernel
theorem dX11_partsFrom_35 : decode cX11_partsFrom 35 = .ok (.aload_n 0, 1) := by decide +kernel
theorem dX11_partsFrom_36 : decode cX11_partsFrom 36 = .ok (.aload_n 0, 1) := by decide +kernel
theorem dX11_partsFrom_37 : decode cX11_partsFrom 37 = .ok (.getfield 42, 3) := by decide +kernel
theorem dX11_partsFrom_40 : decode cX11_partsFrom 40 = .ok (.iload_n 1, 1) := by decide +kernel
theorem dX11_partsFrom_41 : decode cX11_partsFrom 41 = .ok (.laload, 1) := by decide +kernel
theorem dX11_partsFrom_42 : decode cX11_partsFrom 42 = .ok (.lload_n 3, 1) := by decide +kernel
theorem dX11_partsFrom_43 : decode cX11_partsFrom 43 = .ok (.invokevirtual 194, 3) := by decide +kernel
theorem dX11_partsFrom_46 : decode cX11_partsFrom 46 = .ok (.lstore 5, 2) := by decide +kernel
theorem dX11_partsFrom_48 : decode cX11_partsFrom 48 = .ok (.aload_n 0, 1) := by decide +kernel
theorem dX11_partsFrom_49 : decode cX11_partsFrom 49 = .ok (.getfield 42, 3) := by decide +kernel
theorem dX11_partsFrom_52 : decode cX11_partsFrom 52 = .ok (.iload_n 1, 1) := by decide +kernel
theorem dX11_partsFrom_53 : decode cX11_partsFrom 53 = .ok (.laload, 1) := by decide +kernel
theorem dX11_partsFrom_54 : decode cX11_partsFrom 54 = .ok (.lload 5, 2) := by decide +kernel
theorem dX11_partsFrom_56 : decode cX11_partsFrom 56 = .ok (.ldiv, 1) := by decide +kernel
theorem dX11_partsFrom_57 : decode cX11_partsFrom 57 = .ok (.lstore 7, 2) := by decide +kernel
theorem dX11_partsFrom_59 : decode cX11_partsFrom 59 = .ok (.aload_n 0, 1) := by decide +kernel
theorem dX11_partsFrom_60 : decode cX11_partsFrom 60 = .ok (.getfield 45, 3) := by decide +kernel
theorem dX11_partsFrom_63 : decode cX11_partsFrom 63 = .ok (.iload_n 1, 1) := by decide +kernel
theorem dX11_partsFrom_64 : decode cX11_partsFrom 64 = .ok (.laload, 1) := by decide +kernel
theorem dX11_partsFrom_65 : decode cX11_partsFrom 65 = .ok (.lload_n 3, 1) := by decide +kernel
theorem dX11_partsFrom_66 : decode cX11_partsFrom 66 = .ok (.lload 5, 2) := by decide +kernel
theorem dX11_partsFrom_68 : decode cX11_partsFrom 68 = .ok (.ldiv, 1) := by decide +kernel
theorem dX11_partsFrom_69 : decode cX11_partsFrom 69 = .ok (.lmul, 1) := by decide +kernel
theorem dX11_partsFrom_70 : decode cX11_partsFrom 70 = .ok (.lstore 9, 2) := by decide +kernel
theorem dX11_partsFrom_72 : decode cX11_partsFrom 72 = .ok (.iconst 0, 1) := by decide +kernel
theorem dX11_partsFrom_73 : decode cX11_partsFrom 73 = .ok (.istore 11, 2) := by decide +kernel
theorem dX11_partsFrom_75 : decode cX11_partsFrom 75 = .ok (.iload 11, 2) := by decide +kernel
theorem dX11_partsFrom_77 : decode cX11_partsFrom 77 = .ok (.aload_n 0, 1) := by decide +kernel
theorem dX11_partsFrom_78 : decode cX11_partsFrom 78 = .ok (.invokevirtual 95, 3) := by decide +kernel
theorem dX11_partsFrom_81 : decode cX11_partsFrom 81 = .ok (.if_icmp .ge 93, 3) := by decide +kernel
theorem dX11_partsFrom_84 : decode cX11_partsFrom 84 = .ok (.aload_n 0, 1) := by decide +kernel
theorem dX11_partsFrom_85 : decode cX11_partsFrom 85 = .ok (.iload 11, 2) := by decide +kernel
theorem dX11_partsFrom_87 : decode cX11_partsFrom 87 = .ok (.iload_n 1, 1) := by decide +kernel
theorem dX11_partsFrom_88 : decode cX11_partsFrom 88 = .ok (.iload_n 2, 1) := by decide +kernel
theorem dX11_partsFrom_89 : decode cX11_partsFrom 89 = .ok (.invokevirtual 185, 3) := by decide +kernel
theorem dX11_partsFrom_92 : decode cX11_partsFrom 92 = .ok (.ifCond .ne 6, 3) := by decide +kernel
theorem dX11_partsFrom_95 : decode cX11_partsFrom 95 = .ok (.goto 73, 3) := by decide +kernel
theorem dX11_partsFrom_98 : decode cX11_partsFrom 98 = .ok (.aload_n 0, 1) := by decide +kernel
theorem dX11_partsFrom_99 : decode cX11_partsFrom 99 = .ok (.iload 11, 2) := by decide +kernel
theorem dX11_partsFrom_101 : decode cX11_partsFrom 101 = .ok (.lload 7, 2) := by decide +kernel
theorem dX11_partsFrom_103 : decode cX11_partsFrom 103 = .ok (.lload 9, 2) := by decide +kernel
theorem dX11_partsFrom_105 : decode cX11_partsFrom 105 = .ok (.invokevirtual 234, 3) := by decide +kernel
theorem dX11_partsFrom_108 : decode cX11_partsFrom 108 = .ok (.aload_n 0, 1) := by decide +kernel
theorem dX11_partsFrom_109 : decode cX11_partsFrom 109 = .ok (.aload_n 0, 1) := by decide +kernel
theorem dX11_partsFrom_110 : decode cX11_partsFrom 110 = .ok (.getfield 42, 3) := by decide +kernel
theorem dX11_partsFrom_113 : decode cX11_partsFrom 113 = .ok (.aload_n 0, 1) := by decide +kernel
theorem dX11_partsFrom_114 : decode cX11_partsFrom 114 = .ok (.iload 11, 2) := by decide +kernel
theorem dX11_partsFrom_116 : decode cX11_partsFrom 116 = .ok (.invokevirtual 158, 3) := by decide +kernel
theorem dX11_partsFrom_119 : decode cX11_partsFrom 119 = .ok (.laload, 1) := by decide +kernel
theorem dX11_partsFrom_120 : decode cX11_partsFrom 120 = .ok (.aload_n 0, 1) := by decide +kernel
theorem dX11_partsFrom_121 : decode cX11_partsFrom 121 = .ok (.getfield 45, 3) := by decide +kernel
theorem dX11_partsFrom_124 : decode cX11_partsFrom 124 = .ok (.aload_n 0, 1) := by decide +kernel
theorem dX11_partsFrom_125 : decode cX11_partsFrom 125 = .ok (.iload 11, 2) := by decide +kernel
theorem dX11_partsFrom_127 : decode cX11_partsFrom 127 = .ok (.invokevirtual 158, 3) := by decide +kernel
theorem dX11_partsFrom_130 : decode cX11_partsFrom 130 = .ok (.laload, 1) := by decide +kernel
theorem dX11_partsFrom_131 : decode cX11_partsFrom 131 = .ok (.lload 7, 2) := by decide +kernel
theorem dX11_partsFrom_133 : decode cX11_partsFrom 133 = .ok (.lload 9, 2) := by decide +kernel
theorem dX11_partsFrom_135 : decode cX11_partsFrom 135 = .ok (.invokevirtual 226, 3) := by decide +kernel
theorem dX11_partsFrom_138 : decode cX11_partsFrom 138 = .ok (.aload_n 0, 1) := by decide +kernel
theorem dX11_partsFrom_139 : decode cX11_partsFrom 139 = .ok (.getfield 42, 3) := by decide +kernel
theorem dX11_partsFrom_142 : decode cX11_partsFrom 142 = .ok (.aload_n 0, 1) := by decide +kernel
theorem dX11_partsFrom_143 : decode cX11_partsFrom 143 = .ok (.iload 11, 2) := by decide +kernel
theorem dX11_partsFrom_145 : decode cX11_partsFrom 145 = .ok (.invokevirtual 158, 3) := by decide +kernel
theorem dX11_partsFrom_148 : decode cX11_partsFrom 148 = .ok (.aload_n 0, 1) := by decide +kernel
theorem dX11_partsFrom_149 : decode cX11_partsFrom 149 = .ok (.getfield 198, 3) := by decide +kernel
theorem dX11_partsFrom_152 : decode cX11_partsFrom 152 = .ok (.lastore, 1) := by decide +kernel
theorem dX11_partsFrom_153 : decode cX11_partsFrom 153 = .ok (.aload_n 0, 1) := by decide +kernel
theorem dX11_partsFrom_154 : decode cX11_partsFrom 154 = .ok (.getfield 45, 3) := by decide +kernel
theorem dX11_partsFrom_157 : decode cX11_partsFrom 157 = .ok (.aload_n 0, 1) := by decide +kernel
theorem dX11_partsFrom_158 : decode cX11_partsFrom 158 = .ok (.iload 11, 2) := by decide +kernel
theorem dX11_partsFrom_160 : decode cX11_partsFrom 160 = .ok (.invokevirtual 158, 3) := by decide +kernel
theorem dX11_partsFrom_163 : decode cX11_partsFrom 163 = .ok (.aload_n 0, 1) := by decide +kernel
theorem dX11_partsFrom_164 : decode cX11_partsFrom 164 = .ok (.getfield 202, 3) := by decide +kernel
theorem dX11_partsFrom_167 : decode cX11_partsFrom 167 = .ok (.lastore, 1) := by decide +kernel
theorem dX11_partsFrom_168 : decode cX11_partsFrom 168 = .ok (.iinc 11 1, 3) := by decide +kernel
theorem dX11_partsFrom_171 : decode cX11_partsFrom 171 = .ok (.goto (-96), 3) := by decide +kernel
theorem dX11_partsFrom_174 : decode cX11_partsFrom 174 = .ok (.return_, 1) := by decide +kernel
abbrev mX11_partsFrom : MI := (RX11, yX11_partsFrom, cX11_partsFrom, 12, none)
theorem mok_X11_partsFrom : MOKv mX11_partsFrom 2 := ⟨⟨bm_1575, bm_127, ⟨by decide, by decide⟩, by decide +kernel⟩, bm_1574, bm_76⟩
def f_X11_partsFrom_168  (k75 : Int32 → MH → Option (MH)) (a0 : Nat) (x1 : Int32) (x2 : Int32) (l7 : Int64) (l9 : Int64) (x11 : Int32) (h : MH) : Option (MH) :=
  k75 (x11 + 1) h
def f_X11_partsFrom_75b   (a0 : Nat) (x1 : Int32) (x2 : Int32) (l7 : Int64) (l9 : Int64) (k75 : Int32 → MH → Option (MH)) (p : Int32) (h : MH) : Option (MH) :=
  (f_X11_links a0 h).bind fun q_1 =>
  if p < q_1.1 then
    (f_X11_isOn a0 p x1 x2 q_1.2).bind fun q_2 =>
    if q_2.1 = 0 then
      f_X11_partsFrom_168 k75 a0 x1 x2 l7 l9 p q_2.2
    else
      (f_X11_shares a0 p l7 l9 q_2.2).bind fun q_3 =>
      (gR q_3 a0 24).bind fun a_4 =>
      (f_X11_to a0 p q_3).bind fun q_5 =>
      (ldL q_5.2 a_4 q_5.1).bind fun l_6 =>
      (gR q_5.2 a0 25).bind fun a_7 =>
      (f_X11_to a0 p q_5.2).bind fun q_8 =>
      (ldL q_8.2 a_7 q_8.1).bind fun l_9 =>
      (f_X11_adds a0 l_6 l_9 l7 l9 q_8.2).bind fun q_10 =>
      (gR q_10 a0 24).bind fun a_11 =>
      (f_X11_to a0 p q_10).bind fun q_12 =>
      (stL q_12.2 a_11 q_12.1 (gL q_12.2 a0 10)).bind fun h_13 =>
      (gR h_13 a0 25).bind fun a_14 =>
      (f_X11_to a0 p h_13).bind fun q_15 =>
      (stL q_15.2 a_14 q_15.1 (gL q_15.2 a0 11)).bind fun h_16 =>
      f_X11_partsFrom_168 k75 a0 x1 x2 l7 l9 p h_16
  else
    some q_1.2
def f_X11_partsFrom_75   (a0 : Nat) (x1 : Int32) (x2 : Int32) (l7 : Int64) (l9 : Int64) : Nat → Int32 → MH → Option (MH) := lp (f_X11_partsFrom_75b a0 x1 x2 l7 l9)
def f_X11_partsFrom_29  (k5 : Int64 × Int32 → MH → Option (MH)) (a0 : Nat) (x1 : Int32) (x2 : Int32) (l3 : Int64) (x5 : Int32) (h : MH) : Option (MH) :=
  k5 (l3, (x5 + 1)) h
def f_X11_partsFrom_5b   (a0 : Nat) (x1 : Int32) (x2 : Int32) (k5 : Int64 × Int32 → MH → Option (MH)) (p : Int64 × Int32) (h : MH) : Option (MH) :=
  (f_X11_links a0 h).bind fun q_1 =>
  if p.2 < q_1.1 then
    (f_X11_isOn a0 p.2 x1 x2 q_1.2).bind fun q_2 =>
    if q_2.1 = 0 then
      f_X11_partsFrom_29 k5 a0 x1 x2 p.1 p.2 q_2.2
    else
      lt (p.1 + 1) fun l_3 =>
      f_X11_partsFrom_29 k5 a0 x1 x2 l_3 p.2 q_2.2
  else
    (gR q_1.2 a0 24).bind fun a_4 =>
    (ldL q_1.2 a_4 x1).bind fun l_5 =>
    (f_X11_common a0 DG (l_5, p.1) q_1.2).bind fun q_6 =>
    (gR q_6.2 a0 24).bind fun a_7 =>
    (ldL q_6.2 a_7 x1).bind fun l_8 =>
    if q_6.1 = (0 : Int64) then none else
    lt (l_8 / q_6.1) fun l_9 =>
    (gR q_6.2 a0 25).bind fun a_10 =>
    (ldL q_6.2 a_10 x1).bind fun l_11 =>
    if q_6.1 = (0 : Int64) then none else
    lt (l_11 * (p.1 / q_6.1)) fun l_12 =>
    f_X11_partsFrom_75 a0 x1 x2 l_9 l_12 FU 0 q_6.2
def f_X11_partsFrom_5   (a0 : Nat) (x1 : Int32) (x2 : Int32) : Nat → Int64 × Int32 → MH → Option (MH) := lp (f_X11_partsFrom_5b a0 x1 x2)
def f_X11_partsFrom   (a0 : Nat) (x1 : Int32) (x2 : Int32) (h : MH) : Option (MH) :=
  f_X11_partsFrom_5 a0 x1 x2 FU (0, 0) h
set_option maxRecDepth 100000 in
set_option maxHeartbeats 4000000 in
theorem v_X11_partsFrom_168 {l : Launch} {G : GE} {B N : Nat} {S : List SHP} {o : MH} {a0 : Nat} {x1 : Int32} {x2 : Int32} {l7 : Int64} {l9 : Int64} {x11 : Int32}  {k75 : Int32 → MH → Option (MH)} (hk75 : ∀ (p : Int32) (h : MH), k75 p h = some o → V l G B N mX11_partsFrom (rmm 126 0 0) false 0 0 (QV S o) S 0 0 75 [(0, .ref a0), (1, .int x1), (2, .int x2), (7, .long l7), (9, .long l9), (11, .int p)] [] h) (hs0 : S[a0]? = some (.inl 11)) {h : MH} (hf : f_X11_partsFrom_168 k75 a0 x1 x2 l7 l9 x11 h = some o) : V l G B N mX11_partsFrom (rmm 126 0 0) false 0 0 (QV S o) S 0 0 168 [(0, .ref a0), (1, .int x1), (2, .int x2), (7, .long l7), (9, .long l9), (11, .int x11)] [] h := by
  unfold f_X11_partsFrom_168 at hf
  refine V_iinc (v := (x11 + 1)) (lv' := [(11, .int (x11 + 1)), (0, .ref a0), (1, .int x1), (2, .int x2), (7, .long l7), (9, .long l9)]) (pc' := 171) dX11_partsFrom_168 rfl 5 rfl rfl (Nat.le_of_ble_eq_true rfl) rfl ?_
  refine V_goto (tgt := 75) dX11_partsFrom_171 (by decide) ?_
  exact V_sub (lv' := [(0, .ref a0), (1, .int x1), (2, .int x2), (7, .long l7), (9, .long l9), (11, .int (x11 + 1))]) [1, 2, 3, 4, 5, 0] rfl (hk75 (x11 + 1) h hf)
set_option maxRecDepth 100000 in
set_option maxHeartbeats 4000000 in
theorem v_X11_partsFrom_75b {l : Launch} {G : GE} {B N : Nat} {S : List SHP} {o : MH} {a0 : Nat} {x1 : Int32} {x2 : Int32} {l7 : Int64} {l9 : Int64}    (hs0 : S[a0]? = some (.inl 11)) {k75 : Int32 → MH → Option (MH)} (hk75 : ∀ (p : Int32) (h : MH), k75 p h = some o → V l G B N mX11_partsFrom (rmm 126 0 0) false 0 0 (QV S o) S 0 0 75 [(0, .ref a0), (1, .int x1), (2, .int x2), (7, .long l7), (9, .long l9), (11, .int p)] [] h) {p : Int32} {h : MH} (hf : f_X11_partsFrom_75b a0 x1 x2 l7 l9 k75 p h = some o) : V l G B N mX11_partsFrom (rmm 126 0 0) false 0 0 (QV S o) S 0 0 75 [(0, .ref a0), (1, .int x1), (2, .int x2), (7, .long l7), (9, .long l9), (11, .int p)] [] h := by
  unfold f_X11_partsFrom_75b at hf
  refine V_iload (pc' := 77) dX11_partsFrom_75 rfl 5 rfl ?_
  refine V_aload_n (pc' := 78) dX11_partsFrom_77 rfl 0 rfl rfl ?_
  refine V_cvI (pc' := 81) (As := []) (rest := [.int p]) dX11_partsFrom_78 rfl mok_X11_links bm_1398 11 (by decide) rfl hs0 rfl rfl (Nat.le_of_ble_eq_true rfl) (by decide) hf (fun q e => ct_X11_links hs0 e) (fun q_1 hf => ?_)
  refine V_icmp_ge (tgt := 174) (pc' := 84) dX11_partsFrom_81 (by decide) rfl hf (fun hf => ?_) (fun hf => ?_)
  ·
    refine V_aload_n (pc' := 85) dX11_partsFrom_84 rfl 0 rfl rfl ?_
    refine V_iload (pc' := 87) dX11_partsFrom_85 rfl 5 rfl ?_
    refine V_iload_n (pc' := 88) dX11_partsFrom_87 rfl 1 rfl rfl ?_
    refine V_iload_n (pc' := 89) dX11_partsFrom_88 rfl 2 rfl rfl ?_
    refine V_cvI (pc' := 92) (As := [.int p, .int x1, .int x2]) (rest := []) dX11_partsFrom_89 rfl mok_X11_isOn bm_1507 11 (by decide) rfl hs0 rfl rfl (Nat.le_of_ble_eq_true rfl) (by decide) hf (fun q e => ct_X11_isOn hs0 e) (fun q_2 hf => ?_)
    refine V_if_ne (tgt := 98) (pc' := 95) dX11_partsFrom_92 (by decide) rfl hf (fun hf => ?_) (fun hf => ?_)
    ·
      refine V_goto (tgt := 168) dX11_partsFrom_95 (by decide) ?_
      exact V_sub (lv' := [(0, .ref a0), (1, .int x1), (2, .int x2), (7, .long l7), (9, .long l9), (11, .int p)]) [0, 1, 2, 3, 4, 5] rfl (v_X11_partsFrom_168 hk75 hs0 hf)
    ·
      refine V_aload_n (pc' := 99) dX11_partsFrom_98 rfl 0 rfl rfl ?_
      refine V_iload (pc' := 101) dX11_partsFrom_99 rfl 5 rfl ?_
      refine V_lload (pc' := 103) dX11_partsFrom_101 rfl 3 rfl ?_
      refine V_lload (pc' := 105) dX11_partsFrom_103 rfl 4 rfl ?_
      refine V_cvV (pc' := 108) (As := [.int p, .long l7, .long l9]) (rest := []) dX11_partsFrom_105 rfl mok_X11_shares bm_1548 11 (by decide) rfl hs0 rfl rfl (Nat.le_of_ble_eq_true rfl) (by decide) hf (fun q e => ct_X11_shares hs0 e) (fun q_3 hf => ?_)
      refine V_aload_n (pc' := 109) dX11_partsFrom_108 rfl 0 rfl rfl ?_
      refine V_aload_n (pc' := 110) dX11_partsFrom_109 rfl 0 rfl rfl ?_
      refine V_getR (pc' := 113) 11 24 dX11_partsFrom_110 rfl (by decide) (Nat.le_of_ble_eq_true rfl) bm_1248 hs0 (fun _ _ _ => rfl) rfl hf (fun a_4 ha_4 hf => ?_)
      refine V_aload_n (pc' := 114) dX11_partsFrom_113 rfl 0 rfl rfl ?_
      refine V_iload (pc' := 116) dX11_partsFrom_114 rfl 5 rfl ?_
      refine V_cvI (pc' := 119) (As := [.int p]) (rest := [.ref a_4, .ref a0]) dX11_partsFrom_116 rfl mok_X11_to bm_1461 11 (by decide) rfl hs0 rfl rfl (Nat.le_of_ble_eq_true rfl) (by decide) hf (fun q e => ct_X11_to hs0 e) (fun q_5 hf => ?_)
      refine V_lald (pc' := 120) dX11_partsFrom_119 rfl ha_4 hf (fun l_6 hf => ?_)
      refine V_aload_n (pc' := 121) dX11_partsFrom_120 rfl 0 rfl rfl ?_
      refine V_getR (pc' := 124) 11 25 dX11_partsFrom_121 rfl (by decide) (Nat.le_of_ble_eq_true rfl) bm_1249 hs0 (fun _ _ _ => rfl) rfl hf (fun a_7 ha_7 hf => ?_)
      refine V_aload_n (pc' := 125) dX11_partsFrom_124 rfl 0 rfl rfl ?_
      refine V_iload (pc' := 127) dX11_partsFrom_125 rfl 5 rfl ?_
      refine V_cvI (pc' := 130) (As := [.int p]) (rest := [.ref a_7, .long l_6, .ref a0]) dX11_partsFrom_127 rfl mok_X11_to bm_1461 11 (by decide) rfl hs0 rfl rfl (Nat.le_of_ble_eq_true rfl) (by decide) hf (fun q e => ct_X11_to hs0 e) (fun q_8 hf => ?_)
      refine V_lald (pc' := 131) dX11_partsFrom_130 rfl ha_7 hf (fun l_9 hf => ?_)
      refine V_lload (pc' := 133) dX11_partsFrom_131 rfl 3 rfl ?_
      refine V_lload (pc' := 135) dX11_partsFrom_133 rfl 4 rfl ?_
      refine V_cvV (pc' := 138) (As := [.long l_6, .long l_9, .long l7, .long l9]) (rest := []) dX11_partsFrom_135 rfl mok_X11_adds bm_1552 11 (by decide) rfl hs0 rfl rfl (Nat.le_of_ble_eq_true rfl) (by decide) hf (fun q e => ct_X11_adds hs0 e) (fun q_10 hf => ?_)
      refine V_aload_n (pc' := 139) dX11_partsFrom_138 rfl 0 rfl rfl ?_
      refine V_getR (pc' := 142) 11 24 dX11_partsFrom_139 rfl (by decide) (Nat.le_of_ble_eq_true rfl) bm_1248 hs0 (fun _ _ _ => rfl) rfl hf (fun a_11 ha_11 hf => ?_)
      refine V_aload_n (pc' := 143) dX11_partsFrom_142 rfl 0 rfl rfl ?_
      refine V_iload (pc' := 145) dX11_partsFrom_143 rfl 5 rfl ?_
      refine V_cvI (pc' := 148) (As := [.int p]) (rest := [.ref a_11]) dX11_partsFrom_145 rfl mok_X11_to bm_1461 11 (by decide) rfl hs0 rfl rfl (Nat.le_of_ble_eq_true rfl) (by decide) hf (fun q e => ct_X11_to hs0 e) (fun q_12 hf => ?_)
      refine V_aload_n (pc' := 149) dX11_partsFrom_148 rfl 0 rfl rfl ?_
      refine V_getL (pc' := 152) 11 10 dX11_partsFrom_149 rfl (by decide) (Nat.le_of_ble_eq_true rfl) bm_1234 hs0 (fun _ _ _ => rfl) ?_
      refine V_last (pc' := 153) dX11_partsFrom_152 rfl ha_11 hf (fun h_13 hf => ?_)
      refine V_aload_n (pc' := 154) dX11_partsFrom_153 rfl 0 rfl rfl ?_
      refine V_getR (pc' := 157) 11 25 dX11_partsFrom_154 rfl (by decide) (Nat.le_of_ble_eq_true rfl) bm_1249 hs0 (fun _ _ _ => rfl) rfl hf (fun a_14 ha_14 hf => ?_)
      refine V_aload_n (pc' := 158) dX11_partsFrom_157 rfl 0 rfl rfl ?_
      refine V_iload (pc' := 160) dX11_partsFrom_158 rfl 5 rfl ?_
      refine V_cvI (pc' := 163) (As := [.int p]) (rest := [.ref a_14]) dX11_partsFrom_160 rfl mok_X11_to bm_1461 11 (by decide) rfl hs0 rfl rfl (Nat.le_of_ble_eq_true rfl) (by decide) hf (fun q e => ct_X11_to hs0 e) (fun q_15 hf => ?_)
      refine V_aload_n (pc' := 164) dX11_partsFrom_163 rfl 0 rfl rfl ?_
      refine V_getL (pc' := 167) 11 11 dX11_partsFrom_164 rfl (by decide) (Nat.le_of_ble_eq_true rfl) bm_1235 hs0 (fun _ _ _ => rfl) ?_
      refine V_last (pc' := 168) dX11_partsFrom_167 rfl ha_14 hf (fun h_16 hf => ?_)
      exact V_sub (lv' := [(0, .ref a0), (1, .int x1), (2, .int x2), (7, .long l7), (9, .long l9), (11, .int p)]) [0, 1, 2, 3, 4, 5] rfl (v_X11_partsFrom_168 hk75 hs0 hf)
  ·
    obtain rfl := Option.some.inj hf
    exact V_vret dX11_partsFrom_174 rfl rfl rfl ⟨rfl, rfl, rfl⟩
theorem v_X11_partsFrom_75 {l : Launch} {G : GE} {B N : Nat} {S : List SHP} {o : MH} {a0 : Nat} {x1 : Int32} {x2 : Int32} {l7 : Int64} {l9 : Int64}    (hs0 : S[a0]? = some (.inl 11)) {n : Nat} {p : Int32} {h : MH} (hf : f_X11_partsFrom_75 a0 x1 x2 l7 l9 n p h = some o) : V l G B N mX11_partsFrom (rmm 126 0 0) false 0 0 (QV S o) S 0 0 75 [(0, .ref a0), (1, .int x1), (2, .int x2), (7, .long l7), (9, .long l9), (11, .int p)] [] h :=
  V_lp (VV := fun p h => V l G B N mX11_partsFrom (rmm 126 0 0) false 0 0 (QV S o) S 0 0 75 [(0, .ref a0), (1, .int x1), (2, .int x2), (7, .long l7), (9, .long l9), (11, .int p)] [] h) (fun _ hk _ _ hf => v_X11_partsFrom_75b hs0 hk hf) n p h hf
set_option maxRecDepth 100000 in
set_option maxHeartbeats 4000000 in
theorem v_X11_partsFrom_29 {l : Launch} {G : GE} {B N : Nat} {S : List SHP} {o : MH} {a0 : Nat} {x1 : Int32} {x2 : Int32} {l3 : Int64} {x5 : Int32}  {k5 : Int64 × Int32 → MH → Option (MH)} (hk5 : ∀ (p : Int64 × Int32) (h : MH), k5 p h = some o → V l G B N mX11_partsFrom (rmm 126 0 0) false 0 0 (QV S o) S 0 0 5 [(0, .ref a0), (1, .int x1), (2, .int x2), (3, .long p.1), (5, .int p.2)] [] h) (hs0 : S[a0]? = some (.inl 11)) {h : MH} (hf : f_X11_partsFrom_29 k5 a0 x1 x2 l3 x5 h = some o) : V l G B N mX11_partsFrom (rmm 126 0 0) false 0 0 (QV S o) S 0 0 29 [(0, .ref a0), (1, .int x1), (2, .int x2), (3, .long l3), (5, .int x5)] [] h := by
  unfold f_X11_partsFrom_29 at hf
  refine V_iinc (v := (x5 + 1)) (lv' := [(5, .int (x5 + 1)), (0, .ref a0), (1, .int x1), (2, .int x2), (3, .long l3)]) (pc' := 32) dX11_partsFrom_29 rfl 4 rfl rfl (Nat.le_of_ble_eq_true rfl) rfl ?_
  refine V_goto (tgt := 5) dX11_partsFrom_32 (by decide) ?_
  exact V_sub (lv' := [(0, .ref a0), (1, .int x1), (2, .int x2), (3, .long l3), (5, .int (x5 + 1))]) [1, 2, 3, 4, 0] rfl (hk5 (l3, (x5 + 1)) h hf)
set_option maxRecDepth 100000 in
set_option maxHeartbeats 4000000 in
theorem v_X11_partsFrom_5b {l : Launch} {G : GE} {B N : Nat} {S : List SHP} {o : MH} {a0 : Nat} {x1 : Int32} {x2 : Int32}    (hs0 : S[a0]? = some (.inl 11)) {k5 : Int64 × Int32 → MH → Option (MH)} (hk5 : ∀ (p : Int64 × Int32) (h : MH), k5 p h = some o → V l G B N mX11_partsFrom (rmm 126 0 0) false 0 0 (QV S o) S 0 0 5 [(0, .ref a0), (1, .int x1), (2, .int x2), (3, .long p.1), (5, .int p.2)] [] h) {p : Int64 × Int32} {h : MH} (hf : f_X11_partsFrom_5b a0 x1 x2 k5 p h = some o) : V l G B N mX11_partsFrom (rmm 126 0 0) false 0 0 (QV S o) S 0 0 5 [(0, .ref a0), (1, .int x1), (2, .int x2), (3, .long p.1), (5, .int p.2)] [] h := by
  unfold f_X11_partsFrom_5b at hf
  refine V_iload (pc' := 7) dX11_partsFrom_5 rfl 4 rfl ?_
  refine V_aload_n (pc' := 8) dX11_partsFrom_7 rfl 0 rfl rfl ?_
  refine V_cvI (pc' := 11) (As := []) (rest := [.int p.2]) dX11_partsFrom_8 rfl mok_X11_links bm_1398 11 (by decide) rfl hs0 rfl rfl (Nat.le_of_ble_eq_true rfl) (by decide) hf (fun q e => ct_X11_links hs0 e) (fun q_1 hf => ?_)
  refine V_icmp_ge (tgt := 35) (pc' := 14) dX11_partsFrom_11 (by decide) rfl hf (fun hf => ?_) (fun hf => ?_)
  ·
    refine V_aload_n (pc' := 15) dX11_partsFrom_14 rfl 0 rfl rfl ?_
    refine V_iload (pc' := 17) dX11_partsFrom_15 rfl 4 rfl ?_
    refine V_iload_n (pc' := 18) dX11_partsFrom_17 rfl 1 rfl rfl ?_
    refine V_iload_n (pc' := 19) dX11_partsFrom_18 rfl 2 rfl rfl ?_
    refine V_cvI (pc' := 22) (As := [.int p.2, .int x1, .int x2]) (rest := []) dX11_partsFrom_19 rfl mok_X11_isOn bm_1507 11 (by decide) rfl hs0 rfl rfl (Nat.le_of_ble_eq_true rfl) (by decide) hf (fun q e => ct_X11_isOn hs0 e) (fun q_2 hf => ?_)
    refine V_if_eq (tgt := 29) (pc' := 25) dX11_partsFrom_22 (by decide) rfl hf (fun hf => ?_) (fun hf => ?_)
    ·
      exact V_sub (lv' := [(0, .ref a0), (1, .int x1), (2, .int x2), (3, .long p.1), (5, .int p.2)]) [0, 1, 2, 3, 4] rfl (v_X11_partsFrom_29 hk5 hs0 hf)
    ·
      refine V_lload_n (pc' := 26) dX11_partsFrom_25 rfl 3 rfl rfl ?_
      refine V_lconst (v := 1) (pc' := 27) dX11_partsFrom_26 rfl (by decide) ?_
      refine V_ladd (pc' := 28) dX11_partsFrom_27 rfl ?_
      refine V_nmJ hf (fun l_3 hf => ?_)
      refine V_lstore_n (lv' := [(3, .long l_3), (0, .ref a0), (1, .int x1), (2, .int x2), (5, .int p.2)]) (pc' := 29) dX11_partsFrom_28 rfl rfl (Nat.le_of_ble_eq_true rfl) rfl ?_
      exact V_sub (lv' := [(0, .ref a0), (1, .int x1), (2, .int x2), (3, .long l_3), (5, .int p.2)]) [1, 2, 3, 0, 4] rfl (v_X11_partsFrom_29 hk5 hs0 hf)
  ·
    refine V_aload_n (pc' := 36) dX11_partsFrom_35 rfl 0 rfl rfl ?_
    refine V_aload_n (pc' := 37) dX11_partsFrom_36 rfl 0 rfl rfl ?_
    refine V_getR (pc' := 40) 11 24 dX11_partsFrom_37 rfl (by decide) (Nat.le_of_ble_eq_true rfl) bm_1248 hs0 (fun _ _ _ => rfl) rfl hf (fun a_4 ha_4 hf => ?_)
    refine V_iload_n (pc' := 41) dX11_partsFrom_40 rfl 1 rfl rfl ?_
    refine V_lald (pc' := 42) dX11_partsFrom_41 rfl ha_4 hf (fun l_5 hf => ?_)
    refine V_lload_n (pc' := 43) dX11_partsFrom_42 rfl 3 rfl rfl ?_
    refine V_cvL (pc' := 46) (As := [.long l_5, .long p.1]) (rest := []) dX11_partsFrom_43 rfl mok_X11_common bm_1556 11 (by decide) rfl hs0 rfl rfl (Nat.le_of_ble_eq_true rfl) (by decide) hf (fun q e => ct_X11_common hs0 e) (fun q_6 hf => ?_)
    refine V_lstore (lv' := [(5, .long q_6.1), (0, .ref a0), (1, .int x1), (2, .int x2), (3, .long p.1)]) (pc' := 48) dX11_partsFrom_46 rfl (Nat.le_of_ble_eq_true rfl) rfl ?_
    refine V_aload_n (pc' := 49) dX11_partsFrom_48 rfl 1 rfl rfl ?_
    refine V_getR (pc' := 52) 11 24 dX11_partsFrom_49 rfl (by decide) (Nat.le_of_ble_eq_true rfl) bm_1248 hs0 (fun _ _ _ => rfl) rfl hf (fun a_7 ha_7 hf => ?_)
    refine V_iload_n (pc' := 53) dX11_partsFrom_52 rfl 2 rfl rfl ?_
    refine V_lald (pc' := 54) dX11_partsFrom_53 rfl ha_7 hf (fun l_8 hf => ?_)
    refine V_lload (pc' := 56) dX11_partsFrom_54 rfl 0 rfl ?_
    refine V_ldivF (pc' := 57) dX11_partsFrom_56 rfl hf (fun hf => ?_)
    refine V_nmJ hf (fun l_9 hf => ?_)
    refine V_lstore (lv' := [(7, .long l_9), (5, .long q_6.1), (0, .ref a0), (1, .int x1), (2, .int x2), (3, .long p.1)]) (pc' := 59) dX11_partsFrom_57 rfl (Nat.le_of_ble_eq_true rfl) rfl ?_
    refine V_aload_n (pc' := 60) dX11_partsFrom_59 rfl 2 rfl rfl ?_
    refine V_getR (pc' := 63) 11 25 dX11_partsFrom_60 rfl (by decide) (Nat.le_of_ble_eq_true rfl) bm_1249 hs0 (fun _ _ _ => rfl) rfl hf (fun a_10 ha_10 hf => ?_)
    refine V_iload_n (pc' := 64) dX11_partsFrom_63 rfl 3 rfl rfl ?_
    refine V_lald (pc' := 65) dX11_partsFrom_64 rfl ha_10 hf (fun l_11 hf => ?_)
    refine V_lload_n (pc' := 66) dX11_partsFrom_65 rfl 5 rfl rfl ?_
    refine V_lload (pc' := 68) dX11_partsFrom_66 rfl 1 rfl ?_
    refine V_ldivF (pc' := 69) dX11_partsFrom_68 rfl hf (fun hf => ?_)
    refine V_lmul (pc' := 70) dX11_partsFrom_69 rfl ?_
    refine V_nmJ hf (fun l_12 hf => ?_)
    refine V_lstore (lv' := [(9, .long l_12), (7, .long l_9), (5, .long q_6.1), (0, .ref a0), (1, .int x1), (2, .int x2), (3, .long p.1)]) (pc' := 72) dX11_partsFrom_70 rfl (Nat.le_of_ble_eq_true rfl) rfl ?_
    refine V_iconst (v := 0) (pc' := 73) dX11_partsFrom_72 rfl (by decide) ?_
    refine V_istore (lv' := [(11, .int 0), (9, .long l_12), (7, .long l_9), (5, .long q_6.1), (0, .ref a0), (1, .int x1), (2, .int x2), (3, .long p.1)]) (pc' := 75) dX11_partsFrom_73 rfl (Nat.le_of_ble_eq_true rfl) rfl ?_
    exact V_sub (lv' := [(0, .ref a0), (1, .int x1), (2, .int x2), (7, .long l_9), (9, .long l_12), (11, .int 0)]) [4, 5, 6, 2, 1, 0] rfl (v_X11_partsFrom_75 hs0 hf)
theorem v_X11_partsFrom_5 {l : Launch} {G : GE} {B N : Nat} {S : List SHP} {o : MH} {a0 : Nat} {x1 : Int32} {x2 : Int32}    (hs0 : S[a0]? = some (.inl 11)) {n : Nat} {p : Int64 × Int32} {h : MH} (hf : f_X11_partsFrom_5 a0 x1 x2 n p h = some o) : V l G B N mX11_partsFrom (rmm 126 0 0) false 0 0 (QV S o) S 0 0 5 [(0, .ref a0), (1, .int x1), (2, .int x2), (3, .long p.1), (5, .int p.2)] [] h :=
  V_lp (VV := fun p h => V l G B N mX11_partsFrom (rmm 126 0 0) false 0 0 (QV S o) S 0 0 5 [(0, .ref a0), (1, .int x1), (2, .int x2), (3, .long p.1), (5, .int p.2)] [] h) (fun _ hk _ _ hf => v_X11_partsFrom_5b hs0 hk hf) n p h hf
set_option maxRecDepth 100000 in
set_option maxHeartbeats 4000000 in
theorem v_X11_partsFrom {l : Launch} {G : GE} {B N : Nat} {S : List SHP} {o : MH} {a0 : Nat} {x1 : Int32} {x2 : Int32}    (hs0 : S[a0]? = some (.inl 11)) {h : MH} (hf : f_X11_partsFrom a0 x1 x2 h = some o) : V l G B N mX11_partsFrom (rmm 126 0 0) false 0 0 (QV S o) S 0 0 0 [(0, .ref a0), (1, .int x1), (2, .int x2)] [] h := by
  unfold f_X11_partsFrom at hf
  refine V_lconst (v := 0) (pc' := 1) dX11_partsFrom_0 rfl (by decide) ?_
  refine V_lstore_n (lv' := [(3, .long 0), (0, .ref a0), (1, .int x1), (2, .int x2)]) (pc' := 2) dX11_partsFrom_1 rfl rfl (Nat.le_of_ble_eq_true rfl) rfl ?_
  refine V_iconst (v := 0) (pc' := 3) dX11_partsFrom_2 rfl (by decide) ?_
  refine V_istore (lv' := [(5, .int 0), (3, .long 0), (0, .ref a0), (1, .int x1), (2, .int x2)]) (pc' := 5) dX11_partsFrom_3 rfl (Nat.le_of_ble_eq_true rfl) rfl ?_
  exact V_sub (lv' := [(0, .ref a0), (1, .int x1), (2, .int x2), (3, .long 0), (5, .int 0)]) [2, 3, 4, 1, 0] rfl (v_X11_partsFrom_5 hs0 hf)
theorem ct_X11_partsFrom {l : Launch} {S : List SHP} {h : MH} {a0 : Nat} {x1 : Int32} {x2 : Int32} (hs0 : S[a0]? = some (.inl 11)) {q : MH} (hf : f_X11_partsFrom a0 x1 x2 h = some q) : CT l mX11_partsFrom 126 false 0 0 S [.ref a0, .int x1, .int x2] h (QV S q) :=
  CT_ofV (by decide) rfl (Nat.le_of_ble_eq_true rfl) (fun G B hT => v_X11_partsFrom hs0 hf)
/-! LabelStacksModel.parts(I)V -/
theorem dX11_parts_0 : decode cX11_parts 0 = .ok (.iconst 0, 1) := by decide +kernel
theorem dX11_parts_1 : decode cX11_parts 1 = .ok (.istore_n 2, 1) := by decide +kernel
theorem dX11_parts_2 : decode cX11_parts 2 = .ok (.iload_n 2, 1) := by decide +kernel
theorem dX11_parts_3 : decode cX11_parts 3 = .ok (.bipush 10, 2) := by decide +kernel
theorem dX11_parts_5 : decode cX11_parts 5 = .ok (.if_icmp .ge 35, 3) := by decide +kernel
theorem dX11_parts_8 : decode cX11_parts 8 = .ok (.aload_n 0, 1) := by decide +kernel
theorem dX11_parts_9 : decode cX11_parts 9 = .ok (.getfield 42, 3) := by decide +kernel
theorem dX11_parts_12 : decode cX11_parts 12 = .ok (.iload_n 2, 1) := by decide +kernel
theorem dX11_parts_13 : decode cX11_parts 13 = .ok (.iload_n 2, 1) := by decide +kernel
theorem dX11_parts_14 : decode cX11_parts 14 = .ok (.aload_n 0, 1) := by decide +kernel
theorem dX11_parts_15 : decode cX11_parts 15 = .ok (.getfield 208, 3) := by decide +kernel
theorem dX11_parts_18 : decode cX11_parts 18 = .ok (.if_icmp .ne 7, 3) := by decide +kernel
theorem dX11_parts_21 : decode cX11_parts 21 = .ok (.lconst 1, 1) := by decide +kernel
theorem dX11_parts_22 : decode cX11_parts 22 = .ok (.goto 4, 3) := by decide +kernel
theorem dX11_parts_25 : decode cX11_parts 25 = .ok (.lconst 0, 1) := by decide +kernel
theorem dX11_parts_26 : decode cX11_parts 26 = .ok (.lastore, 1) := by decide +kernel
theorem dX11_parts_27 : decode cX11_parts 27 = .ok (.aload_n 0, 1) := by decide +kernel
theorem dX11_parts_28 : decode cX11_parts 28 = .ok (.getfield 45, 3) := by decide +kernel
theorem dX11_parts_31 : decode cX11_parts 31 = .ok (.iload_n 2, 1) := by decide +kernel
theorem dX11_parts_32 : decode cX11_parts 32 = .ok (.lconst 1, 1) := by decide +kernel
theorem dX11_parts_33 : decode cX11_parts 33 = .ok (.lastore, 1) := by decide +kernel
theorem dX11_parts_34 : decode cX11_parts 34 = .ok (.iinc 2 1, 3) := by decide +kernel
theorem dX11_parts_37 : decode cX11_parts 37 = .ok (.goto (-35), 3) := by decide +kernel
theorem dX11_parts_40 : decode cX11_parts 40 = .ok (.ldc 181, 2) := by decide +kernel
theorem dX11_parts_42 : decode cX11_parts 42 = .ok (.istore_n 2, 1) := by decide +kernel
theorem dX11_parts_43 : decode cX11_parts 43 = .ok (.iload_n 2, 1) := by decide +kernel
theorem dX11_parts_44 : decode cX11_parts 44 = .ok (.ifCond .le 110, 3) := by decide +kernel
theorem dX11_parts_47 : decode cX11_parts 47 = .ok (.iconst 0, 1) := by decide +kernel
theorem dX11_parts_48 : decode cX11_parts 48 = .ok (.istore_n 3, 1) := by decide +kernel
theorem dX11_parts_49 : decode cX11_parts 49 = .ok (.iconst 0, 1) := by decide +kernel
theorem dX11_parts_50 : decode cX11_parts 50 = .ok (.istore 4, 2) := by decide +kernel
theorem dX11_parts_52 : decode cX11_parts 52 = .ok (.iload 4, 2) := by decide +kernel
theorem dX11_parts_54 : decode cX11_parts 54 = .ok (.aload_n 0, 1) := by decide +kernel
theorem dX11_parts_55 : decode cX11_parts 55 = .ok (.invokevirtual 87, 3) := by decide +kernel
theorem dX11_parts_58 : decode cX11_parts 58 = .ok (.if_icmp .ge 39, 3) := by decide +kernel
theorem dX11_parts_61 : decode cX11_parts 61 = .ok (.aload_n 0, 1) := by decide +kernel
theorem dX11_parts_62 : decode cX11_parts 62 = .ok (.iload 4, 2) := by decide +kernel
theorem dX11_parts_64 : decode cX11_parts 64 = .ok (.iload_n 1, 1) := by decide +kernel
theorem dX11_parts_65 : decode cX11_parts 65 = .ok (.invokevirtual 177, 3) := by decide +kernel
theorem dX11_parts_68 : decode cX11_parts 68 = .ok (.iload_n 2, 1) := by decide +kernel
theorem dX11_parts_69 : decode cX11_parts 69 = .ok (.if_icmp .ge 22, 3) := by decide +kernel
theorem dX11_parts_72 : decode cX11_parts 72 = .ok (.aload_n 0, 1) := by decide +kernel
theorem dX11_parts_73 : decode cX11_parts 73 = .ok (.iload 4, 2) := by decide +kernel
theorem dX11_parts_75 : decode cX11_parts 75 = .ok (.iload_n 1, 1) := by decide +kernel
theorem dX11_parts_76 : decode cX11_parts 76 = .ok (.invokevirtual 177, 3) := by decide +kernel
theorem dX11_parts_79 : decode cX11_parts 79 = .ok (.iload_n 3, 1) := by decide +kernel
theorem dX11_parts_80 : decode cX11_parts 80 = .ok (.if_icmp .le 11, 3) := by decide +kernel
theorem dX11_parts_83 : decode cX11_parts 83 = .ok (.aload_n 0, 1) := by decide +kernel
theorem dX11_parts_84 : decode cX11_parts 84 = .ok (.iload 4, 2) := by decide +kernel
theorem dX11_parts_86 : decode cX11_parts 86 = .ok (.iload_n 1, 1) := by decide +kernel
theorem dX11_parts_87 : decode cX11_parts 87 = .ok (.invokevirtual 177, 3) := by decide +kernel
theorem dX11_parts_90 : decode cX11_parts 90 = .ok (.istore_n 3, 1) := by decide +kernel
theorem dX11_parts_91 : decode cX11_parts 91 = .ok (.iinc 4 1, 3) := by decide +kernel
theorem dX11_parts_94 : decode cX11_parts 94 = .ok (.goto (-42), 3) := by decide +kernel
theorem dX11_parts_97 : decode cX11_parts 97 = .ok (.iconst 0, 1) := by decide +kernel
theorem dX11_parts_98 : decode cX11_parts 98 = .ok (.istore 4, 2) := by decide +kernel
theorem dX11_parts_100 : decode cX11_parts 100 = .ok (.iload 4, 2) := by decide +kernel
theorem dX11_parts_102 : decode cX11_parts 102 = .ok (.aload_n 0, 1) := by decide +kernel
theorem dX11_parts_103 : decode cX11_parts 103 = .ok (.invokevirtual 87, 3) := by decide +kernel
theorem dX11_parts_106 : decode cX11_parts 106 = .ok (.if_icmp .ge 43, 3) := by decide +kernel
theorem dX11_parts_109 : decode cX11_parts 109 = .ok (.iload_n 3, 1) := by decide +kernel
theorem dX11_parts_110 : decode cX11_parts 110 = .ok (.ifCond .le 39, 3) := by decide +kernel
theorem dX11_parts_113 : decode cX11_parts 113 = .ok (.aload_n 0, 1) := by decide +kernel
theorem dX11_parts_114 : decode cX11_parts 114 = .ok (.iload 4, 2) := by decide +kernel
theorem dX11_parts_116 : decode cX11_parts 116 = .ok (.iload_n 1, 1) := by decide +kernel
theorem dX11_parts_117 : decode cX11_parts 117 = .ok (.invokevirtual 177, 3) := by decide +kernel
theorem dX11_parts_120 : decode cX11_parts 120 = .ok (.iload_n 3, 1) := by decide +kernel
theorem dX11_parts_121 : decode cX11_parts 121 = .ok (.if_icmp .ne 22, 3) := by decide +kernel
theorem dX11_parts_124 : decode cX11_parts 124 = .ok (.aload_n 0, 1) := by decide +kernel
theorem dX11_parts_125 : decode cX11_parts 125 = .ok (.getfield 42, 3) := by decide +kernel
theorem dX11_parts_128 : decode cX11_parts 128 = .ok (.iload 4, 2) := by decide +kernel
theorem dX11_parts_130 : decode cX11_parts 130 = .ok (.laload, 1) := by decide +kernel
theorem dX11_parts_131 : decode cX11_parts 131 = .ok (.lconst 0, 1) := by decide +kernel
theorem dX11_parts_132 : decode cX11_parts 132 = .ok (.lcmp, 1) := by decide +kernel
theorem dX11_parts_133 : decode cX11_parts 133 = .ok (.ifCond .le 10, 3) := by decide +kernel
theorem dX11_parts_136 : decode cX11_parts 136 = .ok (.aload_n 0, 1) := by decide +kernel
theorem dX11_parts_137 : decode cX11_parts 137 = .ok (.iload 4, 2) := by decide +kernel
theorem dX11_parts_139 : decode cX11_parts 139 = .ok (.iload_n 1, 1) := by decide +kernel
theorem dX11_parts_140 : decode cX11_parts 140 = .ok (.invokevirtual 230, 3) := by decide +kernel
theorem dX11_parts_143 : decode cX11_parts 143 = .ok (.iinc 4 1, 3) := by decide +kernel
theorem dX11_parts_146 : decode cX11_parts 146 = .ok (.goto (-46), 3) := by decide +kernel
theorem dX11_parts_149 : decode cX11_parts 149 = .ok (.iload_n 3, 1) := by decide +kernel
theorem dX11_parts_150 : decode cX11_parts 150 = .ok (.istore_n 2, 1) := by decide +kernel
theorem dX11_parts_151 : decode cX11_parts 151 = .ok (.goto (-108), 3) := by decide +kernel
theorem dX11_parts_154 : decode cX11_parts 154 = .ok (.return_, 1) := by decide +kernel
abbrev mX11_parts : MI := (RX11, yX11_parts, cX11_parts, 5, none)
theorem mok_X11_parts : MOKv mX11_parts 1 := ⟨⟨bm_1571, bm_127, ⟨by decide, by decide⟩, by decide +kernel⟩, bm_1570, bm_75⟩
def f_X11_parts_149  (k43 : Int32 → MH → Option (MH)) (a0 : Nat) (x1 : Int32) (x3 : Int32) (h : MH) : Option (MH) :=
  k43 x3 h
def f_X11_parts_143  (k43 : Int32 → MH → Option (MH)) (k100 : Int32 → MH → Option (MH)) (a0 : Nat) (x1 : Int32) (x3 : Int32) (x4 : Int32) (h : MH) : Option (MH) :=
  k100 (x4 + 1) h
def f_X11_parts_100b  (k43 : Int32 → MH → Option (MH)) (a0 : Nat) (x1 : Int32) (x3 : Int32) (k100 : Int32 → MH → Option (MH)) (p : Int32) (h : MH) : Option (MH) :=
  (f_X11_n a0 h).bind fun q_1 =>
  if p < q_1.1 then
    if 0 < x3 then
      (f_X11_far2 a0 p x1 q_1.2).bind fun q_2 =>
      if q_2.1 = x3 then
        (gR q_2.2 a0 24).bind fun a_3 =>
        (ldL q_2.2 a_3 p).bind fun l_4 =>
        if 0 < l_4 then
          (f_X11_partsFrom a0 p x1 q_2.2).bind fun q_5 =>
          f_X11_parts_143 k43 k100 a0 x1 x3 p q_5
        else
          f_X11_parts_143 k43 k100 a0 x1 x3 p q_2.2
      else
        f_X11_parts_143 k43 k100 a0 x1 x3 p q_2.2
    else
      f_X11_parts_149 k43 a0 x1 x3 q_1.2
  else
    f_X11_parts_149 k43 a0 x1 x3 q_1.2
def f_X11_parts_100  (k43 : Int32 → MH → Option (MH)) (a0 : Nat) (x1 : Int32) (x3 : Int32) : Nat → Int32 → MH → Option (MH) := lp (f_X11_parts_100b k43 a0 x1 x3)
def f_X11_parts_91  (k43 : Int32 → MH → Option (MH)) (k52 : Int32 × Int32 → MH → Option (MH)) (a0 : Nat) (x1 : Int32) (x2 : Int32) (x3 : Int32) (x4 : Int32) (h : MH) : Option (MH) :=
  k52 (x3, (x4 + 1)) h
def f_X11_parts_52b  (k43 : Int32 → MH → Option (MH)) (a0 : Nat) (x1 : Int32) (x2 : Int32) (k52 : Int32 × Int32 → MH → Option (MH)) (p : Int32 × Int32) (h : MH) : Option (MH) :=
  (f_X11_n a0 h).bind fun q_1 =>
  if p.2 < q_1.1 then
    (f_X11_far2 a0 p.2 x1 q_1.2).bind fun q_2 =>
    if q_2.1 < x2 then
      (f_X11_far2 a0 p.2 x1 q_2.2).bind fun q_3 =>
      if p.1 < q_3.1 then
        (f_X11_far2 a0 p.2 x1 q_3.2).bind fun q_4 =>
        f_X11_parts_91 k43 k52 a0 x1 x2 q_4.1 p.2 q_4.2
      else
        f_X11_parts_91 k43 k52 a0 x1 x2 p.1 p.2 q_3.2
    else
      f_X11_parts_91 k43 k52 a0 x1 x2 p.1 p.2 q_2.2
  else
    f_X11_parts_100 k43 a0 x1 p.1 FU 0 q_1.2
def f_X11_parts_52  (k43 : Int32 → MH → Option (MH)) (a0 : Nat) (x1 : Int32) (x2 : Int32) : Nat → Int32 × Int32 → MH → Option (MH) := lp (f_X11_parts_52b k43 a0 x1 x2)
def f_X11_parts_43b   (a0 : Nat) (x1 : Int32) (k43 : Int32 → MH → Option (MH)) (p : Int32) (h : MH) : Option (MH) :=
  if 0 < p then
    f_X11_parts_52 k43 a0 x1 p FU (0, 0) h
  else
    some h
def f_X11_parts_43   (a0 : Nat) (x1 : Int32) : Nat → Int32 → MH → Option (MH) := lp (f_X11_parts_43b a0 x1)
def f_X11_parts_26  (k2 : Int32 → MH → Option (MH)) (a0 : Nat) (x1 : Int32) (x2 : Int32) (t0 : Nat) (t1 : Int32) (t2 : Int64) (h : MH) : Option (MH) :=
  (stL h t0 t1 t2).bind fun h_1 =>
  (gR h_1 a0 25).bind fun a_2 =>
  (stL h_1 a_2 x2 1).bind fun h_3 =>
  k2 (x2 + 1) h_3
def f_X11_parts_2b   (a0 : Nat) (x1 : Int32) (k2 : Int32 → MH → Option (MH)) (p : Int32) (h : MH) : Option (MH) :=
  if p < 10 then
    (gR h a0 24).bind fun a_1 =>
    if p = (gI h a0 14) then
      f_X11_parts_26 k2 a0 x1 p a_1 p 1 h
    else
      f_X11_parts_26 k2 a0 x1 p a_1 p 0 h
  else
    f_X11_parts_43 a0 x1 FU 1000000 h
def f_X11_parts_2   (a0 : Nat) (x1 : Int32) : Nat → Int32 → MH → Option (MH) := lp (f_X11_parts_2b a0 x1)
def f_X11_parts   (a0 : Nat) (x1 : Int32) (h : MH) : Option (MH) :=
  f_X11_parts_2 a0 x1 FU 0 h
set_option maxRecDepth 100000 in
set_option maxHeartbeats 4000000 in
theorem v_X11_parts_149 {l : Launch} {G : GE} {B N : Nat} {S : List SHP} {o : MH} {a0 : Nat} {x1 : Int32} {x3 : Int32}  {k43 : Int32 → MH → Option (MH)} (hk43 : ∀ (p : Int32) (h : MH), k43 p h = some o → V l G B N mX11_parts (rmm 127 0 0) false 0 0 (QV S o) S 0 0 43 [(0, .ref a0), (1, .int x1), (2, .int p)] [] h) (hs0 : S[a0]? = some (.inl 11)) {h : MH} (hf : f_X11_parts_149 k43 a0 x1 x3 h = some o) : V l G B N mX11_parts (rmm 127 0 0) false 0 0 (QV S o) S 0 0 149 [(0, .ref a0), (1, .int x1), (3, .int x3)] [] h := by
  unfold f_X11_parts_149 at hf
  refine V_iload_n (pc' := 150) dX11_parts_149 rfl 2 rfl rfl ?_
  refine V_istore_n (lv' := [(2, .int x3), (0, .ref a0), (1, .int x1), (3, .int x3)]) (pc' := 151) dX11_parts_150 rfl rfl (Nat.le_of_ble_eq_true rfl) rfl ?_
  refine V_goto (tgt := 43) dX11_parts_151 (by decide) ?_
  exact V_sub (lv' := [(0, .ref a0), (1, .int x1), (2, .int x3)]) [1, 2, 0] rfl (hk43 x3 h hf)
set_option maxRecDepth 100000 in
set_option maxHeartbeats 4000000 in
theorem v_X11_parts_143 {l : Launch} {G : GE} {B N : Nat} {S : List SHP} {o : MH} {a0 : Nat} {x1 : Int32} {x3 : Int32} {x4 : Int32}  {k43 : Int32 → MH → Option (MH)} {k100 : Int32 → MH → Option (MH)} (hk43 : ∀ (p : Int32) (h : MH), k43 p h = some o → V l G B N mX11_parts (rmm 127 0 0) false 0 0 (QV S o) S 0 0 43 [(0, .ref a0), (1, .int x1), (2, .int p)] [] h) (hk100 : ∀ (p : Int32) (h : MH), k100 p h = some o → V l G B N mX11_parts (rmm 127 0 0) false 0 0 (QV S o) S 0 0 100 [(0, .ref a0), (1, .int x1), (3, .int x3), (4, .int p)] [] h) (hs0 : S[a0]? = some (.inl 11)) {h : MH} (hf : f_X11_parts_143 k43 k100 a0 x1 x3 x4 h = some o) : V l G B N mX11_parts (rmm 127 0 0) false 0 0 (QV S o) S 0 0 143 [(0, .ref a0), (1, .int x1), (3, .int x3), (4, .int x4)] [] h := by
  unfold f_X11_parts_143 at hf
  refine V_iinc (v := (x4 + 1)) (lv' := [(4, .int (x4 + 1)), (0, .ref a0), (1, .int x1), (3, .int x3)]) (pc' := 146) dX11_parts_143 rfl 3 rfl rfl (Nat.le_of_ble_eq_true rfl) rfl ?_
  refine V_goto (tgt := 100) dX11_parts_146 (by decide) ?_
  exact V_sub (lv' := [(0, .ref a0), (1, .int x1), (3, .int x3), (4, .int (x4 + 1))]) [1, 2, 3, 0] rfl (hk100 (x4 + 1) h hf)
set_option maxRecDepth 100000 in
set_option maxHeartbeats 4000000 in
theorem v_X11_parts_100b {l : Launch} {G : GE} {B N : Nat} {S : List SHP} {o : MH} {a0 : Nat} {x1 : Int32} {x3 : Int32}  {k43 : Int32 → MH → Option (MH)} (hk43 : ∀ (p : Int32) (h : MH), k43 p h = some o → V l G B N mX11_parts (rmm 127 0 0) false 0 0 (QV S o) S 0 0 43 [(0, .ref a0), (1, .int x1), (2, .int p)] [] h) (hs0 : S[a0]? = some (.inl 11)) {k100 : Int32 → MH → Option (MH)} (hk100 : ∀ (p : Int32) (h : MH), k100 p h = some o → V l G B N mX11_parts (rmm 127 0 0) false 0 0 (QV S o) S 0 0 100 [(0, .ref a0), (1, .int x1), (3, .int x3), (4, .int p)] [] h) {p : Int32} {h : MH} (hf : f_X11_parts_100b k43 a0 x1 x3 k100 p h = some o) : V l G B N mX11_parts (rmm 127 0 0) false 0 0 (QV S o) S 0 0 100 [(0, .ref a0), (1, .int x1), (3, .int x3), (4, .int p)] [] h := by
  unfold f_X11_parts_100b at hf
  refine V_iload (pc' := 102) dX11_parts_100 rfl 3 rfl ?_
  refine V_aload_n (pc' := 103) dX11_parts_102 rfl 0 rfl rfl ?_
  refine V_cvI (pc' := 106) (As := []) (rest := [.int p]) dX11_parts_103 rfl mok_X11_n bm_1393 11 (by decide) rfl hs0 rfl rfl (Nat.le_of_ble_eq_true rfl) (by decide) hf (fun q e => ct_X11_n hs0 e) (fun q_1 hf => ?_)
  refine V_icmp_ge (tgt := 149) (pc' := 109) dX11_parts_106 (by decide) rfl hf (fun hf => ?_) (fun hf => ?_)
  ·
    refine V_iload_n (pc' := 110) dX11_parts_109 rfl 2 rfl rfl ?_
    refine V_if_le (tgt := 149) (pc' := 113) dX11_parts_110 (by decide) rfl hf (fun hf => ?_) (fun hf => ?_)
    ·
      refine V_aload_n (pc' := 114) dX11_parts_113 rfl 0 rfl rfl ?_
      refine V_iload (pc' := 116) dX11_parts_114 rfl 3 rfl ?_
      refine V_iload_n (pc' := 117) dX11_parts_116 rfl 1 rfl rfl ?_
      refine V_cvI (pc' := 120) (As := [.int p, .int x1]) (rest := []) dX11_parts_117 rfl mok_X11_far2 bm_1499 11 (by decide) rfl hs0 rfl rfl (Nat.le_of_ble_eq_true rfl) (by decide) hf (fun q e => ct_X11_far2 hs0 e) (fun q_2 hf => ?_)
      refine V_iload_n (pc' := 121) dX11_parts_120 rfl 2 rfl rfl ?_
      refine V_icmp_ne (tgt := 143) (pc' := 124) dX11_parts_121 (by decide) rfl hf (fun hf => ?_) (fun hf => ?_)
      ·
        refine V_aload_n (pc' := 125) dX11_parts_124 rfl 0 rfl rfl ?_
        refine V_getR (pc' := 128) 11 24 dX11_parts_125 rfl (by decide) (Nat.le_of_ble_eq_true rfl) bm_1248 hs0 (fun _ _ _ => rfl) rfl hf (fun a_3 ha_3 hf => ?_)
        refine V_iload (pc' := 130) dX11_parts_128 rfl 3 rfl ?_
        refine V_lald (pc' := 131) dX11_parts_130 rfl ha_3 hf (fun l_4 hf => ?_)
        refine V_lconst (v := 0) (pc' := 132) dX11_parts_131 rfl (by decide) ?_
        refine V_lcmp_le (pc1 := 133) (tgt := 143) (pc' := 136) dX11_parts_132 rfl dX11_parts_133 (by decide) rfl hf (fun hf => ?_) (fun hf => ?_)
        ·
          refine V_aload_n (pc' := 137) dX11_parts_136 rfl 0 rfl rfl ?_
          refine V_iload (pc' := 139) dX11_parts_137 rfl 3 rfl ?_
          refine V_iload_n (pc' := 140) dX11_parts_139 rfl 1 rfl rfl ?_
          refine V_cvV (pc' := 143) (As := [.int p, .int x1]) (rest := []) dX11_parts_140 rfl mok_X11_partsFrom bm_1572 11 (by decide) rfl hs0 rfl rfl (Nat.le_of_ble_eq_true rfl) (by decide) hf (fun q e => ct_X11_partsFrom hs0 e) (fun q_5 hf => ?_)
          exact V_sub (lv' := [(0, .ref a0), (1, .int x1), (3, .int x3), (4, .int p)]) [0, 1, 2, 3] rfl (v_X11_parts_143 hk43 hk100 hs0 hf)
        ·
          exact V_sub (lv' := [(0, .ref a0), (1, .int x1), (3, .int x3), (4, .int p)]) [0, 1, 2, 3] rfl (v_X11_parts_143 hk43 hk100 hs0 hf)
      ·
        exact V_sub (lv' := [(0, .ref a0), (1, .int x1), (3, .int x3), (4, .int p)]) [0, 1, 2, 3] rfl (v_X11_parts_143 hk43 hk100 hs0 hf)
    ·
      exact V_sub (lv' := [(0, .ref a0), (1, .int x1), (3, .int x3)]) [0, 1, 2] rfl (v_X11_parts_149 hk43 hs0 hf)
  ·
    exact V_sub (lv' := [(0, .ref a0), (1, .int x1), (3, .int x3)]) [0, 1, 2] rfl (v_X11_parts_149 hk43 hs0 hf)
theorem v_X11_parts_100 {l : Launch} {G : GE} {B N : Nat} {S : List SHP} {o : MH} {a0 : Nat} {x1 : Int32} {x3 : Int32}  {k43 : Int32 → MH → Option (MH)} (hk43 : ∀ (p : Int32) (h : MH), k43 p h = some o → V l G B N mX11_parts (rmm 127 0 0) false 0 0 (QV S o) S 0 0 43 [(0, .ref a0), (1, .int x1), (2, .int p)] [] h) (hs0 : S[a0]? = some (.inl 11)) {n : Nat} {p : Int32} {h : MH} (hf : f_X11_parts_100 k43 a0 x1 x3 n p h = some o) : V l G B N mX11_parts (rmm 127 0 0) false 0 0 (QV S o) S 0 0 100 [(0, .ref a0), (1, .int x1), (3, .int x3), (4, .int p)] [] h :=
  V_lp (VV := fun p h => V l G B N mX11_parts (rmm 127 0 0) false 0 0 (QV S o) S 0 0 100 [(0, .ref a0), (1, .int x1), (3, .int x3), (4, .int p)] [] h) (fun _ hk _ _ hf => v_X11_parts_100b hk43 hs0 hk hf) n p h hf
set_option maxRecDepth 100000 in
set_option maxHeartbeats 4000000 in
theorem v_X11_parts_91 {l : Launch} {G : GE} {B N : Nat} {S : List SHP} {o : MH} {a0 : Nat} {x1 : Int32} {x2 : Int32} {x3 : Int32} {x4 : Int32}  {k43 : Int32 → MH → Option (MH)} {k52 : Int32 × Int32 → MH → Option (MH)} (hk43 : ∀ (p : Int32) (h : MH), k43 p h = some o → V l G B N mX11_parts (rmm 127 0 0) false 0 0 (QV S o) S 0 0 43 [(0, .ref a0), (1, .int x1), (2, .int p)] [] h) (hk52 : ∀ (p : Int32 × Int32) (h : MH), k52 p h = some o → V l G B N mX11_parts (rmm 127 0 0) false 0 0 (QV S o) S 0 0 52 [(0, .ref a0), (1, .int x1), (2, .int x2), (3, .int p.1), (4, .int p.2)] [] h) (hs0 : S[a0]? = some (.inl 11)) {h : MH} (hf : f_X11_parts_91 k43 k52 a0 x1 x2 x3 x4 h = some o) : V l G B N mX11_parts (rmm 127 0 0) false 0 0 (QV S o) S 0 0 91 [(0, .ref a0), (1, .int x1), (2, .int x2), (3, .int x3), (4, .int x4)] [] h := by
  unfold f_X11_parts_91 at hf
  refine V_iinc (v := (x4 + 1)) (lv' := [(4, .int (x4 + 1)), (0, .ref a0), (1, .int x1), (2, .int x2), (3, .int x3)]) (pc' := 94) dX11_parts_91 rfl 4 rfl rfl (Nat.le_of_ble_eq_true rfl) rfl ?_
  refine V_goto (tgt := 52) dX11_parts_94 (by decide) ?_
  exact V_sub (lv' := [(0, .ref a0), (1, .int x1), (2, .int x2), (3, .int x3), (4, .int (x4 + 1))]) [1, 2, 3, 4, 0] rfl (hk52 (x3, (x4 + 1)) h hf)
set_option maxRecDepth 100000 in
set_option maxHeartbeats 4000000 in
theorem v_X11_parts_52b {l : Launch} {G : GE} {B N : Nat} {S : List SHP} {o : MH} {a0 : Nat} {x1 : Int32} {x2 : Int32}  {k43 : Int32 → MH → Option (MH)} (hk43 : ∀ (p : Int32) (h : MH), k43 p h = some o → V l G B N mX11_parts (rmm 127 0 0) false 0 0 (QV S o) S 0 0 43 [(0, .ref a0), (1, .int x1), (2, .int p)] [] h) (hs0 : S[a0]? = some (.inl 11)) {k52 : Int32 × Int32 → MH → Option (MH)} (hk52 : ∀ (p : Int32 × Int32) (h : MH), k52 p h = some o → V l G B N mX11_parts (rmm 127 0 0) false 0 0 (QV S o) S 0 0 52 [(0, .ref a0), (1, .int x1), (2, .int x2), (3, .int p.1), (4, .int p.2)] [] h) {p : Int32 × Int32} {h : MH} (hf : f_X11_parts_52b k43 a0 x1 x2 k52 p h = some o) : V l G B N mX11_parts (rmm 127 0 0) false 0 0 (QV S o) S 0 0 52 [(0, .ref a0), (1, .int x1), (2, .int x2), (3, .int p.1), (4, .int p.2)] [] h := by
  unfold f_X11_parts_52b at hf
  refine V_iload (pc' := 54) dX11_parts_52 rfl 4 rfl ?_
  refine V_aload_n (pc' := 55) dX11_parts_54 rfl 0 rfl rfl ?_
  refine V_cvI (pc' := 58) (As := []) (rest := [.int p.2]) dX11_parts_55 rfl mok_X11_n bm_1393 11 (by decide) rfl hs0 rfl rfl (Nat.le_of_ble_eq_true rfl) (by decide) hf (fun q e => ct_X11_n hs0 e) (fun q_1 hf => ?_)
  refine V_icmp_ge (tgt := 97) (pc' := 61) dX11_parts_58 (by decide) rfl hf (fun hf => ?_) (fun hf => ?_)
  ·
    refine V_aload_n (pc' := 62) dX11_parts_61 rfl 0 rfl rfl ?_
    refine V_iload (pc' := 64) dX11_parts_62 rfl 4 rfl ?_
    refine V_iload_n (pc' := 65) dX11_parts_64 rfl 1 rfl rfl ?_
    refine V_cvI (pc' := 68) (As := [.int p.2, .int x1]) (rest := []) dX11_parts_65 rfl mok_X11_far2 bm_1499 11 (by decide) rfl hs0 rfl rfl (Nat.le_of_ble_eq_true rfl) (by decide) hf (fun q e => ct_X11_far2 hs0 e) (fun q_2 hf => ?_)
    refine V_iload_n (pc' := 69) dX11_parts_68 rfl 2 rfl rfl ?_
    refine V_icmp_ge (tgt := 91) (pc' := 72) dX11_parts_69 (by decide) rfl hf (fun hf => ?_) (fun hf => ?_)
    ·
      refine V_aload_n (pc' := 73) dX11_parts_72 rfl 0 rfl rfl ?_
      refine V_iload (pc' := 75) dX11_parts_73 rfl 4 rfl ?_
      refine V_iload_n (pc' := 76) dX11_parts_75 rfl 1 rfl rfl ?_
      refine V_cvI (pc' := 79) (As := [.int p.2, .int x1]) (rest := []) dX11_parts_76 rfl mok_X11_far2 bm_1499 11 (by decide) rfl hs0 rfl rfl (Nat.le_of_ble_eq_true rfl) (by decide) hf (fun q e => ct_X11_far2 hs0 e) (fun q_3 hf => ?_)
      refine V_iload_n (pc' := 80) dX11_parts_79 rfl 3 rfl rfl ?_
      refine V_icmp_le (tgt := 91) (pc' := 83) dX11_parts_80 (by decide) rfl hf (fun hf => ?_) (fun hf => ?_)
      ·
        refine V_aload_n (pc' := 84) dX11_parts_83 rfl 0 rfl rfl ?_
        refine V_iload (pc' := 86) dX11_parts_84 rfl 4 rfl ?_
        refine V_iload_n (pc' := 87) dX11_parts_86 rfl 1 rfl rfl ?_
        refine V_cvI (pc' := 90) (As := [.int p.2, .int x1]) (rest := []) dX11_parts_87 rfl mok_X11_far2 bm_1499 11 (by decide) rfl hs0 rfl rfl (Nat.le_of_ble_eq_true rfl) (by decide) hf (fun q e => ct_X11_far2 hs0 e) (fun q_4 hf => ?_)
        refine V_istore_n (lv' := [(3, .int q_4.1), (0, .ref a0), (1, .int x1), (2, .int x2), (4, .int p.2)]) (pc' := 91) dX11_parts_90 rfl rfl (Nat.le_of_ble_eq_true rfl) rfl ?_
        exact V_sub (lv' := [(0, .ref a0), (1, .int x1), (2, .int x2), (3, .int q_4.1), (4, .int p.2)]) [1, 2, 3, 0, 4] rfl (v_X11_parts_91 hk43 hk52 hs0 hf)
      ·
        exact V_sub (lv' := [(0, .ref a0), (1, .int x1), (2, .int x2), (3, .int p.1), (4, .int p.2)]) [0, 1, 2, 3, 4] rfl (v_X11_parts_91 hk43 hk52 hs0 hf)
    ·
      exact V_sub (lv' := [(0, .ref a0), (1, .int x1), (2, .int x2), (3, .int p.1), (4, .int p.2)]) [0, 1, 2, 3, 4] rfl (v_X11_parts_91 hk43 hk52 hs0 hf)
  ·
    refine V_iconst (v := 0) (pc' := 98) dX11_parts_97 rfl (by decide) ?_
    refine V_istore (lv' := [(4, .int 0), (0, .ref a0), (1, .int x1), (2, .int x2), (3, .int p.1)]) (pc' := 100) dX11_parts_98 rfl (Nat.le_of_ble_eq_true rfl) rfl ?_
    exact V_sub (lv' := [(0, .ref a0), (1, .int x1), (3, .int p.1), (4, .int 0)]) [1, 2, 4, 0] rfl (v_X11_parts_100 hk43 hs0 hf)
theorem v_X11_parts_52 {l : Launch} {G : GE} {B N : Nat} {S : List SHP} {o : MH} {a0 : Nat} {x1 : Int32} {x2 : Int32}  {k43 : Int32 → MH → Option (MH)} (hk43 : ∀ (p : Int32) (h : MH), k43 p h = some o → V l G B N mX11_parts (rmm 127 0 0) false 0 0 (QV S o) S 0 0 43 [(0, .ref a0), (1, .int x1), (2, .int p)] [] h) (hs0 : S[a0]? = some (.inl 11)) {n : Nat} {p : Int32 × Int32} {h : MH} (hf : f_X11_parts_52 k43 a0 x1 x2 n p h = some o) : V l G B N mX11_parts (rmm 127 0 0) false 0 0 (QV S o) S 0 0 52 [(0, .ref a0), (1, .int x1), (2, .int x2), (3, .int p.1), (4, .int p.2)] [] h :=
  V_lp (VV := fun p h => V l G B N mX11_parts (rmm 127 0 0) false 0 0 (QV S o) S 0 0 52 [(0, .ref a0), (1, .int x1), (2, .int x2), (3, .int p.1), (4, .int p.2)] [] h) (fun _ hk _ _ hf => v_X11_parts_52b hk43 hs0 hk hf) n p h hf
set_option maxRecDepth 100000 in
set_option maxHeartbeats 4000000 in
theorem v_X11_parts_43b {l : Launch} {G : GE} {B N : Nat} {S : List SHP} {o : MH} {a0 : Nat} {x1 : Int32}    (hs0 : S[a0]? = some (.inl 11)) {k43 : Int32 → MH → Option (MH)} (hk43 : ∀ (p : Int32) (h : MH), k43 p h = some o → V l G B N mX11_parts (rmm 127 0 0) false 0 0 (QV S o) S 0 0 43 [(0, .ref a0), (1, .int x1), (2, .int p)] [] h) {p : Int32} {h : MH} (hf : f_X11_parts_43b a0 x1 k43 p h = some o) : V l G B N mX11_parts (rmm 127 0 0) false 0 0 (QV S o) S 0 0 43 [(0, .ref a0), (1, .int x1), (2, .int p)] [] h := by
  unfold f_X11_parts_43b at hf
  refine V_iload_n (pc' := 44) dX11_parts_43 rfl 2 rfl rfl ?_
  refine V_if_le (tgt := 154) (pc' := 47) dX11_parts_44 (by decide) rfl hf (fun hf => ?_) (fun hf => ?_)
  ·
    refine V_iconst (v := 0) (pc' := 48) dX11_parts_47 rfl (by decide) ?_
    refine V_istore_n (lv' := [(3, .int 0), (0, .ref a0), (1, .int x1), (2, .int p)]) (pc' := 49) dX11_parts_48 rfl rfl (Nat.le_of_ble_eq_true rfl) rfl ?_
    refine V_iconst (v := 0) (pc' := 50) dX11_parts_49 rfl (by decide) ?_
    refine V_istore (lv' := [(4, .int 0), (3, .int 0), (0, .ref a0), (1, .int x1), (2, .int p)]) (pc' := 52) dX11_parts_50 rfl (Nat.le_of_ble_eq_true rfl) rfl ?_
    exact V_sub (lv' := [(0, .ref a0), (1, .int x1), (2, .int p), (3, .int 0), (4, .int 0)]) [2, 3, 4, 1, 0] rfl (v_X11_parts_52 hk43 hs0 hf)
  ·
    obtain rfl := Option.some.inj hf
    exact V_vret dX11_parts_154 rfl rfl rfl ⟨rfl, rfl, rfl⟩
theorem v_X11_parts_43 {l : Launch} {G : GE} {B N : Nat} {S : List SHP} {o : MH} {a0 : Nat} {x1 : Int32}    (hs0 : S[a0]? = some (.inl 11)) {n : Nat} {p : Int32} {h : MH} (hf : f_X11_parts_43 a0 x1 n p h = some o) : V l G B N mX11_parts (rmm 127 0 0) false 0 0 (QV S o) S 0 0 43 [(0, .ref a0), (1, .int x1), (2, .int p)] [] h :=
  V_lp (VV := fun p h => V l G B N mX11_parts (rmm 127 0 0) false 0 0 (QV S o) S 0 0 43 [(0, .ref a0), (1, .int x1), (2, .int p)] [] h) (fun _ hk _ _ hf => v_X11_parts_43b hs0 hk hf) n p h hf
set_option maxRecDepth 100000 in
set_option maxHeartbeats 4000000 in
theorem v_X11_parts_26 {l : Launch} {G : GE} {B N : Nat} {S : List SHP} {o : MH} {a0 : Nat} {x1 : Int32} {x2 : Int32} {t0 : Nat} {t1 : Int32} {t2 : Int64}  {k2 : Int32 → MH → Option (MH)} (hk2 : ∀ (p : Int32) (h : MH), k2 p h = some o → V l G B N mX11_parts (rmm 127 0 0) false 0 0 (QV S o) S 0 0 2 [(0, .ref a0), (1, .int x1), (2, .int p)] [] h) (hs0 : S[a0]? = some (.inl 11)) (ht0 : S[t0]? = some (.inr 1)) {h : MH} (hf : f_X11_parts_26 k2 a0 x1 x2 t0 t1 t2 h = some o) : V l G B N mX11_parts (rmm 127 0 0) false 0 0 (QV S o) S 0 0 26 [(0, .ref a0), (1, .int x1), (2, .int x2)] [.long t2, .int t1, .ref t0] h := by
  unfold f_X11_parts_26 at hf
  refine V_last (pc' := 27) dX11_parts_26 rfl ht0 hf (fun h_1 hf => ?_)
  refine V_aload_n (pc' := 28) dX11_parts_27 rfl 0 rfl rfl ?_
  refine V_getR (pc' := 31) 11 25 dX11_parts_28 rfl (by decide) (Nat.le_of_ble_eq_true rfl) bm_1249 hs0 (fun _ _ _ => rfl) rfl hf (fun a_2 ha_2 hf => ?_)
  refine V_iload_n (pc' := 32) dX11_parts_31 rfl 2 rfl rfl ?_
  refine V_lconst (v := 1) (pc' := 33) dX11_parts_32 rfl (by decide) ?_
  refine V_last (pc' := 34) dX11_parts_33 rfl ha_2 hf (fun h_3 hf => ?_)
  refine V_iinc (v := (x2 + 1)) (lv' := [(2, .int (x2 + 1)), (0, .ref a0), (1, .int x1)]) (pc' := 37) dX11_parts_34 rfl 2 rfl rfl (Nat.le_of_ble_eq_true rfl) rfl ?_
  refine V_goto (tgt := 2) dX11_parts_37 (by decide) ?_
  exact V_sub (lv' := [(0, .ref a0), (1, .int x1), (2, .int (x2 + 1))]) [1, 2, 0] rfl (hk2 (x2 + 1) h_3 hf)
set_option maxRecDepth 100000 in
set_option maxHeartbeats 4000000 in
theorem v_X11_parts_2b {l : Launch} {G : GE} {B N : Nat} {S : List SHP} {o : MH} {a0 : Nat} {x1 : Int32}    (hs0 : S[a0]? = some (.inl 11)) {k2 : Int32 → MH → Option (MH)} (hk2 : ∀ (p : Int32) (h : MH), k2 p h = some o → V l G B N mX11_parts (rmm 127 0 0) false 0 0 (QV S o) S 0 0 2 [(0, .ref a0), (1, .int x1), (2, .int p)] [] h) {p : Int32} {h : MH} (hf : f_X11_parts_2b a0 x1 k2 p h = some o) : V l G B N mX11_parts (rmm 127 0 0) false 0 0 (QV S o) S 0 0 2 [(0, .ref a0), (1, .int x1), (2, .int p)] [] h := by
  unfold f_X11_parts_2b at hf
  refine V_iload_n (pc' := 3) dX11_parts_2 rfl 2 rfl rfl ?_
  refine V_bipush (v := 10) (pc' := 5) dX11_parts_3 rfl (by decide) ?_
  refine V_icmp_ge (tgt := 40) (pc' := 8) dX11_parts_5 (by decide) rfl hf (fun hf => ?_) (fun hf => ?_)
  ·
    refine V_aload_n (pc' := 9) dX11_parts_8 rfl 0 rfl rfl ?_
    refine V_getR (pc' := 12) 11 24 dX11_parts_9 rfl (by decide) (Nat.le_of_ble_eq_true rfl) bm_1248 hs0 (fun _ _ _ => rfl) rfl hf (fun a_1 ha_1 hf => ?_)
    refine V_iload_n (pc' := 13) dX11_parts_12 rfl 2 rfl rfl ?_
    refine V_iload_n (pc' := 14) dX11_parts_13 rfl 2 rfl rfl ?_
    refine V_aload_n (pc' := 15) dX11_parts_14 rfl 0 rfl rfl ?_
    refine V_getI (pc' := 18) 11 14 dX11_parts_15 rfl (by decide) (Nat.le_of_ble_eq_true rfl) bm_1238 hs0 (fun _ _ _ => rfl) ?_
    refine V_icmp_ne (tgt := 25) (pc' := 21) dX11_parts_18 (by decide) rfl hf (fun hf => ?_) (fun hf => ?_)
    ·
      refine V_lconst (v := 1) (pc' := 22) dX11_parts_21 rfl (by decide) ?_
      refine V_goto (tgt := 26) dX11_parts_22 (by decide) ?_
      exact V_sub (lv' := [(0, .ref a0), (1, .int x1), (2, .int p)]) [0, 1, 2] rfl (v_X11_parts_26 hk2 hs0 ha_1 hf)
    ·
      refine V_lconst (v := 0) (pc' := 26) dX11_parts_25 rfl (by decide) ?_
      exact V_sub (lv' := [(0, .ref a0), (1, .int x1), (2, .int p)]) [0, 1, 2] rfl (v_X11_parts_26 hk2 hs0 ha_1 hf)
  ·
    refine V_ldc (v := 1000000) (pc' := 42) dX11_parts_40 rfl bm_1498 ?_
    refine V_istore_n (lv' := [(2, .int 1000000), (0, .ref a0), (1, .int x1)]) (pc' := 43) dX11_parts_42 rfl rfl (Nat.le_of_ble_eq_true rfl) rfl ?_
    exact V_sub (lv' := [(0, .ref a0), (1, .int x1), (2, .int 1000000)]) [1, 2, 0] rfl (v_X11_parts_43 hs0 hf)
theorem v_X11_parts_2 {l : Launch} {G : GE} {B N : Nat} {S : List SHP} {o : MH} {a0 : Nat} {x1 : Int32}    (hs0 : S[a0]? = some (.inl 11)) {n : Nat} {p : Int32} {h : MH} (hf : f_X11_parts_2 a0 x1 n p h = some o) : V l G B N mX11_parts (rmm 127 0 0) false 0 0 (QV S o) S 0 0 2 [(0, .ref a0), (1, .int x1), (2, .int p)] [] h :=
  V_lp (VV := fun p h => V l G B N mX11_parts (rmm 127 0 0) false 0 0 (QV S o) S 0 0 2 [(0, .ref a0), (1, .int x1), (2, .int p)] [] h) (fun _ hk _ _ hf => v_X11_parts_2b hs0 hk hf) n p h hf
set_option maxRecDepth 100000 in
set_option maxHeartbeats 4000000 in
theorem v_X11_parts {l : Launch} {G : GE} {B N : Nat} {S : List SHP} {o : MH} {a0 : Nat} {x1 : Int32}    (hs0 : S[a0]? = some (.inl 11)) {h : MH} (hf : f_X11_parts a0 x1 h = some o) : V l G B N mX11_parts (rmm 127 0 0) false 0 0 (QV S o) S 0 0 0 [(0, .ref a0), (1, .int x1)] [] h := by
  unfold f_X11_parts at hf
  refine V_iconst (v := 0) (pc' := 1) dX11_parts_0 rfl (by decide) ?_
  refine V_istore_n (lv' := [(2, .int 0), (0, .ref a0), (1, .int x1)]) (pc' := 2) dX11_parts_1 rfl rfl (Nat.le_of_ble_eq_true rfl) rfl ?_
  exact V_sub (lv' := [(0, .ref a0), (1, .int x1), (2, .int 0)]) [1, 2, 0] rfl (v_X11_parts_2 hs0 hf)
theorem ct_X11_parts {l : Launch} {S : List SHP} {h : MH} {a0 : Nat} {x1 : Int32} (hs0 : S[a0]? = some (.inl 11)) {q : MH} (hf : f_X11_parts a0 x1 h = some q) : CT l mX11_parts 127 false 0 0 S [.ref a0, .int x1] h (QV S q) :=
  CT_ofV (by decide) rfl (Nat.le_of_ble_eq_true rfl) (fun G B hT => v_X11_parts hs0 hf)
