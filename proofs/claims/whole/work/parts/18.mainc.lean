/-! LabelStacks.at(II)I -/
theorem dX10_at_0 : decode cX10_at 0 = .ok (.iload_n 2, 1) := by decide +kernel
theorem dX10_at_1 : decode cX10_at 1 = .ok (.lookupswitch 48 #[(0, 27), (1, 39)], 27) := by decide +kernel
theorem dX10_at_28 : decode cX10_at 28 = .ok (.aload_n 0, 1) := by decide +kernel
theorem dX10_at_29 : decode cX10_at 29 = .ok (.getfield 12, 3) := by decide +kernel
theorem dX10_at_32 : decode cX10_at 32 = .ok (.getfield 162, 3) := by decide +kernel
theorem dX10_at_35 : decode cX10_at 35 = .ok (.iload_n 1, 1) := by decide +kernel
theorem dX10_at_36 : decode cX10_at 36 = .ok (.invokevirtual 277, 3) := by decide +kernel
theorem dX10_at_39 : decode cX10_at 39 = .ok (.ireturn, 1) := by decide +kernel
theorem dX10_at_40 : decode cX10_at 40 = .ok (.aload_n 0, 1) := by decide +kernel
theorem dX10_at_41 : decode cX10_at 41 = .ok (.getfield 21, 3) := by decide +kernel
theorem dX10_at_44 : decode cX10_at 44 = .ok (.iload_n 1, 1) := by decide +kernel
theorem dX10_at_45 : decode cX10_at 45 = .ok (.invokevirtual 277, 3) := by decide +kernel
theorem dX10_at_48 : decode cX10_at 48 = .ok (.ireturn, 1) := by decide +kernel
theorem dX10_at_49 : decode cX10_at 49 = .ok (.iconst (-1), 1) := by decide +kernel
theorem dX10_at_50 : decode cX10_at 50 = .ok (.ireturn, 1) := by decide +kernel
abbrev mX10_at : MI := (RX10, yX10_at, cX10_at, 3, (some .int))
theorem mok_X10_at : MOKv mX10_at 2 := ⟨⟨bm_1187, bm_114, ⟨by decide, by decide⟩, by decide +kernel⟩, bm_1185, bm_1186⟩
def f_X10_at   (a0 : Nat) (x1 : Int32) (x2 : Int32) (h : MH) : Option (Int32 × MH) :=
  if x2 = 0 then
    (gR h a0 0).bind fun a_1 =>
    (gR h a_1 6).bind fun a_2 =>
    (f_X5_get a_2 x1 h).bind fun q_3 =>
    some (q_3.1, q_3.2)
  else
  if x2 = 1 then
      (gR h a0 1).bind fun a_4 =>
      (f_X5_get a_4 x1 h).bind fun q_5 =>
      some (q_5.1, q_5.2)
  else
      some ((-1 : Int32), h)
set_option maxRecDepth 100000 in
set_option maxHeartbeats 4000000 in
theorem v_X10_at {l : Launch} {G : GE} {B N : Nat} {S : List SHP} {o : Int32 × MH} {a0 : Nat} {x1 : Int32} {x2 : Int32}    (hs0 : S[a0]? = some (.inl 10)) {h : MH} (hf : f_X10_at a0 x1 x2 h = some o) : V l G B N mX10_at (rmm 4 0 0) false 0 0 (QI S o) S 0 0 0 [(0, .ref a0), (1, .int x1), (2, .int x2)] [] h := by
  unfold f_X10_at at hf
  refine V_iload_n (pc' := 1) dX10_at_0 rfl 2 rfl rfl ?_
  by_cases cc0 : x2 = 0
  ·
    replace hf := (if_pos cc0).symm.trans hf
    refine V_look (off := 27) (tgt := 28) dX10_at_1 (by decide) (by rw [cc0]; rfl) (by decide) ?_
    refine V_aload_n (pc' := 29) dX10_at_28 rfl 0 rfl rfl ?_
    refine V_getR (pc' := 32) 10 0 dX10_at_29 rfl (by decide) (Nat.le_of_ble_eq_true rfl) bm_458 hs0 (fun _ _ _ => rfl) rfl hf (fun a_1 ha_1 hf => ?_)
    refine V_getR (pc' := 35) 7 6 dX10_at_32 rfl (by decide) (Nat.le_of_ble_eq_true rfl) bm_275 ha_1 (fun _ _ _ => rfl) rfl hf (fun a_2 ha_2 hf => ?_)
    refine V_iload_n (pc' := 36) dX10_at_35 rfl 1 rfl rfl ?_
    refine V_cvI (pc' := 39) (As := [.int x1]) (rest := []) dX10_at_36 rfl mok_X5_get bm_613 5 (by decide) rfl ha_2 rfl rfl (Nat.le_of_ble_eq_true rfl) (by decide) hf (fun q e => ct_X5_get ha_2 e) (fun q_3 hf => ?_)
    obtain rfl := Option.some.inj hf
    exact V_iret dX10_at_39 rfl rfl rfl ⟨rfl, rfl, rfl⟩
  ·
    replace hf := (if_neg cc0).symm.trans hf
    by_cases cc1 : x2 = 1
    ·
      replace hf := (if_pos cc1).symm.trans hf
      refine V_look (off := 39) (tgt := 40) dX10_at_1 (by decide) (by rw [cc1]; rfl) (by decide) ?_
      refine V_aload_n (pc' := 41) dX10_at_40 rfl 0 rfl rfl ?_
      refine V_getR (pc' := 44) 10 1 dX10_at_41 rfl (by decide) (Nat.le_of_ble_eq_true rfl) bm_459 hs0 (fun _ _ _ => rfl) rfl hf (fun a_4 ha_4 hf => ?_)
      refine V_iload_n (pc' := 45) dX10_at_44 rfl 1 rfl rfl ?_
      refine V_cvI (pc' := 48) (As := [.int x1]) (rest := []) dX10_at_45 rfl mok_X5_get bm_613 5 (by decide) rfl ha_4 rfl rfl (Nat.le_of_ble_eq_true rfl) (by decide) hf (fun q e => ct_X5_get ha_4 e) (fun q_5 hf => ?_)
      obtain rfl := Option.some.inj hf
      exact V_iret dX10_at_48 rfl rfl rfl ⟨rfl, rfl, rfl⟩
    ·
      replace hf := (if_neg cc1).symm.trans hf
      refine V_look (off := 48) (tgt := 49) dX10_at_1 (by decide) (by have e0 := tI_ne (z := 0) (by decide) cc0; have e1 := tI_ne (z := 1) (by decide) cc1; simp [Op.lookupswitch.offset, e0, e0.symm, e1, e1.symm]) (by decide) ?_
      refine V_iconst (v := (-1)) (pc' := 50) dX10_at_49 rfl (by decide) ?_
      obtain rfl := Option.some.inj hf
      exact V_iret dX10_at_50 rfl rfl rfl ⟨rfl, rfl, rfl⟩
theorem ct_X10_at {l : Launch} {S : List SHP} {h : MH} {a0 : Nat} {x1 : Int32} {x2 : Int32} (hs0 : S[a0]? = some (.inl 10)) {q : Int32 × MH} (hf : f_X10_at a0 x1 x2 h = some q) : CT l mX10_at 4 false 0 0 S [.ref a0, .int x1, .int x2] h (QI S q) :=
  CT_ofV (by decide) rfl (Nat.le_of_ble_eq_true rfl) (fun G B hT => v_X10_at hs0 hf)
/-! LabelStacks.linkOf(II)I -/
theorem dX10_linkOf_0 : decode cX10_linkOf 0 = .ok (.aload_n 0, 1) := by decide +kernel
theorem dX10_linkOf_1 : decode cX10_linkOf 1 = .ok (.getfield 12, 3) := by decide +kernel
theorem dX10_linkOf_4 : decode cX10_linkOf 4 = .ok (.getfield 99, 3) := by decide +kernel
theorem dX10_linkOf_7 : decode cX10_linkOf 7 = .ok (.astore_n 3, 1) := by decide +kernel
theorem dX10_linkOf_8 : decode cX10_linkOf 8 = .ok (.aload_n 3, 1) := by decide +kernel
theorem dX10_linkOf_9 : decode cX10_linkOf 9 = .ok (.iload_n 1, 1) := by decide +kernel
theorem dX10_linkOf_10 : decode cX10_linkOf 10 = .ok (.invokevirtual 125, 3) := by decide +kernel
theorem dX10_linkOf_13 : decode cX10_linkOf 13 = .ok (.ifCond .ne 5, 3) := by decide +kernel
theorem dX10_linkOf_16 : decode cX10_linkOf 16 = .ok (.iconst (-1), 1) := by decide +kernel
theorem dX10_linkOf_17 : decode cX10_linkOf 17 = .ok (.ireturn, 1) := by decide +kernel
theorem dX10_linkOf_18 : decode cX10_linkOf 18 = .ok (.iload_n 2, 1) := by decide +kernel
theorem dX10_linkOf_19 : decode cX10_linkOf 19 = .ok (.tableswitch 64 0 3 #[29, 36, 43, 50], 29) := by decide +kernel
theorem dX10_linkOf_48 : decode cX10_linkOf 48 = .ok (.aload_n 3, 1) := by decide +kernel
theorem dX10_linkOf_49 : decode cX10_linkOf 49 = .ok (.getfield 171, 3) := by decide +kernel
theorem dX10_linkOf_52 : decode cX10_linkOf 52 = .ok (.iload_n 1, 1) := by decide +kernel
theorem dX10_linkOf_53 : decode cX10_linkOf 53 = .ok (.iaload, 1) := by decide +kernel
theorem dX10_linkOf_54 : decode cX10_linkOf 54 = .ok (.ireturn, 1) := by decide +kernel
theorem dX10_linkOf_55 : decode cX10_linkOf 55 = .ok (.aload_n 3, 1) := by decide +kernel
theorem dX10_linkOf_56 : decode cX10_linkOf 56 = .ok (.getfield 341, 3) := by decide +kernel
theorem dX10_linkOf_59 : decode cX10_linkOf 59 = .ok (.iload_n 1, 1) := by decide +kernel
theorem dX10_linkOf_60 : decode cX10_linkOf 60 = .ok (.iaload, 1) := by decide +kernel
theorem dX10_linkOf_61 : decode cX10_linkOf 61 = .ok (.ireturn, 1) := by decide +kernel
theorem dX10_linkOf_62 : decode cX10_linkOf 62 = .ok (.aload_n 3, 1) := by decide +kernel
theorem dX10_linkOf_63 : decode cX10_linkOf 63 = .ok (.getfield 135, 3) := by decide +kernel
theorem dX10_linkOf_66 : decode cX10_linkOf 66 = .ok (.iload_n 1, 1) := by decide +kernel
theorem dX10_linkOf_67 : decode cX10_linkOf 67 = .ok (.iaload, 1) := by decide +kernel
theorem dX10_linkOf_68 : decode cX10_linkOf 68 = .ok (.ireturn, 1) := by decide +kernel
theorem dX10_linkOf_69 : decode cX10_linkOf 69 = .ok (.aload_n 3, 1) := by decide +kernel
theorem dX10_linkOf_70 : decode cX10_linkOf 70 = .ok (.iload_n 1, 1) := by decide +kernel
theorem dX10_linkOf_71 : decode cX10_linkOf 71 = .ok (.invokevirtual 128, 3) := by decide +kernel
theorem dX10_linkOf_74 : decode cX10_linkOf 74 = .ok (.ifCond .eq 7, 3) := by decide +kernel
theorem dX10_linkOf_77 : decode cX10_linkOf 77 = .ok (.iconst 1, 1) := by decide +kernel
theorem dX10_linkOf_78 : decode cX10_linkOf 78 = .ok (.goto 4, 3) := by decide +kernel
theorem dX10_linkOf_81 : decode cX10_linkOf 81 = .ok (.iconst 0, 1) := by decide +kernel
theorem dX10_linkOf_82 : decode cX10_linkOf 82 = .ok (.ireturn, 1) := by decide +kernel
theorem dX10_linkOf_83 : decode cX10_linkOf 83 = .ok (.iconst (-1), 1) := by decide +kernel
theorem dX10_linkOf_84 : decode cX10_linkOf 84 = .ok (.ireturn, 1) := by decide +kernel
abbrev mX10_linkOf : MI := (RX10, yX10_linkOf, cX10_linkOf, 4, (some .int))
theorem mok_X10_linkOf : MOKv mX10_linkOf 2 := ⟨⟨bm_1191, bm_114, ⟨by decide, by decide⟩, by decide +kernel⟩, bm_1189, bm_1190⟩
def f_X10_linkOf   (a0 : Nat) (x1 : Int32) (x2 : Int32) (h : MH) : Option (Int32 × MH) :=
  (gR h a0 0).bind fun a_1 =>
  (gR h a_1 0).bind fun a_2 =>
  (f_X2_hasLink a_2 x1 h).bind fun q_3 =>
  if q_3.1 = 0 then
    some ((-1 : Int32), q_3.2)
  else
    if x2 = 0 then
      (gR q_3.2 a_2 3).bind fun a_4 =>
      (ldI q_3.2 a_4 x1).bind fun x_5 =>
      some (x_5, q_3.2)
    else
    if x2 = 1 then
        (gR q_3.2 a_2 4).bind fun a_6 =>
        (ldI q_3.2 a_6 x1).bind fun x_7 =>
        some (x_7, q_3.2)
    else
    if x2 = 2 then
          (gR q_3.2 a_2 5).bind fun a_8 =>
          (ldI q_3.2 a_8 x1).bind fun x_9 =>
          some (x_9, q_3.2)
    else
    if x2 = 3 then
            (f_X2_isUp a_2 x1 q_3.2).bind fun q_10 =>
            if q_10.1 = 0 then
              some (0, q_10.2)
            else
              some (1, q_10.2)
    else
            some ((-1 : Int32), q_3.2)
set_option maxRecDepth 100000 in
set_option maxHeartbeats 4000000 in
theorem v_X10_linkOf {l : Launch} {G : GE} {B N : Nat} {S : List SHP} {o : Int32 × MH} {a0 : Nat} {x1 : Int32} {x2 : Int32}    (hs0 : S[a0]? = some (.inl 10)) {h : MH} (hf : f_X10_linkOf a0 x1 x2 h = some o) : V l G B N mX10_linkOf (rmm 4 0 0) false 0 0 (QI S o) S 0 0 0 [(0, .ref a0), (1, .int x1), (2, .int x2)] [] h := by
  unfold f_X10_linkOf at hf
  refine V_aload_n (pc' := 1) dX10_linkOf_0 rfl 0 rfl rfl ?_
  refine V_getR (pc' := 4) 10 0 dX10_linkOf_1 rfl (by decide) (Nat.le_of_ble_eq_true rfl) bm_458 hs0 (fun _ _ _ => rfl) rfl hf (fun a_1 ha_1 hf => ?_)
  refine V_getR (pc' := 7) 7 0 dX10_linkOf_4 rfl (by decide) (Nat.le_of_ble_eq_true rfl) bm_263 ha_1 (fun _ _ _ => rfl) rfl hf (fun a_2 ha_2 hf => ?_)
  refine V_astore_n (lv' := [(3, .ref a_2), (0, .ref a0), (1, .int x1), (2, .int x2)]) (pc' := 8) dX10_linkOf_7 rfl rfl (Nat.le_of_ble_eq_true rfl) rfl ?_
  refine V_aload_n (pc' := 9) dX10_linkOf_8 rfl 0 rfl rfl ?_
  refine V_iload_n (pc' := 10) dX10_linkOf_9 rfl 2 rfl rfl ?_
  refine V_cvI (pc' := 13) (As := [.int x1]) (rest := []) dX10_linkOf_10 rfl mok_X2_hasLink bm_589 2 (by decide) rfl ha_2 rfl rfl (Nat.le_of_ble_eq_true rfl) (by decide) hf (fun q e => ct_X2_hasLink ha_2 e) (fun q_3 hf => ?_)
  refine V_if_ne (tgt := 18) (pc' := 16) dX10_linkOf_13 (by decide) rfl hf (fun hf => ?_) (fun hf => ?_)
  ·
    refine V_iconst (v := (-1)) (pc' := 17) dX10_linkOf_16 rfl (by decide) ?_
    obtain rfl := Option.some.inj hf
    exact V_iret dX10_linkOf_17 rfl rfl rfl ⟨rfl, rfl, rfl⟩
  ·
    refine V_iload_n (pc' := 19) dX10_linkOf_18 rfl 3 rfl rfl ?_
    by_cases cc0 : x2 = 0
    ·
      replace hf := (if_pos cc0).symm.trans hf
      refine V_tabIn (off := 29) (tgt := 48) dX10_linkOf_19 (by rw [cc0]; decide) (by rw [cc0]; decide) (by rw [cc0]; rfl) (by decide) ?_
      refine V_aload_n (pc' := 49) dX10_linkOf_48 rfl 0 rfl rfl ?_
      refine V_getR (pc' := 52) 2 3 dX10_linkOf_49 rfl (by decide) (Nat.le_of_ble_eq_true rfl) bm_200 ha_2 (fun _ _ _ => rfl) rfl hf (fun a_4 ha_4 hf => ?_)
      refine V_iload_n (pc' := 53) dX10_linkOf_52 rfl 2 rfl rfl ?_
      refine V_iald (pc' := 54) dX10_linkOf_53 rfl ha_4 hf (fun x_5 hf => ?_)
      obtain rfl := Option.some.inj hf
      exact V_iret dX10_linkOf_54 rfl rfl rfl ⟨rfl, rfl, rfl⟩
    ·
      replace hf := (if_neg cc0).symm.trans hf
      by_cases cc1 : x2 = 1
      ·
        replace hf := (if_pos cc1).symm.trans hf
        refine V_tabIn (off := 36) (tgt := 55) dX10_linkOf_19 (by rw [cc1]; decide) (by rw [cc1]; decide) (by rw [cc1]; rfl) (by decide) ?_
        refine V_aload_n (pc' := 56) dX10_linkOf_55 rfl 0 rfl rfl ?_
        refine V_getR (pc' := 59) 2 4 dX10_linkOf_56 rfl (by decide) (Nat.le_of_ble_eq_true rfl) bm_206 ha_2 (fun _ _ _ => rfl) rfl hf (fun a_6 ha_6 hf => ?_)
        refine V_iload_n (pc' := 60) dX10_linkOf_59 rfl 2 rfl rfl ?_
        refine V_iald (pc' := 61) dX10_linkOf_60 rfl ha_6 hf (fun x_7 hf => ?_)
        obtain rfl := Option.some.inj hf
        exact V_iret dX10_linkOf_61 rfl rfl rfl ⟨rfl, rfl, rfl⟩
      ·
        replace hf := (if_neg cc1).symm.trans hf
        by_cases cc2 : x2 = 2
        ·
          replace hf := (if_pos cc2).symm.trans hf
          refine V_tabIn (off := 43) (tgt := 62) dX10_linkOf_19 (by rw [cc2]; decide) (by rw [cc2]; decide) (by rw [cc2]; rfl) (by decide) ?_
          refine V_aload_n (pc' := 63) dX10_linkOf_62 rfl 0 rfl rfl ?_
          refine V_getR (pc' := 66) 2 5 dX10_linkOf_63 rfl (by decide) (Nat.le_of_ble_eq_true rfl) bm_209 ha_2 (fun _ _ _ => rfl) rfl hf (fun a_8 ha_8 hf => ?_)
          refine V_iload_n (pc' := 67) dX10_linkOf_66 rfl 2 rfl rfl ?_
          refine V_iald (pc' := 68) dX10_linkOf_67 rfl ha_8 hf (fun x_9 hf => ?_)
          obtain rfl := Option.some.inj hf
          exact V_iret dX10_linkOf_68 rfl rfl rfl ⟨rfl, rfl, rfl⟩
        ·
          replace hf := (if_neg cc2).symm.trans hf
          by_cases cc3 : x2 = 3
          ·
            replace hf := (if_pos cc3).symm.trans hf
            refine V_tabIn (off := 50) (tgt := 69) dX10_linkOf_19 (by rw [cc3]; decide) (by rw [cc3]; decide) (by rw [cc3]; rfl) (by decide) ?_
            refine V_aload_n (pc' := 70) dX10_linkOf_69 rfl 0 rfl rfl ?_
            refine V_iload_n (pc' := 71) dX10_linkOf_70 rfl 2 rfl rfl ?_
            refine V_cvI (pc' := 74) (As := [.int x1]) (rest := []) dX10_linkOf_71 rfl mok_X2_isUp bm_593 2 (by decide) rfl ha_2 rfl rfl (Nat.le_of_ble_eq_true rfl) (by decide) hf (fun q e => ct_X2_isUp ha_2 e) (fun q_10 hf => ?_)
            refine V_if_eq (tgt := 81) (pc' := 77) dX10_linkOf_74 (by decide) rfl hf (fun hf => ?_) (fun hf => ?_)
            ·
              refine V_iconst (v := 0) (pc' := 82) dX10_linkOf_81 rfl (by decide) ?_
              obtain rfl := Option.some.inj hf
              exact V_iret dX10_linkOf_82 rfl rfl rfl ⟨rfl, rfl, rfl⟩
            ·
              refine V_iconst (v := 1) (pc' := 78) dX10_linkOf_77 rfl (by decide) ?_
              refine V_goto (tgt := 82) dX10_linkOf_78 (by decide) ?_
              obtain rfl := Option.some.inj hf
              exact V_iret dX10_linkOf_82 rfl rfl rfl ⟨rfl, rfl, rfl⟩
          ·
            replace hf := (if_neg cc3).symm.trans hf
            refine V_tabOut (tgt := 83) dX10_linkOf_19 (by have e0 := tI_ne (z := 0) (by decide) cc0; have e1 := tI_ne (z := 1) (by decide) cc1; have e2 := tI_ne (z := 2) (by decide) cc2; have e3 := tI_ne (z := 3) (by decide) cc3; omega) (by decide) ?_
            refine V_iconst (v := (-1)) (pc' := 84) dX10_linkOf_83 rfl (by decide) ?_
            obtain rfl := Option.some.inj hf
            exact V_iret dX10_linkOf_84 rfl rfl rfl ⟨rfl, rfl, rfl⟩
theorem ct_X10_linkOf {l : Launch} {S : List SHP} {h : MH} {a0 : Nat} {x1 : Int32} {x2 : Int32} (hs0 : S[a0]? = some (.inl 10)) {q : Int32 × MH} (hf : f_X10_linkOf a0 x1 x2 h = some q) : CT l mX10_linkOf 4 false 0 0 S [.ref a0, .int x1, .int x2] h (QI S q) :=
  CT_ofV (by decide) rfl (Nat.le_of_ble_eq_true rfl) (fun G B hT => v_X10_linkOf hs0 hf)
/-! LabelStacks.binding(II)I -/
theorem dX10_binding_0 : decode cX10_binding 0 = .ok (.iload_n 1, 1) := by decide +kernel
theorem dX10_binding_1 : decode cX10_binding 1 = .ok (.invokestatic 139, 3) := by decide +kernel
theorem dX10_binding_4 : decode cX10_binding 4 = .ok (.ifCond .eq 19, 3) := by decide +kernel
theorem dX10_binding_7 : decode cX10_binding 7 = .ok (.aload_n 0, 1) := by decide +kernel
theorem dX10_binding_8 : decode cX10_binding 8 = .ok (.getfield 12, 3) := by decide +kernel
theorem dX10_binding_11 : decode cX10_binding 11 = .ok (.getfield 99, 3) := by decide +kernel
theorem dX10_binding_14 : decode cX10_binding 14 = .ok (.getfield 146, 3) := by decide +kernel
theorem dX10_binding_17 : decode cX10_binding 17 = .ok (.iload_n 1, 1) := by decide +kernel
theorem dX10_binding_18 : decode cX10_binding 18 = .ok (.iaload, 1) := by decide +kernel
theorem dX10_binding_19 : decode cX10_binding 19 = .ok (.iconst (-1), 1) := by decide +kernel
theorem dX10_binding_20 : decode cX10_binding 20 = .ok (.if_icmp .ne 5, 3) := by decide +kernel
theorem dX10_binding_23 : decode cX10_binding 23 = .ok (.iconst (-1), 1) := by decide +kernel
theorem dX10_binding_24 : decode cX10_binding 24 = .ok (.ireturn, 1) := by decide +kernel
theorem dX10_binding_25 : decode cX10_binding 25 = .ok (.iload_n 2, 1) := by decide +kernel
theorem dX10_binding_26 : decode cX10_binding 26 = .ok (.ifCond .ne 16, 3) := by decide +kernel
theorem dX10_binding_29 : decode cX10_binding 29 = .ok (.aload_n 0, 1) := by decide +kernel
theorem dX10_binding_30 : decode cX10_binding 30 = .ok (.getfield 12, 3) := by decide +kernel
theorem dX10_binding_33 : decode cX10_binding 33 = .ok (.getfield 99, 3) := by decide +kernel
theorem dX10_binding_36 : decode cX10_binding 36 = .ok (.getfield 146, 3) := by decide +kernel
theorem dX10_binding_39 : decode cX10_binding 39 = .ok (.iload_n 1, 1) := by decide +kernel
theorem dX10_binding_40 : decode cX10_binding 40 = .ok (.iaload, 1) := by decide +kernel
theorem dX10_binding_41 : decode cX10_binding 41 = .ok (.ireturn, 1) := by decide +kernel
theorem dX10_binding_42 : decode cX10_binding 42 = .ok (.iload_n 2, 1) := by decide +kernel
theorem dX10_binding_43 : decode cX10_binding 43 = .ok (.iconst 1, 1) := by decide +kernel
theorem dX10_binding_44 : decode cX10_binding 44 = .ok (.if_icmp .ne 18, 3) := by decide +kernel
theorem dX10_binding_47 : decode cX10_binding 47 = .ok (.aload_n 0, 1) := by decide +kernel
theorem dX10_binding_48 : decode cX10_binding 48 = .ok (.getfield 12, 3) := by decide +kernel
theorem dX10_binding_51 : decode cX10_binding 51 = .ok (.getfield 99, 3) := by decide +kernel
theorem dX10_binding_54 : decode cX10_binding 54 = .ok (.getfield 149, 3) := by decide +kernel
theorem dX10_binding_57 : decode cX10_binding 57 = .ok (.iload_n 1, 1) := by decide +kernel
theorem dX10_binding_58 : decode cX10_binding 58 = .ok (.invokevirtual 344, 3) := by decide +kernel
theorem dX10_binding_61 : decode cX10_binding 61 = .ok (.ireturn, 1) := by decide +kernel
theorem dX10_binding_62 : decode cX10_binding 62 = .ok (.iload_n 2, 1) := by decide +kernel
theorem dX10_binding_63 : decode cX10_binding 63 = .ok (.bipush 10, 2) := by decide +kernel
theorem dX10_binding_65 : decode cX10_binding 65 = .ok (.if_icmp .ge 7, 3) := by decide +kernel
theorem dX10_binding_68 : decode cX10_binding 68 = .ok (.iconst (-1), 1) := by decide +kernel
theorem dX10_binding_69 : decode cX10_binding 69 = .ok (.goto 21, 3) := by decide +kernel
theorem dX10_binding_72 : decode cX10_binding 72 = .ok (.aload_n 0, 1) := by decide +kernel
theorem dX10_binding_73 : decode cX10_binding 73 = .ok (.getfield 12, 3) := by decide +kernel
theorem dX10_binding_76 : decode cX10_binding 76 = .ok (.getfield 99, 3) := by decide +kernel
theorem dX10_binding_79 : decode cX10_binding 79 = .ok (.getfield 149, 3) := by decide +kernel
theorem dX10_binding_82 : decode cX10_binding 82 = .ok (.iload_n 1, 1) := by decide +kernel
theorem dX10_binding_83 : decode cX10_binding 83 = .ok (.iload_n 2, 1) := by decide +kernel
theorem dX10_binding_84 : decode cX10_binding 84 = .ok (.bipush 10, 2) := by decide +kernel
theorem dX10_binding_86 : decode cX10_binding 86 = .ok (.isub, 1) := by decide +kernel
theorem dX10_binding_87 : decode cX10_binding 87 = .ok (.invokevirtual 347, 3) := by decide +kernel
theorem dX10_binding_90 : decode cX10_binding 90 = .ok (.ireturn, 1) := by decide +kernel
abbrev mX10_binding : MI := (RX10, yX10_binding, cX10_binding, 3, (some .int))
theorem mok_X10_binding : MOKv mX10_binding 2 := ⟨⟨bm_1195, bm_114, ⟨by decide, by decide⟩, by decide +kernel⟩, bm_1193, bm_1194⟩
def f_X10_binding   (a0 : Nat) (x1 : Int32) (x2 : Int32) (h : MH) : Option (Int32 × MH) :=
  (f_X10_isBinding x1 h).bind fun q_1 =>
  if q_1.1 = 0 then
    some ((-1 : Int32), q_1.2)
  else
    (gR q_1.2 a0 0).bind fun a_2 =>
    (gR q_1.2 a_2 0).bind fun a_3 =>
    (gR q_1.2 a_3 6).bind fun a_4 =>
    (ldI q_1.2 a_4 x1).bind fun x_5 =>
    if x_5 = (-1 : Int32) then
      some ((-1 : Int32), q_1.2)
    else
      if x2 = 0 then
        (gR q_1.2 a0 0).bind fun a_6 =>
        (gR q_1.2 a_6 0).bind fun a_7 =>
        (gR q_1.2 a_7 6).bind fun a_8 =>
        (ldI q_1.2 a_8 x1).bind fun x_9 =>
        some (x_9, q_1.2)
      else
        if x2 = 1 then
          (gR q_1.2 a0 0).bind fun a_10 =>
          (gR q_1.2 a_10 0).bind fun a_11 =>
          (gR q_1.2 a_11 7).bind fun a_12 =>
          (f_X6_sizeOf a_12 x1 q_1.2).bind fun q_13 =>
          some (q_13.1, q_13.2)
        else
          if x2 < 10 then
            some ((-1 : Int32), q_1.2)
          else
            (gR q_1.2 a0 0).bind fun a_14 =>
            (gR q_1.2 a_14 0).bind fun a_15 =>
            (gR q_1.2 a_15 7).bind fun a_16 =>
            (f_X6_get a_16 x1 (x2 - 10) q_1.2).bind fun q_17 =>
            some (q_17.1, q_17.2)
set_option maxRecDepth 100000 in
set_option maxHeartbeats 4000000 in
theorem v_X10_binding {l : Launch} {G : GE} {B N : Nat} {S : List SHP} {o : Int32 × MH} {a0 : Nat} {x1 : Int32} {x2 : Int32}    (hs0 : S[a0]? = some (.inl 10)) {h : MH} (hf : f_X10_binding a0 x1 x2 h = some o) : V l G B N mX10_binding (rmm 5 0 0) false 0 0 (QI S o) S 0 0 0 [(0, .ref a0), (1, .int x1), (2, .int x2)] [] h := by
  unfold f_X10_binding at hf
  refine V_iload_n (pc' := 1) dX10_binding_0 rfl 1 rfl rfl ?_
  refine V_csI (pc' := 4) (As := [.int x1]) (rest := []) dX10_binding_1 rfl mok_X10_isBinding bm_606 rfl rfl (Nat.le_of_ble_eq_true rfl) (by decide) hf (fun q e => ct_X10_isBinding  e) (fun q_1 hf => ?_)
  refine V_if_eq (tgt := 23) (pc' := 7) dX10_binding_4 (by decide) rfl hf (fun hf => ?_) (fun hf => ?_)
  ·
    refine V_iconst (v := (-1)) (pc' := 24) dX10_binding_23 rfl (by decide) ?_
    obtain rfl := Option.some.inj hf
    exact V_iret dX10_binding_24 rfl rfl rfl ⟨rfl, rfl, rfl⟩
  ·
    refine V_aload_n (pc' := 8) dX10_binding_7 rfl 0 rfl rfl ?_
    refine V_getR (pc' := 11) 10 0 dX10_binding_8 rfl (by decide) (Nat.le_of_ble_eq_true rfl) bm_458 hs0 (fun _ _ _ => rfl) rfl hf (fun a_2 ha_2 hf => ?_)
    refine V_getR (pc' := 14) 7 0 dX10_binding_11 rfl (by decide) (Nat.le_of_ble_eq_true rfl) bm_263 ha_2 (fun _ _ _ => rfl) rfl hf (fun a_3 ha_3 hf => ?_)
    refine V_getR (pc' := 17) 2 6 dX10_binding_14 rfl (by decide) (Nat.le_of_ble_eq_true rfl) bm_213 ha_3 (fun _ _ _ => rfl) rfl hf (fun a_4 ha_4 hf => ?_)
    refine V_iload_n (pc' := 18) dX10_binding_17 rfl 1 rfl rfl ?_
    refine V_iald (pc' := 19) dX10_binding_18 rfl ha_4 hf (fun x_5 hf => ?_)
    refine V_iconst (v := (-1)) (pc' := 20) dX10_binding_19 rfl (by decide) ?_
    refine V_icmp_ne (tgt := 25) (pc' := 23) dX10_binding_20 (by decide) rfl hf (fun hf => ?_) (fun hf => ?_)
    ·
      refine V_iconst (v := (-1)) (pc' := 24) dX10_binding_23 rfl (by decide) ?_
      obtain rfl := Option.some.inj hf
      exact V_iret dX10_binding_24 rfl rfl rfl ⟨rfl, rfl, rfl⟩
    ·
      refine V_iload_n (pc' := 26) dX10_binding_25 rfl 2 rfl rfl ?_
      refine V_if_ne (tgt := 42) (pc' := 29) dX10_binding_26 (by decide) rfl hf (fun hf => ?_) (fun hf => ?_)
      ·
        refine V_aload_n (pc' := 30) dX10_binding_29 rfl 0 rfl rfl ?_
        refine V_getR (pc' := 33) 10 0 dX10_binding_30 rfl (by decide) (Nat.le_of_ble_eq_true rfl) bm_458 hs0 (fun _ _ _ => rfl) rfl hf (fun a_6 ha_6 hf => ?_)
        refine V_getR (pc' := 36) 7 0 dX10_binding_33 rfl (by decide) (Nat.le_of_ble_eq_true rfl) bm_263 ha_6 (fun _ _ _ => rfl) rfl hf (fun a_7 ha_7 hf => ?_)
        refine V_getR (pc' := 39) 2 6 dX10_binding_36 rfl (by decide) (Nat.le_of_ble_eq_true rfl) bm_213 ha_7 (fun _ _ _ => rfl) rfl hf (fun a_8 ha_8 hf => ?_)
        refine V_iload_n (pc' := 40) dX10_binding_39 rfl 1 rfl rfl ?_
        refine V_iald (pc' := 41) dX10_binding_40 rfl ha_8 hf (fun x_9 hf => ?_)
        obtain rfl := Option.some.inj hf
        exact V_iret dX10_binding_41 rfl rfl rfl ⟨rfl, rfl, rfl⟩
      ·
        refine V_iload_n (pc' := 43) dX10_binding_42 rfl 2 rfl rfl ?_
        refine V_iconst (v := 1) (pc' := 44) dX10_binding_43 rfl (by decide) ?_
        refine V_icmp_ne (tgt := 62) (pc' := 47) dX10_binding_44 (by decide) rfl hf (fun hf => ?_) (fun hf => ?_)
        ·
          refine V_aload_n (pc' := 48) dX10_binding_47 rfl 0 rfl rfl ?_
          refine V_getR (pc' := 51) 10 0 dX10_binding_48 rfl (by decide) (Nat.le_of_ble_eq_true rfl) bm_458 hs0 (fun _ _ _ => rfl) rfl hf (fun a_10 ha_10 hf => ?_)
          refine V_getR (pc' := 54) 7 0 dX10_binding_51 rfl (by decide) (Nat.le_of_ble_eq_true rfl) bm_263 ha_10 (fun _ _ _ => rfl) rfl hf (fun a_11 ha_11 hf => ?_)
          refine V_getR (pc' := 57) 2 7 dX10_binding_54 rfl (by decide) (Nat.le_of_ble_eq_true rfl) bm_218 ha_11 (fun _ _ _ => rfl) rfl hf (fun a_12 ha_12 hf => ?_)
          refine V_iload_n (pc' := 58) dX10_binding_57 rfl 1 rfl rfl ?_
          refine V_cvI (pc' := 61) (As := [.int x1]) (rest := []) dX10_binding_58 rfl mok_X6_sizeOf bm_1196 6 (by decide) rfl ha_12 rfl rfl (Nat.le_of_ble_eq_true rfl) (by decide) hf (fun q e => ct_X6_sizeOf ha_12 e) (fun q_13 hf => ?_)
          obtain rfl := Option.some.inj hf
          exact V_iret dX10_binding_61 rfl rfl rfl ⟨rfl, rfl, rfl⟩
        ·
          refine V_iload_n (pc' := 63) dX10_binding_62 rfl 2 rfl rfl ?_
          refine V_bipush (v := 10) (pc' := 65) dX10_binding_63 rfl (by decide) ?_
          refine V_icmp_ge (tgt := 72) (pc' := 68) dX10_binding_65 (by decide) rfl hf (fun hf => ?_) (fun hf => ?_)
          ·
            refine V_iconst (v := (-1)) (pc' := 69) dX10_binding_68 rfl (by decide) ?_
            refine V_goto (tgt := 90) dX10_binding_69 (by decide) ?_
            obtain rfl := Option.some.inj hf
            exact V_iret dX10_binding_90 rfl rfl rfl ⟨rfl, rfl, rfl⟩
          ·
            refine V_aload_n (pc' := 73) dX10_binding_72 rfl 0 rfl rfl ?_
            refine V_getR (pc' := 76) 10 0 dX10_binding_73 rfl (by decide) (Nat.le_of_ble_eq_true rfl) bm_458 hs0 (fun _ _ _ => rfl) rfl hf (fun a_14 ha_14 hf => ?_)
            refine V_getR (pc' := 79) 7 0 dX10_binding_76 rfl (by decide) (Nat.le_of_ble_eq_true rfl) bm_263 ha_14 (fun _ _ _ => rfl) rfl hf (fun a_15 ha_15 hf => ?_)
            refine V_getR (pc' := 82) 2 7 dX10_binding_79 rfl (by decide) (Nat.le_of_ble_eq_true rfl) bm_218 ha_15 (fun _ _ _ => rfl) rfl hf (fun a_16 ha_16 hf => ?_)
            refine V_iload_n (pc' := 83) dX10_binding_82 rfl 1 rfl rfl ?_
            refine V_iload_n (pc' := 84) dX10_binding_83 rfl 2 rfl rfl ?_
            refine V_bipush (v := 10) (pc' := 86) dX10_binding_84 rfl (by decide) ?_
            refine V_isub (pc' := 87) dX10_binding_86 rfl ?_
            refine V_cvI (pc' := 90) (As := [.int x1, .int (x2 - 10)]) (rest := []) dX10_binding_87 rfl mok_X6_get bm_1197 6 (by decide) rfl ha_16 rfl rfl (Nat.le_of_ble_eq_true rfl) (by decide) hf (fun q e => ct_X6_get ha_16 e) (fun q_17 hf => ?_)
            obtain rfl := Option.some.inj hf
            exact V_iret dX10_binding_90 rfl rfl rfl ⟨rfl, rfl, rfl⟩
theorem ct_X10_binding {l : Launch} {S : List SHP} {h : MH} {a0 : Nat} {x1 : Int32} {x2 : Int32} (hs0 : S[a0]? = some (.inl 10)) {q : Int32 × MH} (hf : f_X10_binding a0 x1 x2 h = some q) : CT l mX10_binding 5 false 0 0 S [.ref a0, .int x1, .int x2] h (QI S q) :=
  CT_ofV (by decide) rfl (Nat.le_of_ble_eq_true rfl) (fun G B hT => v_X10_binding hs0 hf)
/-! LabelStacks.demandOf(II)I -/
theorem dX10_demandOf_0 : decode cX10_demandOf 0 = .ok (.iload_n 1, 1) := by decide +kernel
theorem dX10_demandOf_1 : decode cX10_demandOf 1 = .ok (.invokestatic 255, 3) := by decide +kernel
theorem dX10_demandOf_4 : decode cX10_demandOf 4 = .ok (.ifCond .eq 16, 3) := by decide +kernel
theorem dX10_demandOf_7 : decode cX10_demandOf 7 = .ok (.aload_n 0, 1) := by decide +kernel
theorem dX10_demandOf_8 : decode cX10_demandOf 8 = .ok (.getfield 12, 3) := by decide +kernel
theorem dX10_demandOf_11 : decode cX10_demandOf 11 = .ok (.getfield 258, 3) := by decide +kernel
theorem dX10_demandOf_14 : decode cX10_demandOf 14 = .ok (.iload_n 1, 1) := by decide +kernel
theorem dX10_demandOf_15 : decode cX10_demandOf 15 = .ok (.iaload, 1) := by decide +kernel
theorem dX10_demandOf_16 : decode cX10_demandOf 16 = .ok (.iconst (-1), 1) := by decide +kernel
theorem dX10_demandOf_17 : decode cX10_demandOf 17 = .ok (.if_icmp .ne 5, 3) := by decide +kernel
theorem dX10_demandOf_20 : decode cX10_demandOf 20 = .ok (.iconst (-1), 1) := by decide +kernel
theorem dX10_demandOf_21 : decode cX10_demandOf 21 = .ok (.ireturn, 1) := by decide +kernel
theorem dX10_demandOf_22 : decode cX10_demandOf 22 = .ok (.iload_n 2, 1) := by decide +kernel
theorem dX10_demandOf_23 : decode cX10_demandOf 23 = .ok (.tableswitch 74 0 3 #[29, 39, 49, 61], 29) := by decide +kernel
theorem dX10_demandOf_52 : decode cX10_demandOf 52 = .ok (.aload_n 0, 1) := by decide +kernel
theorem dX10_demandOf_53 : decode cX10_demandOf 53 = .ok (.getfield 12, 3) := by decide +kernel
theorem dX10_demandOf_56 : decode cX10_demandOf 56 = .ok (.getfield 258, 3) := by decide +kernel
theorem dX10_demandOf_59 : decode cX10_demandOf 59 = .ok (.iload_n 1, 1) := by decide +kernel
theorem dX10_demandOf_60 : decode cX10_demandOf 60 = .ok (.iaload, 1) := by decide +kernel
theorem dX10_demandOf_61 : decode cX10_demandOf 61 = .ok (.ireturn, 1) := by decide +kernel
theorem dX10_demandOf_62 : decode cX10_demandOf 62 = .ok (.aload_n 0, 1) := by decide +kernel
theorem dX10_demandOf_63 : decode cX10_demandOf 63 = .ok (.getfield 12, 3) := by decide +kernel
theorem dX10_demandOf_66 : decode cX10_demandOf 66 = .ok (.getfield 261, 3) := by decide +kernel
theorem dX10_demandOf_69 : decode cX10_demandOf 69 = .ok (.iload_n 1, 1) := by decide +kernel
theorem dX10_demandOf_70 : decode cX10_demandOf 70 = .ok (.iaload, 1) := by decide +kernel
theorem dX10_demandOf_71 : decode cX10_demandOf 71 = .ok (.ireturn, 1) := by decide +kernel
theorem dX10_demandOf_72 : decode cX10_demandOf 72 = .ok (.aload_n 0, 1) := by decide +kernel
theorem dX10_demandOf_73 : decode cX10_demandOf 73 = .ok (.getfield 12, 3) := by decide +kernel
theorem dX10_demandOf_76 : decode cX10_demandOf 76 = .ok (.getfield 264, 3) := by decide +kernel
theorem dX10_demandOf_79 : decode cX10_demandOf 79 = .ok (.iload_n 1, 1) := by decide +kernel
theorem dX10_demandOf_80 : decode cX10_demandOf 80 = .ok (.invokevirtual 344, 3) := by decide +kernel
theorem dX10_demandOf_83 : decode cX10_demandOf 83 = .ok (.ireturn, 1) := by decide +kernel
theorem dX10_demandOf_84 : decode cX10_demandOf 84 = .ok (.aload_n 0, 1) := by decide +kernel
theorem dX10_demandOf_85 : decode cX10_demandOf 85 = .ok (.iload_n 1, 1) := by decide +kernel
theorem dX10_demandOf_86 : decode cX10_demandOf 86 = .ok (.invokevirtual 349, 3) := by decide +kernel
theorem dX10_demandOf_89 : decode cX10_demandOf 89 = .ok (.aload_n 0, 1) := by decide +kernel
theorem dX10_demandOf_90 : decode cX10_demandOf 90 = .ok (.getfield 82, 3) := by decide +kernel
theorem dX10_demandOf_93 : decode cX10_demandOf 93 = .ok (.invokevirtual 231, 3) := by decide +kernel
theorem dX10_demandOf_96 : decode cX10_demandOf 96 = .ok (.ireturn, 1) := by decide +kernel
theorem dX10_demandOf_97 : decode cX10_demandOf 97 = .ok (.iconst (-1), 1) := by decide +kernel
theorem dX10_demandOf_98 : decode cX10_demandOf 98 = .ok (.ireturn, 1) := by decide +kernel
abbrev mX10_demandOf : MI := (RX10, yX10_demandOf, cX10_demandOf, 3, (some .int))
theorem mok_X10_demandOf : MOKv mX10_demandOf 2 := ⟨⟨bm_1201, bm_114, ⟨by decide, by decide⟩, by decide +kernel⟩, bm_1199, bm_1200⟩
def f_X10_demandOf   (a0 : Nat) (x1 : Int32) (x2 : Int32) (h : MH) : Option (Int32 × MH) :=
  (f_X10_isDemand x1 h).bind fun q_1 =>
  if q_1.1 = 0 then
    some ((-1 : Int32), q_1.2)
  else
    (gR q_1.2 a0 0).bind fun a_2 =>
    (gR q_1.2 a_2 1).bind fun a_3 =>
    (ldI q_1.2 a_3 x1).bind fun x_4 =>
    if x_4 = (-1 : Int32) then
      some ((-1 : Int32), q_1.2)
    else
      if x2 = 0 then
        (gR q_1.2 a0 0).bind fun a_5 =>
        (gR q_1.2 a_5 1).bind fun a_6 =>
        (ldI q_1.2 a_6 x1).bind fun x_7 =>
        some (x_7, q_1.2)
      else
      if x2 = 1 then
          (gR q_1.2 a0 0).bind fun a_8 =>
          (gR q_1.2 a_8 2).bind fun a_9 =>
          (ldI q_1.2 a_9 x1).bind fun x_10 =>
          some (x_10, q_1.2)
      else
      if x2 = 2 then
            (gR q_1.2 a0 0).bind fun a_11 =>
            (gR q_1.2 a_11 3).bind fun a_12 =>
            (f_X6_sizeOf a_12 x1 q_1.2).bind fun q_13 =>
            some (q_13.1, q_13.2)
      else
      if x2 = 3 then
              (f_X10_sendDemand a0 x1 q_1.2).bind fun q_14 =>
              (gR q_14 a0 14).bind fun a_15 =>
              (f_X3_outcome a_15 q_14).bind fun q_16 =>
              some (q_16.1, q_16.2)
      else
              some ((-1 : Int32), q_1.2)
set_option maxRecDepth 100000 in
set_option maxHeartbeats 4000000 in
theorem v_X10_demandOf {l : Launch} {G : GE} {B N : Nat} {S : List SHP} {o : Int32 × MH} {a0 : Nat} {x1 : Int32} {x2 : Int32}    (hs0 : S[a0]? = some (.inl 10)) {h : MH} (hf : f_X10_demandOf a0 x1 x2 h = some o) : V l G B N mX10_demandOf (rmm 9 0 0) false 0 0 (QI S o) S 0 0 0 [(0, .ref a0), (1, .int x1), (2, .int x2)] [] h := by
  unfold f_X10_demandOf at hf
  refine V_iload_n (pc' := 1) dX10_demandOf_0 rfl 1 rfl rfl ?_
  refine V_csI (pc' := 4) (As := [.int x1]) (rest := []) dX10_demandOf_1 rfl mok_X10_isDemand bm_930 rfl rfl (Nat.le_of_ble_eq_true rfl) (by decide) hf (fun q e => ct_X10_isDemand  e) (fun q_1 hf => ?_)
  refine V_if_eq (tgt := 20) (pc' := 7) dX10_demandOf_4 (by decide) rfl hf (fun hf => ?_) (fun hf => ?_)
  ·
    refine V_iconst (v := (-1)) (pc' := 21) dX10_demandOf_20 rfl (by decide) ?_
    obtain rfl := Option.some.inj hf
    exact V_iret dX10_demandOf_21 rfl rfl rfl ⟨rfl, rfl, rfl⟩
  ·
    refine V_aload_n (pc' := 8) dX10_demandOf_7 rfl 0 rfl rfl ?_
    refine V_getR (pc' := 11) 10 0 dX10_demandOf_8 rfl (by decide) (Nat.le_of_ble_eq_true rfl) bm_458 hs0 (fun _ _ _ => rfl) rfl hf (fun a_2 ha_2 hf => ?_)
    refine V_getR (pc' := 14) 7 1 dX10_demandOf_11 rfl (by decide) (Nat.le_of_ble_eq_true rfl) bm_265 ha_2 (fun _ _ _ => rfl) rfl hf (fun a_3 ha_3 hf => ?_)
    refine V_iload_n (pc' := 15) dX10_demandOf_14 rfl 1 rfl rfl ?_
    refine V_iald (pc' := 16) dX10_demandOf_15 rfl ha_3 hf (fun x_4 hf => ?_)
    refine V_iconst (v := (-1)) (pc' := 17) dX10_demandOf_16 rfl (by decide) ?_
    refine V_icmp_ne (tgt := 22) (pc' := 20) dX10_demandOf_17 (by decide) rfl hf (fun hf => ?_) (fun hf => ?_)
    ·
      refine V_iconst (v := (-1)) (pc' := 21) dX10_demandOf_20 rfl (by decide) ?_
      obtain rfl := Option.some.inj hf
      exact V_iret dX10_demandOf_21 rfl rfl rfl ⟨rfl, rfl, rfl⟩
    ·
      refine V_iload_n (pc' := 23) dX10_demandOf_22 rfl 2 rfl rfl ?_
      by_cases cc0 : x2 = 0
      ·
        replace hf := (if_pos cc0).symm.trans hf
        refine V_tabIn (off := 29) (tgt := 52) dX10_demandOf_23 (by rw [cc0]; decide) (by rw [cc0]; decide) (by rw [cc0]; rfl) (by decide) ?_
        refine V_aload_n (pc' := 53) dX10_demandOf_52 rfl 0 rfl rfl ?_
        refine V_getR (pc' := 56) 10 0 dX10_demandOf_53 rfl (by decide) (Nat.le_of_ble_eq_true rfl) bm_458 hs0 (fun _ _ _ => rfl) rfl hf (fun a_5 ha_5 hf => ?_)
        refine V_getR (pc' := 59) 7 1 dX10_demandOf_56 rfl (by decide) (Nat.le_of_ble_eq_true rfl) bm_265 ha_5 (fun _ _ _ => rfl) rfl hf (fun a_6 ha_6 hf => ?_)
        refine V_iload_n (pc' := 60) dX10_demandOf_59 rfl 1 rfl rfl ?_
        refine V_iald (pc' := 61) dX10_demandOf_60 rfl ha_6 hf (fun x_7 hf => ?_)
        obtain rfl := Option.some.inj hf
        exact V_iret dX10_demandOf_61 rfl rfl rfl ⟨rfl, rfl, rfl⟩
      ·
        replace hf := (if_neg cc0).symm.trans hf
        by_cases cc1 : x2 = 1
        ·
          replace hf := (if_pos cc1).symm.trans hf
          refine V_tabIn (off := 39) (tgt := 62) dX10_demandOf_23 (by rw [cc1]; decide) (by rw [cc1]; decide) (by rw [cc1]; rfl) (by decide) ?_
          refine V_aload_n (pc' := 63) dX10_demandOf_62 rfl 0 rfl rfl ?_
          refine V_getR (pc' := 66) 10 0 dX10_demandOf_63 rfl (by decide) (Nat.le_of_ble_eq_true rfl) bm_458 hs0 (fun _ _ _ => rfl) rfl hf (fun a_8 ha_8 hf => ?_)
          refine V_getR (pc' := 69) 7 2 dX10_demandOf_66 rfl (by decide) (Nat.le_of_ble_eq_true rfl) bm_267 ha_8 (fun _ _ _ => rfl) rfl hf (fun a_9 ha_9 hf => ?_)
          refine V_iload_n (pc' := 70) dX10_demandOf_69 rfl 1 rfl rfl ?_
          refine V_iald (pc' := 71) dX10_demandOf_70 rfl ha_9 hf (fun x_10 hf => ?_)
          obtain rfl := Option.some.inj hf
          exact V_iret dX10_demandOf_71 rfl rfl rfl ⟨rfl, rfl, rfl⟩
        ·
          replace hf := (if_neg cc1).symm.trans hf
          by_cases cc2 : x2 = 2
          ·
            replace hf := (if_pos cc2).symm.trans hf
            refine V_tabIn (off := 49) (tgt := 72) dX10_demandOf_23 (by rw [cc2]; decide) (by rw [cc2]; decide) (by rw [cc2]; rfl) (by decide) ?_
            refine V_aload_n (pc' := 73) dX10_demandOf_72 rfl 0 rfl rfl ?_
            refine V_getR (pc' := 76) 10 0 dX10_demandOf_73 rfl (by decide) (Nat.le_of_ble_eq_true rfl) bm_458 hs0 (fun _ _ _ => rfl) rfl hf (fun a_11 ha_11 hf => ?_)
            refine V_getR (pc' := 79) 7 3 dX10_demandOf_76 rfl (by decide) (Nat.le_of_ble_eq_true rfl) bm_269 ha_11 (fun _ _ _ => rfl) rfl hf (fun a_12 ha_12 hf => ?_)
            refine V_iload_n (pc' := 80) dX10_demandOf_79 rfl 1 rfl rfl ?_
            refine V_cvI (pc' := 83) (As := [.int x1]) (rest := []) dX10_demandOf_80 rfl mok_X6_sizeOf bm_1196 6 (by decide) rfl ha_12 rfl rfl (Nat.le_of_ble_eq_true rfl) (by decide) hf (fun q e => ct_X6_sizeOf ha_12 e) (fun q_13 hf => ?_)
            obtain rfl := Option.some.inj hf
            exact V_iret dX10_demandOf_83 rfl rfl rfl ⟨rfl, rfl, rfl⟩
          ·
            replace hf := (if_neg cc2).symm.trans hf
            by_cases cc3 : x2 = 3
            ·
              replace hf := (if_pos cc3).symm.trans hf
              refine V_tabIn (off := 61) (tgt := 84) dX10_demandOf_23 (by rw [cc3]; decide) (by rw [cc3]; decide) (by rw [cc3]; rfl) (by decide) ?_
              refine V_aload_n (pc' := 85) dX10_demandOf_84 rfl 0 rfl rfl ?_
              refine V_iload_n (pc' := 86) dX10_demandOf_85 rfl 1 rfl rfl ?_
              refine V_cvV (pc' := 89) (As := [.int x1]) (rest := []) dX10_demandOf_86 rfl mok_X10_sendDemand bm_942 10 (by decide) rfl hs0 rfl rfl (Nat.le_of_ble_eq_true rfl) (by decide) hf (fun q e => ct_X10_sendDemand hs0 e) (fun q_14 hf => ?_)
              refine V_aload_n (pc' := 90) dX10_demandOf_89 rfl 0 rfl rfl ?_
              refine V_getR (pc' := 93) 10 14 dX10_demandOf_90 rfl (by decide) (Nat.le_of_ble_eq_true rfl) bm_472 hs0 (fun _ _ _ => rfl) rfl hf (fun a_15 ha_15 hf => ?_)
              refine V_cvI (pc' := 96) (As := []) (rest := []) dX10_demandOf_93 rfl mok_X3_outcome bm_901 3 (by decide) rfl ha_15 rfl rfl (Nat.le_of_ble_eq_true rfl) (by decide) hf (fun q e => ct_X3_outcome ha_15 e) (fun q_16 hf => ?_)
              obtain rfl := Option.some.inj hf
              exact V_iret dX10_demandOf_96 rfl rfl rfl ⟨rfl, rfl, rfl⟩
            ·
              replace hf := (if_neg cc3).symm.trans hf
              refine V_tabOut (tgt := 97) dX10_demandOf_23 (by have e0 := tI_ne (z := 0) (by decide) cc0; have e1 := tI_ne (z := 1) (by decide) cc1; have e2 := tI_ne (z := 2) (by decide) cc2; have e3 := tI_ne (z := 3) (by decide) cc3; omega) (by decide) ?_
              refine V_iconst (v := (-1)) (pc' := 98) dX10_demandOf_97 rfl (by decide) ?_
              obtain rfl := Option.some.inj hf
              exact V_iret dX10_demandOf_98 rfl rfl rfl ⟨rfl, rfl, rfl⟩
theorem ct_X10_demandOf {l : Launch} {S : List SHP} {h : MH} {a0 : Nat} {x1 : Int32} {x2 : Int32} (hs0 : S[a0]? = some (.inl 10)) {q : Int32 × MH} (hf : f_X10_demandOf a0 x1 x2 h = some q) : CT l mX10_demandOf 9 false 0 0 S [.ref a0, .int x1, .int x2] h (QI S q) :=
  CT_ofV (by decide) rfl (Nat.le_of_ble_eq_true rfl) (fun G B hT => v_X10_demandOf hs0 hf)
/-! LabelStacks.image(Z)Z -/
theorem dX10_image_0 : decode cX10_image 0 = .ok (.iload_n 1, 1) := by decide +kernel
theorem dX10_image_1 : decode cX10_image 1 = .ok (.ifCond .eq 40, 3) := by decide +kernel
theorem dX10_image_4 : decode cX10_image 4 = .ok (.aload_n 0, 1) := by decide +kernel
theorem dX10_image_5 : decode cX10_image 5 = .ok (.getfield 36, 3) := by decide +kernel
theorem dX10_image_8 : decode cX10_image 8 = .ok (.aload_n 0, 1) := by decide +kernel
theorem dX10_image_9 : decode cX10_image 9 = .ok (.getfield 12, 3) := by decide +kernel
theorem dX10_image_12 : decode cX10_image 12 = .ok (.invokevirtual 352, 3) := by decide +kernel
theorem dX10_image_15 : decode cX10_image 15 = .ok (.aload_n 0, 1) := by decide +kernel
theorem dX10_image_16 : decode cX10_image 16 = .ok (.getfield 39, 3) := by decide +kernel
theorem dX10_image_19 : decode cX10_image 19 = .ok (.aload_n 0, 1) := by decide +kernel
theorem dX10_image_20 : decode cX10_image 20 = .ok (.getfield 21, 3) := by decide +kernel
theorem dX10_image_23 : decode cX10_image 23 = .ok (.invokevirtual 246, 3) := by decide +kernel
theorem dX10_image_26 : decode cX10_image 26 = .ok (.aload_n 0, 1) := by decide +kernel
theorem dX10_image_27 : decode cX10_image 27 = .ok (.aload_n 0, 1) := by decide +kernel
theorem dX10_image_28 : decode cX10_image 28 = .ok (.getfield 25, 3) := by decide +kernel
theorem dX10_image_31 : decode cX10_image 31 = .ok (.putfield 42, 3) := by decide +kernel
theorem dX10_image_34 : decode cX10_image 34 = .ok (.aload_n 0, 1) := by decide +kernel
theorem dX10_image_35 : decode cX10_image 35 = .ok (.iconst 1, 1) := by decide +kernel
theorem dX10_image_36 : decode cX10_image 36 = .ok (.putfield 45, 3) := by decide +kernel
theorem dX10_image_39 : decode cX10_image 39 = .ok (.iconst 1, 1) := by decide +kernel
theorem dX10_image_40 : decode cX10_image 40 = .ok (.ireturn, 1) := by decide +kernel
theorem dX10_image_41 : decode cX10_image 41 = .ok (.aload_n 0, 1) := by decide +kernel
theorem dX10_image_42 : decode cX10_image 42 = .ok (.getfield 45, 3) := by decide +kernel
theorem dX10_image_45 : decode cX10_image 45 = .ok (.ifCond .ne 5, 3) := by decide +kernel
theorem dX10_image_48 : decode cX10_image 48 = .ok (.iconst 0, 1) := by decide +kernel
theorem dX10_image_49 : decode cX10_image 49 = .ok (.ireturn, 1) := by decide +kernel
theorem dX10_image_50 : decode cX10_image 50 = .ok (.aload_n 0, 1) := by decide +kernel
theorem dX10_image_51 : decode cX10_image 51 = .ok (.getfield 12, 3) := by decide +kernel
theorem dX10_image_54 : decode cX10_image 54 = .ok (.aload_n 0, 1) := by decide +kernel
theorem dX10_image_55 : decode cX10_image 55 = .ok (.getfield 36, 3) := by decide +kernel
theorem dX10_image_58 : decode cX10_image 58 = .ok (.invokevirtual 352, 3) := by decide +kernel
theorem dX10_image_61 : decode cX10_image 61 = .ok (.aload_n 0, 1) := by decide +kernel
theorem dX10_image_62 : decode cX10_image 62 = .ok (.getfield 21, 3) := by decide +kernel
theorem dX10_image_65 : decode cX10_image 65 = .ok (.aload_n 0, 1) := by decide +kernel
theorem dX10_image_66 : decode cX10_image 66 = .ok (.getfield 39, 3) := by decide +kernel
theorem dX10_image_69 : decode cX10_image 69 = .ok (.invokevirtual 246, 3) := by decide +kernel
theorem dX10_image_72 : decode cX10_image 72 = .ok (.aload_n 0, 1) := by decide +kernel
theorem dX10_image_73 : decode cX10_image 73 = .ok (.aload_n 0, 1) := by decide +kernel
theorem dX10_image_74 : decode cX10_image 74 = .ok (.getfield 42, 3) := by decide +kernel
theorem dX10_image_77 : decode cX10_image 77 = .ok (.putfield 25, 3) := by decide +kernel
theorem dX10_image_80 : decode cX10_image 80 = .ok (.aload_n 0, 1) := by decide +kernel
theorem dX10_image_81 : decode cX10_image 81 = .ok (.getfield 32, 3) := by decide +kernel
theorem dX10_image_84 : decode cX10_image 84 = .ok (.iconst 0, 1) := by decide +kernel
theorem dX10_image_85 : decode cX10_image 85 = .ok (.putfield 338, 3) := by decide +kernel
theorem dX10_image_88 : decode cX10_image 88 = .ok (.aload_n 0, 1) := by decide +kernel
theorem dX10_image_89 : decode cX10_image 89 = .ok (.iconst 1, 1) := by decide +kernel
theorem dX10_image_90 : decode cX10_image 90 = .ok (.putfield 69, 3) := by decide +kernel
theorem dX10_image_93 : decode cX10_image 93 = .ok (.iconst 1, 1) := by decide +kernel
theorem dX10_image_94 : decode cX10_image 94 = .ok (.ireturn, 1) := by decide +kernel
abbrev mX10_image : MI := (RX10, yX10_image, cX10_image, 2, (some .boolean))
theorem mok_X10_image : MOKv mX10_image 1 := ⟨⟨bm_1205, bm_114, ⟨by decide, by decide⟩, by decide +kernel⟩, bm_1203, bm_1204⟩
def f_X10_image   (a0 : Nat) (x1 : Int32) (h : MH) : Option (Int32 × MH) :=
  if x1 = 0 then
    if (gI h a0 7) = 0 then
      some (0, h)
    else
      (gR h a0 0).bind fun a_1 =>
      (gR h a0 4).bind fun a_2 =>
      (f_X7_copyFrom a_1 a_2 h).bind fun q_3 =>
      (gR q_3 a0 1).bind fun a_4 =>
      (gR q_3 a0 5).bind fun a_5 =>
      (f_X5_copyFrom a_4 a_5 q_3).bind fun q_6 =>
      lt (sI q_6 a0 2 (gI q_6 a0 6)) fun h_7 =>
      (gR h_7 a0 3).bind fun a_8 =>
      lt (sI h_7 a_8 1 0) fun h_9 =>
      lt (sI h_9 a0 12 1) fun h_10 =>
      some (1, h_10)
  else
    (gR h a0 4).bind fun a_11 =>
    (gR h a0 0).bind fun a_12 =>
    (f_X7_copyFrom a_11 a_12 h).bind fun q_13 =>
    (gR q_13 a0 5).bind fun a_14 =>
    (gR q_13 a0 1).bind fun a_15 =>
    (f_X5_copyFrom a_14 a_15 q_13).bind fun q_16 =>
    lt (sI q_16 a0 6 (gI q_16 a0 2)) fun h_17 =>
    lt (sI h_17 a0 7 1) fun h_18 =>
    some (1, h_18)
set_option maxRecDepth 100000 in
set_option maxHeartbeats 4000000 in
theorem v_X10_image {l : Launch} {G : GE} {B N : Nat} {S : List SHP} {o : Int32 × MH} {a0 : Nat} {x1 : Int32}    (hs0 : S[a0]? = some (.inl 10)) {h : MH} (hf : f_X10_image a0 x1 h = some o) : V l G B N mX10_image (rmm 6 0 0) false 0 0 (QI S o) S 0 0 0 [(0, .ref a0), (1, .int x1)] [] h := by
  unfold f_X10_image at hf
  refine V_iload_n (pc' := 1) dX10_image_0 rfl 1 rfl rfl ?_
  refine V_if_eq (tgt := 41) (pc' := 4) dX10_image_1 (by decide) rfl hf (fun hf => ?_) (fun hf => ?_)
  ·
    refine V_aload_n (pc' := 42) dX10_image_41 rfl 0 rfl rfl ?_
    refine V_getI (pc' := 45) 10 7 dX10_image_42 rfl (by decide) (Nat.le_of_ble_eq_true rfl) bm_465 hs0 (fun _ _ _ => rfl) ?_
    refine V_if_ne (tgt := 50) (pc' := 48) dX10_image_45 (by decide) rfl hf (fun hf => ?_) (fun hf => ?_)
    ·
      refine V_iconst (v := 0) (pc' := 49) dX10_image_48 rfl (by decide) ?_
      obtain rfl := Option.some.inj hf
      exact V_zretL dX10_image_49 rfl rfl rfl (by decide) ⟨rfl, rfl, rfl⟩
    ·
      refine V_aload_n (pc' := 51) dX10_image_50 rfl 0 rfl rfl ?_
      refine V_getR (pc' := 54) 10 0 dX10_image_51 rfl (by decide) (Nat.le_of_ble_eq_true rfl) bm_458 hs0 (fun _ _ _ => rfl) rfl hf (fun a_1 ha_1 hf => ?_)
      refine V_aload_n (pc' := 55) dX10_image_54 rfl 0 rfl rfl ?_
      refine V_getR (pc' := 58) 10 4 dX10_image_55 rfl (by decide) (Nat.le_of_ble_eq_true rfl) bm_462 hs0 (fun _ _ _ => rfl) rfl hf (fun a_2 ha_2 hf => ?_)
      refine V_cvV (pc' := 61) (As := [.ref a_2]) (rest := []) dX10_image_58 rfl mok_X7_copyFrom bm_1206 7 (by decide) rfl ha_1 rfl rfl (Nat.le_of_ble_eq_true rfl) (by decide) hf (fun q e => ct_X7_copyFrom ha_1 ha_2 e) (fun q_3 hf => ?_)
      refine V_aload_n (pc' := 62) dX10_image_61 rfl 0 rfl rfl ?_
      refine V_getR (pc' := 65) 10 1 dX10_image_62 rfl (by decide) (Nat.le_of_ble_eq_true rfl) bm_459 hs0 (fun _ _ _ => rfl) rfl hf (fun a_4 ha_4 hf => ?_)
      refine V_aload_n (pc' := 66) dX10_image_65 rfl 0 rfl rfl ?_
      refine V_getR (pc' := 69) 10 5 dX10_image_66 rfl (by decide) (Nat.le_of_ble_eq_true rfl) bm_463 hs0 (fun _ _ _ => rfl) rfl hf (fun a_5 ha_5 hf => ?_)
      refine V_cvV (pc' := 72) (As := [.ref a_5]) (rest := []) dX10_image_69 rfl mok_X5_copyFrom bm_822 5 (by decide) rfl ha_4 rfl rfl (Nat.le_of_ble_eq_true rfl) (by decide) hf (fun q e => ct_X5_copyFrom ha_4 ha_5 e) (fun q_6 hf => ?_)
      refine V_aload_n (pc' := 73) dX10_image_72 rfl 0 rfl rfl ?_
      refine V_aload_n (pc' := 74) dX10_image_73 rfl 0 rfl rfl ?_
      refine V_getI (pc' := 77) 10 6 dX10_image_74 rfl (by decide) (Nat.le_of_ble_eq_true rfl) bm_464 hs0 (fun _ _ _ => rfl) ?_
      refine V_putI (pc' := 80) 10 2 dX10_image_77 rfl (by decide) (Nat.le_of_ble_eq_true rfl) bm_460 hs0 (Or.inl rfl) rfl ?_
      refine V_nmH hf (fun h_7 hf => ?_)
      refine V_aload_n (pc' := 81) dX10_image_80 rfl 0 rfl rfl ?_
      refine V_getR (pc' := 84) 10 3 dX10_image_81 rfl (by decide) (Nat.le_of_ble_eq_true rfl) bm_461 hs0 (fun _ _ _ => rfl) rfl hf (fun a_8 ha_8 hf => ?_)
      refine V_iconst (v := 0) (pc' := 85) dX10_image_84 rfl (by decide) ?_
      refine V_putI (pc' := 88) 0 1 dX10_image_85 rfl (by decide) (Nat.le_of_ble_eq_true rfl) bm_304 ha_8 (Or.inl rfl) rfl ?_
      refine V_nmH hf (fun h_9 hf => ?_)
      refine V_aload_n (pc' := 89) dX10_image_88 rfl 0 rfl rfl ?_
      refine V_iconst (v := 1) (pc' := 90) dX10_image_89 rfl (by decide) ?_
      refine V_putZL (pc' := 93) 10 12 dX10_image_90 rfl (by decide) (Nat.le_of_ble_eq_true rfl) bm_470 hs0 rfl rfl (by decide) ?_
      refine V_nmH hf (fun h_10 hf => ?_)
      refine V_iconst (v := 1) (pc' := 94) dX10_image_93 rfl (by decide) ?_
      obtain rfl := Option.some.inj hf
      exact V_zretL dX10_image_94 rfl rfl rfl (by decide) ⟨rfl, rfl, rfl⟩
  ·
    refine V_aload_n (pc' := 5) dX10_image_4 rfl 0 rfl rfl ?_
    refine V_getR (pc' := 8) 10 4 dX10_image_5 rfl (by decide) (Nat.le_of_ble_eq_true rfl) bm_462 hs0 (fun _ _ _ => rfl) rfl hf (fun a_11 ha_11 hf => ?_)
    refine V_aload_n (pc' := 9) dX10_image_8 rfl 0 rfl rfl ?_
    refine V_getR (pc' := 12) 10 0 dX10_image_9 rfl (by decide) (Nat.le_of_ble_eq_true rfl) bm_458 hs0 (fun _ _ _ => rfl) rfl hf (fun a_12 ha_12 hf => ?_)
    refine V_cvV (pc' := 15) (As := [.ref a_12]) (rest := []) dX10_image_12 rfl mok_X7_copyFrom bm_1206 7 (by decide) rfl ha_11 rfl rfl (Nat.le_of_ble_eq_true rfl) (by decide) hf (fun q e => ct_X7_copyFrom ha_11 ha_12 e) (fun q_13 hf => ?_)
    refine V_aload_n (pc' := 16) dX10_image_15 rfl 0 rfl rfl ?_
    refine V_getR (pc' := 19) 10 5 dX10_image_16 rfl (by decide) (Nat.le_of_ble_eq_true rfl) bm_463 hs0 (fun _ _ _ => rfl) rfl hf (fun a_14 ha_14 hf => ?_)
    refine V_aload_n (pc' := 20) dX10_image_19 rfl 0 rfl rfl ?_
    refine V_getR (pc' := 23) 10 1 dX10_image_20 rfl (by decide) (Nat.le_of_ble_eq_true rfl) bm_459 hs0 (fun _ _ _ => rfl) rfl hf (fun a_15 ha_15 hf => ?_)
    refine V_cvV (pc' := 26) (As := [.ref a_15]) (rest := []) dX10_image_23 rfl mok_X5_copyFrom bm_822 5 (by decide) rfl ha_14 rfl rfl (Nat.le_of_ble_eq_true rfl) (by decide) hf (fun q e => ct_X5_copyFrom ha_14 ha_15 e) (fun q_16 hf => ?_)
    refine V_aload_n (pc' := 27) dX10_image_26 rfl 0 rfl rfl ?_
    refine V_aload_n (pc' := 28) dX10_image_27 rfl 0 rfl rfl ?_
    refine V_getI (pc' := 31) 10 2 dX10_image_28 rfl (by decide) (Nat.le_of_ble_eq_true rfl) bm_460 hs0 (fun _ _ _ => rfl) ?_
    refine V_putI (pc' := 34) 10 6 dX10_image_31 rfl (by decide) (Nat.le_of_ble_eq_true rfl) bm_464 hs0 (Or.inl rfl) rfl ?_
    refine V_nmH hf (fun h_17 hf => ?_)
    refine V_aload_n (pc' := 35) dX10_image_34 rfl 0 rfl rfl ?_
    refine V_iconst (v := 1) (pc' := 36) dX10_image_35 rfl (by decide) ?_
    refine V_putZL (pc' := 39) 10 7 dX10_image_36 rfl (by decide) (Nat.le_of_ble_eq_true rfl) bm_465 hs0 rfl rfl (by decide) ?_
    refine V_nmH hf (fun h_18 hf => ?_)
    refine V_iconst (v := 1) (pc' := 40) dX10_image_39 rfl (by decide) ?_
    obtain rfl := Option.some.inj hf
    exact V_zretL dX10_image_40 rfl rfl rfl (by decide) ⟨rfl, rfl, rfl⟩
theorem ct_X10_image {l : Launch} {S : List SHP} {h : MH} {a0 : Nat} {x1 : Int32} (hs0 : S[a0]? = some (.inl 10)) {q : Int32 × MH} (hf : f_X10_image a0 x1 h = some q) : CT l mX10_image 6 false 0 0 S [.ref a0, .int x1] h (QI S q) :=
  CT_ofV (by decide) rfl (Nat.le_of_ble_eq_true rfl) (fun G B hT => v_X10_image hs0 hf)
/-! LabelStacks.setOfThere([I)I -/
theorem dX10_setOfThere_0 : decode cX10_setOfThere 0 = .ok (.iconst 0, 1) := by decide +kernel
theorem dX10_setOfThere_1 : decode cX10_setOfThere 1 = .ok (.istore_n 1, 1) := by decide +kernel
theorem dX10_setOfThere_2 : decode cX10_setOfThere 2 = .ok (.iconst 0, 1) := by decide +kernel
theorem dX10_setOfThere_3 : decode cX10_setOfThere 3 = .ok (.istore_n 2, 1) := by decide +kernel
theorem dX10_setOfThere_4 : decode cX10_setOfThere 4 = .ok (.iload_n 2, 1) := by decide +kernel
theorem dX10_setOfThere_5 : decode cX10_setOfThere 5 = .ok (.aload_n 0, 1) := by decide +kernel
theorem dX10_setOfThere_6 : decode cX10_setOfThere 6 = .ok (.arraylength, 1) := by decide +kernel
theorem dX10_setOfThere_7 : decode cX10_setOfThere 7 = .ok (.if_icmp .ge 22, 3) := by decide +kernel
theorem dX10_setOfThere_10 : decode cX10_setOfThere 10 = .ok (.aload_n 0, 1) := by decide +kernel
theorem dX10_setOfThere_11 : decode cX10_setOfThere 11 = .ok (.iload_n 2, 1) := by decide +kernel
theorem dX10_setOfThere_12 : decode cX10_setOfThere 12 = .ok (.iaload, 1) := by decide +kernel
theorem dX10_setOfThere_13 : decode cX10_setOfThere 13 = .ok (.iconst (-1), 1) := by decide +kernel
theorem dX10_setOfThere_14 : decode cX10_setOfThere 14 = .ok (.if_icmp .eq 9, 3) := by decide +kernel
theorem dX10_setOfThere_17 : decode cX10_setOfThere 17 = .ok (.iload_n 1, 1) := by decide +kernel
theorem dX10_setOfThere_18 : decode cX10_setOfThere 18 = .ok (.iconst 1, 1) := by decide +kernel
theorem dX10_setOfThere_19 : decode cX10_setOfThere 19 = .ok (.iload_n 2, 1) := by decide +kernel
theorem dX10_setOfThere_20 : decode cX10_setOfThere 20 = .ok (.ishl, 1) := by decide +kernel
theorem dX10_setOfThere_21 : decode cX10_setOfThere 21 = .ok (.ior, 1) := by decide +kernel
theorem dX10_setOfThere_22 : decode cX10_setOfThere 22 = .ok (.istore_n 1, 1) := by decide +kernel
theorem dX10_setOfThere_23 : decode cX10_setOfThere 23 = .ok (.iinc 2 1, 3) := by decide +kernel
theorem dX10_setOfThere_26 : decode cX10_setOfThere 26 = .ok (.goto (-22), 3) := by decide +kernel
theorem dX10_setOfThere_29 : decode cX10_setOfThere 29 = .ok (.iload_n 1, 1) := by decide +kernel
theorem dX10_setOfThere_30 : decode cX10_setOfThere 30 = .ok (.ireturn, 1) := by decide +kernel
abbrev mX10_setOfThere : MI := (RX10, yX10_setOfThere, cX10_setOfThere, 3, (some .int))
theorem mok_X10_setOfThere : MOKs mX10_setOfThere 1 := ⟨⟨bm_1213, bm_114, ⟨by decide, by decide⟩, by decide +kernel⟩, bm_1212⟩
def f_X10_setOfThere_23  (k4 : Int32 × Int32 → MH → Option (Int32 × MH)) (a0 : Nat) (x1 : Int32) (x2 : Int32) (h : MH) : Option (Int32 × MH) :=
  k4 (x1, (x2 + 1)) h
def f_X10_setOfThere_4b   (a0 : Nat) (k4 : Int32 × Int32 → MH → Option (Int32 × MH)) (p : Int32 × Int32) (h : MH) : Option (Int32 × MH) :=
  if p.2 < (Int32.ofNat (gN h a0)) then
    (ldI h a0 p.2).bind fun x_1 =>
    if x_1 = (-1 : Int32) then
      f_X10_setOfThere_23 k4 a0 p.1 p.2 h
    else
      lt (p.1 ||| ((1 : Int32) <<< (p.2 &&& 31))) fun x_2 =>
      f_X10_setOfThere_23 k4 a0 x_2 p.2 h
  else
    some (p.1, h)
def f_X10_setOfThere_4   (a0 : Nat) : Nat → Int32 × Int32 → MH → Option (Int32 × MH) := lp (f_X10_setOfThere_4b a0)
def f_X10_setOfThere   (a0 : Nat) (h : MH) : Option (Int32 × MH) :=
  f_X10_setOfThere_4 a0 FU (0, 0) h
set_option maxRecDepth 100000 in
set_option maxHeartbeats 4000000 in
theorem v_X10_setOfThere_23 {l : Launch} {G : GE} {B N : Nat} {S : List SHP} {o : Int32 × MH} {a0 : Nat} {x1 : Int32} {x2 : Int32}  {k4 : Int32 × Int32 → MH → Option (Int32 × MH)} (hk4 : ∀ (p : Int32 × Int32) (h : MH), k4 p h = some o → V l G B N mX10_setOfThere (rmm 3 0 0) false 0 0 (QI S o) S 0 0 4 [(0, .ref a0), (1, .int p.1), (2, .int p.2)] [] h) (hs0 : S[a0]? = some (.inr 0)) {h : MH} (hf : f_X10_setOfThere_23 k4 a0 x1 x2 h = some o) : V l G B N mX10_setOfThere (rmm 3 0 0) false 0 0 (QI S o) S 0 0 23 [(0, .ref a0), (1, .int x1), (2, .int x2)] [] h := by
  unfold f_X10_setOfThere_23 at hf
  refine V_iinc (v := (x2 + 1)) (lv' := [(2, .int (x2 + 1)), (0, .ref a0), (1, .int x1)]) (pc' := 26) dX10_setOfThere_23 rfl 2 rfl rfl (Nat.le_of_ble_eq_true rfl) rfl ?_
  refine V_goto (tgt := 4) dX10_setOfThere_26 (by decide) ?_
  exact V_sub (lv' := [(0, .ref a0), (1, .int x1), (2, .int (x2 + 1))]) [1, 2, 0] rfl (hk4 (x1, (x2 + 1)) h hf)
set_option maxRecDepth 100000 in
set_option maxHeartbeats 4000000 in
theorem v_X10_setOfThere_4b {l : Launch} {G : GE} {B N : Nat} {S : List SHP} {o : Int32 × MH} {a0 : Nat}    (hs0 : S[a0]? = some (.inr 0)) {k4 : Int32 × Int32 → MH → Option (Int32 × MH)} (hk4 : ∀ (p : Int32 × Int32) (h : MH), k4 p h = some o → V l G B N mX10_setOfThere (rmm 3 0 0) false 0 0 (QI S o) S 0 0 4 [(0, .ref a0), (1, .int p.1), (2, .int p.2)] [] h) {p : Int32 × Int32} {h : MH} (hf : f_X10_setOfThere_4b a0 k4 p h = some o) : V l G B N mX10_setOfThere (rmm 3 0 0) false 0 0 (QI S o) S 0 0 4 [(0, .ref a0), (1, .int p.1), (2, .int p.2)] [] h := by
  unfold f_X10_setOfThere_4b at hf
  refine V_iload_n (pc' := 5) dX10_setOfThere_4 rfl 2 rfl rfl ?_
  refine V_aload_n (pc' := 6) dX10_setOfThere_5 rfl 0 rfl rfl ?_
  refine V_alen (pc' := 7) dX10_setOfThere_6 rfl hs0 (by decide) ?_
  refine V_icmp_ge (tgt := 29) (pc' := 10) dX10_setOfThere_7 (by decide) rfl hf (fun hf => ?_) (fun hf => ?_)
  ·
    refine V_aload_n (pc' := 11) dX10_setOfThere_10 rfl 0 rfl rfl ?_
    refine V_iload_n (pc' := 12) dX10_setOfThere_11 rfl 2 rfl rfl ?_
    refine V_iald (pc' := 13) dX10_setOfThere_12 rfl hs0 hf (fun x_1 hf => ?_)
    refine V_iconst (v := (-1)) (pc' := 14) dX10_setOfThere_13 rfl (by decide) ?_
    refine V_icmp_eq (tgt := 23) (pc' := 17) dX10_setOfThere_14 (by decide) rfl hf (fun hf => ?_) (fun hf => ?_)
    ·
      exact V_sub (lv' := [(0, .ref a0), (1, .int p.1), (2, .int p.2)]) [0, 1, 2] rfl (v_X10_setOfThere_23 hk4 hs0 hf)
    ·
      refine V_iload_n (pc' := 18) dX10_setOfThere_17 rfl 1 rfl rfl ?_
      refine V_iconst (v := 1) (pc' := 19) dX10_setOfThere_18 rfl (by decide) ?_
      refine V_iload_n (pc' := 20) dX10_setOfThere_19 rfl 2 rfl rfl ?_
      refine V_ishl (pc' := 21) dX10_setOfThere_20 rfl ?_
      refine V_ior (pc' := 22) dX10_setOfThere_21 rfl ?_
      refine V_nmI hf (fun x_2 hf => ?_)
      refine V_istore_n (lv' := [(1, .int x_2), (0, .ref a0), (2, .int p.2)]) (pc' := 23) dX10_setOfThere_22 rfl rfl (Nat.le_of_ble_eq_true rfl) rfl ?_
      exact V_sub (lv' := [(0, .ref a0), (1, .int x_2), (2, .int p.2)]) [1, 0, 2] rfl (v_X10_setOfThere_23 hk4 hs0 hf)
  ·
    refine V_iload_n (pc' := 30) dX10_setOfThere_29 rfl 1 rfl rfl ?_
    obtain rfl := Option.some.inj hf
    exact V_iret dX10_setOfThere_30 rfl rfl rfl ⟨rfl, rfl, rfl⟩
theorem v_X10_setOfThere_4 {l : Launch} {G : GE} {B N : Nat} {S : List SHP} {o : Int32 × MH} {a0 : Nat}    (hs0 : S[a0]? = some (.inr 0)) {n : Nat} {p : Int32 × Int32} {h : MH} (hf : f_X10_setOfThere_4 a0 n p h = some o) : V l G B N mX10_setOfThere (rmm 3 0 0) false 0 0 (QI S o) S 0 0 4 [(0, .ref a0), (1, .int p.1), (2, .int p.2)] [] h :=
  V_lp (VV := fun p h => V l G B N mX10_setOfThere (rmm 3 0 0) false 0 0 (QI S o) S 0 0 4 [(0, .ref a0), (1, .int p.1), (2, .int p.2)] [] h) (fun _ hk _ _ hf => v_X10_setOfThere_4b hs0 hk hf) n p h hf
set_option maxRecDepth 100000 in
set_option maxHeartbeats 4000000 in
theorem v_X10_setOfThere {l : Launch} {G : GE} {B N : Nat} {S : List SHP} {o : Int32 × MH} {a0 : Nat}    (hs0 : S[a0]? = some (.inr 0)) {h : MH} (hf : f_X10_setOfThere a0 h = some o) : V l G B N mX10_setOfThere (rmm 3 0 0) false 0 0 (QI S o) S 0 0 0 [(0, .ref a0)] [] h := by
  unfold f_X10_setOfThere at hf
  refine V_iconst (v := 0) (pc' := 1) dX10_setOfThere_0 rfl (by decide) ?_
  refine V_istore_n (lv' := [(1, .int 0), (0, .ref a0)]) (pc' := 2) dX10_setOfThere_1 rfl rfl (Nat.le_of_ble_eq_true rfl) rfl ?_
  refine V_iconst (v := 0) (pc' := 3) dX10_setOfThere_2 rfl (by decide) ?_
  refine V_istore_n (lv' := [(2, .int 0), (1, .int 0), (0, .ref a0)]) (pc' := 4) dX10_setOfThere_3 rfl rfl (Nat.le_of_ble_eq_true rfl) rfl ?_
  exact V_sub (lv' := [(0, .ref a0), (1, .int 0), (2, .int 0)]) [2, 1, 0] rfl (v_X10_setOfThere_4 hs0 hf)
theorem ct_X10_setOfThere {l : Launch} {S : List SHP} {h : MH} {a0 : Nat} (hs0 : S[a0]? = some (.inr 0)) {q : Int32 × MH} (hf : f_X10_setOfThere a0 h = some q) : CT l mX10_setOfThere 3 false 0 0 S [.ref a0] h (QI S q) :=
  CT_ofV (by decide) rfl (Nat.le_of_ble_eq_true rfl) (fun G B hT => v_X10_setOfThere hs0 hf)
/-! LabelStacks.wayStart()I -/
theorem dX10_wayStart_0 : decode cX10_wayStart 0 = .ok (.aload_n 0, 1) := by decide +kernel
theorem dX10_wayStart_1 : decode cX10_wayStart 1 = .ok (.getfield 12, 3) := by decide +kernel
theorem dX10_wayStart_4 : decode cX10_wayStart 4 = .ok (.getfield 99, 3) := by decide +kernel
theorem dX10_wayStart_7 : decode cX10_wayStart 7 = .ok (.aload_n 0, 1) := by decide +kernel
theorem dX10_wayStart_8 : decode cX10_wayStart 8 = .ok (.getfield 12, 3) := by decide +kernel
theorem dX10_wayStart_11 : decode cX10_wayStart 11 = .ok (.getfield 162, 3) := by decide +kernel
theorem dX10_wayStart_14 : decode cX10_wayStart 14 = .ok (.iconst 0, 1) := by decide +kernel
theorem dX10_wayStart_15 : decode cX10_wayStart 15 = .ok (.invokevirtual 277, 3) := by decide +kernel
theorem dX10_wayStart_18 : decode cX10_wayStart 18 = .ok (.invokevirtual 382, 3) := by decide +kernel
theorem dX10_wayStart_21 : decode cX10_wayStart 21 = .ok (.ireturn, 1) := by decide +kernel
abbrev mX10_wayStart : MI := (RX10, yX10_wayStart, cX10_wayStart, 1, (some .int))
theorem mok_X10_wayStart : MOKv mX10_wayStart 0 := ⟨⟨bm_1217, bm_114, ⟨by decide, by decide⟩, by decide +kernel⟩, bm_1216, bm_42⟩
def f_X10_wayStart   (a0 : Nat) (h : MH) : Option (Int32 × MH) :=
  (gR h a0 0).bind fun a_1 =>
  (gR h a_1 0).bind fun a_2 =>
  (gR h a0 0).bind fun a_3 =>
  (gR h a_3 6).bind fun a_4 =>
  (f_X5_get a_4 0 h).bind fun q_5 =>
  (f_X2_fromOf a_2 q_5.1 q_5.2).bind fun q_6 =>
  some (q_6.1, q_6.2)
set_option maxRecDepth 100000 in
set_option maxHeartbeats 4000000 in
theorem v_X10_wayStart {l : Launch} {G : GE} {B N : Nat} {S : List SHP} {o : Int32 × MH} {a0 : Nat}    (hs0 : S[a0]? = some (.inl 10)) {h : MH} (hf : f_X10_wayStart a0 h = some o) : V l G B N mX10_wayStart (rmm 4 0 0) false 0 0 (QI S o) S 0 0 0 [(0, .ref a0)] [] h := by
  unfold f_X10_wayStart at hf
  refine V_aload_n (pc' := 1) dX10_wayStart_0 rfl 0 rfl rfl ?_
  refine V_getR (pc' := 4) 10 0 dX10_wayStart_1 rfl (by decide) (Nat.le_of_ble_eq_true rfl) bm_458 hs0 (fun _ _ _ => rfl) rfl hf (fun a_1 ha_1 hf => ?_)
  refine V_getR (pc' := 7) 7 0 dX10_wayStart_4 rfl (by decide) (Nat.le_of_ble_eq_true rfl) bm_263 ha_1 (fun _ _ _ => rfl) rfl hf (fun a_2 ha_2 hf => ?_)
  refine V_aload_n (pc' := 8) dX10_wayStart_7 rfl 0 rfl rfl ?_
  refine V_getR (pc' := 11) 10 0 dX10_wayStart_8 rfl (by decide) (Nat.le_of_ble_eq_true rfl) bm_458 hs0 (fun _ _ _ => rfl) rfl hf (fun a_3 ha_3 hf => ?_)
  refine V_getR (pc' := 14) 7 6 dX10_wayStart_11 rfl (by decide) (Nat.le_of_ble_eq_true rfl) bm_275 ha_3 (fun _ _ _ => rfl) rfl hf (fun a_4 ha_4 hf => ?_)
  refine V_iconst (v := 0) (pc' := 15) dX10_wayStart_14 rfl (by decide) ?_
  refine V_cvI (pc' := 18) (As := [.int 0]) (rest := [.ref a_2]) dX10_wayStart_15 rfl mok_X5_get bm_613 5 (by decide) rfl ha_4 rfl rfl (Nat.le_of_ble_eq_true rfl) (by decide) hf (fun q e => ct_X5_get ha_4 e) (fun q_5 hf => ?_)
  refine V_cvI (pc' := 21) (As := [.int q_5.1]) (rest := []) dX10_wayStart_18 rfl mok_X2_fromOf bm_977 2 (by decide) rfl ha_2 rfl rfl (Nat.le_of_ble_eq_true rfl) (by decide) hf (fun q e => ct_X2_fromOf ha_2 e) (fun q_6 hf => ?_)
  obtain rfl := Option.some.inj hf
  exact V_iret dX10_wayStart_21 rfl rfl rfl ⟨rfl, rfl, rfl⟩
theorem ct_X10_wayStart {l : Launch} {S : List SHP} {h : MH} {a0 : Nat} (hs0 : S[a0]? = some (.inl 10)) {q : Int32 × MH} (hf : f_X10_wayStart a0 h = some q) : CT l mX10_wayStart 4 false 0 0 S [.ref a0] h (QI S q) :=
  CT_ofV (by decide) rfl (Nat.le_of_ble_eq_true rfl) (fun G B hT => v_X10_wayStart hs0 hf)
/-! LabelStacks.look(I)I -/
theorem dX10_look_0 : decode cX10_look 0 = .ok (.iload_n 1, 1) := by decide +kernel
theorem dX10_look_1 : decode cX10_look 1 = .ok (.tableswitch 205 0 13 #[71, 82, 93, 104, 109, 120, 128, 142, 153, 161, 169, 177, 195, 200], 71) := by decide +kernel
theorem dX10_look_72 : decode cX10_look 72 = .ok (.aload_n 0, 1) := by decide +kernel
theorem dX10_look_73 : decode cX10_look 73 = .ok (.getfield 12, 3) := by decide +kernel
theorem dX10_look_76 : decode cX10_look 76 = .ok (.getfield 99, 3) := by decide +kernel
theorem dX10_look_79 : decode cX10_look 79 = .ok (.getfield 355, 3) := by decide +kernel
theorem dX10_look_82 : decode cX10_look 82 = .ok (.ireturn, 1) := by decide +kernel
theorem dX10_look_83 : decode cX10_look 83 = .ok (.aload_n 0, 1) := by decide +kernel
theorem dX10_look_84 : decode cX10_look 84 = .ok (.getfield 12, 3) := by decide +kernel
theorem dX10_look_87 : decode cX10_look 87 = .ok (.getfield 99, 3) := by decide +kernel
theorem dX10_look_90 : decode cX10_look 90 = .ok (.getfield 118, 3) := by decide +kernel
theorem dX10_look_93 : decode cX10_look 93 = .ok (.ireturn, 1) := by decide +kernel
theorem dX10_look_94 : decode cX10_look 94 = .ok (.aload_n 0, 1) := by decide +kernel
theorem dX10_look_95 : decode cX10_look 95 = .ok (.getfield 12, 3) := by decide +kernel
theorem dX10_look_98 : decode cX10_look 98 = .ok (.getfield 99, 3) := by decide +kernel
theorem dX10_look_101 : decode cX10_look 101 = .ok (.getfield 358, 3) := by decide +kernel
theorem dX10_look_104 : decode cX10_look 104 = .ok (.ireturn, 1) := by decide +kernel
theorem dX10_look_105 : decode cX10_look 105 = .ok (.aload_n 0, 1) := by decide +kernel
theorem dX10_look_106 : decode cX10_look 106 = .ok (.getfield 25, 3) := by decide +kernel
theorem dX10_look_109 : decode cX10_look 109 = .ok (.ireturn, 1) := by decide +kernel
theorem dX10_look_110 : decode cX10_look 110 = .ok (.aload_n 0, 1) := by decide +kernel
theorem dX10_look_111 : decode cX10_look 111 = .ok (.getfield 12, 3) := by decide +kernel
theorem dX10_look_114 : decode cX10_look 114 = .ok (.getfield 162, 3) := by decide +kernel
theorem dX10_look_117 : decode cX10_look 117 = .ok (.getfield 168, 3) := by decide +kernel
theorem dX10_look_120 : decode cX10_look 120 = .ok (.ireturn, 1) := by decide +kernel
theorem dX10_look_121 : decode cX10_look 121 = .ok (.aload_n 0, 1) := by decide +kernel
theorem dX10_look_122 : decode cX10_look 122 = .ok (.getfield 21, 3) := by decide +kernel
theorem dX10_look_125 : decode cX10_look 125 = .ok (.getfield 168, 3) := by decide +kernel
theorem dX10_look_128 : decode cX10_look 128 = .ok (.ireturn, 1) := by decide +kernel
theorem dX10_look_129 : decode cX10_look 129 = .ok (.aload_n 0, 1) := by decide +kernel
theorem dX10_look_130 : decode cX10_look 130 = .ok (.getfield 12, 3) := by decide +kernel
theorem dX10_look_133 : decode cX10_look 133 = .ok (.getfield 99, 3) := by decide +kernel
theorem dX10_look_136 : decode cX10_look 136 = .ok (.getfield 146, 3) := by decide +kernel
theorem dX10_look_139 : decode cX10_look 139 = .ok (.invokestatic 361, 3) := by decide +kernel
theorem dX10_look_142 : decode cX10_look 142 = .ok (.ireturn, 1) := by decide +kernel
theorem dX10_look_143 : decode cX10_look 143 = .ok (.aload_n 0, 1) := by decide +kernel
theorem dX10_look_144 : decode cX10_look 144 = .ok (.getfield 12, 3) := by decide +kernel
theorem dX10_look_147 : decode cX10_look 147 = .ok (.getfield 258, 3) := by decide +kernel
theorem dX10_look_150 : decode cX10_look 150 = .ok (.invokestatic 361, 3) := by decide +kernel
theorem dX10_look_153 : decode cX10_look 153 = .ok (.ireturn, 1) := by decide +kernel
theorem dX10_look_154 : decode cX10_look 154 = .ok (.aload_n 0, 1) := by decide +kernel
theorem dX10_look_155 : decode cX10_look 155 = .ok (.getfield 12, 3) := by decide +kernel
theorem dX10_look_158 : decode cX10_look 158 = .ok (.getfield 302, 3) := by decide +kernel
theorem dX10_look_161 : decode cX10_look 161 = .ok (.ireturn, 1) := by decide +kernel
theorem dX10_look_162 : decode cX10_look 162 = .ok (.aload_n 0, 1) := by decide +kernel
theorem dX10_look_163 : decode cX10_look 163 = .ok (.getfield 32, 3) := by decide +kernel
theorem dX10_look_166 : decode cX10_look 166 = .ok (.getfield 338, 3) := by decide +kernel
theorem dX10_look_169 : decode cX10_look 169 = .ok (.ireturn, 1) := by decide +kernel
theorem dX10_look_170 : decode cX10_look 170 = .ok (.aload_n 0, 1) := by decide +kernel
theorem dX10_look_171 : decode cX10_look 171 = .ok (.getfield 52, 3) := by decide +kernel
theorem dX10_look_174 : decode cX10_look 174 = .ok (.getfield 315, 3) := by decide +kernel
theorem dX10_look_177 : decode cX10_look 177 = .ok (.ireturn, 1) := by decide +kernel
theorem dX10_look_178 : decode cX10_look 178 = .ok (.aload_n 0, 1) := by decide +kernel
theorem dX10_look_179 : decode cX10_look 179 = .ok (.getfield 12, 3) := by decide +kernel
theorem dX10_look_182 : decode cX10_look 182 = .ok (.getfield 99, 3) := by decide +kernel
theorem dX10_look_185 : decode cX10_look 185 = .ok (.aload_n 0, 1) := by decide +kernel
theorem dX10_look_186 : decode cX10_look 186 = .ok (.getfield 12, 3) := by decide +kernel
theorem dX10_look_189 : decode cX10_look 189 = .ok (.getfield 162, 3) := by decide +kernel
theorem dX10_look_192 : decode cX10_look 192 = .ok (.invokevirtual 288, 3) := by decide +kernel
theorem dX10_look_195 : decode cX10_look 195 = .ok (.ireturn, 1) := by decide +kernel
theorem dX10_look_196 : decode cX10_look 196 = .ok (.aload_n 0, 1) := by decide +kernel
theorem dX10_look_197 : decode cX10_look 197 = .ok (.invokevirtual 365, 3) := by decide +kernel
theorem dX10_look_200 : decode cX10_look 200 = .ok (.ireturn, 1) := by decide +kernel
theorem dX10_look_201 : decode cX10_look 201 = .ok (.aload_n 0, 1) := by decide +kernel
theorem dX10_look_202 : decode cX10_look 202 = .ok (.invokevirtual 174, 3) := by decide +kernel
theorem dX10_look_205 : decode cX10_look 205 = .ok (.ireturn, 1) := by decide +kernel
theorem dX10_look_206 : decode cX10_look 206 = .ok (.iconst (-1), 1) := by decide +kernel
theorem dX10_look_207 : decode cX10_look 207 = .ok (.ireturn, 1) := by decide +kernel
abbrev mX10_look : MI := (RX10, yX10_look, cX10_look, 2, (some .int))
theorem mok_X10_look : MOKv mX10_look 1 := ⟨⟨bm_1210, bm_114, ⟨by decide, by decide⟩, by decide +kernel⟩, bm_1208, bm_1209⟩
def f_X10_look   (a0 : Nat) (x1 : Int32) (h : MH) : Option (Int32 × MH) :=
  if x1 = 0 then
    (gR h a0 0).bind fun a_1 =>
    (gR h a_1 0).bind fun a_2 =>
    some ((gI h a_2 0), h)
  else
  if x1 = 1 then
      (gR h a0 0).bind fun a_3 =>
      (gR h a_3 0).bind fun a_4 =>
      some ((gI h a_4 1), h)
  else
  if x1 = 2 then
        (gR h a0 0).bind fun a_5 =>
        (gR h a_5 0).bind fun a_6 =>
        some ((gI h a_6 2), h)
  else
  if x1 = 3 then
          some ((gI h a0 2), h)
  else
  if x1 = 4 then
            (gR h a0 0).bind fun a_7 =>
            (gR h a_7 6).bind fun a_8 =>
            some ((gI h a_8 1), h)
  else
  if x1 = 5 then
              (gR h a0 1).bind fun a_9 =>
              some ((gI h a_9 1), h)
  else
  if x1 = 6 then
                (gR h a0 0).bind fun a_10 =>
                (gR h a_10 0).bind fun a_11 =>
                (gR h a_11 6).bind fun a_12 =>
                (f_X10_setOfThere a_12 h).bind fun q_13 =>
                some (q_13.1, q_13.2)
  else
  if x1 = 7 then
                  (gR h a0 0).bind fun a_14 =>
                  (gR h a_14 1).bind fun a_15 =>
                  (f_X10_setOfThere a_15 h).bind fun q_16 =>
                  some (q_16.1, q_16.2)
  else
  if x1 = 8 then
                    (gR h a0 0).bind fun a_17 =>
                    some ((gI h a_17 4), h)
  else
  if x1 = 9 then
                      (gR h a0 3).bind fun a_18 =>
                      some ((gI h a_18 1), h)
  else
  if x1 = 10 then
                        (gR h a0 8).bind fun a_19 =>
                        some ((gI h a_19 1), h)
  else
  if x1 = 11 then
                          (gR h a0 0).bind fun a_20 =>
                          (gR h a_20 0).bind fun a_21 =>
                          (gR h a0 0).bind fun a_22 =>
                          (gR h a_22 6).bind fun a_23 =>
                          (f_X2_costOf a_21 a_23 h).bind fun q_24 =>
                          some (q_24.1, q_24.2)
  else
  if x1 = 12 then
                            (f_X10_wayStart a0 h).bind fun q_25 =>
                            some (q_25.1, q_25.2)
  else
  if x1 = 13 then
                              (f_X10_wayEnd a0 h).bind fun q_26 =>
                              some (q_26.1, q_26.2)
  else
                              some ((-1 : Int32), h)
set_option maxRecDepth 100000 in
set_option maxHeartbeats 4000000 in
theorem v_X10_look {l : Launch} {G : GE} {B N : Nat} {S : List SHP} {o : Int32 × MH} {a0 : Nat} {x1 : Int32}    (hs0 : S[a0]? = some (.inl 10)) {h : MH} (hf : f_X10_look a0 x1 h = some o) : V l G B N mX10_look (rmm 5 0 0) false 0 0 (QI S o) S 0 0 0 [(0, .ref a0), (1, .int x1)] [] h := by
  unfold f_X10_look at hf
  refine V_iload_n (pc' := 1) dX10_look_0 rfl 1 rfl rfl ?_
  by_cases cc0 : x1 = 0
  ·
    replace hf := (if_pos cc0).symm.trans hf
    refine V_tabIn (off := 71) (tgt := 72) dX10_look_1 (by rw [cc0]; decide) (by rw [cc0]; decide) (by rw [cc0]; rfl) (by decide) ?_
    refine V_aload_n (pc' := 73) dX10_look_72 rfl 0 rfl rfl ?_
    refine V_getR (pc' := 76) 10 0 dX10_look_73 rfl (by decide) (Nat.le_of_ble_eq_true rfl) bm_458 hs0 (fun _ _ _ => rfl) rfl hf (fun a_1 ha_1 hf => ?_)
    refine V_getR (pc' := 79) 7 0 dX10_look_76 rfl (by decide) (Nat.le_of_ble_eq_true rfl) bm_263 ha_1 (fun _ _ _ => rfl) rfl hf (fun a_2 ha_2 hf => ?_)
    refine V_getI (pc' := 82) 2 0 dX10_look_79 rfl (by decide) (Nat.le_of_ble_eq_true rfl) bm_187 ha_2 (fun _ _ _ => rfl) ?_
    obtain rfl := Option.some.inj hf
    exact V_iret dX10_look_82 rfl rfl rfl ⟨rfl, rfl, rfl⟩
  ·
    replace hf := (if_neg cc0).symm.trans hf
    by_cases cc1 : x1 = 1
    ·
      replace hf := (if_pos cc1).symm.trans hf
      refine V_tabIn (off := 82) (tgt := 83) dX10_look_1 (by rw [cc1]; decide) (by rw [cc1]; decide) (by rw [cc1]; rfl) (by decide) ?_
      refine V_aload_n (pc' := 84) dX10_look_83 rfl 0 rfl rfl ?_
      refine V_getR (pc' := 87) 10 0 dX10_look_84 rfl (by decide) (Nat.le_of_ble_eq_true rfl) bm_458 hs0 (fun _ _ _ => rfl) rfl hf (fun a_3 ha_3 hf => ?_)
      refine V_getR (pc' := 90) 7 0 dX10_look_87 rfl (by decide) (Nat.le_of_ble_eq_true rfl) bm_263 ha_3 (fun _ _ _ => rfl) rfl hf (fun a_4 ha_4 hf => ?_)
      refine V_getI (pc' := 93) 2 1 dX10_look_90 rfl (by decide) (Nat.le_of_ble_eq_true rfl) bm_189 ha_4 (fun _ _ _ => rfl) ?_
      obtain rfl := Option.some.inj hf
      exact V_iret dX10_look_93 rfl rfl rfl ⟨rfl, rfl, rfl⟩
    ·
      replace hf := (if_neg cc1).symm.trans hf
      by_cases cc2 : x1 = 2
      ·
        replace hf := (if_pos cc2).symm.trans hf
        refine V_tabIn (off := 93) (tgt := 94) dX10_look_1 (by rw [cc2]; decide) (by rw [cc2]; decide) (by rw [cc2]; rfl) (by decide) ?_
        refine V_aload_n (pc' := 95) dX10_look_94 rfl 0 rfl rfl ?_
        refine V_getR (pc' := 98) 10 0 dX10_look_95 rfl (by decide) (Nat.le_of_ble_eq_true rfl) bm_458 hs0 (fun _ _ _ => rfl) rfl hf (fun a_5 ha_5 hf => ?_)
        refine V_getR (pc' := 101) 7 0 dX10_look_98 rfl (by decide) (Nat.le_of_ble_eq_true rfl) bm_263 ha_5 (fun _ _ _ => rfl) rfl hf (fun a_6 ha_6 hf => ?_)
        refine V_getI (pc' := 104) 2 2 dX10_look_101 rfl (by decide) (Nat.le_of_ble_eq_true rfl) bm_196 ha_6 (fun _ _ _ => rfl) ?_
        obtain rfl := Option.some.inj hf
        exact V_iret dX10_look_104 rfl rfl rfl ⟨rfl, rfl, rfl⟩
      ·
        replace hf := (if_neg cc2).symm.trans hf
        by_cases cc3 : x1 = 3
        ·
          replace hf := (if_pos cc3).symm.trans hf
          refine V_tabIn (off := 104) (tgt := 105) dX10_look_1 (by rw [cc3]; decide) (by rw [cc3]; decide) (by rw [cc3]; rfl) (by decide) ?_
          refine V_aload_n (pc' := 106) dX10_look_105 rfl 0 rfl rfl ?_
          refine V_getI (pc' := 109) 10 2 dX10_look_106 rfl (by decide) (Nat.le_of_ble_eq_true rfl) bm_460 hs0 (fun _ _ _ => rfl) ?_
          obtain rfl := Option.some.inj hf
          exact V_iret dX10_look_109 rfl rfl rfl ⟨rfl, rfl, rfl⟩
        ·
          replace hf := (if_neg cc3).symm.trans hf
          by_cases cc4 : x1 = 4
          ·
            replace hf := (if_pos cc4).symm.trans hf
            refine V_tabIn (off := 109) (tgt := 110) dX10_look_1 (by rw [cc4]; decide) (by rw [cc4]; decide) (by rw [cc4]; rfl) (by decide) ?_
            refine V_aload_n (pc' := 111) dX10_look_110 rfl 0 rfl rfl ?_
            refine V_getR (pc' := 114) 10 0 dX10_look_111 rfl (by decide) (Nat.le_of_ble_eq_true rfl) bm_458 hs0 (fun _ _ _ => rfl) rfl hf (fun a_7 ha_7 hf => ?_)
            refine V_getR (pc' := 117) 7 6 dX10_look_114 rfl (by decide) (Nat.le_of_ble_eq_true rfl) bm_275 ha_7 (fun _ _ _ => rfl) rfl hf (fun a_8 ha_8 hf => ?_)
            refine V_getI (pc' := 120) 5 1 dX10_look_117 rfl (by decide) (Nat.le_of_ble_eq_true rfl) bm_256 ha_8 (fun _ _ _ => rfl) ?_
            obtain rfl := Option.some.inj hf
            exact V_iret dX10_look_120 rfl rfl rfl ⟨rfl, rfl, rfl⟩
          ·
            replace hf := (if_neg cc4).symm.trans hf
            by_cases cc5 : x1 = 5
            ·
              replace hf := (if_pos cc5).symm.trans hf
              refine V_tabIn (off := 120) (tgt := 121) dX10_look_1 (by rw [cc5]; decide) (by rw [cc5]; decide) (by rw [cc5]; rfl) (by decide) ?_
              refine V_aload_n (pc' := 122) dX10_look_121 rfl 0 rfl rfl ?_
              refine V_getR (pc' := 125) 10 1 dX10_look_122 rfl (by decide) (Nat.le_of_ble_eq_true rfl) bm_459 hs0 (fun _ _ _ => rfl) rfl hf (fun a_9 ha_9 hf => ?_)
              refine V_getI (pc' := 128) 5 1 dX10_look_125 rfl (by decide) (Nat.le_of_ble_eq_true rfl) bm_256 ha_9 (fun _ _ _ => rfl) ?_
              obtain rfl := Option.some.inj hf
              exact V_iret dX10_look_128 rfl rfl rfl ⟨rfl, rfl, rfl⟩
            ·
              replace hf := (if_neg cc5).symm.trans hf
              by_cases cc6 : x1 = 6
              ·
                replace hf := (if_pos cc6).symm.trans hf
                refine V_tabIn (off := 128) (tgt := 129) dX10_look_1 (by rw [cc6]; decide) (by rw [cc6]; decide) (by rw [cc6]; rfl) (by decide) ?_
                refine V_aload_n (pc' := 130) dX10_look_129 rfl 0 rfl rfl ?_
                refine V_getR (pc' := 133) 10 0 dX10_look_130 rfl (by decide) (Nat.le_of_ble_eq_true rfl) bm_458 hs0 (fun _ _ _ => rfl) rfl hf (fun a_10 ha_10 hf => ?_)
                refine V_getR (pc' := 136) 7 0 dX10_look_133 rfl (by decide) (Nat.le_of_ble_eq_true rfl) bm_263 ha_10 (fun _ _ _ => rfl) rfl hf (fun a_11 ha_11 hf => ?_)
                refine V_getR (pc' := 139) 2 6 dX10_look_136 rfl (by decide) (Nat.le_of_ble_eq_true rfl) bm_213 ha_11 (fun _ _ _ => rfl) rfl hf (fun a_12 ha_12 hf => ?_)
                refine V_csI (pc' := 142) (As := [.ref a_12]) (rest := []) dX10_look_139 rfl mok_X10_setOfThere bm_1211 rfl rfl (Nat.le_of_ble_eq_true rfl) (by decide) hf (fun q e => ct_X10_setOfThere ha_12 e) (fun q_13 hf => ?_)
                obtain rfl := Option.some.inj hf
                exact V_iret dX10_look_142 rfl rfl rfl ⟨rfl, rfl, rfl⟩
              ·
                replace hf := (if_neg cc6).symm.trans hf
                by_cases cc7 : x1 = 7
                ·
                  replace hf := (if_pos cc7).symm.trans hf
                  refine V_tabIn (off := 142) (tgt := 143) dX10_look_1 (by rw [cc7]; decide) (by rw [cc7]; decide) (by rw [cc7]; rfl) (by decide) ?_
                  refine V_aload_n (pc' := 144) dX10_look_143 rfl 0 rfl rfl ?_
                  refine V_getR (pc' := 147) 10 0 dX10_look_144 rfl (by decide) (Nat.le_of_ble_eq_true rfl) bm_458 hs0 (fun _ _ _ => rfl) rfl hf (fun a_14 ha_14 hf => ?_)
                  refine V_getR (pc' := 150) 7 1 dX10_look_147 rfl (by decide) (Nat.le_of_ble_eq_true rfl) bm_265 ha_14 (fun _ _ _ => rfl) rfl hf (fun a_15 ha_15 hf => ?_)
                  refine V_csI (pc' := 153) (As := [.ref a_15]) (rest := []) dX10_look_150 rfl mok_X10_setOfThere bm_1211 rfl rfl (Nat.le_of_ble_eq_true rfl) (by decide) hf (fun q e => ct_X10_setOfThere ha_15 e) (fun q_16 hf => ?_)
                  obtain rfl := Option.some.inj hf
                  exact V_iret dX10_look_153 rfl rfl rfl ⟨rfl, rfl, rfl⟩
                ·
                  replace hf := (if_neg cc7).symm.trans hf
                  by_cases cc8 : x1 = 8
                  ·
                    replace hf := (if_pos cc8).symm.trans hf
                    refine V_tabIn (off := 153) (tgt := 154) dX10_look_1 (by rw [cc8]; decide) (by rw [cc8]; decide) (by rw [cc8]; rfl) (by decide) ?_
                    refine V_aload_n (pc' := 155) dX10_look_154 rfl 0 rfl rfl ?_
                    refine V_getR (pc' := 158) 10 0 dX10_look_155 rfl (by decide) (Nat.le_of_ble_eq_true rfl) bm_458 hs0 (fun _ _ _ => rfl) rfl hf (fun a_17 ha_17 hf => ?_)
                    refine V_getI (pc' := 161) 7 4 dX10_look_158 rfl (by decide) (Nat.le_of_ble_eq_true rfl) bm_271 ha_17 (fun _ _ _ => rfl) ?_
                    obtain rfl := Option.some.inj hf
                    exact V_iret dX10_look_161 rfl rfl rfl ⟨rfl, rfl, rfl⟩
                  ·
                    replace hf := (if_neg cc8).symm.trans hf
                    by_cases cc9 : x1 = 9
                    ·
                      replace hf := (if_pos cc9).symm.trans hf
                      refine V_tabIn (off := 161) (tgt := 162) dX10_look_1 (by rw [cc9]; decide) (by rw [cc9]; decide) (by rw [cc9]; rfl) (by decide) ?_
                      refine V_aload_n (pc' := 163) dX10_look_162 rfl 0 rfl rfl ?_
                      refine V_getR (pc' := 166) 10 3 dX10_look_163 rfl (by decide) (Nat.le_of_ble_eq_true rfl) bm_461 hs0 (fun _ _ _ => rfl) rfl hf (fun a_18 ha_18 hf => ?_)
                      refine V_getI (pc' := 169) 0 1 dX10_look_166 rfl (by decide) (Nat.le_of_ble_eq_true rfl) bm_304 ha_18 (fun _ _ _ => rfl) ?_
                      obtain rfl := Option.some.inj hf
                      exact V_iret dX10_look_169 rfl rfl rfl ⟨rfl, rfl, rfl⟩
                    ·
                      replace hf := (if_neg cc9).symm.trans hf
                      by_cases cc10 : x1 = 10
                      ·
                        replace hf := (if_pos cc10).symm.trans hf
                        refine V_tabIn (off := 169) (tgt := 170) dX10_look_1 (by rw [cc10]; decide) (by rw [cc10]; decide) (by rw [cc10]; rfl) (by decide) ?_
                        refine V_aload_n (pc' := 171) dX10_look_170 rfl 0 rfl rfl ?_
                        refine V_getR (pc' := 174) 10 8 dX10_look_171 rfl (by decide) (Nat.le_of_ble_eq_true rfl) bm_466 hs0 (fun _ _ _ => rfl) rfl hf (fun a_19 ha_19 hf => ?_)
                        refine V_getI (pc' := 177) 8 1 dX10_look_174 rfl (by decide) (Nat.le_of_ble_eq_true rfl) bm_320 ha_19 (fun _ _ _ => rfl) ?_
                        obtain rfl := Option.some.inj hf
                        exact V_iret dX10_look_177 rfl rfl rfl ⟨rfl, rfl, rfl⟩
                      ·
                        replace hf := (if_neg cc10).symm.trans hf
                        by_cases cc11 : x1 = 11
                        ·
                          replace hf := (if_pos cc11).symm.trans hf
                          refine V_tabIn (off := 177) (tgt := 178) dX10_look_1 (by rw [cc11]; decide) (by rw [cc11]; decide) (by rw [cc11]; rfl) (by decide) ?_
                          refine V_aload_n (pc' := 179) dX10_look_178 rfl 0 rfl rfl ?_
                          refine V_getR (pc' := 182) 10 0 dX10_look_179 rfl (by decide) (Nat.le_of_ble_eq_true rfl) bm_458 hs0 (fun _ _ _ => rfl) rfl hf (fun a_20 ha_20 hf => ?_)
                          refine V_getR (pc' := 185) 7 0 dX10_look_182 rfl (by decide) (Nat.le_of_ble_eq_true rfl) bm_263 ha_20 (fun _ _ _ => rfl) rfl hf (fun a_21 ha_21 hf => ?_)
                          refine V_aload_n (pc' := 186) dX10_look_185 rfl 0 rfl rfl ?_
                          refine V_getR (pc' := 189) 10 0 dX10_look_186 rfl (by decide) (Nat.le_of_ble_eq_true rfl) bm_458 hs0 (fun _ _ _ => rfl) rfl hf (fun a_22 ha_22 hf => ?_)
                          refine V_getR (pc' := 192) 7 6 dX10_look_189 rfl (by decide) (Nat.le_of_ble_eq_true rfl) bm_275 ha_22 (fun _ _ _ => rfl) rfl hf (fun a_23 ha_23 hf => ?_)
                          refine V_cvI (pc' := 195) (As := [.ref a_23]) (rest := []) dX10_look_192 rfl mok_X2_costOf bm_984 2 (by decide) rfl ha_21 rfl rfl (Nat.le_of_ble_eq_true rfl) (by decide) hf (fun q e => ct_X2_costOf ha_21 ha_23 e) (fun q_24 hf => ?_)
                          obtain rfl := Option.some.inj hf
                          exact V_iret dX10_look_195 rfl rfl rfl ⟨rfl, rfl, rfl⟩
                        ·
                          replace hf := (if_neg cc11).symm.trans hf
                          by_cases cc12 : x1 = 12
                          ·
                            replace hf := (if_pos cc12).symm.trans hf
                            refine V_tabIn (off := 195) (tgt := 196) dX10_look_1 (by rw [cc12]; decide) (by rw [cc12]; decide) (by rw [cc12]; rfl) (by decide) ?_
                            refine V_aload_n (pc' := 197) dX10_look_196 rfl 0 rfl rfl ?_
                            refine V_cvI (pc' := 200) (As := []) (rest := []) dX10_look_197 rfl mok_X10_wayStart bm_1214 10 (by decide) rfl hs0 rfl rfl (Nat.le_of_ble_eq_true rfl) (by decide) hf (fun q e => ct_X10_wayStart hs0 e) (fun q_25 hf => ?_)
                            obtain rfl := Option.some.inj hf
                            exact V_iret dX10_look_200 rfl rfl rfl ⟨rfl, rfl, rfl⟩
                          ·
                            replace hf := (if_neg cc12).symm.trans hf
                            by_cases cc13 : x1 = 13
                            ·
                              replace hf := (if_pos cc13).symm.trans hf
                              refine V_tabIn (off := 200) (tgt := 201) dX10_look_1 (by rw [cc13]; decide) (by rw [cc13]; decide) (by rw [cc13]; rfl) (by decide) ?_
                              refine V_aload_n (pc' := 202) dX10_look_201 rfl 0 rfl rfl ?_
                              refine V_cvI (pc' := 205) (As := []) (rest := []) dX10_look_202 rfl mok_X10_wayEnd bm_647 10 (by decide) rfl hs0 rfl rfl (Nat.le_of_ble_eq_true rfl) (by decide) hf (fun q e => ct_X10_wayEnd hs0 e) (fun q_26 hf => ?_)
                              obtain rfl := Option.some.inj hf
                              exact V_iret dX10_look_205 rfl rfl rfl ⟨rfl, rfl, rfl⟩
                            ·
                              replace hf := (if_neg cc13).symm.trans hf
                              refine V_tabOut (tgt := 206) dX10_look_1 (by have e0 := tI_ne (z := 0) (by decide) cc0; have e1 := tI_ne (z := 1) (by decide) cc1; have e2 := tI_ne (z := 2) (by decide) cc2; have e3 := tI_ne (z := 3) (by decide) cc3; have e4 := tI_ne (z := 4) (by decide) cc4; have e5 := tI_ne (z := 5) (by decide) cc5; have e6 := tI_ne (z := 6) (by decide) cc6; have e7 := tI_ne (z := 7) (by decide) cc7; have e8 := tI_ne (z := 8) (by decide) cc8; have e9 := tI_ne (z := 9) (by decide) cc9; have e10 := tI_ne (z := 10) (by decide) cc10; have e11 := tI_ne (z := 11) (by decide) cc11; have e12 := tI_ne (z := 12) (by decide) cc12; have e13 := tI_ne (z := 13) (by decide) cc13; omega) (by decide) ?_
                              refine V_iconst (v := (-1)) (pc' := 207) dX10_look_206 rfl (by decide) ?_
                              obtain rfl := Option.some.inj hf
                              exact V_iret dX10_look_207 rfl rfl rfl ⟨rfl, rfl, rfl⟩
theorem ct_X10_look {l : Launch} {S : List SHP} {h : MH} {a0 : Nat} {x1 : Int32} (hs0 : S[a0]? = some (.inl 10)) {q : Int32 × MH} (hf : f_X10_look a0 x1 h = some q) : CT l mX10_look 5 false 0 0 S [.ref a0, .int x1] h (QI S q) :=
  CT_ofV (by decide) rfl (Nat.le_of_ble_eq_true rfl) (fun G B hT => v_X10_look hs0 hf)
