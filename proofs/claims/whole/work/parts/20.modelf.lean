/-! LabelStacksModel.takesWord(Ljava/lang/String;)Z -/
theorem dX11_takesWord_0 : decode cX11_takesWord 0 = .ok (.aload_n 0, 1) := by decide +kernel
theorem dX11_takesWord_1 : decode cX11_takesWord 1 = .ok (.invokevirtual 362, 3) := by decide +kernel
theorem dX11_takesWord_4 : decode cX11_takesWord 4 = .ok (.ifCond .eq 5, 3) := by decide +kernel
theorem dX11_takesWord_7 : decode cX11_takesWord 7 = .ok (.iconst 0, 1) := by decide +kernel
theorem dX11_takesWord_8 : decode cX11_takesWord 8 = .ok (.ireturn, 1) := by decide +kernel
theorem dX11_takesWord_9 : decode cX11_takesWord 9 = .ok (.aload_n 0, 1) := by decide +kernel
theorem dX11_takesWord_10 : decode cX11_takesWord 10 = .ok (.invokevirtual 368, 3) := by decide +kernel
theorem dX11_takesWord_13 : decode cX11_takesWord 13 = .ok (.pop, 1) := by decide +kernel
theorem dX11_takesWord_14 : decode cX11_takesWord 14 = .ok (.aload_n 0, 1) := by decide +kernel
theorem dX11_takesWord_15 : decode cX11_takesWord 15 = .ok (.invokevirtual 371, 3) := by decide +kernel
theorem dX11_takesWord_18 : decode cX11_takesWord 18 = .ok (.aload_n 1, 1) := by decide +kernel
theorem dX11_takesWord_19 : decode cX11_takesWord 19 = .ok (.invokevirtual 374, 3) := by decide +kernel
theorem dX11_takesWord_22 : decode cX11_takesWord 22 = .ok (.if_icmp .eq 5, 3) := by decide +kernel
theorem dX11_takesWord_25 : decode cX11_takesWord 25 = .ok (.iconst 0, 1) := by decide +kernel
theorem dX11_takesWord_26 : decode cX11_takesWord 26 = .ok (.ireturn, 1) := by decide +kernel
theorem dX11_takesWord_27 : decode cX11_takesWord 27 = .ok (.iconst 0, 1) := by decide +kernel
theorem dX11_takesWord_28 : decode cX11_takesWord 28 = .ok (.istore_n 2, 1) := by decide +kernel
theorem dX11_takesWord_29 : decode cX11_takesWord 29 = .ok (.iload_n 2, 1) := by decide +kernel
theorem dX11_takesWord_30 : decode cX11_takesWord 30 = .ok (.aload_n 1, 1) := by decide +kernel
theorem dX11_takesWord_31 : decode cX11_takesWord 31 = .ok (.invokevirtual 374, 3) := by decide +kernel
theorem dX11_takesWord_34 : decode cX11_takesWord 34 = .ok (.if_icmp .ge 30, 3) := by decide +kernel
theorem dX11_takesWord_37 : decode cX11_takesWord 37 = .ok (.aload_n 0, 1) := by decide +kernel
theorem dX11_takesWord_38 : decode cX11_takesWord 38 = .ok (.getfield 72, 3) := by decide +kernel
theorem dX11_takesWord_41 : decode cX11_takesWord 41 = .ok (.aload_n 0, 1) := by decide +kernel
theorem dX11_takesWord_42 : decode cX11_takesWord 42 = .ok (.getfield 353, 3) := by decide +kernel
theorem dX11_takesWord_45 : decode cX11_takesWord 45 = .ok (.iload_n 2, 1) := by decide +kernel
theorem dX11_takesWord_46 : decode cX11_takesWord 46 = .ok (.iadd, 1) := by decide +kernel
theorem dX11_takesWord_47 : decode cX11_takesWord 47 = .ok (.iaload, 1) := by decide +kernel
theorem dX11_takesWord_48 : decode cX11_takesWord 48 = .ok (.aload_n 1, 1) := by decide +kernel
theorem dX11_takesWord_49 : decode cX11_takesWord 49 = .ok (.iload_n 2, 1) := by decide +kernel
theorem dX11_takesWord_50 : decode cX11_takesWord 50 = .ok (.invokevirtual 379, 3) := by decide +kernel
theorem dX11_takesWord_53 : decode cX11_takesWord 53 = .ok (.if_icmp .eq 5, 3) := by decide +kernel
theorem dX11_takesWord_56 : decode cX11_takesWord 56 = .ok (.iconst 0, 1) := by decide +kernel
theorem dX11_takesWord_57 : decode cX11_takesWord 57 = .ok (.ireturn, 1) := by decide +kernel
theorem dX11_takesWord_58 : decode cX11_takesWord 58 = .ok (.iinc 2 1, 3) := by decide +kernel
theorem dX11_takesWord_61 : decode cX11_takesWord 61 = .ok (.goto (-32), 3) := by decide +kernel
theorem dX11_takesWord_64 : decode cX11_takesWord 64 = .ok (.aload_n 0, 1) := by decide +kernel
theorem dX11_takesWord_65 : decode cX11_takesWord 65 = .ok (.aload_n 0, 1) := by decide +kernel
theorem dX11_takesWord_66 : decode cX11_takesWord 66 = .ok (.getfield 353, 3) := by decide +kernel
theorem dX11_takesWord_69 : decode cX11_takesWord 69 = .ok (.aload_n 1, 1) := by decide +kernel
theorem dX11_takesWord_70 : decode cX11_takesWord 70 = .ok (.invokevirtual 374, 3) := by decide +kernel
theorem dX11_takesWord_73 : decode cX11_takesWord 73 = .ok (.iadd, 1) := by decide +kernel
theorem dX11_takesWord_74 : decode cX11_takesWord 74 = .ok (.putfield 353, 3) := by decide +kernel
theorem dX11_takesWord_77 : decode cX11_takesWord 77 = .ok (.iconst 1, 1) := by decide +kernel
theorem dX11_takesWord_78 : decode cX11_takesWord 78 = .ok (.ireturn, 1) := by decide +kernel
abbrev mX11_takesWord : MI := (RX11, yX11_takesWord, cX11_takesWord, 3, (some .boolean))
theorem mok_X11_takesWord : MOKv mX11_takesWord 1 := ⟨⟨bm_1743, bm_127, ⟨by decide, by decide⟩, by decide +kernel⟩, bm_1742, bm_97⟩
def f_X11_takesWord_29b   (a0 : Nat) (s1 : Nat) (k29 : Int32 → MH → Option (Int32 × MH)) (p : Int32) (h : MH) : Option (Int32 × MH) :=
  (strL s1).bind fun x_1 =>
  if p < x_1 then
    (gR h a0 36).bind fun a_2 =>
    (ldI h a_2 ((gI h a0 40) + p)).bind fun x_3 =>
    (strC s1 p).bind fun x_4 =>
    if x_3 = x_4 then
      k29 (p + 1) h
    else
      some (0, h)
  else
    (strL s1).bind fun x_5 =>
    lt (sI h a0 40 ((gI h a0 40) + x_5)) fun h_6 =>
    some (1, h_6)
def f_X11_takesWord_29   (a0 : Nat) (s1 : Nat) : Nat → Int32 → MH → Option (Int32 × MH) := lp (f_X11_takesWord_29b a0 s1)
def f_X11_takesWord   (a0 : Nat) (s1 : Nat) (h : MH) : Option (Int32 × MH) :=
  (f_X11_isWrong a0 h).bind fun q_1 =>
  if q_1.1 = 0 then
    (f_X11_behindBlanks a0 q_1.2).bind fun q_2 =>
    (f_X11_letters a0 q_2.2).bind fun q_3 =>
    (strL s1).bind fun x_4 =>
    if q_3.1 = x_4 then
      f_X11_takesWord_29 a0 s1 FU 0 q_3.2
    else
      some (0, q_3.2)
  else
    some (0, q_1.2)
set_option maxRecDepth 100000 in
set_option maxHeartbeats 4000000 in
theorem v_X11_takesWord_29b {l : Launch} {G : GE} {B N : Nat} {S : List SHP} {o : Int32 × MH} {a0 : Nat} {s1 : Nat}    (hs0 : S[a0]? = some (.inl 11)) {k29 : Int32 → MH → Option (Int32 × MH)} (hk29 : ∀ (p : Int32) (h : MH), k29 p h = some o → V l G B N mX11_takesWord (rmm 9 0 0) false 0 0 (QI S o) S 0 0 29 [(0, .ref a0), (1, .retAddr s1), (2, .int p)] [] h) {p : Int32} {h : MH} (hf : f_X11_takesWord_29b a0 s1 k29 p h = some o) : V l G B N mX11_takesWord (rmm 9 0 0) false 0 0 (QI S o) S 0 0 29 [(0, .ref a0), (1, .retAddr s1), (2, .int p)] [] h := by
  unfold f_X11_takesWord_29b at hf
  refine V_iload_n (pc' := 30) dX11_takesWord_29 rfl 2 rfl rfl ?_
  refine V_sload_n (pc' := 31) dX11_takesWord_30 rfl 1 rfl rfl ?_
  refine V_strL (pc' := 34) dX11_takesWord_31 rfl bm_1760 (Nat.le_of_ble_eq_true rfl) (by decide) hf (fun x_1 hf => ?_)
  refine V_icmp_ge (tgt := 64) (pc' := 37) dX11_takesWord_34 (by decide) rfl hf (fun hf => ?_) (fun hf => ?_)
  ·
    refine V_aload_n (pc' := 38) dX11_takesWord_37 rfl 0 rfl rfl ?_
    refine V_getR (pc' := 41) 11 36 dX11_takesWord_38 rfl (by decide) (Nat.le_of_ble_eq_true rfl) bm_1260 hs0 (fun _ _ _ => rfl) rfl hf (fun a_2 ha_2 hf => ?_)
    refine V_aload_n (pc' := 42) dX11_takesWord_41 rfl 0 rfl rfl ?_
    refine V_getI (pc' := 45) 11 40 dX11_takesWord_42 rfl (by decide) (Nat.le_of_ble_eq_true rfl) bm_1264 hs0 (fun _ _ _ => rfl) ?_
    refine V_iload_n (pc' := 46) dX11_takesWord_45 rfl 2 rfl rfl ?_
    refine V_iadd (pc' := 47) dX11_takesWord_46 rfl ?_
    refine V_iald (pc' := 48) dX11_takesWord_47 rfl ha_2 hf (fun x_3 hf => ?_)
    refine V_sload_n (pc' := 49) dX11_takesWord_48 rfl 1 rfl rfl ?_
    refine V_iload_n (pc' := 50) dX11_takesWord_49 rfl 2 rfl rfl ?_
    refine V_strC (pc' := 53) dX11_takesWord_50 rfl bm_1761 (Nat.le_of_ble_eq_true rfl) (by decide) hf (fun x_4 hf => ?_)
    refine V_icmp_eq (tgt := 58) (pc' := 56) dX11_takesWord_53 (by decide) rfl hf (fun hf => ?_) (fun hf => ?_)
    ·
      refine V_iinc (v := (p + 1)) (lv' := [(2, .int (p + 1)), (0, .ref a0), (1, .retAddr s1)]) (pc' := 61) dX11_takesWord_58 rfl 2 rfl rfl (Nat.le_of_ble_eq_true rfl) rfl ?_
      refine V_goto (tgt := 29) dX11_takesWord_61 (by decide) ?_
      exact V_sub (lv' := [(0, .ref a0), (1, .retAddr s1), (2, .int (p + 1))]) [1, 2, 0] rfl (hk29 (p + 1) h hf)
    ·
      refine V_iconst (v := 0) (pc' := 57) dX11_takesWord_56 rfl (by decide) ?_
      obtain rfl := Option.some.inj hf
      exact V_zretL dX11_takesWord_57 rfl rfl rfl (by decide) ⟨rfl, rfl, rfl⟩
  ·
    refine V_aload_n (pc' := 65) dX11_takesWord_64 rfl 0 rfl rfl ?_
    refine V_aload_n (pc' := 66) dX11_takesWord_65 rfl 0 rfl rfl ?_
    refine V_getI (pc' := 69) 11 40 dX11_takesWord_66 rfl (by decide) (Nat.le_of_ble_eq_true rfl) bm_1264 hs0 (fun _ _ _ => rfl) ?_
    refine V_sload_n (pc' := 70) dX11_takesWord_69 rfl 1 rfl rfl ?_
    refine V_strL (pc' := 73) dX11_takesWord_70 rfl bm_1760 (Nat.le_of_ble_eq_true rfl) (by decide) hf (fun x_5 hf => ?_)
    refine V_iadd (pc' := 74) dX11_takesWord_73 rfl ?_
    refine V_putI (pc' := 77) 11 40 dX11_takesWord_74 rfl (by decide) (Nat.le_of_ble_eq_true rfl) bm_1264 hs0 (Or.inl rfl) rfl ?_
    refine V_nmH hf (fun h_6 hf => ?_)
    refine V_iconst (v := 1) (pc' := 78) dX11_takesWord_77 rfl (by decide) ?_
    obtain rfl := Option.some.inj hf
    exact V_zretL dX11_takesWord_78 rfl rfl rfl (by decide) ⟨rfl, rfl, rfl⟩
theorem v_X11_takesWord_29 {l : Launch} {G : GE} {B N : Nat} {S : List SHP} {o : Int32 × MH} {a0 : Nat} {s1 : Nat}    (hs0 : S[a0]? = some (.inl 11)) {n : Nat} {p : Int32} {h : MH} (hf : f_X11_takesWord_29 a0 s1 n p h = some o) : V l G B N mX11_takesWord (rmm 9 0 0) false 0 0 (QI S o) S 0 0 29 [(0, .ref a0), (1, .retAddr s1), (2, .int p)] [] h :=
  V_lp (VV := fun p h => V l G B N mX11_takesWord (rmm 9 0 0) false 0 0 (QI S o) S 0 0 29 [(0, .ref a0), (1, .retAddr s1), (2, .int p)] [] h) (fun _ hk _ _ hf => v_X11_takesWord_29b hs0 hk hf) n p h hf
set_option maxRecDepth 100000 in
set_option maxHeartbeats 4000000 in
theorem v_X11_takesWord {l : Launch} {G : GE} {B N : Nat} {S : List SHP} {o : Int32 × MH} {a0 : Nat} {s1 : Nat}    (hs0 : S[a0]? = some (.inl 11)) {h : MH} (hf : f_X11_takesWord a0 s1 h = some o) : V l G B N mX11_takesWord (rmm 9 0 0) false 0 0 (QI S o) S 0 0 0 [(0, .ref a0), (1, .retAddr s1)] [] h := by
  unfold f_X11_takesWord at hf
  refine V_aload_n (pc' := 1) dX11_takesWord_0 rfl 0 rfl rfl ?_
  refine V_cvI (pc' := 4) (As := []) (rest := []) dX11_takesWord_1 rfl mok_X11_isWrong bm_1744 11 (by decide) rfl hs0 rfl rfl (Nat.le_of_ble_eq_true rfl) (by decide) hf (fun q e => ct_X11_isWrong hs0 e) (fun q_1 hf => ?_)
  refine V_if_eq (tgt := 9) (pc' := 7) dX11_takesWord_4 (by decide) rfl hf (fun hf => ?_) (fun hf => ?_)
  ·
    refine V_aload_n (pc' := 10) dX11_takesWord_9 rfl 0 rfl rfl ?_
    refine V_cvI (pc' := 13) (As := []) (rest := []) dX11_takesWord_10 rfl mok_X11_behindBlanks bm_1748 11 (by decide) rfl hs0 rfl rfl (Nat.le_of_ble_eq_true rfl) (by decide) hf (fun q e => ct_X11_behindBlanks hs0 e) (fun q_2 hf => ?_)
    refine V_pop (pc' := 14) dX11_takesWord_13 rfl rfl ?_
    refine V_aload_n (pc' := 15) dX11_takesWord_14 rfl 0 rfl rfl ?_
    refine V_cvI (pc' := 18) (As := []) (rest := []) dX11_takesWord_15 rfl mok_X11_letters bm_1756 11 (by decide) rfl hs0 rfl rfl (Nat.le_of_ble_eq_true rfl) (by decide) hf (fun q e => ct_X11_letters hs0 e) (fun q_3 hf => ?_)
    refine V_sload_n (pc' := 19) dX11_takesWord_18 rfl 1 rfl rfl ?_
    refine V_strL (pc' := 22) dX11_takesWord_19 rfl bm_1760 (Nat.le_of_ble_eq_true rfl) (by decide) hf (fun x_4 hf => ?_)
    refine V_icmp_eq (tgt := 27) (pc' := 25) dX11_takesWord_22 (by decide) rfl hf (fun hf => ?_) (fun hf => ?_)
    ·
      refine V_iconst (v := 0) (pc' := 28) dX11_takesWord_27 rfl (by decide) ?_
      refine V_istore_n (lv' := [(2, .int 0), (0, .ref a0), (1, .retAddr s1)]) (pc' := 29) dX11_takesWord_28 rfl rfl (Nat.le_of_ble_eq_true rfl) rfl ?_
      exact V_sub (lv' := [(0, .ref a0), (1, .retAddr s1), (2, .int 0)]) [1, 2, 0] rfl (v_X11_takesWord_29 hs0 hf)
    ·
      refine V_iconst (v := 0) (pc' := 26) dX11_takesWord_25 rfl (by decide) ?_
      obtain rfl := Option.some.inj hf
      exact V_zretL dX11_takesWord_26 rfl rfl rfl (by decide) ⟨rfl, rfl, rfl⟩
  ·
    refine V_iconst (v := 0) (pc' := 8) dX11_takesWord_7 rfl (by decide) ?_
    obtain rfl := Option.some.inj hf
    exact V_zretL dX11_takesWord_8 rfl rfl rfl (by decide) ⟨rfl, rfl, rfl⟩
theorem ct_X11_takesWord {l : Launch} {S : List SHP} {h : MH} {a0 : Nat} {s1 : Nat} (hs0 : S[a0]? = some (.inl 11)) {q : Int32 × MH} (hf : f_X11_takesWord a0 s1 h = some q) : CT l mX11_takesWord 9 false 0 0 S [.ref a0, .retAddr s1] h (QI S q) :=
  CT_ofV (by decide) rfl (Nat.le_of_ble_eq_true rfl) (fun G B hT => v_X11_takesWord hs0 hf)
/-! LabelStacksModel.digits(II)I -/
theorem dX11_digits_0 : decode cX11_digits 0 = .ok (.aload_n 0, 1) := by decide +kernel
theorem dX11_digits_1 : decode cX11_digits 1 = .ok (.invokevirtual 362, 3) := by decide +kernel
theorem dX11_digits_4 : decode cX11_digits 4 = .ok (.ifCond .eq 5, 3) := by decide +kernel
theorem dX11_digits_7 : decode cX11_digits 7 = .ok (.iconst 0, 1) := by decide +kernel
theorem dX11_digits_8 : decode cX11_digits 8 = .ok (.ireturn, 1) := by decide +kernel
theorem dX11_digits_9 : decode cX11_digits 9 = .ok (.aload_n 0, 1) := by decide +kernel
theorem dX11_digits_10 : decode cX11_digits 10 = .ok (.aload_n 0, 1) := by decide +kernel
theorem dX11_digits_11 : decode cX11_digits 11 = .ok (.invokevirtual 359, 3) := by decide +kernel
theorem dX11_digits_14 : decode cX11_digits 14 = .ok (.invokevirtual 383, 3) := by decide +kernel
theorem dX11_digits_17 : decode cX11_digits 17 = .ok (.ifCond .ne 13, 3) := by decide +kernel
theorem dX11_digits_20 : decode cX11_digits 20 = .ok (.aload_n 0, 1) := by decide +kernel
theorem dX11_digits_21 : decode cX11_digits 21 = .ok (.iconst 1, 1) := by decide +kernel
theorem dX11_digits_22 : decode cX11_digits 22 = .ok (.aload_n 0, 1) := by decide +kernel
theorem dX11_digits_23 : decode cX11_digits 23 = .ok (.getfield 353, 3) := by decide +kernel
theorem dX11_digits_26 : decode cX11_digits 26 = .ok (.invokevirtual 386, 3) := by decide +kernel
theorem dX11_digits_29 : decode cX11_digits 29 = .ok (.ireturn, 1) := by decide +kernel
theorem dX11_digits_30 : decode cX11_digits 30 = .ok (.aload_n 0, 1) := by decide +kernel
theorem dX11_digits_31 : decode cX11_digits 31 = .ok (.getfield 353, 3) := by decide +kernel
theorem dX11_digits_34 : decode cX11_digits 34 = .ok (.istore_n 3, 1) := by decide +kernel
theorem dX11_digits_35 : decode cX11_digits 35 = .ok (.iconst 0, 1) := by decide +kernel
theorem dX11_digits_36 : decode cX11_digits 36 = .ok (.istore 4, 2) := by decide +kernel
theorem dX11_digits_38 : decode cX11_digits 38 = .ok (.aload_n 0, 1) := by decide +kernel
theorem dX11_digits_39 : decode cX11_digits 39 = .ok (.aload_n 0, 1) := by decide +kernel
theorem dX11_digits_40 : decode cX11_digits 40 = .ok (.invokevirtual 359, 3) := by decide +kernel
theorem dX11_digits_43 : decode cX11_digits 43 = .ok (.invokevirtual 383, 3) := by decide +kernel
theorem dX11_digits_46 : decode cX11_digits 46 = .ok (.ifCond .eq 44, 3) := by decide +kernel
theorem dX11_digits_49 : decode cX11_digits 49 = .ok (.iload 4, 2) := by decide +kernel
theorem dX11_digits_51 : decode cX11_digits 51 = .ok (.sipush 9999, 3) := by decide +kernel
theorem dX11_digits_54 : decode cX11_digits 54 = .ok (.if_icmp .le 8, 3) := by decide +kernel
theorem dX11_digits_57 : decode cX11_digits 57 = .ok (.iload 4, 2) := by decide +kernel
theorem dX11_digits_59 : decode cX11_digits 59 = .ok (.goto 16, 3) := by decide +kernel
theorem dX11_digits_62 : decode cX11_digits 62 = .ok (.bipush 10, 2) := by decide +kernel
theorem dX11_digits_64 : decode cX11_digits 64 = .ok (.iload 4, 2) := by decide +kernel
theorem dX11_digits_66 : decode cX11_digits 66 = .ok (.imul, 1) := by decide +kernel
theorem dX11_digits_67 : decode cX11_digits 67 = .ok (.aload_n 0, 1) := by decide +kernel
theorem dX11_digits_68 : decode cX11_digits 68 = .ok (.invokevirtual 359, 3) := by decide +kernel
theorem dX11_digits_71 : decode cX11_digits 71 = .ok (.iadd, 1) := by decide +kernel
theorem dX11_digits_72 : decode cX11_digits 72 = .ok (.bipush 48, 2) := by decide +kernel
theorem dX11_digits_74 : decode cX11_digits 74 = .ok (.isub, 1) := by decide +kernel
theorem dX11_digits_75 : decode cX11_digits 75 = .ok (.istore 4, 2) := by decide +kernel
theorem dX11_digits_77 : decode cX11_digits 77 = .ok (.aload_n 0, 1) := by decide +kernel
theorem dX11_digits_78 : decode cX11_digits 78 = .ok (.aload_n 0, 1) := by decide +kernel
theorem dX11_digits_79 : decode cX11_digits 79 = .ok (.getfield 353, 3) := by decide +kernel
theorem dX11_digits_82 : decode cX11_digits 82 = .ok (.iconst 1, 1) := by decide +kernel
theorem dX11_digits_83 : decode cX11_digits 83 = .ok (.iadd, 1) := by decide +kernel
theorem dX11_digits_84 : decode cX11_digits 84 = .ok (.putfield 353, 3) := by decide +kernel
theorem dX11_digits_87 : decode cX11_digits 87 = .ok (.goto (-49), 3) := by decide +kernel
theorem dX11_digits_90 : decode cX11_digits 90 = .ok (.aload_n 0, 1) := by decide +kernel
theorem dX11_digits_91 : decode cX11_digits 91 = .ok (.iload 4, 2) := by decide +kernel
theorem dX11_digits_93 : decode cX11_digits 93 = .ok (.i2l, 1) := by decide +kernel
theorem dX11_digits_94 : decode cX11_digits 94 = .ok (.iload_n 1, 1) := by decide +kernel
theorem dX11_digits_95 : decode cX11_digits 95 = .ok (.i2l, 1) := by decide +kernel
theorem dX11_digits_96 : decode cX11_digits 96 = .ok (.iload_n 2, 1) := by decide +kernel
theorem dX11_digits_97 : decode cX11_digits 97 = .ok (.i2l, 1) := by decide +kernel
theorem dX11_digits_98 : decode cX11_digits 98 = .ok (.invokevirtual 91, 3) := by decide +kernel
theorem dX11_digits_101 : decode cX11_digits 101 = .ok (.ifCond .eq 8, 3) := by decide +kernel
theorem dX11_digits_104 : decode cX11_digits 104 = .ok (.iload 4, 2) := by decide +kernel
theorem dX11_digits_106 : decode cX11_digits 106 = .ok (.goto 9, 3) := by decide +kernel
theorem dX11_digits_109 : decode cX11_digits 109 = .ok (.aload_n 0, 1) := by decide +kernel
theorem dX11_digits_110 : decode cX11_digits 110 = .ok (.iconst 2, 1) := by decide +kernel
theorem dX11_digits_111 : decode cX11_digits 111 = .ok (.iload_n 3, 1) := by decide +kernel
theorem dX11_digits_112 : decode cX11_digits 112 = .ok (.invokevirtual 386, 3) := by decide +kernel
theorem dX11_digits_115 : decode cX11_digits 115 = .ok (.ireturn, 1) := by decide +kernel
abbrev mX11_digits : MI := (RX11, yX11_digits, cX11_digits, 5, (some .int))
theorem mok_X11_digits : MOKv mX11_digits 2 := ⟨⟨bm_1773, bm_127, ⟨by decide, by decide⟩, by decide +kernel⟩, bm_1772, bm_104⟩
def f_X11_digits_75  (k38 : Int32 → MH → Option (Int32 × MH)) (a0 : Nat) (x1 : Int32) (x2 : Int32) (x3 : Int32) (t0 : Int32) (h : MH) : Option (Int32 × MH) :=
  lt (sI h a0 40 ((gI h a0 40) + 1)) fun h_1 =>
  k38 t0 h_1
def f_X11_digits_38b   (a0 : Nat) (x1 : Int32) (x2 : Int32) (x3 : Int32) (k38 : Int32 → MH → Option (Int32 × MH)) (p : Int32) (h : MH) : Option (Int32 × MH) :=
  (f_X11_here a0 h).bind fun q_1 =>
  (f_X11_isDigit a0 q_1.1 q_1.2).bind fun q_2 =>
  if q_2.1 = 0 then
    (f_X11_isIn a0 (Int32.toInt64 p) (Int32.toInt64 x1) (Int32.toInt64 x2) q_2.2).bind fun q_3 =>
    if q_3.1 = 0 then
      (f_X11_errs a0 2 x3 q_3.2).bind fun q_4 =>
      some (q_4.1, q_4.2)
    else
      some (p, q_3.2)
  else
    if 9999 < p then
      f_X11_digits_75 k38 a0 x1 x2 x3 p q_2.2
    else
      (f_X11_here a0 q_2.2).bind fun q_5 =>
      f_X11_digits_75 k38 a0 x1 x2 x3 (((10 * p) + q_5.1) - 48) q_5.2
def f_X11_digits_38   (a0 : Nat) (x1 : Int32) (x2 : Int32) (x3 : Int32) : Nat → Int32 → MH → Option (Int32 × MH) := lp (f_X11_digits_38b a0 x1 x2 x3)
def f_X11_digits   (a0 : Nat) (x1 : Int32) (x2 : Int32) (h : MH) : Option (Int32 × MH) :=
  (f_X11_isWrong a0 h).bind fun q_1 =>
  if q_1.1 = 0 then
    (f_X11_here a0 q_1.2).bind fun q_2 =>
    (f_X11_isDigit a0 q_2.1 q_2.2).bind fun q_3 =>
    if q_3.1 = 0 then
      (f_X11_errs a0 1 (gI q_3.2 a0 40) q_3.2).bind fun q_4 =>
      some (q_4.1, q_4.2)
    else
      lt (gI q_3.2 a0 40) fun x_5 =>
      f_X11_digits_38 a0 x1 x2 x_5 FU 0 q_3.2
  else
    some (0, q_1.2)
set_option maxRecDepth 100000 in
set_option maxHeartbeats 4000000 in
theorem v_X11_digits_75 {l : Launch} {G : GE} {B N : Nat} {S : List SHP} {o : Int32 × MH} {a0 : Nat} {x1 : Int32} {x2 : Int32} {x3 : Int32} {t0 : Int32}  {k38 : Int32 → MH → Option (Int32 × MH)} (hk38 : ∀ (p : Int32) (h : MH), k38 p h = some o → V l G B N mX11_digits (rmm 5 0 0) false 0 0 (QI S o) S 0 0 38 [(0, .ref a0), (1, .int x1), (2, .int x2), (3, .int x3), (4, .int p)] [] h) (hs0 : S[a0]? = some (.inl 11)) {h : MH} (hf : f_X11_digits_75 k38 a0 x1 x2 x3 t0 h = some o) : V l G B N mX11_digits (rmm 5 0 0) false 0 0 (QI S o) S 0 0 75 [(0, .ref a0), (1, .int x1), (2, .int x2), (3, .int x3)] [.int t0] h := by
  unfold f_X11_digits_75 at hf
  refine V_istore (lv' := [(4, .int t0), (0, .ref a0), (1, .int x1), (2, .int x2), (3, .int x3)]) (pc' := 77) dX11_digits_75 rfl (Nat.le_of_ble_eq_true rfl) rfl ?_
  refine V_aload_n (pc' := 78) dX11_digits_77 rfl 1 rfl rfl ?_
  refine V_aload_n (pc' := 79) dX11_digits_78 rfl 1 rfl rfl ?_
  refine V_getI (pc' := 82) 11 40 dX11_digits_79 rfl (by decide) (Nat.le_of_ble_eq_true rfl) bm_1264 hs0 (fun _ _ _ => rfl) ?_
  refine V_iconst (v := 1) (pc' := 83) dX11_digits_82 rfl (by decide) ?_
  refine V_iadd (pc' := 84) dX11_digits_83 rfl ?_
  refine V_putI (pc' := 87) 11 40 dX11_digits_84 rfl (by decide) (Nat.le_of_ble_eq_true rfl) bm_1264 hs0 (Or.inl rfl) rfl ?_
  refine V_nmH hf (fun h_1 hf => ?_)
  refine V_goto (tgt := 38) dX11_digits_87 (by decide) ?_
  exact V_sub (lv' := [(0, .ref a0), (1, .int x1), (2, .int x2), (3, .int x3), (4, .int t0)]) [1, 2, 3, 4, 0] rfl (hk38 t0 h_1 hf)
set_option maxRecDepth 100000 in
set_option maxHeartbeats 4000000 in
theorem v_X11_digits_38b {l : Launch} {G : GE} {B N : Nat} {S : List SHP} {o : Int32 × MH} {a0 : Nat} {x1 : Int32} {x2 : Int32} {x3 : Int32}    (hs0 : S[a0]? = some (.inl 11)) {k38 : Int32 → MH → Option (Int32 × MH)} (hk38 : ∀ (p : Int32) (h : MH), k38 p h = some o → V l G B N mX11_digits (rmm 5 0 0) false 0 0 (QI S o) S 0 0 38 [(0, .ref a0), (1, .int x1), (2, .int x2), (3, .int x3), (4, .int p)] [] h) {p : Int32} {h : MH} (hf : f_X11_digits_38b a0 x1 x2 x3 k38 p h = some o) : V l G B N mX11_digits (rmm 5 0 0) false 0 0 (QI S o) S 0 0 38 [(0, .ref a0), (1, .int x1), (2, .int x2), (3, .int x3), (4, .int p)] [] h := by
  unfold f_X11_digits_38b at hf
  refine V_aload_n (pc' := 39) dX11_digits_38 rfl 0 rfl rfl ?_
  refine V_aload_n (pc' := 40) dX11_digits_39 rfl 0 rfl rfl ?_
  refine V_cvI (pc' := 43) (As := []) (rest := [.ref a0]) dX11_digits_40 rfl mok_X11_here bm_1752 11 (by decide) rfl hs0 rfl rfl (Nat.le_of_ble_eq_true rfl) (by decide) hf (fun q e => ct_X11_here hs0 e) (fun q_1 hf => ?_)
  refine V_cvI (pc' := 46) (As := [.int q_1.1]) (rest := []) dX11_digits_43 rfl mok_X11_isDigit bm_1774 11 (by decide) rfl hs0 rfl rfl (Nat.le_of_ble_eq_true rfl) (by decide) hf (fun q e => ct_X11_isDigit hs0 e) (fun q_2 hf => ?_)
  refine V_if_eq (tgt := 90) (pc' := 49) dX11_digits_46 (by decide) rfl hf (fun hf => ?_) (fun hf => ?_)
  ·
    refine V_aload_n (pc' := 91) dX11_digits_90 rfl 0 rfl rfl ?_
    refine V_iload (pc' := 93) dX11_digits_91 rfl 4 rfl ?_
    refine V_i2l (pc' := 94) dX11_digits_93 rfl ?_
    refine V_iload_n (pc' := 95) dX11_digits_94 rfl 1 rfl rfl ?_
    refine V_i2l (pc' := 96) dX11_digits_95 rfl ?_
    refine V_iload_n (pc' := 97) dX11_digits_96 rfl 2 rfl rfl ?_
    refine V_i2l (pc' := 98) dX11_digits_97 rfl ?_
    refine V_cvI (pc' := 101) (As := [.long (Int32.toInt64 p), .long (Int32.toInt64 x1), .long (Int32.toInt64 x2)]) (rest := []) dX11_digits_98 rfl mok_X11_isIn bm_1373 11 (by decide) rfl hs0 rfl rfl (Nat.le_of_ble_eq_true rfl) (by decide) hf (fun q e => ct_X11_isIn hs0 e) (fun q_3 hf => ?_)
    refine V_if_eq (tgt := 109) (pc' := 104) dX11_digits_101 (by decide) rfl hf (fun hf => ?_) (fun hf => ?_)
    ·
      refine V_aload_n (pc' := 110) dX11_digits_109 rfl 0 rfl rfl ?_
      refine V_iconst (v := 2) (pc' := 111) dX11_digits_110 rfl (by decide) ?_
      refine V_iload_n (pc' := 112) dX11_digits_111 rfl 3 rfl rfl ?_
      refine V_cvI (pc' := 115) (As := [.int 2, .int x3]) (rest := []) dX11_digits_112 rfl mok_X11_errs bm_1762 11 (by decide) rfl hs0 rfl rfl (Nat.le_of_ble_eq_true rfl) (by decide) hf (fun q e => ct_X11_errs hs0 e) (fun q_4 hf => ?_)
      obtain rfl := Option.some.inj hf
      exact V_iret dX11_digits_115 rfl rfl rfl ⟨rfl, rfl, rfl⟩
    ·
      refine V_iload (pc' := 106) dX11_digits_104 rfl 4 rfl ?_
      refine V_goto (tgt := 115) dX11_digits_106 (by decide) ?_
      obtain rfl := Option.some.inj hf
      exact V_iret dX11_digits_115 rfl rfl rfl ⟨rfl, rfl, rfl⟩
  ·
    refine V_iload (pc' := 51) dX11_digits_49 rfl 4 rfl ?_
    refine V_sipush (v := 9999) (pc' := 54) dX11_digits_51 rfl (by decide) ?_
    refine V_icmp_le (tgt := 62) (pc' := 57) dX11_digits_54 (by decide) rfl hf (fun hf => ?_) (fun hf => ?_)
    ·
      refine V_iload (pc' := 59) dX11_digits_57 rfl 4 rfl ?_
      refine V_goto (tgt := 75) dX11_digits_59 (by decide) ?_
      exact V_sub (lv' := [(0, .ref a0), (1, .int x1), (2, .int x2), (3, .int x3)]) [0, 1, 2, 3] rfl (v_X11_digits_75 hk38 hs0 hf)
    ·
      refine V_bipush (v := 10) (pc' := 64) dX11_digits_62 rfl (by decide) ?_
      refine V_iload (pc' := 66) dX11_digits_64 rfl 4 rfl ?_
      refine V_imul (pc' := 67) dX11_digits_66 rfl ?_
      refine V_aload_n (pc' := 68) dX11_digits_67 rfl 0 rfl rfl ?_
      refine V_cvI (pc' := 71) (As := []) (rest := [.int (10 * p)]) dX11_digits_68 rfl mok_X11_here bm_1752 11 (by decide) rfl hs0 rfl rfl (Nat.le_of_ble_eq_true rfl) (by decide) hf (fun q e => ct_X11_here hs0 e) (fun q_5 hf => ?_)
      refine V_iadd (pc' := 72) dX11_digits_71 rfl ?_
      refine V_bipush (v := 48) (pc' := 74) dX11_digits_72 rfl (by decide) ?_
      refine V_isub (pc' := 75) dX11_digits_74 rfl ?_
      exact V_sub (lv' := [(0, .ref a0), (1, .int x1), (2, .int x2), (3, .int x3)]) [0, 1, 2, 3] rfl (v_X11_digits_75 hk38 hs0 hf)
theorem v_X11_digits_38 {l : Launch} {G : GE} {B N : Nat} {S : List SHP} {o : Int32 × MH} {a0 : Nat} {x1 : Int32} {x2 : Int32} {x3 : Int32}    (hs0 : S[a0]? = some (.inl 11)) {n : Nat} {p : Int32} {h : MH} (hf : f_X11_digits_38 a0 x1 x2 x3 n p h = some o) : V l G B N mX11_digits (rmm 5 0 0) false 0 0 (QI S o) S 0 0 38 [(0, .ref a0), (1, .int x1), (2, .int x2), (3, .int x3), (4, .int p)] [] h :=
  V_lp (VV := fun p h => V l G B N mX11_digits (rmm 5 0 0) false 0 0 (QI S o) S 0 0 38 [(0, .ref a0), (1, .int x1), (2, .int x2), (3, .int x3), (4, .int p)] [] h) (fun _ hk _ _ hf => v_X11_digits_38b hs0 hk hf) n p h hf
set_option maxRecDepth 100000 in
set_option maxHeartbeats 4000000 in
theorem v_X11_digits {l : Launch} {G : GE} {B N : Nat} {S : List SHP} {o : Int32 × MH} {a0 : Nat} {x1 : Int32} {x2 : Int32}    (hs0 : S[a0]? = some (.inl 11)) {h : MH} (hf : f_X11_digits a0 x1 x2 h = some o) : V l G B N mX11_digits (rmm 5 0 0) false 0 0 (QI S o) S 0 0 0 [(0, .ref a0), (1, .int x1), (2, .int x2)] [] h := by
  unfold f_X11_digits at hf
  refine V_aload_n (pc' := 1) dX11_digits_0 rfl 0 rfl rfl ?_
  refine V_cvI (pc' := 4) (As := []) (rest := []) dX11_digits_1 rfl mok_X11_isWrong bm_1744 11 (by decide) rfl hs0 rfl rfl (Nat.le_of_ble_eq_true rfl) (by decide) hf (fun q e => ct_X11_isWrong hs0 e) (fun q_1 hf => ?_)
  refine V_if_eq (tgt := 9) (pc' := 7) dX11_digits_4 (by decide) rfl hf (fun hf => ?_) (fun hf => ?_)
  ·
    refine V_aload_n (pc' := 10) dX11_digits_9 rfl 0 rfl rfl ?_
    refine V_aload_n (pc' := 11) dX11_digits_10 rfl 0 rfl rfl ?_
    refine V_cvI (pc' := 14) (As := []) (rest := [.ref a0]) dX11_digits_11 rfl mok_X11_here bm_1752 11 (by decide) rfl hs0 rfl rfl (Nat.le_of_ble_eq_true rfl) (by decide) hf (fun q e => ct_X11_here hs0 e) (fun q_2 hf => ?_)
    refine V_cvI (pc' := 17) (As := [.int q_2.1]) (rest := []) dX11_digits_14 rfl mok_X11_isDigit bm_1774 11 (by decide) rfl hs0 rfl rfl (Nat.le_of_ble_eq_true rfl) (by decide) hf (fun q e => ct_X11_isDigit hs0 e) (fun q_3 hf => ?_)
    refine V_if_ne (tgt := 30) (pc' := 20) dX11_digits_17 (by decide) rfl hf (fun hf => ?_) (fun hf => ?_)
    ·
      refine V_aload_n (pc' := 21) dX11_digits_20 rfl 0 rfl rfl ?_
      refine V_iconst (v := 1) (pc' := 22) dX11_digits_21 rfl (by decide) ?_
      refine V_aload_n (pc' := 23) dX11_digits_22 rfl 0 rfl rfl ?_
      refine V_getI (pc' := 26) 11 40 dX11_digits_23 rfl (by decide) (Nat.le_of_ble_eq_true rfl) bm_1264 hs0 (fun _ _ _ => rfl) ?_
      refine V_cvI (pc' := 29) (As := [.int 1, .int (gI q_3.2 a0 40)]) (rest := []) dX11_digits_26 rfl mok_X11_errs bm_1762 11 (by decide) rfl hs0 rfl rfl (Nat.le_of_ble_eq_true rfl) (by decide) hf (fun q e => ct_X11_errs hs0 e) (fun q_4 hf => ?_)
      obtain rfl := Option.some.inj hf
      exact V_iret dX11_digits_29 rfl rfl rfl ⟨rfl, rfl, rfl⟩
    ·
      refine V_aload_n (pc' := 31) dX11_digits_30 rfl 0 rfl rfl ?_
      refine V_getI (pc' := 34) 11 40 dX11_digits_31 rfl (by decide) (Nat.le_of_ble_eq_true rfl) bm_1264 hs0 (fun _ _ _ => rfl) ?_
      refine V_nmI hf (fun x_5 hf => ?_)
      refine V_istore_n (lv' := [(3, .int x_5), (0, .ref a0), (1, .int x1), (2, .int x2)]) (pc' := 35) dX11_digits_34 rfl rfl (Nat.le_of_ble_eq_true rfl) rfl ?_
      refine V_iconst (v := 0) (pc' := 36) dX11_digits_35 rfl (by decide) ?_
      refine V_istore (lv' := [(4, .int 0), (3, .int x_5), (0, .ref a0), (1, .int x1), (2, .int x2)]) (pc' := 38) dX11_digits_36 rfl (Nat.le_of_ble_eq_true rfl) rfl ?_
      exact V_sub (lv' := [(0, .ref a0), (1, .int x1), (2, .int x2), (3, .int x_5), (4, .int 0)]) [2, 3, 4, 1, 0] rfl (v_X11_digits_38 hs0 hf)
  ·
    refine V_iconst (v := 0) (pc' := 8) dX11_digits_7 rfl (by decide) ?_
    obtain rfl := Option.some.inj hf
    exact V_iret dX11_digits_8 rfl rfl rfl ⟨rfl, rfl, rfl⟩
theorem ct_X11_digits {l : Launch} {S : List SHP} {h : MH} {a0 : Nat} {x1 : Int32} {x2 : Int32} (hs0 : S[a0]? = some (.inl 11)) {q : Int32 × MH} (hf : f_X11_digits a0 x1 x2 h = some q) : CT l mX11_digits 5 false 0 0 S [.ref a0, .int x1, .int x2] h (QI S q) :=
  CT_ofV (by decide) rfl (Nat.le_of_ble_eq_true rfl) (fun G B hT => v_X11_digits hs0 hf)
/-! LabelStacksModel.number(II)I -/
theorem dX11_number_0 : decode cX11_number 0 = .ok (.aload_n 0, 1) := by decide +kernel
theorem dX11_number_1 : decode cX11_number 1 = .ok (.invokevirtual 362, 3) := by decide +kernel
theorem dX11_number_4 : decode cX11_number 4 = .ok (.ifCond .eq 5, 3) := by decide +kernel
theorem dX11_number_7 : decode cX11_number 7 = .ok (.iconst 0, 1) := by decide +kernel
theorem dX11_number_8 : decode cX11_number 8 = .ok (.ireturn, 1) := by decide +kernel
theorem dX11_number_9 : decode cX11_number 9 = .ok (.aload_n 0, 1) := by decide +kernel
theorem dX11_number_10 : decode cX11_number 10 = .ok (.invokevirtual 368, 3) := by decide +kernel
theorem dX11_number_13 : decode cX11_number 13 = .ok (.pop, 1) := by decide +kernel
theorem dX11_number_14 : decode cX11_number 14 = .ok (.aload_n 0, 1) := by decide +kernel
theorem dX11_number_15 : decode cX11_number 15 = .ok (.iload_n 1, 1) := by decide +kernel
theorem dX11_number_16 : decode cX11_number 16 = .ok (.iload_n 2, 1) := by decide +kernel
theorem dX11_number_17 : decode cX11_number 17 = .ok (.invokevirtual 389, 3) := by decide +kernel
theorem dX11_number_20 : decode cX11_number 20 = .ok (.ireturn, 1) := by decide +kernel
abbrev mX11_number : MI := (RX11, yX11_number, cX11_number, 3, (some .int))
theorem mok_X11_number : MOKv mX11_number 2 := ⟨⟨bm_1769, bm_127, ⟨by decide, by decide⟩, by decide +kernel⟩, bm_1768, bm_103⟩
def f_X11_number   (a0 : Nat) (x1 : Int32) (x2 : Int32) (h : MH) : Option (Int32 × MH) :=
  (f_X11_isWrong a0 h).bind fun q_1 =>
  if q_1.1 = 0 then
    (f_X11_behindBlanks a0 q_1.2).bind fun q_2 =>
    (f_X11_digits a0 x1 x2 q_2.2).bind fun q_3 =>
    some (q_3.1, q_3.2)
  else
    some (0, q_1.2)
set_option maxRecDepth 100000 in
set_option maxHeartbeats 4000000 in
theorem v_X11_number {l : Launch} {G : GE} {B N : Nat} {S : List SHP} {o : Int32 × MH} {a0 : Nat} {x1 : Int32} {x2 : Int32}    (hs0 : S[a0]? = some (.inl 11)) {h : MH} (hf : f_X11_number a0 x1 x2 h = some o) : V l G B N mX11_number (rmm 6 0 0) false 0 0 (QI S o) S 0 0 0 [(0, .ref a0), (1, .int x1), (2, .int x2)] [] h := by
  unfold f_X11_number at hf
  refine V_aload_n (pc' := 1) dX11_number_0 rfl 0 rfl rfl ?_
  refine V_cvI (pc' := 4) (As := []) (rest := []) dX11_number_1 rfl mok_X11_isWrong bm_1744 11 (by decide) rfl hs0 rfl rfl (Nat.le_of_ble_eq_true rfl) (by decide) hf (fun q e => ct_X11_isWrong hs0 e) (fun q_1 hf => ?_)
  refine V_if_eq (tgt := 9) (pc' := 7) dX11_number_4 (by decide) rfl hf (fun hf => ?_) (fun hf => ?_)
  ·
    refine V_aload_n (pc' := 10) dX11_number_9 rfl 0 rfl rfl ?_
    refine V_cvI (pc' := 13) (As := []) (rest := []) dX11_number_10 rfl mok_X11_behindBlanks bm_1748 11 (by decide) rfl hs0 rfl rfl (Nat.le_of_ble_eq_true rfl) (by decide) hf (fun q e => ct_X11_behindBlanks hs0 e) (fun q_2 hf => ?_)
    refine V_pop (pc' := 14) dX11_number_13 rfl rfl ?_
    refine V_aload_n (pc' := 15) dX11_number_14 rfl 0 rfl rfl ?_
    refine V_iload_n (pc' := 16) dX11_number_15 rfl 1 rfl rfl ?_
    refine V_iload_n (pc' := 17) dX11_number_16 rfl 2 rfl rfl ?_
    refine V_cvI (pc' := 20) (As := [.int x1, .int x2]) (rest := []) dX11_number_17 rfl mok_X11_digits bm_1770 11 (by decide) rfl hs0 rfl rfl (Nat.le_of_ble_eq_true rfl) (by decide) hf (fun q e => ct_X11_digits hs0 e) (fun q_3 hf => ?_)
    obtain rfl := Option.some.inj hf
    exact V_iret dX11_number_20 rfl rfl rfl ⟨rfl, rfl, rfl⟩
  ·
    refine V_iconst (v := 0) (pc' := 8) dX11_number_7 rfl (by decide) ?_
    obtain rfl := Option.some.inj hf
    exact V_iret dX11_number_8 rfl rfl rfl ⟨rfl, rfl, rfl⟩
theorem ct_X11_number {l : Launch} {S : List SHP} {h : MH} {a0 : Nat} {x1 : Int32} {x2 : Int32} (hs0 : S[a0]? = some (.inl 11)) {q : Int32 × MH} (hf : f_X11_number a0 x1 x2 h = some q) : CT l mX11_number 6 false 0 0 S [.ref a0, .int x1, .int x2] h (QI S q) :=
  CT_ofV (by decide) rfl (Nat.le_of_ble_eq_true rfl) (fun G B hT => v_X11_number hs0 hf)
/-! LabelStacksModel.must(I)V -/
theorem dX11_must_0 : decode cX11_must 0 = .ok (.aload_n 0, 1) := by decide +kernel
theorem dX11_must_1 : decode cX11_must 1 = .ok (.invokevirtual 362, 3) := by decide +kernel
theorem dX11_must_4 : decode cX11_must 4 = .ok (.ifCond .eq 4, 3) := by decide +kernel
theorem dX11_must_7 : decode cX11_must 7 = .ok (.return_, 1) := by decide +kernel
theorem dX11_must_8 : decode cX11_must 8 = .ok (.aload_n 0, 1) := by decide +kernel
theorem dX11_must_9 : decode cX11_must 9 = .ok (.invokevirtual 368, 3) := by decide +kernel
theorem dX11_must_12 : decode cX11_must 12 = .ok (.iload_n 1, 1) := by decide +kernel
theorem dX11_must_13 : decode cX11_must 13 = .ok (.if_icmp .eq 16, 3) := by decide +kernel
theorem dX11_must_16 : decode cX11_must 16 = .ok (.aload_n 0, 1) := by decide +kernel
theorem dX11_must_17 : decode cX11_must 17 = .ok (.iconst 1, 1) := by decide +kernel
theorem dX11_must_18 : decode cX11_must 18 = .ok (.aload_n 0, 1) := by decide +kernel
theorem dX11_must_19 : decode cX11_must 19 = .ok (.getfield 353, 3) := by decide +kernel
theorem dX11_must_22 : decode cX11_must 22 = .ok (.invokevirtual 386, 3) := by decide +kernel
theorem dX11_must_25 : decode cX11_must 25 = .ok (.pop, 1) := by decide +kernel
theorem dX11_must_26 : decode cX11_must 26 = .ok (.goto 13, 3) := by decide +kernel
theorem dX11_must_29 : decode cX11_must 29 = .ok (.aload_n 0, 1) := by decide +kernel
theorem dX11_must_30 : decode cX11_must 30 = .ok (.aload_n 0, 1) := by decide +kernel
theorem dX11_must_31 : decode cX11_must 31 = .ok (.getfield 353, 3) := by decide +kernel
theorem dX11_must_34 : decode cX11_must 34 = .ok (.iconst 1, 1) := by decide +kernel
theorem dX11_must_35 : decode cX11_must 35 = .ok (.iadd, 1) := by decide +kernel
theorem dX11_must_36 : decode cX11_must 36 = .ok (.putfield 353, 3) := by decide +kernel
theorem dX11_must_39 : decode cX11_must 39 = .ok (.return_, 1) := by decide +kernel
abbrev mX11_must : MI := (RX11, yX11_must, cX11_must, 2, none)
theorem mok_X11_must : MOKv mX11_must 1 := ⟨⟨bm_1781, bm_127, ⟨by decide, by decide⟩, by decide +kernel⟩, bm_1780, bm_106⟩
def f_X11_must   (a0 : Nat) (x1 : Int32) (h : MH) : Option (MH) :=
  (f_X11_isWrong a0 h).bind fun q_1 =>
  if q_1.1 = 0 then
    (f_X11_behindBlanks a0 q_1.2).bind fun q_2 =>
    if q_2.1 = x1 then
      lt (sI q_2.2 a0 40 ((gI q_2.2 a0 40) + 1)) fun h_3 =>
      some h_3
    else
      (f_X11_errs a0 1 (gI q_2.2 a0 40) q_2.2).bind fun q_4 =>
      some q_4.2
  else
    some q_1.2
set_option maxRecDepth 100000 in
set_option maxHeartbeats 4000000 in
theorem v_X11_must {l : Launch} {G : GE} {B N : Nat} {S : List SHP} {o : MH} {a0 : Nat} {x1 : Int32}    (hs0 : S[a0]? = some (.inl 11)) {h : MH} (hf : f_X11_must a0 x1 h = some o) : V l G B N mX11_must (rmm 5 0 0) false 0 0 (QV S o) S 0 0 0 [(0, .ref a0), (1, .int x1)] [] h := by
  unfold f_X11_must at hf
  refine V_aload_n (pc' := 1) dX11_must_0 rfl 0 rfl rfl ?_
  refine V_cvI (pc' := 4) (As := []) (rest := []) dX11_must_1 rfl mok_X11_isWrong bm_1744 11 (by decide) rfl hs0 rfl rfl (Nat.le_of_ble_eq_true rfl) (by decide) hf (fun q e => ct_X11_isWrong hs0 e) (fun q_1 hf => ?_)
  refine V_if_eq (tgt := 8) (pc' := 7) dX11_must_4 (by decide) rfl hf (fun hf => ?_) (fun hf => ?_)
  ·
    refine V_aload_n (pc' := 9) dX11_must_8 rfl 0 rfl rfl ?_
    refine V_cvI (pc' := 12) (As := []) (rest := []) dX11_must_9 rfl mok_X11_behindBlanks bm_1748 11 (by decide) rfl hs0 rfl rfl (Nat.le_of_ble_eq_true rfl) (by decide) hf (fun q e => ct_X11_behindBlanks hs0 e) (fun q_2 hf => ?_)
    refine V_iload_n (pc' := 13) dX11_must_12 rfl 1 rfl rfl ?_
    refine V_icmp_eq (tgt := 29) (pc' := 16) dX11_must_13 (by decide) rfl hf (fun hf => ?_) (fun hf => ?_)
    ·
      refine V_aload_n (pc' := 30) dX11_must_29 rfl 0 rfl rfl ?_
      refine V_aload_n (pc' := 31) dX11_must_30 rfl 0 rfl rfl ?_
      refine V_getI (pc' := 34) 11 40 dX11_must_31 rfl (by decide) (Nat.le_of_ble_eq_true rfl) bm_1264 hs0 (fun _ _ _ => rfl) ?_
      refine V_iconst (v := 1) (pc' := 35) dX11_must_34 rfl (by decide) ?_
      refine V_iadd (pc' := 36) dX11_must_35 rfl ?_
      refine V_putI (pc' := 39) 11 40 dX11_must_36 rfl (by decide) (Nat.le_of_ble_eq_true rfl) bm_1264 hs0 (Or.inl rfl) rfl ?_
      refine V_nmH hf (fun h_3 hf => ?_)
      obtain rfl := Option.some.inj hf
      exact V_vret dX11_must_39 rfl rfl rfl ⟨rfl, rfl, rfl⟩
    ·
      refine V_aload_n (pc' := 17) dX11_must_16 rfl 0 rfl rfl ?_
      refine V_iconst (v := 1) (pc' := 18) dX11_must_17 rfl (by decide) ?_
      refine V_aload_n (pc' := 19) dX11_must_18 rfl 0 rfl rfl ?_
      refine V_getI (pc' := 22) 11 40 dX11_must_19 rfl (by decide) (Nat.le_of_ble_eq_true rfl) bm_1264 hs0 (fun _ _ _ => rfl) ?_
      refine V_cvI (pc' := 25) (As := [.int 1, .int (gI q_2.2 a0 40)]) (rest := []) dX11_must_22 rfl mok_X11_errs bm_1762 11 (by decide) rfl hs0 rfl rfl (Nat.le_of_ble_eq_true rfl) (by decide) hf (fun q e => ct_X11_errs hs0 e) (fun q_4 hf => ?_)
      refine V_pop (pc' := 26) dX11_must_25 rfl rfl ?_
      refine V_goto (tgt := 39) dX11_must_26 (by decide) ?_
      obtain rfl := Option.some.inj hf
      exact V_vret dX11_must_39 rfl rfl rfl ⟨rfl, rfl, rfl⟩
  ·
    obtain rfl := Option.some.inj hf
    exact V_vret dX11_must_7 rfl rfl rfl ⟨rfl, rfl, rfl⟩
theorem ct_X11_must {l : Launch} {S : List SHP} {h : MH} {a0 : Nat} {x1 : Int32} (hs0 : S[a0]? = some (.inl 11)) {q : MH} (hf : f_X11_must a0 x1 h = some q) : CT l mX11_must 5 false 0 0 S [.ref a0, .int x1] h (QV S q) :=
  CT_ofV (by decide) rfl (Nat.le_of_ble_eq_true rfl) (fun G B hT => v_X11_must hs0 hf)
/-! LabelStacksModel.readLink(I)V -/
theorem dX11_readLink_0 : decode cX11_readLink 0 = .ok (.aload_n 0, 1) := by decide +kernel
theorem dX11_readLink_1 : decode cX11_readLink 1 = .ok (.invokevirtual 95, 3) := by decide +kernel
theorem dX11_readLink_4 : decode cX11_readLink 4 = .ok (.bipush 30, 2) := by decide +kernel
theorem dX11_readLink_6 : decode cX11_readLink 6 = .ok (.if_icmp .ne 11, 3) := by decide +kernel
theorem dX11_readLink_9 : decode cX11_readLink 9 = .ok (.aload_n 0, 1) := by decide +kernel
theorem dX11_readLink_10 : decode cX11_readLink 10 = .ok (.iconst 3, 1) := by decide +kernel
theorem dX11_readLink_11 : decode cX11_readLink 11 = .ok (.iload_n 1, 1) := by decide +kernel
theorem dX11_readLink_12 : decode cX11_readLink 12 = .ok (.invokevirtual 386, 3) := by decide +kernel
theorem dX11_readLink_15 : decode cX11_readLink 15 = .ok (.pop, 1) := by decide +kernel
theorem dX11_readLink_16 : decode cX11_readLink 16 = .ok (.return_, 1) := by decide +kernel
theorem dX11_readLink_17 : decode cX11_readLink 17 = .ok (.aload_n 0, 1) := by decide +kernel
theorem dX11_readLink_18 : decode cX11_readLink 18 = .ok (.iconst 0, 1) := by decide +kernel
theorem dX11_readLink_19 : decode cX11_readLink 19 = .ok (.aload_n 0, 1) := by decide +kernel
theorem dX11_readLink_20 : decode cX11_readLink 20 = .ok (.invokevirtual 87, 3) := by decide +kernel
theorem dX11_readLink_23 : decode cX11_readLink 23 = .ok (.iconst 1, 1) := by decide +kernel
theorem dX11_readLink_24 : decode cX11_readLink 24 = .ok (.isub, 1) := by decide +kernel
theorem dX11_readLink_25 : decode cX11_readLink 25 = .ok (.invokevirtual 392, 3) := by decide +kernel
theorem dX11_readLink_28 : decode cX11_readLink 28 = .ok (.istore_n 2, 1) := by decide +kernel
theorem dX11_readLink_29 : decode cX11_readLink 29 = .ok (.aload_n 0, 1) := by decide +kernel
theorem dX11_readLink_30 : decode cX11_readLink 30 = .ok (.invokevirtual 368, 3) := by decide +kernel
theorem dX11_readLink_33 : decode cX11_readLink 33 = .ok (.pop, 1) := by decide +kernel
theorem dX11_readLink_34 : decode cX11_readLink 34 = .ok (.aload_n 0, 1) := by decide +kernel
theorem dX11_readLink_35 : decode cX11_readLink 35 = .ok (.getfield 353, 3) := by decide +kernel
theorem dX11_readLink_38 : decode cX11_readLink 38 = .ok (.istore_n 3, 1) := by decide +kernel
theorem dX11_readLink_39 : decode cX11_readLink 39 = .ok (.aload_n 0, 1) := by decide +kernel
theorem dX11_readLink_40 : decode cX11_readLink 40 = .ok (.iconst 0, 1) := by decide +kernel
theorem dX11_readLink_41 : decode cX11_readLink 41 = .ok (.aload_n 0, 1) := by decide +kernel
theorem dX11_readLink_42 : decode cX11_readLink 42 = .ok (.invokevirtual 87, 3) := by decide +kernel
theorem dX11_readLink_45 : decode cX11_readLink 45 = .ok (.iconst 1, 1) := by decide +kernel
theorem dX11_readLink_46 : decode cX11_readLink 46 = .ok (.isub, 1) := by decide +kernel
theorem dX11_readLink_47 : decode cX11_readLink 47 = .ok (.invokevirtual 392, 3) := by decide +kernel
theorem dX11_readLink_50 : decode cX11_readLink 50 = .ok (.istore 4, 2) := by decide +kernel
theorem dX11_readLink_52 : decode cX11_readLink 52 = .ok (.aload_n 0, 1) := by decide +kernel
theorem dX11_readLink_53 : decode cX11_readLink 53 = .ok (.invokevirtual 362, 3) := by decide +kernel
theorem dX11_readLink_56 : decode cX11_readLink 56 = .ok (.ifCond .ne 16, 3) := by decide +kernel
theorem dX11_readLink_59 : decode cX11_readLink 59 = .ok (.iload_n 2, 1) := by decide +kernel
theorem dX11_readLink_60 : decode cX11_readLink 60 = .ok (.iload 4, 2) := by decide +kernel
theorem dX11_readLink_62 : decode cX11_readLink 62 = .ok (.if_icmp .ne 10, 3) := by decide +kernel
theorem dX11_readLink_65 : decode cX11_readLink 65 = .ok (.aload_n 0, 1) := by decide +kernel
theorem dX11_readLink_66 : decode cX11_readLink 66 = .ok (.iconst 2, 1) := by decide +kernel
theorem dX11_readLink_67 : decode cX11_readLink 67 = .ok (.iload_n 3, 1) := by decide +kernel
theorem dX11_readLink_68 : decode cX11_readLink 68 = .ok (.invokevirtual 386, 3) := by decide +kernel
theorem dX11_readLink_71 : decode cX11_readLink 71 = .ok (.pop, 1) := by decide +kernel
theorem dX11_readLink_72 : decode cX11_readLink 72 = .ok (.aload_n 0, 1) := by decide +kernel
theorem dX11_readLink_73 : decode cX11_readLink 73 = .ok (.iconst 1, 1) := by decide +kernel
theorem dX11_readLink_74 : decode cX11_readLink 74 = .ok (.bipush 99, 2) := by decide +kernel
theorem dX11_readLink_76 : decode cX11_readLink 76 = .ok (.invokevirtual 392, 3) := by decide +kernel
theorem dX11_readLink_79 : decode cX11_readLink 79 = .ok (.istore 5, 2) := by decide +kernel
theorem dX11_readLink_81 : decode cX11_readLink 81 = .ok (.aload_n 0, 1) := by decide +kernel
theorem dX11_readLink_82 : decode cX11_readLink 82 = .ok (.ldc_w 395, 3) := by decide +kernel
theorem dX11_readLink_85 : decode cX11_readLink 85 = .ok (.invokevirtual 397, 3) := by decide +kernel
theorem dX11_readLink_88 : decode cX11_readLink 88 = .ok (.istore 6, 2) := by decide +kernel
theorem dX11_readLink_90 : decode cX11_readLink 90 = .ok (.aload_n 0, 1) := by decide +kernel
theorem dX11_readLink_91 : decode cX11_readLink 91 = .ok (.invokevirtual 362, 3) := by decide +kernel
theorem dX11_readLink_94 : decode cX11_readLink 94 = .ok (.ifCond .ne 14, 3) := by decide +kernel
theorem dX11_readLink_97 : decode cX11_readLink 97 = .ok (.aload_n 0, 1) := by decide +kernel
theorem dX11_readLink_98 : decode cX11_readLink 98 = .ok (.iload_n 2, 1) := by decide +kernel
theorem dX11_readLink_99 : decode cX11_readLink 99 = .ok (.iload 4, 2) := by decide +kernel
theorem dX11_readLink_101 : decode cX11_readLink 101 = .ok (.iload 5, 2) := by decide +kernel
theorem dX11_readLink_103 : decode cX11_readLink 103 = .ok (.iload 6, 2) := by decide +kernel
theorem dX11_readLink_105 : decode cX11_readLink 105 = .ok (.invokevirtual 122, 3) := by decide +kernel
theorem dX11_readLink_108 : decode cX11_readLink 108 = .ok (.return_, 1) := by decide +kernel
abbrev mX11_readLink : MI := (RX11, yX11_readLink, cX11_readLink, 7, none)
theorem mok_X11_readLink : MOKv mX11_readLink 1 := ⟨⟨bm_1786, bm_127, ⟨by decide, by decide⟩, by decide +kernel⟩, bm_1785, bm_107⟩
def f_X11_readLink_72   (a0 : Nat) (x2 : Int32) (x4 : Int32) (h : MH) : Option (MH) :=
  (f_X11_number a0 1 99 h).bind fun q_1 =>
  (f_X11_takesWord a0 2 q_1.2).bind fun q_2 =>
  (f_X11_isWrong a0 q_2.2).bind fun q_3 =>
  if q_3.1 = 0 then
    (f_X11_lays a0 x2 x4 q_1.1 q_2.1 q_3.2).bind fun q_4 =>
    some q_4
  else
    some q_3.2
def f_X11_readLink   (a0 : Nat) (x1 : Int32) (h : MH) : Option (MH) :=
  (f_X11_links a0 h).bind fun q_1 =>
  if q_1.1 = 30 then
    (f_X11_errs a0 3 x1 q_1.2).bind fun q_2 =>
    some q_2.2
  else
    (f_X11_n a0 q_1.2).bind fun q_3 =>
    (f_X11_number a0 0 (q_3.1 - 1) q_3.2).bind fun q_4 =>
    (f_X11_behindBlanks a0 q_4.2).bind fun q_5 =>
    lt (gI q_5.2 a0 40) fun x_6 =>
    (f_X11_n a0 q_5.2).bind fun q_7 =>
    (f_X11_number a0 0 (q_7.1 - 1) q_7.2).bind fun q_8 =>
    (f_X11_isWrong a0 q_8.2).bind fun q_9 =>
    if q_9.1 = 0 then
      if q_4.1 = q_8.1 then
        (f_X11_errs a0 2 x_6 q_9.2).bind fun q_10 =>
        f_X11_readLink_72 a0 q_4.1 q_8.1 q_10.2
      else
        f_X11_readLink_72 a0 q_4.1 q_8.1 q_9.2
    else
      f_X11_readLink_72 a0 q_4.1 q_8.1 q_9.2
set_option maxRecDepth 100000 in
set_option maxHeartbeats 4000000 in
theorem v_X11_readLink_72 {l : Launch} {G : GE} {B N : Nat} {S : List SHP} {o : MH} {a0 : Nat} {x2 : Int32} {x4 : Int32}    (hs0 : S[a0]? = some (.inl 11)) {h : MH} (hf : f_X11_readLink_72 a0 x2 x4 h = some o) : V l G B N mX11_readLink (rmm 10 0 0) false 0 0 (QV S o) S 0 0 72 [(0, .ref a0), (2, .int x2), (4, .int x4)] [] h := by
  unfold f_X11_readLink_72 at hf
  refine V_aload_n (pc' := 73) dX11_readLink_72 rfl 0 rfl rfl ?_
  refine V_iconst (v := 1) (pc' := 74) dX11_readLink_73 rfl (by decide) ?_
  refine V_bipush (v := 99) (pc' := 76) dX11_readLink_74 rfl (by decide) ?_
  refine V_cvI (pc' := 79) (As := [.int 1, .int 99]) (rest := []) dX11_readLink_76 rfl mok_X11_number bm_1766 11 (by decide) rfl hs0 rfl rfl (Nat.le_of_ble_eq_true rfl) (by decide) hf (fun q e => ct_X11_number hs0 e) (fun q_1 hf => ?_)
  refine V_istore (lv' := [(5, .int q_1.1), (0, .ref a0), (2, .int x2), (4, .int x4)]) (pc' := 81) dX11_readLink_79 rfl (Nat.le_of_ble_eq_true rfl) rfl ?_
  refine V_aload_n (pc' := 82) dX11_readLink_81 rfl 1 rfl rfl ?_
  refine V_ldcwS (j := 2) (tx := "down") (pc' := 85) dX11_readLink_82 rfl (by decide) ?_
  refine V_cvI (pc' := 88) (As := [.retAddr 2]) (rest := []) dX11_readLink_85 rfl mok_X11_takesWord bm_1740 11 (by decide) rfl hs0 rfl rfl (Nat.le_of_ble_eq_true rfl) (by decide) hf (fun q e => ct_X11_takesWord hs0 e) (fun q_2 hf => ?_)
  refine V_istore (lv' := [(6, .int q_2.1), (5, .int q_1.1), (0, .ref a0), (2, .int x2), (4, .int x4)]) (pc' := 90) dX11_readLink_88 rfl (Nat.le_of_ble_eq_true rfl) rfl ?_
  refine V_aload_n (pc' := 91) dX11_readLink_90 rfl 2 rfl rfl ?_
  refine V_cvI (pc' := 94) (As := []) (rest := []) dX11_readLink_91 rfl mok_X11_isWrong bm_1744 11 (by decide) rfl hs0 rfl rfl (Nat.le_of_ble_eq_true rfl) (by decide) hf (fun q e => ct_X11_isWrong hs0 e) (fun q_3 hf => ?_)
  refine V_if_ne (tgt := 108) (pc' := 97) dX11_readLink_94 (by decide) rfl hf (fun hf => ?_) (fun hf => ?_)
  ·
    refine V_aload_n (pc' := 98) dX11_readLink_97 rfl 2 rfl rfl ?_
    refine V_iload_n (pc' := 99) dX11_readLink_98 rfl 3 rfl rfl ?_
    refine V_iload (pc' := 101) dX11_readLink_99 rfl 4 rfl ?_
    refine V_iload (pc' := 103) dX11_readLink_101 rfl 1 rfl ?_
    refine V_iload (pc' := 105) dX11_readLink_103 rfl 0 rfl ?_
    refine V_cvV (pc' := 108) (As := [.int x2, .int x4, .int q_1.1, .int q_2.1]) (rest := []) dX11_readLink_105 rfl mok_X11_lays bm_1402 11 (by decide) rfl hs0 rfl rfl (Nat.le_of_ble_eq_true rfl) (by decide) hf (fun q e => ct_X11_lays hs0 e) (fun q_4 hf => ?_)
    obtain rfl := Option.some.inj hf
    exact V_vret dX11_readLink_108 rfl rfl rfl ⟨rfl, rfl, rfl⟩
  ·
    obtain rfl := Option.some.inj hf
    exact V_vret dX11_readLink_108 rfl rfl rfl ⟨rfl, rfl, rfl⟩
set_option maxRecDepth 100000 in
set_option maxHeartbeats 4000000 in
theorem v_X11_readLink {l : Launch} {G : GE} {B N : Nat} {S : List SHP} {o : MH} {a0 : Nat} {x1 : Int32}    (hs0 : S[a0]? = some (.inl 11)) {h : MH} (hf : f_X11_readLink a0 x1 h = some o) : V l G B N mX11_readLink (rmm 10 0 0) false 0 0 (QV S o) S 0 0 0 [(0, .ref a0), (1, .int x1)] [] h := by
  unfold f_X11_readLink at hf
  refine V_aload_n (pc' := 1) dX11_readLink_0 rfl 0 rfl rfl ?_
  refine V_cvI (pc' := 4) (As := []) (rest := []) dX11_readLink_1 rfl mok_X11_links bm_1398 11 (by decide) rfl hs0 rfl rfl (Nat.le_of_ble_eq_true rfl) (by decide) hf (fun q e => ct_X11_links hs0 e) (fun q_1 hf => ?_)
  refine V_bipush (v := 30) (pc' := 6) dX11_readLink_4 rfl (by decide) ?_
  refine V_icmp_ne (tgt := 17) (pc' := 9) dX11_readLink_6 (by decide) rfl hf (fun hf => ?_) (fun hf => ?_)
  ·
    refine V_aload_n (pc' := 10) dX11_readLink_9 rfl 0 rfl rfl ?_
    refine V_iconst (v := 3) (pc' := 11) dX11_readLink_10 rfl (by decide) ?_
    refine V_iload_n (pc' := 12) dX11_readLink_11 rfl 1 rfl rfl ?_
    refine V_cvI (pc' := 15) (As := [.int 3, .int x1]) (rest := []) dX11_readLink_12 rfl mok_X11_errs bm_1762 11 (by decide) rfl hs0 rfl rfl (Nat.le_of_ble_eq_true rfl) (by decide) hf (fun q e => ct_X11_errs hs0 e) (fun q_2 hf => ?_)
    refine V_pop (pc' := 16) dX11_readLink_15 rfl rfl ?_
    obtain rfl := Option.some.inj hf
    exact V_vret dX11_readLink_16 rfl rfl rfl ⟨rfl, rfl, rfl⟩
  ·
    refine V_aload_n (pc' := 18) dX11_readLink_17 rfl 0 rfl rfl ?_
    refine V_iconst (v := 0) (pc' := 19) dX11_readLink_18 rfl (by decide) ?_
    refine V_aload_n (pc' := 20) dX11_readLink_19 rfl 0 rfl rfl ?_
    refine V_cvI (pc' := 23) (As := []) (rest := [.int 0, .ref a0]) dX11_readLink_20 rfl mok_X11_n bm_1393 11 (by decide) rfl hs0 rfl rfl (Nat.le_of_ble_eq_true rfl) (by decide) hf (fun q e => ct_X11_n hs0 e) (fun q_3 hf => ?_)
    refine V_iconst (v := 1) (pc' := 24) dX11_readLink_23 rfl (by decide) ?_
    refine V_isub (pc' := 25) dX11_readLink_24 rfl ?_
    refine V_cvI (pc' := 28) (As := [.int 0, .int (q_3.1 - 1)]) (rest := []) dX11_readLink_25 rfl mok_X11_number bm_1766 11 (by decide) rfl hs0 rfl rfl (Nat.le_of_ble_eq_true rfl) (by decide) hf (fun q e => ct_X11_number hs0 e) (fun q_4 hf => ?_)
    refine V_istore_n (lv' := [(2, .int q_4.1), (0, .ref a0), (1, .int x1)]) (pc' := 29) dX11_readLink_28 rfl rfl (Nat.le_of_ble_eq_true rfl) rfl ?_
    refine V_aload_n (pc' := 30) dX11_readLink_29 rfl 1 rfl rfl ?_
    refine V_cvI (pc' := 33) (As := []) (rest := []) dX11_readLink_30 rfl mok_X11_behindBlanks bm_1748 11 (by decide) rfl hs0 rfl rfl (Nat.le_of_ble_eq_true rfl) (by decide) hf (fun q e => ct_X11_behindBlanks hs0 e) (fun q_5 hf => ?_)
    refine V_pop (pc' := 34) dX11_readLink_33 rfl rfl ?_
    refine V_aload_n (pc' := 35) dX11_readLink_34 rfl 1 rfl rfl ?_
    refine V_getI (pc' := 38) 11 40 dX11_readLink_35 rfl (by decide) (Nat.le_of_ble_eq_true rfl) bm_1264 hs0 (fun _ _ _ => rfl) ?_
    refine V_nmI hf (fun x_6 hf => ?_)
    refine V_istore_n (lv' := [(3, .int x_6), (2, .int q_4.1), (0, .ref a0), (1, .int x1)]) (pc' := 39) dX11_readLink_38 rfl rfl (Nat.le_of_ble_eq_true rfl) rfl ?_
    refine V_aload_n (pc' := 40) dX11_readLink_39 rfl 2 rfl rfl ?_
    refine V_iconst (v := 0) (pc' := 41) dX11_readLink_40 rfl (by decide) ?_
    refine V_aload_n (pc' := 42) dX11_readLink_41 rfl 2 rfl rfl ?_
    refine V_cvI (pc' := 45) (As := []) (rest := [.int 0, .ref a0]) dX11_readLink_42 rfl mok_X11_n bm_1393 11 (by decide) rfl hs0 rfl rfl (Nat.le_of_ble_eq_true rfl) (by decide) hf (fun q e => ct_X11_n hs0 e) (fun q_7 hf => ?_)
    refine V_iconst (v := 1) (pc' := 46) dX11_readLink_45 rfl (by decide) ?_
    refine V_isub (pc' := 47) dX11_readLink_46 rfl ?_
    refine V_cvI (pc' := 50) (As := [.int 0, .int (q_7.1 - 1)]) (rest := []) dX11_readLink_47 rfl mok_X11_number bm_1766 11 (by decide) rfl hs0 rfl rfl (Nat.le_of_ble_eq_true rfl) (by decide) hf (fun q e => ct_X11_number hs0 e) (fun q_8 hf => ?_)
    refine V_istore (lv' := [(4, .int q_8.1), (3, .int x_6), (2, .int q_4.1), (0, .ref a0), (1, .int x1)]) (pc' := 52) dX11_readLink_50 rfl (Nat.le_of_ble_eq_true rfl) rfl ?_
    refine V_aload_n (pc' := 53) dX11_readLink_52 rfl 3 rfl rfl ?_
    refine V_cvI (pc' := 56) (As := []) (rest := []) dX11_readLink_53 rfl mok_X11_isWrong bm_1744 11 (by decide) rfl hs0 rfl rfl (Nat.le_of_ble_eq_true rfl) (by decide) hf (fun q e => ct_X11_isWrong hs0 e) (fun q_9 hf => ?_)
    refine V_if_ne (tgt := 72) (pc' := 59) dX11_readLink_56 (by decide) rfl hf (fun hf => ?_) (fun hf => ?_)
    ·
      refine V_iload_n (pc' := 60) dX11_readLink_59 rfl 2 rfl rfl ?_
      refine V_iload (pc' := 62) dX11_readLink_60 rfl 0 rfl ?_
      refine V_icmp_ne (tgt := 72) (pc' := 65) dX11_readLink_62 (by decide) rfl hf (fun hf => ?_) (fun hf => ?_)
      ·
        refine V_aload_n (pc' := 66) dX11_readLink_65 rfl 3 rfl rfl ?_
        refine V_iconst (v := 2) (pc' := 67) dX11_readLink_66 rfl (by decide) ?_
        refine V_iload_n (pc' := 68) dX11_readLink_67 rfl 1 rfl rfl ?_
        refine V_cvI (pc' := 71) (As := [.int 2, .int x_6]) (rest := []) dX11_readLink_68 rfl mok_X11_errs bm_1762 11 (by decide) rfl hs0 rfl rfl (Nat.le_of_ble_eq_true rfl) (by decide) hf (fun q e => ct_X11_errs hs0 e) (fun q_10 hf => ?_)
        refine V_pop (pc' := 72) dX11_readLink_71 rfl rfl ?_
        exact V_sub (lv' := [(0, .ref a0), (2, .int q_4.1), (4, .int q_8.1)]) [3, 2, 0] rfl (v_X11_readLink_72 hs0 hf)
      ·
        exact V_sub (lv' := [(0, .ref a0), (2, .int q_4.1), (4, .int q_8.1)]) [3, 2, 0] rfl (v_X11_readLink_72 hs0 hf)
    ·
      exact V_sub (lv' := [(0, .ref a0), (2, .int q_4.1), (4, .int q_8.1)]) [3, 2, 0] rfl (v_X11_readLink_72 hs0 hf)
theorem ct_X11_readLink {l : Launch} {S : List SHP} {h : MH} {a0 : Nat} {x1 : Int32} (hs0 : S[a0]? = some (.inl 11)) {q : MH} (hf : f_X11_readLink a0 x1 h = some q) : CT l mX11_readLink 10 false 0 0 S [.ref a0, .int x1] h (QV S q) :=
  CT_ofV (by decide) rfl (Nat.le_of_ble_eq_true rfl) (fun G B hT => v_X11_readLink hs0 hf)
/-! LabelStacksModel.readLabel()I -/
theorem dX11_readLabel_0 : decode cX11_readLabel 0 = .ok (.aload_n 0, 1) := by decide +kernel
theorem dX11_readLabel_1 : decode cX11_readLabel 1 = .ok (.ldc_w 401, 3) := by decide +kernel
theorem dX11_readLabel_4 : decode cX11_readLabel 4 = .ok (.invokevirtual 397, 3) := by decide +kernel
theorem dX11_readLabel_7 : decode cX11_readLabel 7 = .ok (.ifCond .eq 11, 3) := by decide +kernel
theorem dX11_readLabel_10 : decode cX11_readLabel 10 = .ok (.aload_n 0, 1) := by decide +kernel
theorem dX11_readLabel_11 : decode cX11_readLabel 11 = .ok (.iconst 0, 1) := by decide +kernel
theorem dX11_readLabel_12 : decode cX11_readLabel 12 = .ok (.bipush 9, 2) := by decide +kernel
theorem dX11_readLabel_14 : decode cX11_readLabel 14 = .ok (.invokevirtual 389, 3) := by decide +kernel
theorem dX11_readLabel_17 : decode cX11_readLabel 17 = .ok (.ireturn, 1) := by decide +kernel
theorem dX11_readLabel_18 : decode cX11_readLabel 18 = .ok (.aload_n 0, 1) := by decide +kernel
theorem dX11_readLabel_19 : decode cX11_readLabel 19 = .ok (.ldc_w 402, 3) := by decide +kernel
theorem dX11_readLabel_22 : decode cX11_readLabel 22 = .ok (.invokevirtual 397, 3) := by decide +kernel
theorem dX11_readLabel_25 : decode cX11_readLabel 25 = .ok (.ifCond .eq 14, 3) := by decide +kernel
theorem dX11_readLabel_28 : decode cX11_readLabel 28 = .ok (.bipush 100, 2) := by decide +kernel
theorem dX11_readLabel_30 : decode cX11_readLabel 30 = .ok (.aload_n 0, 1) := by decide +kernel
theorem dX11_readLabel_31 : decode cX11_readLabel 31 = .ok (.iconst 0, 1) := by decide +kernel
theorem dX11_readLabel_32 : decode cX11_readLabel 32 = .ok (.bipush 29, 2) := by decide +kernel
theorem dX11_readLabel_34 : decode cX11_readLabel 34 = .ok (.invokevirtual 389, 3) := by decide +kernel
theorem dX11_readLabel_37 : decode cX11_readLabel 37 = .ok (.iadd, 1) := by decide +kernel
theorem dX11_readLabel_38 : decode cX11_readLabel 38 = .ok (.ireturn, 1) := by decide +kernel
theorem dX11_readLabel_39 : decode cX11_readLabel 39 = .ok (.aload_n 0, 1) := by decide +kernel
theorem dX11_readLabel_40 : decode cX11_readLabel 40 = .ok (.iconst 1, 1) := by decide +kernel
theorem dX11_readLabel_41 : decode cX11_readLabel 41 = .ok (.aload_n 0, 1) := by decide +kernel
theorem dX11_readLabel_42 : decode cX11_readLabel 42 = .ok (.getfield 353, 3) := by decide +kernel
theorem dX11_readLabel_45 : decode cX11_readLabel 45 = .ok (.invokevirtual 386, 3) := by decide +kernel
theorem dX11_readLabel_48 : decode cX11_readLabel 48 = .ok (.ireturn, 1) := by decide +kernel
abbrev mX11_readLabel : MI := (RX11, yX11_readLabel, cX11_readLabel, 1, (some .int))
theorem mok_X11_readLabel : MOKv mX11_readLabel 0 := ⟨⟨bm_1797, bm_127, ⟨by decide, by decide⟩, by decide +kernel⟩, bm_1796, bm_109⟩
def f_X11_readLabel   (a0 : Nat) (h : MH) : Option (Int32 × MH) :=
  (f_X11_takesWord a0 5 h).bind fun q_1 =>
  if q_1.1 = 0 then
    (f_X11_takesWord a0 6 q_1.2).bind fun q_2 =>
    if q_2.1 = 0 then
      (f_X11_errs a0 1 (gI q_2.2 a0 40) q_2.2).bind fun q_3 =>
      some (q_3.1, q_3.2)
    else
      (f_X11_digits a0 0 29 q_2.2).bind fun q_4 =>
      some ((100 + q_4.1), q_4.2)
  else
    (f_X11_digits a0 0 9 q_1.2).bind fun q_5 =>
    some (q_5.1, q_5.2)
set_option maxRecDepth 100000 in
set_option maxHeartbeats 4000000 in
theorem v_X11_readLabel {l : Launch} {G : GE} {B N : Nat} {S : List SHP} {o : Int32 × MH} {a0 : Nat}    (hs0 : S[a0]? = some (.inl 11)) {h : MH} (hf : f_X11_readLabel a0 h = some o) : V l G B N mX11_readLabel (rmm 10 0 0) false 0 0 (QI S o) S 0 0 0 [(0, .ref a0)] [] h := by
  unfold f_X11_readLabel at hf
  refine V_aload_n (pc' := 1) dX11_readLabel_0 rfl 0 rfl rfl ?_
  refine V_ldcwS (j := 5) (tx := "n") (pc' := 4) dX11_readLabel_1 rfl (by decide) ?_
  refine V_cvI (pc' := 7) (As := [.retAddr 5]) (rest := []) dX11_readLabel_4 rfl mok_X11_takesWord bm_1740 11 (by decide) rfl hs0 rfl rfl (Nat.le_of_ble_eq_true rfl) (by decide) hf (fun q e => ct_X11_takesWord hs0 e) (fun q_1 hf => ?_)
  refine V_if_eq (tgt := 18) (pc' := 10) dX11_readLabel_7 (by decide) rfl hf (fun hf => ?_) (fun hf => ?_)
  ·
    refine V_aload_n (pc' := 19) dX11_readLabel_18 rfl 0 rfl rfl ?_
    refine V_ldcwS (j := 6) (tx := "l") (pc' := 22) dX11_readLabel_19 rfl (by decide) ?_
    refine V_cvI (pc' := 25) (As := [.retAddr 6]) (rest := []) dX11_readLabel_22 rfl mok_X11_takesWord bm_1740 11 (by decide) rfl hs0 rfl rfl (Nat.le_of_ble_eq_true rfl) (by decide) hf (fun q e => ct_X11_takesWord hs0 e) (fun q_2 hf => ?_)
    refine V_if_eq (tgt := 39) (pc' := 28) dX11_readLabel_25 (by decide) rfl hf (fun hf => ?_) (fun hf => ?_)
    ·
      refine V_aload_n (pc' := 40) dX11_readLabel_39 rfl 0 rfl rfl ?_
      refine V_iconst (v := 1) (pc' := 41) dX11_readLabel_40 rfl (by decide) ?_
      refine V_aload_n (pc' := 42) dX11_readLabel_41 rfl 0 rfl rfl ?_
      refine V_getI (pc' := 45) 11 40 dX11_readLabel_42 rfl (by decide) (Nat.le_of_ble_eq_true rfl) bm_1264 hs0 (fun _ _ _ => rfl) ?_
      refine V_cvI (pc' := 48) (As := [.int 1, .int (gI q_2.2 a0 40)]) (rest := []) dX11_readLabel_45 rfl mok_X11_errs bm_1762 11 (by decide) rfl hs0 rfl rfl (Nat.le_of_ble_eq_true rfl) (by decide) hf (fun q e => ct_X11_errs hs0 e) (fun q_3 hf => ?_)
      obtain rfl := Option.some.inj hf
      exact V_iret dX11_readLabel_48 rfl rfl rfl ⟨rfl, rfl, rfl⟩
    ·
      refine V_bipush (v := 100) (pc' := 30) dX11_readLabel_28 rfl (by decide) ?_
      refine V_aload_n (pc' := 31) dX11_readLabel_30 rfl 0 rfl rfl ?_
      refine V_iconst (v := 0) (pc' := 32) dX11_readLabel_31 rfl (by decide) ?_
      refine V_bipush (v := 29) (pc' := 34) dX11_readLabel_32 rfl (by decide) ?_
      refine V_cvI (pc' := 37) (As := [.int 0, .int 29]) (rest := [.int 100]) dX11_readLabel_34 rfl mok_X11_digits bm_1770 11 (by decide) rfl hs0 rfl rfl (Nat.le_of_ble_eq_true rfl) (by decide) hf (fun q e => ct_X11_digits hs0 e) (fun q_4 hf => ?_)
      refine V_iadd (pc' := 38) dX11_readLabel_37 rfl ?_
      obtain rfl := Option.some.inj hf
      exact V_iret dX11_readLabel_38 rfl rfl rfl ⟨rfl, rfl, rfl⟩
  ·
    refine V_aload_n (pc' := 11) dX11_readLabel_10 rfl 0 rfl rfl ?_
    refine V_iconst (v := 0) (pc' := 12) dX11_readLabel_11 rfl (by decide) ?_
    refine V_bipush (v := 9) (pc' := 14) dX11_readLabel_12 rfl (by decide) ?_
    refine V_cvI (pc' := 17) (As := [.int 0, .int 9]) (rest := []) dX11_readLabel_14 rfl mok_X11_digits bm_1770 11 (by decide) rfl hs0 rfl rfl (Nat.le_of_ble_eq_true rfl) (by decide) hf (fun q e => ct_X11_digits hs0 e) (fun q_5 hf => ?_)
    obtain rfl := Option.some.inj hf
    exact V_iret dX11_readLabel_17 rfl rfl rfl ⟨rfl, rfl, rfl⟩
theorem ct_X11_readLabel {l : Launch} {S : List SHP} {h : MH} {a0 : Nat} (hs0 : S[a0]? = some (.inl 11)) {q : Int32 × MH} (hf : f_X11_readLabel a0 h = some q) : CT l mX11_readLabel 10 false 0 0 S [.ref a0] h (QI S q) :=
  CT_ofV (by decide) rfl (Nat.le_of_ble_eq_true rfl) (fun G B hT => v_X11_readLabel hs0 hf)
/-! LabelStacksModel.labels(IIII)I -/
theorem dX11_labels_0 : decode cX11_labels 0 = .ok (.iload_n 2, 1) := by decide +kernel
theorem dX11_labels_1 : decode cX11_labels 1 = .ok (.bipush 6, 2) := by decide +kernel
theorem dX11_labels_3 : decode cX11_labels 3 = .ok (.if_icmp .ne 16, 3) := by decide +kernel
theorem dX11_labels_6 : decode cX11_labels 6 = .ok (.aload_n 0, 1) := by decide +kernel
theorem dX11_labels_7 : decode cX11_labels 7 = .ok (.iconst 4, 1) := by decide +kernel
theorem dX11_labels_8 : decode cX11_labels 8 = .ok (.putfield 365, 3) := by decide +kernel
theorem dX11_labels_11 : decode cX11_labels 11 = .ok (.aload_n 0, 1) := by decide +kernel
theorem dX11_labels_12 : decode cX11_labels 12 = .ok (.iload 4, 2) := by decide +kernel
theorem dX11_labels_14 : decode cX11_labels 14 = .ok (.putfield 75, 3) := by decide +kernel
theorem dX11_labels_17 : decode cX11_labels 17 = .ok (.iload_n 2, 1) := by decide +kernel
theorem dX11_labels_18 : decode cX11_labels 18 = .ok (.ireturn, 1) := by decide +kernel
theorem dX11_labels_19 : decode cX11_labels 19 = .ok (.aload_n 0, 1) := by decide +kernel
theorem dX11_labels_20 : decode cX11_labels 20 = .ok (.invokevirtual 362, 3) := by decide +kernel
theorem dX11_labels_23 : decode cX11_labels 23 = .ok (.ifCond .ne 19, 3) := by decide +kernel
theorem dX11_labels_26 : decode cX11_labels 26 = .ok (.aload_n 0, 1) := by decide +kernel
theorem dX11_labels_27 : decode cX11_labels 27 = .ok (.getfield 7, 3) := by decide +kernel
theorem dX11_labels_30 : decode cX11_labels 30 = .ok (.sipush 134, 3) := by decide +kernel
theorem dX11_labels_33 : decode cX11_labels 33 = .ok (.bipush 6, 2) := by decide +kernel
theorem dX11_labels_35 : decode cX11_labels 35 = .ok (.iload_n 1, 1) := by decide +kernel
theorem dX11_labels_36 : decode cX11_labels 36 = .ok (.imul, 1) := by decide +kernel
theorem dX11_labels_37 : decode cX11_labels 37 = .ok (.iadd, 1) := by decide +kernel
theorem dX11_labels_38 : decode cX11_labels 38 = .ok (.iload_n 2, 1) := by decide +kernel
theorem dX11_labels_39 : decode cX11_labels 39 = .ok (.iadd, 1) := by decide +kernel
theorem dX11_labels_40 : decode cX11_labels 40 = .ok (.iload_n 3, 1) := by decide +kernel
theorem dX11_labels_41 : decode cX11_labels 41 = .ok (.iastore, 1) := by decide +kernel
theorem dX11_labels_42 : decode cX11_labels 42 = .ok (.iload_n 2, 1) := by decide +kernel
theorem dX11_labels_43 : decode cX11_labels 43 = .ok (.iconst 1, 1) := by decide +kernel
theorem dX11_labels_44 : decode cX11_labels 44 = .ok (.iadd, 1) := by decide +kernel
theorem dX11_labels_45 : decode cX11_labels 45 = .ok (.ireturn, 1) := by decide +kernel
abbrev mX11_labels : MI := (RX11, yX11_labels, cX11_labels, 5, (some .int))
theorem mok_X11_labels : MOKv mX11_labels 4 := ⟨⟨bm_1803, bm_127, ⟨by decide, by decide⟩, by decide +kernel⟩, bm_1802, bm_110⟩
def f_X11_labels_42   (x2 : Int32) (h : MH) : Option (Int32 × MH) :=
  some ((x2 + 1), h)
def f_X11_labels   (a0 : Nat) (x1 : Int32) (x2 : Int32) (x3 : Int32) (x4 : Int32) (h : MH) : Option (Int32 × MH) :=
  if x2 = 6 then
    lt (sI h a0 38 4) fun h_1 =>
    lt (sI h_1 a0 39 x4) fun h_2 =>
    some (x2, h_2)
  else
    (f_X11_isWrong a0 h).bind fun q_3 =>
    if q_3.1 = 0 then
      (gR q_3.2 a0 1).bind fun a_4 =>
      (stI q_3.2 a_4 ((134 + (6 * x1)) + x2) x3).bind fun h_5 =>
      f_X11_labels_42 x2 h_5
    else
      f_X11_labels_42 x2 q_3.2
set_option maxRecDepth 100000 in
set_option maxHeartbeats 4000000 in
theorem v_X11_labels_42 {l : Launch} {G : GE} {B N : Nat} {S : List SHP} {o : Int32 × MH} {x2 : Int32}     {h : MH} (hf : f_X11_labels_42 x2 h = some o) : V l G B N mX11_labels (rmm 4 0 0) false 0 0 (QI S o) S 0 0 42 [(2, .int x2)] [] h := by
  unfold f_X11_labels_42 at hf
  refine V_iload_n (pc' := 43) dX11_labels_42 rfl 0 rfl rfl ?_
  refine V_iconst (v := 1) (pc' := 44) dX11_labels_43 rfl (by decide) ?_
  refine V_iadd (pc' := 45) dX11_labels_44 rfl ?_
  obtain rfl := Option.some.inj hf
  exact V_iret dX11_labels_45 rfl rfl rfl ⟨rfl, rfl, rfl⟩
set_option maxRecDepth 100000 in
set_option maxHeartbeats 4000000 in
theorem v_X11_labels {l : Launch} {G : GE} {B N : Nat} {S : List SHP} {o : Int32 × MH} {a0 : Nat} {x1 : Int32} {x2 : Int32} {x3 : Int32} {x4 : Int32}    (hs0 : S[a0]? = some (.inl 11)) {h : MH} (hf : f_X11_labels a0 x1 x2 x3 x4 h = some o) : V l G B N mX11_labels (rmm 4 0 0) false 0 0 (QI S o) S 0 0 0 [(0, .ref a0), (1, .int x1), (2, .int x2), (3, .int x3), (4, .int x4)] [] h := by
  unfold f_X11_labels at hf
  refine V_iload_n (pc' := 1) dX11_labels_0 rfl 2 rfl rfl ?_
  refine V_bipush (v := 6) (pc' := 3) dX11_labels_1 rfl (by decide) ?_
  refine V_icmp_ne (tgt := 19) (pc' := 6) dX11_labels_3 (by decide) rfl hf (fun hf => ?_) (fun hf => ?_)
  ·
    refine V_aload_n (pc' := 7) dX11_labels_6 rfl 0 rfl rfl ?_
    refine V_iconst (v := 4) (pc' := 8) dX11_labels_7 rfl (by decide) ?_
    refine V_putI (pc' := 11) 11 38 dX11_labels_8 rfl (by decide) (Nat.le_of_ble_eq_true rfl) bm_1262 hs0 (Or.inl rfl) rfl ?_
    refine V_nmH hf (fun h_1 hf => ?_)
    refine V_aload_n (pc' := 12) dX11_labels_11 rfl 0 rfl rfl ?_
    refine V_iload (pc' := 14) dX11_labels_12 rfl 4 rfl ?_
    refine V_putI (pc' := 17) 11 39 dX11_labels_14 rfl (by decide) (Nat.le_of_ble_eq_true rfl) bm_1263 hs0 (Or.inl rfl) rfl ?_
    refine V_nmH hf (fun h_2 hf => ?_)
    refine V_iload_n (pc' := 18) dX11_labels_17 rfl 2 rfl rfl ?_
    obtain rfl := Option.some.inj hf
    exact V_iret dX11_labels_18 rfl rfl rfl ⟨rfl, rfl, rfl⟩
  ·
    refine V_aload_n (pc' := 20) dX11_labels_19 rfl 0 rfl rfl ?_
    refine V_cvI (pc' := 23) (As := []) (rest := []) dX11_labels_20 rfl mok_X11_isWrong bm_1744 11 (by decide) rfl hs0 rfl rfl (Nat.le_of_ble_eq_true rfl) (by decide) hf (fun q e => ct_X11_isWrong hs0 e) (fun q_3 hf => ?_)
    refine V_if_ne (tgt := 42) (pc' := 26) dX11_labels_23 (by decide) rfl hf (fun hf => ?_) (fun hf => ?_)
    ·
      refine V_aload_n (pc' := 27) dX11_labels_26 rfl 0 rfl rfl ?_
      refine V_getR (pc' := 30) 11 1 dX11_labels_27 rfl (by decide) (Nat.le_of_ble_eq_true rfl) bm_1225 hs0 (fun _ _ _ => rfl) rfl hf (fun a_4 ha_4 hf => ?_)
      refine V_sipush (v := 134) (pc' := 33) dX11_labels_30 rfl (by decide) ?_
      refine V_bipush (v := 6) (pc' := 35) dX11_labels_33 rfl (by decide) ?_
      refine V_iload_n (pc' := 36) dX11_labels_35 rfl 1 rfl rfl ?_
      refine V_imul (pc' := 37) dX11_labels_36 rfl ?_
      refine V_iadd (pc' := 38) dX11_labels_37 rfl ?_
      refine V_iload_n (pc' := 39) dX11_labels_38 rfl 2 rfl rfl ?_
      refine V_iadd (pc' := 40) dX11_labels_39 rfl ?_
      refine V_iload_n (pc' := 41) dX11_labels_40 rfl 3 rfl rfl ?_
      refine V_iast (pc' := 42) dX11_labels_41 rfl ha_4 hf (fun h_5 hf => ?_)
      exact V_sub (lv' := [(2, .int x2)]) [2] rfl (v_X11_labels_42  hf)
    ·
      exact V_sub (lv' := [(2, .int x2)]) [2] rfl (v_X11_labels_42  hf)
theorem ct_X11_labels {l : Launch} {S : List SHP} {h : MH} {a0 : Nat} {x1 : Int32} {x2 : Int32} {x3 : Int32} {x4 : Int32} (hs0 : S[a0]? = some (.inl 11)) {q : Int32 × MH} (hf : f_X11_labels a0 x1 x2 x3 x4 h = some q) : CT l mX11_labels 4 false 0 0 S [.ref a0, .int x1, .int x2, .int x3, .int x4] h (QI S q) :=
  CT_ofV (by decide) rfl (Nat.le_of_ble_eq_true rfl) (fun G B hT => v_X11_labels hs0 hf)
/-! LabelStacksModel.readBinding()V -/
theorem dX11_readBinding_0 : decode cX11_readBinding 0 = .ok (.aload_n 0, 1) := by decide +kernel
theorem dX11_readBinding_1 : decode cX11_readBinding 1 = .ok (.invokevirtual 368, 3) := by decide +kernel
theorem dX11_readBinding_4 : decode cX11_readBinding 4 = .ok (.pop, 1) := by decide +kernel
theorem dX11_readBinding_5 : decode cX11_readBinding 5 = .ok (.aload_n 0, 1) := by decide +kernel
theorem dX11_readBinding_6 : decode cX11_readBinding 6 = .ok (.getfield 353, 3) := by decide +kernel
theorem dX11_readBinding_9 : decode cX11_readBinding 9 = .ok (.istore_n 1, 1) := by decide +kernel
theorem dX11_readBinding_10 : decode cX11_readBinding 10 = .ok (.aload_n 0, 1) := by decide +kernel
theorem dX11_readBinding_11 : decode cX11_readBinding 11 = .ok (.iconst 0, 1) := by decide +kernel
theorem dX11_readBinding_12 : decode cX11_readBinding 12 = .ok (.iconst 5, 1) := by decide +kernel
theorem dX11_readBinding_13 : decode cX11_readBinding 13 = .ok (.invokevirtual 392, 3) := by decide +kernel
theorem dX11_readBinding_16 : decode cX11_readBinding 16 = .ok (.istore_n 2, 1) := by decide +kernel
theorem dX11_readBinding_17 : decode cX11_readBinding 17 = .ok (.aload_n 0, 1) := by decide +kernel
theorem dX11_readBinding_18 : decode cX11_readBinding 18 = .ok (.invokevirtual 362, 3) := by decide +kernel
theorem dX11_readBinding_21 : decode cX11_readBinding 21 = .ok (.ifCond .ne 22, 3) := by decide +kernel
theorem dX11_readBinding_24 : decode cX11_readBinding 24 = .ok (.aload_n 0, 1) := by decide +kernel
theorem dX11_readBinding_25 : decode cX11_readBinding 25 = .ok (.getfield 404, 3) := by decide +kernel
theorem dX11_readBinding_28 : decode cX11_readBinding 28 = .ok (.iload_n 2, 1) := by decide +kernel
theorem dX11_readBinding_29 : decode cX11_readBinding 29 = .ok (.ishr, 1) := by decide +kernel
theorem dX11_readBinding_30 : decode cX11_readBinding 30 = .ok (.iconst 1, 1) := by decide +kernel
theorem dX11_readBinding_31 : decode cX11_readBinding 31 = .ok (.iand, 1) := by decide +kernel
theorem dX11_readBinding_32 : decode cX11_readBinding 32 = .ok (.iconst 1, 1) := by decide +kernel
theorem dX11_readBinding_33 : decode cX11_readBinding 33 = .ok (.if_icmp .ne 10, 3) := by decide +kernel
theorem dX11_readBinding_36 : decode cX11_readBinding 36 = .ok (.aload_n 0, 1) := by decide +kernel
theorem dX11_readBinding_37 : decode cX11_readBinding 37 = .ok (.iconst 3, 1) := by decide +kernel
theorem dX11_readBinding_38 : decode cX11_readBinding 38 = .ok (.iload_n 1, 1) := by decide +kernel
theorem dX11_readBinding_39 : decode cX11_readBinding 39 = .ok (.invokevirtual 386, 3) := by decide +kernel
theorem dX11_readBinding_42 : decode cX11_readBinding 42 = .ok (.pop, 1) := by decide +kernel
theorem dX11_readBinding_43 : decode cX11_readBinding 43 = .ok (.aload_n 0, 1) := by decide +kernel
theorem dX11_readBinding_44 : decode cX11_readBinding 44 = .ok (.ldc_w 407, 3) := by decide +kernel
theorem dX11_readBinding_47 : decode cX11_readBinding 47 = .ok (.invokevirtual 397, 3) := by decide +kernel
theorem dX11_readBinding_50 : decode cX11_readBinding 50 = .ok (.ifCond .ne 13, 3) := by decide +kernel
theorem dX11_readBinding_53 : decode cX11_readBinding 53 = .ok (.aload_n 0, 1) := by decide +kernel
theorem dX11_readBinding_54 : decode cX11_readBinding 54 = .ok (.iconst 1, 1) := by decide +kernel
theorem dX11_readBinding_55 : decode cX11_readBinding 55 = .ok (.aload_n 0, 1) := by decide +kernel
theorem dX11_readBinding_56 : decode cX11_readBinding 56 = .ok (.getfield 353, 3) := by decide +kernel
theorem dX11_readBinding_59 : decode cX11_readBinding 59 = .ok (.invokevirtual 386, 3) := by decide +kernel
theorem dX11_readBinding_62 : decode cX11_readBinding 62 = .ok (.pop, 1) := by decide +kernel
theorem dX11_readBinding_63 : decode cX11_readBinding 63 = .ok (.aload_n 0, 1) := by decide +kernel
theorem dX11_readBinding_64 : decode cX11_readBinding 64 = .ok (.iconst 0, 1) := by decide +kernel
theorem dX11_readBinding_65 : decode cX11_readBinding 65 = .ok (.aload_n 0, 1) := by decide +kernel
theorem dX11_readBinding_66 : decode cX11_readBinding 66 = .ok (.invokevirtual 87, 3) := by decide +kernel
theorem dX11_readBinding_69 : decode cX11_readBinding 69 = .ok (.iconst 1, 1) := by decide +kernel
theorem dX11_readBinding_70 : decode cX11_readBinding 70 = .ok (.isub, 1) := by decide +kernel
theorem dX11_readBinding_71 : decode cX11_readBinding 71 = .ok (.invokevirtual 392, 3) := by decide +kernel
theorem dX11_readBinding_74 : decode cX11_readBinding 74 = .ok (.istore_n 3, 1) := by decide +kernel
theorem dX11_readBinding_75 : decode cX11_readBinding 75 = .ok (.aload_n 0, 1) := by decide +kernel
theorem dX11_readBinding_76 : decode cX11_readBinding 76 = .ok (.bipush 58, 2) := by decide +kernel
theorem dX11_readBinding_78 : decode cX11_readBinding 78 = .ok (.invokevirtual 408, 3) := by decide +kernel
theorem dX11_readBinding_81 : decode cX11_readBinding 81 = .ok (.iconst 0, 1) := by decide +kernel
theorem dX11_readBinding_82 : decode cX11_readBinding 82 = .ok (.istore 4, 2) := by decide +kernel
theorem dX11_readBinding_84 : decode cX11_readBinding 84 = .ok (.aload_n 0, 1) := by decide +kernel
theorem dX11_readBinding_85 : decode cX11_readBinding 85 = .ok (.invokevirtual 362, 3) := by decide +kernel
theorem dX11_readBinding_88 : decode cX11_readBinding 88 = .ok (.ifCond .ne 71, 3) := by decide +kernel
theorem dX11_readBinding_91 : decode cX11_readBinding 91 = .ok (.iload 4, 2) := by decide +kernel
theorem dX11_readBinding_93 : decode cX11_readBinding 93 = .ok (.ifCond .eq 12, 3) := by decide +kernel
theorem dX11_readBinding_96 : decode cX11_readBinding 96 = .ok (.aload_n 0, 1) := by decide +kernel
theorem dX11_readBinding_97 : decode cX11_readBinding 97 = .ok (.invokevirtual 368, 3) := by decide +kernel
theorem dX11_readBinding_100 : decode cX11_readBinding 100 = .ok (.bipush 59, 2) := by decide +kernel
theorem dX11_readBinding_102 : decode cX11_readBinding 102 = .ok (.if_icmp .eq 57, 3) := by decide +kernel
theorem dX11_readBinding_105 : decode cX11_readBinding 105 = .ok (.aload_n 0, 1) := by decide +kernel
theorem dX11_readBinding_106 : decode cX11_readBinding 106 = .ok (.invokevirtual 368, 3) := by decide +kernel
theorem dX11_readBinding_109 : decode cX11_readBinding 109 = .ok (.pop, 1) := by decide +kernel
theorem dX11_readBinding_110 : decode cX11_readBinding 110 = .ok (.aload_n 0, 1) := by decide +kernel
theorem dX11_readBinding_111 : decode cX11_readBinding 111 = .ok (.getfield 353, 3) := by decide +kernel
theorem dX11_readBinding_114 : decode cX11_readBinding 114 = .ok (.istore_n 1, 1) := by decide +kernel
theorem dX11_readBinding_115 : decode cX11_readBinding 115 = .ok (.aload_n 0, 1) := by decide +kernel
theorem dX11_readBinding_116 : decode cX11_readBinding 116 = .ok (.invokevirtual 411, 3) := by decide +kernel
theorem dX11_readBinding_119 : decode cX11_readBinding 119 = .ok (.istore 5, 2) := by decide +kernel
theorem dX11_readBinding_121 : decode cX11_readBinding 121 = .ok (.aload_n 0, 1) := by decide +kernel
theorem dX11_readBinding_122 : decode cX11_readBinding 122 = .ok (.invokevirtual 362, 3) := by decide +kernel
theorem dX11_readBinding_125 : decode cX11_readBinding 125 = .ok (.ifCond .eq 19, 3) := by decide +kernel
theorem dX11_readBinding_128 : decode cX11_readBinding 128 = .ok (.aload_n 0, 1) := by decide +kernel
theorem dX11_readBinding_129 : decode cX11_readBinding 129 = .ok (.getfield 365, 3) := by decide +kernel
theorem dX11_readBinding_132 : decode cX11_readBinding 132 = .ok (.iconst 1, 1) := by decide +kernel
theorem dX11_readBinding_133 : decode cX11_readBinding 133 = .ok (.if_icmp .ne 11, 3) := by decide +kernel
theorem dX11_readBinding_136 : decode cX11_readBinding 136 = .ok (.aload_n 0, 1) := by decide +kernel
theorem dX11_readBinding_137 : decode cX11_readBinding 137 = .ok (.getfield 75, 3) := by decide +kernel
theorem dX11_readBinding_140 : decode cX11_readBinding 140 = .ok (.iload_n 1, 1) := by decide +kernel
theorem dX11_readBinding_141 : decode cX11_readBinding 141 = .ok (.if_icmp .eq 15, 3) := by decide +kernel
theorem dX11_readBinding_144 : decode cX11_readBinding 144 = .ok (.aload_n 0, 1) := by decide +kernel
theorem dX11_readBinding_145 : decode cX11_readBinding 145 = .ok (.iload_n 2, 1) := by decide +kernel
theorem dX11_readBinding_146 : decode cX11_readBinding 146 = .ok (.iload 4, 2) := by decide +kernel
theorem dX11_readBinding_148 : decode cX11_readBinding 148 = .ok (.iload 5, 2) := by decide +kernel
theorem dX11_readBinding_150 : decode cX11_readBinding 150 = .ok (.iload_n 1, 1) := by decide +kernel
theorem dX11_readBinding_151 : decode cX11_readBinding 151 = .ok (.invokevirtual 414, 3) := by decide +kernel
theorem dX11_readBinding_154 : decode cX11_readBinding 154 = .ok (.istore 4, 2) := by decide +kernel
theorem dX11_readBinding_156 : decode cX11_readBinding 156 = .ok (.goto (-72), 3) := by decide +kernel
theorem dX11_readBinding_159 : decode cX11_readBinding 159 = .ok (.aload_n 0, 1) := by decide +kernel
theorem dX11_readBinding_160 : decode cX11_readBinding 160 = .ok (.invokevirtual 362, 3) := by decide +kernel
theorem dX11_readBinding_163 : decode cX11_readBinding 163 = .ok (.ifCond .eq 4, 3) := by decide +kernel
theorem dX11_readBinding_166 : decode cX11_readBinding 166 = .ok (.return_, 1) := by decide +kernel
theorem dX11_readBinding_167 : decode cX11_readBinding 167 = .ok (.aload_n 0, 1) := by decide +kernel
theorem dX11_readBinding_168 : decode cX11_readBinding 168 = .ok (.aload_n 0, 1) := by decide +kernel
theorem dX11_readBinding_169 : decode cX11_readBinding 169 = .ok (.getfield 404, 3) := by decide +kernel
theorem dX11_readBinding_172 : decode cX11_readBinding 172 = .ok (.iconst 1, 1) := by decide +kernel
theorem dX11_readBinding_173 : decode cX11_readBinding 173 = .ok (.iload_n 2, 1) := by decide +kernel
theorem dX11_readBinding_174 : decode cX11_readBinding 174 = .ok (.ishl, 1) := by decide +kernel
theorem dX11_readBinding_175 : decode cX11_readBinding 175 = .ok (.ior, 1) := by decide +kernel
theorem dX11_readBinding_176 : decode cX11_readBinding 176 = .ok (.putfield 404, 3) := by decide +kernel
theorem dX11_readBinding_179 : decode cX11_readBinding 179 = .ok (.aload_n 0, 1) := by decide +kernel
theorem dX11_readBinding_180 : decode cX11_readBinding 180 = .ok (.getfield 7, 3) := by decide +kernel
theorem dX11_readBinding_183 : decode cX11_readBinding 183 = .ok (.bipush 122, 2) := by decide +kernel
theorem dX11_readBinding_185 : decode cX11_readBinding 185 = .ok (.iload_n 2, 1) := by decide +kernel
theorem dX11_readBinding_186 : decode cX11_readBinding 186 = .ok (.iadd, 1) := by decide +kernel
theorem dX11_readBinding_187 : decode cX11_readBinding 187 = .ok (.iload_n 3, 1) := by decide +kernel
theorem dX11_readBinding_188 : decode cX11_readBinding 188 = .ok (.iconst 1, 1) := by decide +kernel
theorem dX11_readBinding_189 : decode cX11_readBinding 189 = .ok (.iadd, 1) := by decide +kernel
theorem dX11_readBinding_190 : decode cX11_readBinding 190 = .ok (.iastore, 1) := by decide +kernel
theorem dX11_readBinding_191 : decode cX11_readBinding 191 = .ok (.aload_n 0, 1) := by decide +kernel
theorem dX11_readBinding_192 : decode cX11_readBinding 192 = .ok (.getfield 7, 3) := by decide +kernel
theorem dX11_readBinding_195 : decode cX11_readBinding 195 = .ok (.sipush 128, 3) := by decide +kernel
theorem dX11_readBinding_198 : decode cX11_readBinding 198 = .ok (.iload_n 2, 1) := by decide +kernel
theorem dX11_readBinding_199 : decode cX11_readBinding 199 = .ok (.iadd, 1) := by decide +kernel
theorem dX11_readBinding_200 : decode cX11_readBinding 200 = .ok (.iload 4, 2) := by decide +kernel
theorem dX11_readBinding_202 : decode cX11_readBinding 202 = .ok (.iastore, 1) := by decide +kernel
theorem dX11_readBinding_203 : decode cX11_readBinding 203 = .ok (.return_, 1) := by decide +kernel
abbrev mX11_readBinding : MI := (RX11, yX11_readBinding, cX11_readBinding, 6, none)
theorem mok_X11_readBinding : MOKv mX11_readBinding 0 := ⟨⟨bm_1792, bm_127, ⟨by decide, by decide⟩, by decide +kernel⟩, bm_1791, bm_108⟩
def f_X11_readBinding_159   (a0 : Nat) (x2 : Int32) (x3 : Int32) (x4 : Int32) (h : MH) : Option (MH) :=
  (f_X11_isWrong a0 h).bind fun q_1 =>
  if q_1.1 = 0 then
    lt (sI q_1.2 a0 42 ((gI q_1.2 a0 42) ||| ((1 : Int32) <<< (x2 &&& 31)))) fun h_2 =>
    (gR h_2 a0 1).bind fun a_3 =>
    (stI h_2 a_3 (122 + x2) (x3 + 1)).bind fun h_4 =>
    (gR h_4 a0 1).bind fun a_5 =>
    (stI h_4 a_5 (128 + x2) x4).bind fun h_6 =>
    some h_6
  else
    some q_1.2
def f_X11_readBinding_156  (k84 : Int32 → MH → Option (MH)) (a0 : Nat) (x2 : Int32) (x3 : Int32) (x4 : Int32) (h : MH) : Option (MH) :=
  k84 x4 h
def f_X11_readBinding_144  (k84 : Int32 → MH → Option (MH)) (a0 : Nat) (x1 : Int32) (x2 : Int32) (x3 : Int32) (x4 : Int32) (x5 : Int32) (h : MH) : Option (MH) :=
  (f_X11_labels a0 x2 x4 x5 x1 h).bind fun q_1 =>
  f_X11_readBinding_156 k84 a0 x2 x3 q_1.1 q_1.2
def f_X11_readBinding_105  (k84 : Int32 → MH → Option (MH)) (a0 : Nat) (x2 : Int32) (x3 : Int32) (x4 : Int32) (h : MH) : Option (MH) :=
  (f_X11_behindBlanks a0 h).bind fun q_1 =>
  lt (gI q_1.2 a0 40) fun x_2 =>
  (f_X11_readLabel a0 q_1.2).bind fun q_3 =>
  (f_X11_isWrong a0 q_3.2).bind fun q_4 =>
  if q_4.1 = 0 then
    f_X11_readBinding_144 k84 a0 x_2 x2 x3 x4 q_3.1 q_4.2
  else
    if (gI q_4.2 a0 38) = 1 then
      if (gI q_4.2 a0 39) = x_2 then
        f_X11_readBinding_156 k84 a0 x2 x3 x4 q_4.2
      else
        f_X11_readBinding_144 k84 a0 x_2 x2 x3 x4 q_3.1 q_4.2
    else
      f_X11_readBinding_144 k84 a0 x_2 x2 x3 x4 q_3.1 q_4.2
def f_X11_readBinding_84b   (a0 : Nat) (x2 : Int32) (x3 : Int32) (k84 : Int32 → MH → Option (MH)) (p : Int32) (h : MH) : Option (MH) :=
  (f_X11_isWrong a0 h).bind fun q_1 =>
  if q_1.1 = 0 then
    if p = 0 then
      f_X11_readBinding_105 k84 a0 x2 x3 p q_1.2
    else
      (f_X11_behindBlanks a0 q_1.2).bind fun q_2 =>
      if q_2.1 = 59 then
        f_X11_readBinding_159 a0 x2 x3 p q_2.2
      else
        f_X11_readBinding_105 k84 a0 x2 x3 p q_2.2
  else
    f_X11_readBinding_159 a0 x2 x3 p q_1.2
def f_X11_readBinding_84   (a0 : Nat) (x2 : Int32) (x3 : Int32) : Nat → Int32 → MH → Option (MH) := lp (f_X11_readBinding_84b a0 x2 x3)
def f_X11_readBinding_63   (a0 : Nat) (x2 : Int32) (h : MH) : Option (MH) :=
  (f_X11_n a0 h).bind fun q_1 =>
  (f_X11_number a0 0 (q_1.1 - 1) q_1.2).bind fun q_2 =>
  (f_X11_must a0 58 q_2.2).bind fun q_3 =>
  f_X11_readBinding_84 a0 x2 q_2.1 FU 0 q_3
def f_X11_readBinding_43   (a0 : Nat) (x2 : Int32) (h : MH) : Option (MH) :=
  (f_X11_takesWord a0 4 h).bind fun q_1 =>
  if q_1.1 = 0 then
    (f_X11_errs a0 1 (gI q_1.2 a0 40) q_1.2).bind fun q_2 =>
    f_X11_readBinding_63 a0 x2 q_2.2
  else
    f_X11_readBinding_63 a0 x2 q_1.2
def f_X11_readBinding   (a0 : Nat) (h : MH) : Option (MH) :=
  (f_X11_behindBlanks a0 h).bind fun q_1 =>
  lt (gI q_1.2 a0 40) fun x_2 =>
  (f_X11_number a0 0 5 q_1.2).bind fun q_3 =>
  (f_X11_isWrong a0 q_3.2).bind fun q_4 =>
  if q_4.1 = 0 then
    if (((gI q_4.2 a0 42) >>> (q_3.1 &&& 31)) &&& 1) = 1 then
      (f_X11_errs a0 3 x_2 q_4.2).bind fun q_5 =>
      f_X11_readBinding_43 a0 q_3.1 q_5.2
    else
      f_X11_readBinding_43 a0 q_3.1 q_4.2
  else
    f_X11_readBinding_43 a0 q_3.1 q_4.2
set_option maxRecDepth 100000 in
set_option maxHeartbeats 4000000 in
theorem v_X11_readBinding_159 {l : Launch} {G : GE} {B N : Nat} {S : List SHP} {o : MH} {a0 : Nat} {x2 : Int32} {x3 : Int32} {x4 : Int32}    (hs0 : S[a0]? = some (.inl 11)) {h : MH} (hf : f_X11_readBinding_159 a0 x2 x3 x4 h = some o) : V l G B N mX11_readBinding (rmm 11 0 0) false 0 0 (QV S o) S 0 0 159 [(0, .ref a0), (2, .int x2), (3, .int x3), (4, .int x4)] [] h := by
  unfold f_X11_readBinding_159 at hf
  refine V_aload_n (pc' := 160) dX11_readBinding_159 rfl 0 rfl rfl ?_
  refine V_cvI (pc' := 163) (As := []) (rest := []) dX11_readBinding_160 rfl mok_X11_isWrong bm_1744 11 (by decide) rfl hs0 rfl rfl (Nat.le_of_ble_eq_true rfl) (by decide) hf (fun q e => ct_X11_isWrong hs0 e) (fun q_1 hf => ?_)
  refine V_if_eq (tgt := 167) (pc' := 166) dX11_readBinding_163 (by decide) rfl hf (fun hf => ?_) (fun hf => ?_)
  ·
    refine V_aload_n (pc' := 168) dX11_readBinding_167 rfl 0 rfl rfl ?_
    refine V_aload_n (pc' := 169) dX11_readBinding_168 rfl 0 rfl rfl ?_
    refine V_getI (pc' := 172) 11 42 dX11_readBinding_169 rfl (by decide) (Nat.le_of_ble_eq_true rfl) bm_1266 hs0 (fun _ _ _ => rfl) ?_
    refine V_iconst (v := 1) (pc' := 173) dX11_readBinding_172 rfl (by decide) ?_
    refine V_iload_n (pc' := 174) dX11_readBinding_173 rfl 1 rfl rfl ?_
    refine V_ishl (pc' := 175) dX11_readBinding_174 rfl ?_
    refine V_ior (pc' := 176) dX11_readBinding_175 rfl ?_
    refine V_putI (pc' := 179) 11 42 dX11_readBinding_176 rfl (by decide) (Nat.le_of_ble_eq_true rfl) bm_1266 hs0 (Or.inl rfl) rfl ?_
    refine V_nmH hf (fun h_2 hf => ?_)
    refine V_aload_n (pc' := 180) dX11_readBinding_179 rfl 0 rfl rfl ?_
    refine V_getR (pc' := 183) 11 1 dX11_readBinding_180 rfl (by decide) (Nat.le_of_ble_eq_true rfl) bm_1225 hs0 (fun _ _ _ => rfl) rfl hf (fun a_3 ha_3 hf => ?_)
    refine V_bipush (v := 122) (pc' := 185) dX11_readBinding_183 rfl (by decide) ?_
    refine V_iload_n (pc' := 186) dX11_readBinding_185 rfl 1 rfl rfl ?_
    refine V_iadd (pc' := 187) dX11_readBinding_186 rfl ?_
    refine V_iload_n (pc' := 188) dX11_readBinding_187 rfl 2 rfl rfl ?_
    refine V_iconst (v := 1) (pc' := 189) dX11_readBinding_188 rfl (by decide) ?_
    refine V_iadd (pc' := 190) dX11_readBinding_189 rfl ?_
    refine V_iast (pc' := 191) dX11_readBinding_190 rfl ha_3 hf (fun h_4 hf => ?_)
    refine V_aload_n (pc' := 192) dX11_readBinding_191 rfl 0 rfl rfl ?_
    refine V_getR (pc' := 195) 11 1 dX11_readBinding_192 rfl (by decide) (Nat.le_of_ble_eq_true rfl) bm_1225 hs0 (fun _ _ _ => rfl) rfl hf (fun a_5 ha_5 hf => ?_)
    refine V_sipush (v := 128) (pc' := 198) dX11_readBinding_195 rfl (by decide) ?_
    refine V_iload_n (pc' := 199) dX11_readBinding_198 rfl 1 rfl rfl ?_
    refine V_iadd (pc' := 200) dX11_readBinding_199 rfl ?_
    refine V_iload (pc' := 202) dX11_readBinding_200 rfl 3 rfl ?_
    refine V_iast (pc' := 203) dX11_readBinding_202 rfl ha_5 hf (fun h_6 hf => ?_)
    obtain rfl := Option.some.inj hf
    exact V_vret dX11_readBinding_203 rfl rfl rfl ⟨rfl, rfl, rfl⟩
  ·
    obtain rfl := Option.some.inj hf
    exact V_vret dX11_readBinding_166 rfl rfl rfl ⟨rfl, rfl, rfl⟩
set_option maxRecDepth 100000 in
set_option maxHeartbeats 4000000 in
theorem v_X11_readBinding_156 {l : Launch} {G : GE} {B N : Nat} {S : List SHP} {o : MH} {a0 : Nat} {x2 : Int32} {x3 : Int32} {x4 : Int32}  {k84 : Int32 → MH → Option (MH)} (hk84 : ∀ (p : Int32) (h : MH), k84 p h = some o → V l G B N mX11_readBinding (rmm 11 0 0) false 0 0 (QV S o) S 0 0 84 [(0, .ref a0), (2, .int x2), (3, .int x3), (4, .int p)] [] h) (hs0 : S[a0]? = some (.inl 11)) {h : MH} (hf : f_X11_readBinding_156 k84 a0 x2 x3 x4 h = some o) : V l G B N mX11_readBinding (rmm 11 0 0) false 0 0 (QV S o) S 0 0 156 [(0, .ref a0), (2, .int x2), (3, .int x3), (4, .int x4)] [] h := by
  unfold f_X11_readBinding_156 at hf
  refine V_goto (tgt := 84) dX11_readBinding_156 (by decide) ?_
  exact V_sub (lv' := [(0, .ref a0), (2, .int x2), (3, .int x3), (4, .int x4)]) [0, 1, 2, 3] rfl (hk84 x4 h hf)
set_option maxRecDepth 100000 in
set_option maxHeartbeats 4000000 in
theorem v_X11_readBinding_144 {l : Launch} {G : GE} {B N : Nat} {S : List SHP} {o : MH} {a0 : Nat} {x1 : Int32} {x2 : Int32} {x3 : Int32} {x4 : Int32} {x5 : Int32}  {k84 : Int32 → MH → Option (MH)} (hk84 : ∀ (p : Int32) (h : MH), k84 p h = some o → V l G B N mX11_readBinding (rmm 11 0 0) false 0 0 (QV S o) S 0 0 84 [(0, .ref a0), (2, .int x2), (3, .int x3), (4, .int p)] [] h) (hs0 : S[a0]? = some (.inl 11)) {h : MH} (hf : f_X11_readBinding_144 k84 a0 x1 x2 x3 x4 x5 h = some o) : V l G B N mX11_readBinding (rmm 11 0 0) false 0 0 (QV S o) S 0 0 144 [(0, .ref a0), (1, .int x1), (2, .int x2), (3, .int x3), (4, .int x4), (5, .int x5)] [] h := by
  unfold f_X11_readBinding_144 at hf
  refine V_aload_n (pc' := 145) dX11_readBinding_144 rfl 0 rfl rfl ?_
  refine V_iload_n (pc' := 146) dX11_readBinding_145 rfl 2 rfl rfl ?_
  refine V_iload (pc' := 148) dX11_readBinding_146 rfl 4 rfl ?_
  refine V_iload (pc' := 150) dX11_readBinding_148 rfl 5 rfl ?_
  refine V_iload_n (pc' := 151) dX11_readBinding_150 rfl 1 rfl rfl ?_
  refine V_cvI (pc' := 154) (As := [.int x2, .int x4, .int x5, .int x1]) (rest := []) dX11_readBinding_151 rfl mok_X11_labels bm_1800 11 (by decide) rfl hs0 rfl rfl (Nat.le_of_ble_eq_true rfl) (by decide) hf (fun q e => ct_X11_labels hs0 e) (fun q_1 hf => ?_)
  refine V_istore (lv' := [(4, .int q_1.1), (0, .ref a0), (1, .int x1), (2, .int x2), (3, .int x3), (5, .int x5)]) (pc' := 156) dX11_readBinding_154 rfl (Nat.le_of_ble_eq_true rfl) rfl ?_
  exact V_sub (lv' := [(0, .ref a0), (2, .int x2), (3, .int x3), (4, .int q_1.1)]) [1, 3, 4, 0] rfl (v_X11_readBinding_156 hk84 hs0 hf)
set_option maxRecDepth 100000 in
set_option maxHeartbeats 4000000 in
theorem v_X11_readBinding_105 {l : Launch} {G : GE} {B N : Nat} {S : List SHP} {o : MH} {a0 : Nat} {x2 : Int32} {x3 : Int32} {x4 : Int32}  {k84 : Int32 → MH → Option (MH)} (hk84 : ∀ (p : Int32) (h : MH), k84 p h = some o → V l G B N mX11_readBinding (rmm 11 0 0) false 0 0 (QV S o) S 0 0 84 [(0, .ref a0), (2, .int x2), (3, .int x3), (4, .int p)] [] h) (hs0 : S[a0]? = some (.inl 11)) {h : MH} (hf : f_X11_readBinding_105 k84 a0 x2 x3 x4 h = some o) : V l G B N mX11_readBinding (rmm 11 0 0) false 0 0 (QV S o) S 0 0 105 [(0, .ref a0), (2, .int x2), (3, .int x3), (4, .int x4)] [] h := by
  unfold f_X11_readBinding_105 at hf
  refine V_aload_n (pc' := 106) dX11_readBinding_105 rfl 0 rfl rfl ?_
  refine V_cvI (pc' := 109) (As := []) (rest := []) dX11_readBinding_106 rfl mok_X11_behindBlanks bm_1748 11 (by decide) rfl hs0 rfl rfl (Nat.le_of_ble_eq_true rfl) (by decide) hf (fun q e => ct_X11_behindBlanks hs0 e) (fun q_1 hf => ?_)
  refine V_pop (pc' := 110) dX11_readBinding_109 rfl rfl ?_
  refine V_aload_n (pc' := 111) dX11_readBinding_110 rfl 0 rfl rfl ?_
  refine V_getI (pc' := 114) 11 40 dX11_readBinding_111 rfl (by decide) (Nat.le_of_ble_eq_true rfl) bm_1264 hs0 (fun _ _ _ => rfl) ?_
  refine V_nmI hf (fun x_2 hf => ?_)
  refine V_istore_n (lv' := [(1, .int x_2), (0, .ref a0), (2, .int x2), (3, .int x3), (4, .int x4)]) (pc' := 115) dX11_readBinding_114 rfl rfl (Nat.le_of_ble_eq_true rfl) rfl ?_
  refine V_aload_n (pc' := 116) dX11_readBinding_115 rfl 1 rfl rfl ?_
  refine V_cvI (pc' := 119) (As := []) (rest := []) dX11_readBinding_116 rfl mok_X11_readLabel bm_1794 11 (by decide) rfl hs0 rfl rfl (Nat.le_of_ble_eq_true rfl) (by decide) hf (fun q e => ct_X11_readLabel hs0 e) (fun q_3 hf => ?_)
  refine V_istore (lv' := [(5, .int q_3.1), (1, .int x_2), (0, .ref a0), (2, .int x2), (3, .int x3), (4, .int x4)]) (pc' := 121) dX11_readBinding_119 rfl (Nat.le_of_ble_eq_true rfl) rfl ?_
  refine V_aload_n (pc' := 122) dX11_readBinding_121 rfl 2 rfl rfl ?_
  refine V_cvI (pc' := 125) (As := []) (rest := []) dX11_readBinding_122 rfl mok_X11_isWrong bm_1744 11 (by decide) rfl hs0 rfl rfl (Nat.le_of_ble_eq_true rfl) (by decide) hf (fun q e => ct_X11_isWrong hs0 e) (fun q_4 hf => ?_)
  refine V_if_eq (tgt := 144) (pc' := 128) dX11_readBinding_125 (by decide) rfl hf (fun hf => ?_) (fun hf => ?_)
  ·
    exact V_sub (lv' := [(0, .ref a0), (1, .int x_2), (2, .int x2), (3, .int x3), (4, .int x4), (5, .int q_3.1)]) [2, 1, 3, 4, 5, 0] rfl (v_X11_readBinding_144 hk84 hs0 hf)
  ·
    refine V_aload_n (pc' := 129) dX11_readBinding_128 rfl 2 rfl rfl ?_
    refine V_getI (pc' := 132) 11 38 dX11_readBinding_129 rfl (by decide) (Nat.le_of_ble_eq_true rfl) bm_1262 hs0 (fun _ _ _ => rfl) ?_
    refine V_iconst (v := 1) (pc' := 133) dX11_readBinding_132 rfl (by decide) ?_
    refine V_icmp_ne (tgt := 144) (pc' := 136) dX11_readBinding_133 (by decide) rfl hf (fun hf => ?_) (fun hf => ?_)
    ·
      refine V_aload_n (pc' := 137) dX11_readBinding_136 rfl 2 rfl rfl ?_
      refine V_getI (pc' := 140) 11 39 dX11_readBinding_137 rfl (by decide) (Nat.le_of_ble_eq_true rfl) bm_1263 hs0 (fun _ _ _ => rfl) ?_
      refine V_iload_n (pc' := 141) dX11_readBinding_140 rfl 1 rfl rfl ?_
      refine V_icmp_eq (tgt := 156) (pc' := 144) dX11_readBinding_141 (by decide) rfl hf (fun hf => ?_) (fun hf => ?_)
      ·
        exact V_sub (lv' := [(0, .ref a0), (2, .int x2), (3, .int x3), (4, .int x4)]) [2, 3, 4, 5] rfl (v_X11_readBinding_156 hk84 hs0 hf)
      ·
        exact V_sub (lv' := [(0, .ref a0), (1, .int x_2), (2, .int x2), (3, .int x3), (4, .int x4), (5, .int q_3.1)]) [2, 1, 3, 4, 5, 0] rfl (v_X11_readBinding_144 hk84 hs0 hf)
    ·
      exact V_sub (lv' := [(0, .ref a0), (1, .int x_2), (2, .int x2), (3, .int x3), (4, .int x4), (5, .int q_3.1)]) [2, 1, 3, 4, 5, 0] rfl (v_X11_readBinding_144 hk84 hs0 hf)
set_option maxRecDepth 100000 in
set_option maxHeartbeats 4000000 in
theorem v_X11_readBinding_84b {l : Launch} {G : GE} {B N : Nat} {S : List SHP} {o : MH} {a0 : Nat} {x2 : Int32} {x3 : Int32}    (hs0 : S[a0]? = some (.inl 11)) {k84 : Int32 → MH → Option (MH)} (hk84 : ∀ (p : Int32) (h : MH), k84 p h = some o → V l G B N mX11_readBinding (rmm 11 0 0) false 0 0 (QV S o) S 0 0 84 [(0, .ref a0), (2, .int x2), (3, .int x3), (4, .int p)] [] h) {p : Int32} {h : MH} (hf : f_X11_readBinding_84b a0 x2 x3 k84 p h = some o) : V l G B N mX11_readBinding (rmm 11 0 0) false 0 0 (QV S o) S 0 0 84 [(0, .ref a0), (2, .int x2), (3, .int x3), (4, .int p)] [] h := by
  unfold f_X11_readBinding_84b at hf
  refine V_aload_n (pc' := 85) dX11_readBinding_84 rfl 0 rfl rfl ?_
  refine V_cvI (pc' := 88) (As := []) (rest := []) dX11_readBinding_85 rfl mok_X11_isWrong bm_1744 11 (by decide) rfl hs0 rfl rfl (Nat.le_of_ble_eq_true rfl) (by decide) hf (fun q e => ct_X11_isWrong hs0 e) (fun q_1 hf => ?_)
  refine V_if_ne (tgt := 159) (pc' := 91) dX11_readBinding_88 (by decide) rfl hf (fun hf => ?_) (fun hf => ?_)
  ·
    refine V_iload (pc' := 93) dX11_readBinding_91 rfl 3 rfl ?_
    refine V_if_eq (tgt := 105) (pc' := 96) dX11_readBinding_93 (by decide) rfl hf (fun hf => ?_) (fun hf => ?_)
    ·
      exact V_sub (lv' := [(0, .ref a0), (2, .int x2), (3, .int x3), (4, .int p)]) [0, 1, 2, 3] rfl (v_X11_readBinding_105 hk84 hs0 hf)
    ·
      refine V_aload_n (pc' := 97) dX11_readBinding_96 rfl 0 rfl rfl ?_
      refine V_cvI (pc' := 100) (As := []) (rest := []) dX11_readBinding_97 rfl mok_X11_behindBlanks bm_1748 11 (by decide) rfl hs0 rfl rfl (Nat.le_of_ble_eq_true rfl) (by decide) hf (fun q e => ct_X11_behindBlanks hs0 e) (fun q_2 hf => ?_)
      refine V_bipush (v := 59) (pc' := 102) dX11_readBinding_100 rfl (by decide) ?_
      refine V_icmp_eq (tgt := 159) (pc' := 105) dX11_readBinding_102 (by decide) rfl hf (fun hf => ?_) (fun hf => ?_)
      ·
        exact V_sub (lv' := [(0, .ref a0), (2, .int x2), (3, .int x3), (4, .int p)]) [0, 1, 2, 3] rfl (v_X11_readBinding_159 hs0 hf)
      ·
        exact V_sub (lv' := [(0, .ref a0), (2, .int x2), (3, .int x3), (4, .int p)]) [0, 1, 2, 3] rfl (v_X11_readBinding_105 hk84 hs0 hf)
  ·
    exact V_sub (lv' := [(0, .ref a0), (2, .int x2), (3, .int x3), (4, .int p)]) [0, 1, 2, 3] rfl (v_X11_readBinding_159 hs0 hf)
theorem v_X11_readBinding_84 {l : Launch} {G : GE} {B N : Nat} {S : List SHP} {o : MH} {a0 : Nat} {x2 : Int32} {x3 : Int32}    (hs0 : S[a0]? = some (.inl 11)) {n : Nat} {p : Int32} {h : MH} (hf : f_X11_readBinding_84 a0 x2 x3 n p h = some o) : V l G B N mX11_readBinding (rmm 11 0 0) false 0 0 (QV S o) S 0 0 84 [(0, .ref a0), (2, .int x2), (3, .int x3), (4, .int p)] [] h :=
  V_lp (VV := fun p h => V l G B N mX11_readBinding (rmm 11 0 0) false 0 0 (QV S o) S 0 0 84 [(0, .ref a0), (2, .int x2), (3, .int x3), (4, .int p)] [] h) (fun _ hk _ _ hf => v_X11_readBinding_84b hs0 hk hf) n p h hf
set_option maxRecDepth 100000 in
set_option maxHeartbeats 4000000 in
theorem v_X11_readBinding_63 {l : Launch} {G : GE} {B N : Nat} {S : List SHP} {o : MH} {a0 : Nat} {x2 : Int32}    (hs0 : S[a0]? = some (.inl 11)) {h : MH} (hf : f_X11_readBinding_63 a0 x2 h = some o) : V l G B N mX11_readBinding (rmm 11 0 0) false 0 0 (QV S o) S 0 0 63 [(0, .ref a0), (2, .int x2)] [] h := by
  unfold f_X11_readBinding_63 at hf
  refine V_aload_n (pc' := 64) dX11_readBinding_63 rfl 0 rfl rfl ?_
  refine V_iconst (v := 0) (pc' := 65) dX11_readBinding_64 rfl (by decide) ?_
  refine V_aload_n (pc' := 66) dX11_readBinding_65 rfl 0 rfl rfl ?_
  refine V_cvI (pc' := 69) (As := []) (rest := [.int 0, .ref a0]) dX11_readBinding_66 rfl mok_X11_n bm_1393 11 (by decide) rfl hs0 rfl rfl (Nat.le_of_ble_eq_true rfl) (by decide) hf (fun q e => ct_X11_n hs0 e) (fun q_1 hf => ?_)
  refine V_iconst (v := 1) (pc' := 70) dX11_readBinding_69 rfl (by decide) ?_
  refine V_isub (pc' := 71) dX11_readBinding_70 rfl ?_
  refine V_cvI (pc' := 74) (As := [.int 0, .int (q_1.1 - 1)]) (rest := []) dX11_readBinding_71 rfl mok_X11_number bm_1766 11 (by decide) rfl hs0 rfl rfl (Nat.le_of_ble_eq_true rfl) (by decide) hf (fun q e => ct_X11_number hs0 e) (fun q_2 hf => ?_)
  refine V_istore_n (lv' := [(3, .int q_2.1), (0, .ref a0), (2, .int x2)]) (pc' := 75) dX11_readBinding_74 rfl rfl (Nat.le_of_ble_eq_true rfl) rfl ?_
  refine V_aload_n (pc' := 76) dX11_readBinding_75 rfl 1 rfl rfl ?_
  refine V_bipush (v := 58) (pc' := 78) dX11_readBinding_76 rfl (by decide) ?_
  refine V_cvV (pc' := 81) (As := [.int 58]) (rest := []) dX11_readBinding_78 rfl mok_X11_must bm_1778 11 (by decide) rfl hs0 rfl rfl (Nat.le_of_ble_eq_true rfl) (by decide) hf (fun q e => ct_X11_must hs0 e) (fun q_3 hf => ?_)
  refine V_iconst (v := 0) (pc' := 82) dX11_readBinding_81 rfl (by decide) ?_
  refine V_istore (lv' := [(4, .int 0), (3, .int q_2.1), (0, .ref a0), (2, .int x2)]) (pc' := 84) dX11_readBinding_82 rfl (Nat.le_of_ble_eq_true rfl) rfl ?_
  exact V_sub (lv' := [(0, .ref a0), (2, .int x2), (3, .int q_2.1), (4, .int 0)]) [2, 3, 1, 0] rfl (v_X11_readBinding_84 hs0 hf)
set_option maxRecDepth 100000 in
set_option maxHeartbeats 4000000 in
theorem v_X11_readBinding_43 {l : Launch} {G : GE} {B N : Nat} {S : List SHP} {o : MH} {a0 : Nat} {x2 : Int32}    (hs0 : S[a0]? = some (.inl 11)) {h : MH} (hf : f_X11_readBinding_43 a0 x2 h = some o) : V l G B N mX11_readBinding (rmm 11 0 0) false 0 0 (QV S o) S 0 0 43 [(0, .ref a0), (2, .int x2)] [] h := by
  unfold f_X11_readBinding_43 at hf
  refine V_aload_n (pc' := 44) dX11_readBinding_43 rfl 0 rfl rfl ?_
  refine V_ldcwS (j := 4) (tx := "at") (pc' := 47) dX11_readBinding_44 rfl (by decide) ?_
  refine V_cvI (pc' := 50) (As := [.retAddr 4]) (rest := []) dX11_readBinding_47 rfl mok_X11_takesWord bm_1740 11 (by decide) rfl hs0 rfl rfl (Nat.le_of_ble_eq_true rfl) (by decide) hf (fun q e => ct_X11_takesWord hs0 e) (fun q_1 hf => ?_)
  refine V_if_ne (tgt := 63) (pc' := 53) dX11_readBinding_50 (by decide) rfl hf (fun hf => ?_) (fun hf => ?_)
  ·
    refine V_aload_n (pc' := 54) dX11_readBinding_53 rfl 0 rfl rfl ?_
    refine V_iconst (v := 1) (pc' := 55) dX11_readBinding_54 rfl (by decide) ?_
    refine V_aload_n (pc' := 56) dX11_readBinding_55 rfl 0 rfl rfl ?_
    refine V_getI (pc' := 59) 11 40 dX11_readBinding_56 rfl (by decide) (Nat.le_of_ble_eq_true rfl) bm_1264 hs0 (fun _ _ _ => rfl) ?_
    refine V_cvI (pc' := 62) (As := [.int 1, .int (gI q_1.2 a0 40)]) (rest := []) dX11_readBinding_59 rfl mok_X11_errs bm_1762 11 (by decide) rfl hs0 rfl rfl (Nat.le_of_ble_eq_true rfl) (by decide) hf (fun q e => ct_X11_errs hs0 e) (fun q_2 hf => ?_)
    refine V_pop (pc' := 63) dX11_readBinding_62 rfl rfl ?_
    exact V_sub (lv' := [(0, .ref a0), (2, .int x2)]) [0, 1] rfl (v_X11_readBinding_63 hs0 hf)
  ·
    exact V_sub (lv' := [(0, .ref a0), (2, .int x2)]) [0, 1] rfl (v_X11_readBinding_63 hs0 hf)
set_option maxRecDepth 100000 in
set_option maxHeartbeats 4000000 in
theorem v_X11_readBinding {l : Launch} {G : GE} {B N : Nat} {S : List SHP} {o : MH} {a0 : Nat}    (hs0 : S[a0]? = some (.inl 11)) {h : MH} (hf : f_X11_readBinding a0 h = some o) : V l G B N mX11_readBinding (rmm 11 0 0) false 0 0 (QV S o) S 0 0 0 [(0, .ref a0)] [] h := by
  unfold f_X11_readBinding at hf
  refine V_aload_n (pc' := 1) dX11_readBinding_0 rfl 0 rfl rfl ?_
  refine V_cvI (pc' := 4) (As := []) (rest := []) dX11_readBinding_1 rfl mok_X11_behindBlanks bm_1748 11 (by decide) rfl hs0 rfl rfl (Nat.le_of_ble_eq_true rfl) (by decide) hf (fun q e => ct_X11_behindBlanks hs0 e) (fun q_1 hf => ?_)
  refine V_pop (pc' := 5) dX11_readBinding_4 rfl rfl ?_
  refine V_aload_n (pc' := 6) dX11_readBinding_5 rfl 0 rfl rfl ?_
  refine V_getI (pc' := 9) 11 40 dX11_readBinding_6 rfl (by decide) (Nat.le_of_ble_eq_true rfl) bm_1264 hs0 (fun _ _ _ => rfl) ?_
  refine V_nmI hf (fun x_2 hf => ?_)
  refine V_istore_n (lv' := [(1, .int x_2), (0, .ref a0)]) (pc' := 10) dX11_readBinding_9 rfl rfl (Nat.le_of_ble_eq_true rfl) rfl ?_
  refine V_aload_n (pc' := 11) dX11_readBinding_10 rfl 1 rfl rfl ?_
  refine V_iconst (v := 0) (pc' := 12) dX11_readBinding_11 rfl (by decide) ?_
  refine V_iconst (v := 5) (pc' := 13) dX11_readBinding_12 rfl (by decide) ?_
  refine V_cvI (pc' := 16) (As := [.int 0, .int 5]) (rest := []) dX11_readBinding_13 rfl mok_X11_number bm_1766 11 (by decide) rfl hs0 rfl rfl (Nat.le_of_ble_eq_true rfl) (by decide) hf (fun q e => ct_X11_number hs0 e) (fun q_3 hf => ?_)
  refine V_istore_n (lv' := [(2, .int q_3.1), (1, .int x_2), (0, .ref a0)]) (pc' := 17) dX11_readBinding_16 rfl rfl (Nat.le_of_ble_eq_true rfl) rfl ?_
  refine V_aload_n (pc' := 18) dX11_readBinding_17 rfl 2 rfl rfl ?_
  refine V_cvI (pc' := 21) (As := []) (rest := []) dX11_readBinding_18 rfl mok_X11_isWrong bm_1744 11 (by decide) rfl hs0 rfl rfl (Nat.le_of_ble_eq_true rfl) (by decide) hf (fun q e => ct_X11_isWrong hs0 e) (fun q_4 hf => ?_)
  refine V_if_ne (tgt := 43) (pc' := 24) dX11_readBinding_21 (by decide) rfl hf (fun hf => ?_) (fun hf => ?_)
  ·
    refine V_aload_n (pc' := 25) dX11_readBinding_24 rfl 2 rfl rfl ?_
    refine V_getI (pc' := 28) 11 42 dX11_readBinding_25 rfl (by decide) (Nat.le_of_ble_eq_true rfl) bm_1266 hs0 (fun _ _ _ => rfl) ?_
    refine V_iload_n (pc' := 29) dX11_readBinding_28 rfl 0 rfl rfl ?_
    refine V_ishr (pc' := 30) dX11_readBinding_29 rfl ?_
    refine V_iconst (v := 1) (pc' := 31) dX11_readBinding_30 rfl (by decide) ?_
    refine V_iand (pc' := 32) dX11_readBinding_31 rfl ?_
    refine V_iconst (v := 1) (pc' := 33) dX11_readBinding_32 rfl (by decide) ?_
    refine V_icmp_ne (tgt := 43) (pc' := 36) dX11_readBinding_33 (by decide) rfl hf (fun hf => ?_) (fun hf => ?_)
    ·
      refine V_aload_n (pc' := 37) dX11_readBinding_36 rfl 2 rfl rfl ?_
      refine V_iconst (v := 3) (pc' := 38) dX11_readBinding_37 rfl (by decide) ?_
      refine V_iload_n (pc' := 39) dX11_readBinding_38 rfl 1 rfl rfl ?_
      refine V_cvI (pc' := 42) (As := [.int 3, .int x_2]) (rest := []) dX11_readBinding_39 rfl mok_X11_errs bm_1762 11 (by decide) rfl hs0 rfl rfl (Nat.le_of_ble_eq_true rfl) (by decide) hf (fun q e => ct_X11_errs hs0 e) (fun q_5 hf => ?_)
      refine V_pop (pc' := 43) dX11_readBinding_42 rfl rfl ?_
      exact V_sub (lv' := [(0, .ref a0), (2, .int q_3.1)]) [2, 0] rfl (v_X11_readBinding_43 hs0 hf)
    ·
      exact V_sub (lv' := [(0, .ref a0), (2, .int q_3.1)]) [2, 0] rfl (v_X11_readBinding_43 hs0 hf)
  ·
    exact V_sub (lv' := [(0, .ref a0), (2, .int q_3.1)]) [2, 0] rfl (v_X11_readBinding_43 hs0 hf)
theorem ct_X11_readBinding {l : Launch} {S : List SHP} {h : MH} {a0 : Nat} (hs0 : S[a0]? = some (.inl 11)) {q : MH} (hf : f_X11_readBinding a0 h = some q) : CT l mX11_readBinding 11 false 0 0 S [.ref a0] h (QV S q) :=
  CT_ofV (by decide) rfl (Nat.le_of_ble_eq_true rfl) (fun G B hT => v_X11_readBinding hs0 hf)
/-! LabelStacksModel.text()I -/
theorem dX11_text_0 : decode cX11_text 0 = .ok (.aload_n 0, 1) := by decide +kernel
theorem dX11_text_1 : decode cX11_text 1 = .ok (.iconst 0, 1) := by decide +kernel
theorem dX11_text_2 : decode cX11_text 2 = .ok (.putfield 84, 3) := by decide +kernel
theorem dX11_text_5 : decode cX11_text 5 = .ok (.aload_n 0, 1) := by decide +kernel
theorem dX11_text_6 : decode cX11_text 6 = .ok (.iconst 0, 1) := by decide +kernel
theorem dX11_text_7 : decode cX11_text 7 = .ok (.putfield 353, 3) := by decide +kernel
theorem dX11_text_10 : decode cX11_text 10 = .ok (.aload_n 0, 1) := by decide +kernel
theorem dX11_text_11 : decode cX11_text 11 = .ok (.aload_n 0, 1) := by decide +kernel
theorem dX11_text_12 : decode cX11_text 12 = .ok (.getfield 347, 3) := by decide +kernel
theorem dX11_text_15 : decode cX11_text 15 = .ok (.putfield 356, 3) := by decide +kernel
theorem dX11_text_18 : decode cX11_text 18 = .ok (.aload_n 0, 1) := by decide +kernel
theorem dX11_text_19 : decode cX11_text 19 = .ok (.iconst 0, 1) := by decide +kernel
theorem dX11_text_20 : decode cX11_text 20 = .ok (.putfield 347, 3) := by decide +kernel
theorem dX11_text_23 : decode cX11_text 23 = .ok (.aload_n 0, 1) := by decide +kernel
theorem dX11_text_24 : decode cX11_text 24 = .ok (.iconst 0, 1) := by decide +kernel
theorem dX11_text_25 : decode cX11_text 25 = .ok (.putfield 365, 3) := by decide +kernel
theorem dX11_text_28 : decode cX11_text 28 = .ok (.aload_n 0, 1) := by decide +kernel
theorem dX11_text_29 : decode cX11_text 29 = .ok (.iconst (-1), 1) := by decide +kernel
theorem dX11_text_30 : decode cX11_text 30 = .ok (.putfield 75, 3) := by decide +kernel
theorem dX11_text_33 : decode cX11_text 33 = .ok (.aload_n 0, 1) := by decide +kernel
theorem dX11_text_34 : decode cX11_text 34 = .ok (.iconst 0, 1) := by decide +kernel
theorem dX11_text_35 : decode cX11_text 35 = .ok (.putfield 404, 3) := by decide +kernel
theorem dX11_text_38 : decode cX11_text 38 = .ok (.iconst 0, 1) := by decide +kernel
theorem dX11_text_39 : decode cX11_text 39 = .ok (.istore_n 1, 1) := by decide +kernel
theorem dX11_text_40 : decode cX11_text 40 = .ok (.iload_n 1, 1) := by decide +kernel
theorem dX11_text_41 : decode cX11_text 41 = .ok (.sipush 512, 3) := by decide +kernel
theorem dX11_text_44 : decode cX11_text 44 = .ok (.if_icmp .ge 21, 3) := by decide +kernel
theorem dX11_text_47 : decode cX11_text 47 = .ok (.aload_n 0, 1) := by decide +kernel
theorem dX11_text_48 : decode cX11_text 48 = .ok (.getfield 78, 3) := by decide +kernel
theorem dX11_text_51 : decode cX11_text 51 = .ok (.iload_n 1, 1) := by decide +kernel
theorem dX11_text_52 : decode cX11_text 52 = .ok (.aload_n 0, 1) := by decide +kernel
theorem dX11_text_53 : decode cX11_text 53 = .ok (.getfield 7, 3) := by decide +kernel
theorem dX11_text_56 : decode cX11_text 56 = .ok (.iload_n 1, 1) := by decide +kernel
theorem dX11_text_57 : decode cX11_text 57 = .ok (.iaload, 1) := by decide +kernel
theorem dX11_text_58 : decode cX11_text 58 = .ok (.iastore, 1) := by decide +kernel
theorem dX11_text_59 : decode cX11_text 59 = .ok (.iinc 1 1, 3) := by decide +kernel
theorem dX11_text_62 : decode cX11_text 62 = .ok (.goto (-22), 3) := by decide +kernel
theorem dX11_text_65 : decode cX11_text 65 = .ok (.aload_n 0, 1) := by decide +kernel
theorem dX11_text_66 : decode cX11_text 66 = .ok (.ldc_w 418, 3) := by decide +kernel
theorem dX11_text_69 : decode cX11_text 69 = .ok (.invokevirtual 397, 3) := by decide +kernel
theorem dX11_text_72 : decode cX11_text 72 = .ok (.ifCond .ne 13, 3) := by decide +kernel
theorem dX11_text_75 : decode cX11_text 75 = .ok (.aload_n 0, 1) := by decide +kernel
theorem dX11_text_76 : decode cX11_text 76 = .ok (.iconst 1, 1) := by decide +kernel
theorem dX11_text_77 : decode cX11_text 77 = .ok (.aload_n 0, 1) := by decide +kernel
theorem dX11_text_78 : decode cX11_text 78 = .ok (.getfield 353, 3) := by decide +kernel
theorem dX11_text_81 : decode cX11_text 81 = .ok (.invokevirtual 386, 3) := by decide +kernel
theorem dX11_text_84 : decode cX11_text 84 = .ok (.pop, 1) := by decide +kernel
theorem dX11_text_85 : decode cX11_text 85 = .ok (.aload_n 0, 1) := by decide +kernel
theorem dX11_text_86 : decode cX11_text 86 = .ok (.iconst 2, 1) := by decide +kernel
theorem dX11_text_87 : decode cX11_text 87 = .ok (.bipush 10, 2) := by decide +kernel
theorem dX11_text_89 : decode cX11_text 89 = .ok (.invokevirtual 392, 3) := by decide +kernel
theorem dX11_text_92 : decode cX11_text 92 = .ok (.istore_n 1, 1) := by decide +kernel
theorem dX11_text_93 : decode cX11_text 93 = .ok (.aload_n 0, 1) := by decide +kernel
theorem dX11_text_94 : decode cX11_text 94 = .ok (.bipush 59, 2) := by decide +kernel
theorem dX11_text_96 : decode cX11_text 96 = .ok (.invokevirtual 408, 3) := by decide +kernel
theorem dX11_text_99 : decode cX11_text 99 = .ok (.aload_n 0, 1) := by decide +kernel
theorem dX11_text_100 : decode cX11_text 100 = .ok (.invokevirtual 362, 3) := by decide +kernel
theorem dX11_text_103 : decode cX11_text 103 = .ok (.ifCond .ne 8, 3) := by decide +kernel
theorem dX11_text_106 : decode cX11_text 106 = .ok (.aload_n 0, 1) := by decide +kernel
theorem dX11_text_107 : decode cX11_text 107 = .ok (.iload_n 1, 1) := by decide +kernel
theorem dX11_text_108 : decode cX11_text 108 = .ok (.invokevirtual 112, 3) := by decide +kernel
theorem dX11_text_111 : decode cX11_text 111 = .ok (.aload_n 0, 1) := by decide +kernel
theorem dX11_text_112 : decode cX11_text 112 = .ok (.invokevirtual 362, 3) := by decide +kernel
theorem dX11_text_115 : decode cX11_text 115 = .ok (.ifCond .ne 70, 3) := by decide +kernel
theorem dX11_text_118 : decode cX11_text 118 = .ok (.aload_n 0, 1) := by decide +kernel
theorem dX11_text_119 : decode cX11_text 119 = .ok (.invokevirtual 368, 3) := by decide +kernel
theorem dX11_text_122 : decode cX11_text 122 = .ok (.iconst (-1), 1) := by decide +kernel
theorem dX11_text_123 : decode cX11_text 123 = .ok (.if_icmp .eq 62, 3) := by decide +kernel
theorem dX11_text_126 : decode cX11_text 126 = .ok (.aload_n 0, 1) := by decide +kernel
theorem dX11_text_127 : decode cX11_text 127 = .ok (.getfield 353, 3) := by decide +kernel
theorem dX11_text_130 : decode cX11_text 130 = .ok (.istore_n 2, 1) := by decide +kernel
theorem dX11_text_131 : decode cX11_text 131 = .ok (.aload_n 0, 1) := by decide +kernel
theorem dX11_text_132 : decode cX11_text 132 = .ok (.ldc_w 420, 3) := by decide +kernel
theorem dX11_text_135 : decode cX11_text 135 = .ok (.invokevirtual 397, 3) := by decide +kernel
theorem dX11_text_138 : decode cX11_text 138 = .ok (.ifCond .eq 11, 3) := by decide +kernel
theorem dX11_text_141 : decode cX11_text 141 = .ok (.aload_n 0, 1) := by decide +kernel
theorem dX11_text_142 : decode cX11_text 142 = .ok (.iload_n 2, 1) := by decide +kernel
theorem dX11_text_143 : decode cX11_text 143 = .ok (.invokevirtual 422, 3) := by decide +kernel
theorem dX11_text_146 : decode cX11_text 146 = .ok (.goto 30, 3) := by decide +kernel
theorem dX11_text_149 : decode cX11_text 149 = .ok (.aload_n 0, 1) := by decide +kernel
theorem dX11_text_150 : decode cX11_text 150 = .ok (.ldc_w 425, 3) := by decide +kernel
theorem dX11_text_153 : decode cX11_text 153 = .ok (.invokevirtual 397, 3) := by decide +kernel
theorem dX11_text_156 : decode cX11_text 156 = .ok (.ifCond .eq 10, 3) := by decide +kernel
theorem dX11_text_159 : decode cX11_text 159 = .ok (.aload_n 0, 1) := by decide +kernel
theorem dX11_text_160 : decode cX11_text 160 = .ok (.invokevirtual 427, 3) := by decide +kernel
theorem dX11_text_163 : decode cX11_text 163 = .ok (.goto 13, 3) := by decide +kernel
theorem dX11_text_166 : decode cX11_text 166 = .ok (.aload_n 0, 1) := by decide +kernel
theorem dX11_text_167 : decode cX11_text 167 = .ok (.iconst 1, 1) := by decide +kernel
theorem dX11_text_168 : decode cX11_text 168 = .ok (.aload_n 0, 1) := by decide +kernel
theorem dX11_text_169 : decode cX11_text 169 = .ok (.getfield 353, 3) := by decide +kernel
theorem dX11_text_172 : decode cX11_text 172 = .ok (.invokevirtual 386, 3) := by decide +kernel
theorem dX11_text_175 : decode cX11_text 175 = .ok (.pop, 1) := by decide +kernel
theorem dX11_text_176 : decode cX11_text 176 = .ok (.aload_n 0, 1) := by decide +kernel
theorem dX11_text_177 : decode cX11_text 177 = .ok (.bipush 59, 2) := by decide +kernel
theorem dX11_text_179 : decode cX11_text 179 = .ok (.invokevirtual 408, 3) := by decide +kernel
theorem dX11_text_182 : decode cX11_text 182 = .ok (.goto (-71), 3) := by decide +kernel
theorem dX11_text_185 : decode cX11_text 185 = .ok (.iconst 0, 1) := by decide +kernel
theorem dX11_text_186 : decode cX11_text 186 = .ok (.istore_n 2, 1) := by decide +kernel
theorem dX11_text_187 : decode cX11_text 187 = .ok (.iload_n 2, 1) := by decide +kernel
theorem dX11_text_188 : decode cX11_text 188 = .ok (.sipush 512, 3) := by decide +kernel
theorem dX11_text_191 : decode cX11_text 191 = .ok (.if_icmp .ge 35, 3) := by decide +kernel
theorem dX11_text_194 : decode cX11_text 194 = .ok (.aload_n 0, 1) := by decide +kernel
theorem dX11_text_195 : decode cX11_text 195 = .ok (.getfield 7, 3) := by decide +kernel
theorem dX11_text_198 : decode cX11_text 198 = .ok (.iload_n 2, 1) := by decide +kernel
theorem dX11_text_199 : decode cX11_text 199 = .ok (.iaload, 1) := by decide +kernel
theorem dX11_text_200 : decode cX11_text 200 = .ok (.istore_n 3, 1) := by decide +kernel
theorem dX11_text_201 : decode cX11_text 201 = .ok (.aload_n 0, 1) := by decide +kernel
theorem dX11_text_202 : decode cX11_text 202 = .ok (.getfield 7, 3) := by decide +kernel
theorem dX11_text_205 : decode cX11_text 205 = .ok (.iload_n 2, 1) := by decide +kernel
theorem dX11_text_206 : decode cX11_text 206 = .ok (.aload_n 0, 1) := by decide +kernel
theorem dX11_text_207 : decode cX11_text 207 = .ok (.getfield 78, 3) := by decide +kernel
theorem dX11_text_210 : decode cX11_text 210 = .ok (.iload_n 2, 1) := by decide +kernel
theorem dX11_text_211 : decode cX11_text 211 = .ok (.iaload, 1) := by decide +kernel
theorem dX11_text_212 : decode cX11_text 212 = .ok (.iastore, 1) := by decide +kernel
theorem dX11_text_213 : decode cX11_text 213 = .ok (.aload_n 0, 1) := by decide +kernel
theorem dX11_text_214 : decode cX11_text 214 = .ok (.getfield 78, 3) := by decide +kernel
theorem dX11_text_217 : decode cX11_text 217 = .ok (.iload_n 2, 1) := by decide +kernel
theorem dX11_text_218 : decode cX11_text 218 = .ok (.iload_n 3, 1) := by decide +kernel
theorem dX11_text_219 : decode cX11_text 219 = .ok (.iastore, 1) := by decide +kernel
theorem dX11_text_220 : decode cX11_text 220 = .ok (.iinc 2 1, 3) := by decide +kernel
theorem dX11_text_223 : decode cX11_text 223 = .ok (.goto (-36), 3) := by decide +kernel
theorem dX11_text_226 : decode cX11_text 226 = .ok (.aload_n 0, 1) := by decide +kernel
theorem dX11_text_227 : decode cX11_text 227 = .ok (.invokevirtual 362, 3) := by decide +kernel
theorem dX11_text_230 : decode cX11_text 230 = .ok (.ifCond .eq 5, 3) := by decide +kernel
theorem dX11_text_233 : decode cX11_text 233 = .ok (.iconst (-1), 1) := by decide +kernel
theorem dX11_text_234 : decode cX11_text 234 = .ok (.ireturn, 1) := by decide +kernel
theorem dX11_text_235 : decode cX11_text 235 = .ok (.aload_n 0, 1) := by decide +kernel
theorem dX11_text_236 : decode cX11_text 236 = .ok (.invokevirtual 109, 3) := by decide +kernel
theorem dX11_text_239 : decode cX11_text 239 = .ok (.iconst 0, 1) := by decide +kernel
theorem dX11_text_240 : decode cX11_text 240 = .ok (.istore_n 2, 1) := by decide +kernel
theorem dX11_text_241 : decode cX11_text 241 = .ok (.iload_n 2, 1) := by decide +kernel
theorem dX11_text_242 : decode cX11_text 242 = .ok (.sipush 512, 3) := by decide +kernel
theorem dX11_text_245 : decode cX11_text 245 = .ok (.if_icmp .ge 21, 3) := by decide +kernel
theorem dX11_text_248 : decode cX11_text 248 = .ok (.aload_n 0, 1) := by decide +kernel
theorem dX11_text_249 : decode cX11_text 249 = .ok (.getfield 7, 3) := by decide +kernel
theorem dX11_text_252 : decode cX11_text 252 = .ok (.iload_n 2, 1) := by decide +kernel
theorem dX11_text_253 : decode cX11_text 253 = .ok (.aload_n 0, 1) := by decide +kernel
theorem dX11_text_254 : decode cX11_text 254 = .ok (.getfield 78, 3) := by decide +kernel
theorem dX11_text_257 : decode cX11_text 257 = .ok (.iload_n 2, 1) := by decide +kernel
theorem dX11_text_258 : decode cX11_text 258 = .ok (.iaload, 1) := by decide +kernel
theorem dX11_text_259 : decode cX11_text 259 = .ok (.iastore, 1) := by decide +kernel
theorem dX11_text_260 : decode cX11_text 260 = .ok (.iinc 2 1, 3) := by decide +kernel
theorem dX11_text_263 : decode cX11_text 263 = .ok (.goto (-22), 3) := by decide +kernel
theorem dX11_text_266 : decode cX11_text 266 = .ok (.aload_n 0, 1) := by decide +kernel
theorem dX11_text_267 : decode cX11_text 267 = .ok (.invokevirtual 95, 3) := by decide +kernel
theorem dX11_text_270 : decode cX11_text 270 = .ok (.ireturn, 1) := by decide +kernel
abbrev mX11_text : MI := (RX11, yX11_text, cX11_text, 4, (some .int))
theorem mok_X11_text : MOKv mX11_text 0 := ⟨⟨bm_1738, bm_127, ⟨by decide, by decide⟩, by decide +kernel⟩, bm_1736, bm_1737⟩
def f_X11_text_241b   (a0 : Nat) (k241 : Int32 → MH → Option (Int32 × MH)) (p : Int32) (h : MH) : Option (Int32 × MH) :=
  if p < 512 then
    (gR h a0 1).bind fun a_1 =>
    (gR h a0 43).bind fun a_2 =>
    (ldI h a_2 p).bind fun x_3 =>
    (stI h a_1 p x_3).bind fun h_4 =>
    k241 (p + 1) h_4
  else
    (f_X11_links a0 h).bind fun q_5 =>
    some (q_5.1, q_5.2)
def f_X11_text_241   (a0 : Nat) : Nat → Int32 → MH → Option (Int32 × MH) := lp (f_X11_text_241b a0)
def f_X11_text_187b   (a0 : Nat) (k187 : Int32 → MH → Option (Int32 × MH)) (p : Int32) (h : MH) : Option (Int32 × MH) :=
  if p < 512 then
    (gR h a0 1).bind fun a_1 =>
    (ldI h a_1 p).bind fun x_2 =>
    (gR h a0 1).bind fun a_3 =>
    (gR h a0 43).bind fun a_4 =>
    (ldI h a_4 p).bind fun x_5 =>
    (stI h a_3 p x_5).bind fun h_6 =>
    (gR h_6 a0 43).bind fun a_7 =>
    (stI h_6 a_7 p x_2).bind fun h_8 =>
    k187 (p + 1) h_8
  else
    (f_X11_isWrong a0 h).bind fun q_9 =>
    if q_9.1 = 0 then
      (f_X11_keepsAct a0 q_9.2).bind fun q_10 =>
      f_X11_text_241 a0 FU 0 q_10
    else
      some ((-1 : Int32), q_9.2)
def f_X11_text_187   (a0 : Nat) : Nat → Int32 → MH → Option (Int32 × MH) := lp (f_X11_text_187b a0)
def f_X11_text_185   (a0 : Nat) (h : MH) : Option (Int32 × MH) :=
  f_X11_text_187 a0 FU 0 h
def f_X11_text_176  (k111 : Unit → MH → Option (Int32 × MH)) (a0 : Nat) (h : MH) : Option (Int32 × MH) :=
  (f_X11_must a0 59 h).bind fun q_1 =>
  k111 () q_1
def f_X11_text_111b   (a0 : Nat) (k111 : Unit → MH → Option (Int32 × MH)) (p : Unit) (h : MH) : Option (Int32 × MH) :=
  (f_X11_isWrong a0 h).bind fun q_1 =>
  if q_1.1 = 0 then
    (f_X11_behindBlanks a0 q_1.2).bind fun q_2 =>
    if q_2.1 = (-1 : Int32) then
      f_X11_text_185 a0 q_2.2
    else
      lt (gI q_2.2 a0 40) fun x_3 =>
      (f_X11_takesWord a0 1 q_2.2).bind fun q_4 =>
      if q_4.1 = 0 then
        (f_X11_takesWord a0 3 q_4.2).bind fun q_5 =>
        if q_5.1 = 0 then
          (f_X11_errs a0 1 (gI q_5.2 a0 40) q_5.2).bind fun q_6 =>
          f_X11_text_176 k111 a0 q_6.2
        else
          (f_X11_readBinding a0 q_5.2).bind fun q_7 =>
          f_X11_text_176 k111 a0 q_7
      else
        (f_X11_readLink a0 x_3 q_4.2).bind fun q_8 =>
        f_X11_text_176 k111 a0 q_8
  else
    f_X11_text_185 a0 q_1.2
def f_X11_text_111   (a0 : Nat) : Nat → Unit → MH → Option (Int32 × MH) := lp (f_X11_text_111b a0)
def f_X11_text_85   (a0 : Nat) (h : MH) : Option (Int32 × MH) :=
  (f_X11_number a0 2 10 h).bind fun q_1 =>
  (f_X11_must a0 59 q_1.2).bind fun q_2 =>
  (f_X11_isWrong a0 q_2).bind fun q_3 =>
  if q_3.1 = 0 then
    (f_X11_clears a0 q_1.1 q_3.2).bind fun q_4 =>
    f_X11_text_111 a0 FU () q_4
  else
    f_X11_text_111 a0 FU () q_3.2
def f_X11_text_40b   (a0 : Nat) (k40 : Int32 → MH → Option (Int32 × MH)) (p : Int32) (h : MH) : Option (Int32 × MH) :=
  if p < 512 then
    (gR h a0 43).bind fun a_1 =>
    (gR h a0 1).bind fun a_2 =>
    (ldI h a_2 p).bind fun x_3 =>
    (stI h a_1 p x_3).bind fun h_4 =>
    k40 (p + 1) h_4
  else
    (f_X11_takesWord a0 0 h).bind fun q_5 =>
    if q_5.1 = 0 then
      (f_X11_errs a0 1 (gI q_5.2 a0 40) q_5.2).bind fun q_6 =>
      f_X11_text_85 a0 q_6.2
    else
      f_X11_text_85 a0 q_5.2
def f_X11_text_40   (a0 : Nat) : Nat → Int32 → MH → Option (Int32 × MH) := lp (f_X11_text_40b a0)
def f_X11_text   (a0 : Nat) (h : MH) : Option (Int32 × MH) :=
  lt (sI h a0 0 0) fun h_1 =>
  lt (sI h_1 a0 40 0) fun h_2 =>
  lt (sI h_2 a0 41 (gI h_2 a0 37)) fun h_3 =>
  lt (sI h_3 a0 37 0) fun h_4 =>
  lt (sI h_4 a0 38 0) fun h_5 =>
  lt (sI h_5 a0 39 (-1 : Int32)) fun h_6 =>
  lt (sI h_6 a0 42 0) fun h_7 =>
  f_X11_text_40 a0 FU 0 h_7
set_option maxRecDepth 100000 in
set_option maxHeartbeats 4000000 in
theorem v_X11_text_241b {l : Launch} {G : GE} {B N : Nat} {S : List SHP} {o : Int32 × MH} {a0 : Nat}    (hs0 : S[a0]? = some (.inl 11)) {k241 : Int32 → MH → Option (Int32 × MH)} (hk241 : ∀ (p : Int32) (h : MH), k241 p h = some o → V l G B N mX11_text (rmm 12 0 0) false 0 0 (QI S o) S 0 0 241 [(0, .ref a0), (2, .int p)] [] h) {p : Int32} {h : MH} (hf : f_X11_text_241b a0 k241 p h = some o) : V l G B N mX11_text (rmm 12 0 0) false 0 0 (QI S o) S 0 0 241 [(0, .ref a0), (2, .int p)] [] h := by
  unfold f_X11_text_241b at hf
  refine V_iload_n (pc' := 242) dX11_text_241 rfl 1 rfl rfl ?_
  refine V_sipush (v := 512) (pc' := 245) dX11_text_242 rfl (by decide) ?_
  refine V_icmp_ge (tgt := 266) (pc' := 248) dX11_text_245 (by decide) rfl hf (fun hf => ?_) (fun hf => ?_)
  ·
    refine V_aload_n (pc' := 249) dX11_text_248 rfl 0 rfl rfl ?_
    refine V_getR (pc' := 252) 11 1 dX11_text_249 rfl (by decide) (Nat.le_of_ble_eq_true rfl) bm_1225 hs0 (fun _ _ _ => rfl) rfl hf (fun a_1 ha_1 hf => ?_)
    refine V_iload_n (pc' := 253) dX11_text_252 rfl 1 rfl rfl ?_
    refine V_aload_n (pc' := 254) dX11_text_253 rfl 0 rfl rfl ?_
    refine V_getR (pc' := 257) 11 43 dX11_text_254 rfl (by decide) (Nat.le_of_ble_eq_true rfl) bm_1267 hs0 (fun _ _ _ => rfl) rfl hf (fun a_2 ha_2 hf => ?_)
    refine V_iload_n (pc' := 258) dX11_text_257 rfl 1 rfl rfl ?_
    refine V_iald (pc' := 259) dX11_text_258 rfl ha_2 hf (fun x_3 hf => ?_)
    refine V_iast (pc' := 260) dX11_text_259 rfl ha_1 hf (fun h_4 hf => ?_)
    refine V_iinc (v := (p + 1)) (lv' := [(2, .int (p + 1)), (0, .ref a0)]) (pc' := 263) dX11_text_260 rfl 1 rfl rfl (Nat.le_of_ble_eq_true rfl) rfl ?_
    refine V_goto (tgt := 241) dX11_text_263 (by decide) ?_
    exact V_sub (lv' := [(0, .ref a0), (2, .int (p + 1))]) [1, 0] rfl (hk241 (p + 1) h_4 hf)
  ·
    refine V_aload_n (pc' := 267) dX11_text_266 rfl 0 rfl rfl ?_
    refine V_cvI (pc' := 270) (As := []) (rest := []) dX11_text_267 rfl mok_X11_links bm_1398 11 (by decide) rfl hs0 rfl rfl (Nat.le_of_ble_eq_true rfl) (by decide) hf (fun q e => ct_X11_links hs0 e) (fun q_5 hf => ?_)
    obtain rfl := Option.some.inj hf
    exact V_iret dX11_text_270 rfl rfl rfl ⟨rfl, rfl, rfl⟩
theorem v_X11_text_241 {l : Launch} {G : GE} {B N : Nat} {S : List SHP} {o : Int32 × MH} {a0 : Nat}    (hs0 : S[a0]? = some (.inl 11)) {n : Nat} {p : Int32} {h : MH} (hf : f_X11_text_241 a0 n p h = some o) : V l G B N mX11_text (rmm 12 0 0) false 0 0 (QI S o) S 0 0 241 [(0, .ref a0), (2, .int p)] [] h :=
  V_lp (VV := fun p h => V l G B N mX11_text (rmm 12 0 0) false 0 0 (QI S o) S 0 0 241 [(0, .ref a0), (2, .int p)] [] h) (fun _ hk _ _ hf => v_X11_text_241b hs0 hk hf) n p h hf
set_option maxRecDepth 100000 in
set_option maxHeartbeats 4000000 in
theorem v_X11_text_187b {l : Launch} {G : GE} {B N : Nat} {S : List SHP} {o : Int32 × MH} {a0 : Nat}    (hs0 : S[a0]? = some (.inl 11)) {k187 : Int32 → MH → Option (Int32 × MH)} (hk187 : ∀ (p : Int32) (h : MH), k187 p h = some o → V l G B N mX11_text (rmm 12 0 0) false 0 0 (QI S o) S 0 0 187 [(0, .ref a0), (2, .int p)] [] h) {p : Int32} {h : MH} (hf : f_X11_text_187b a0 k187 p h = some o) : V l G B N mX11_text (rmm 12 0 0) false 0 0 (QI S o) S 0 0 187 [(0, .ref a0), (2, .int p)] [] h := by
  unfold f_X11_text_187b at hf
  refine V_iload_n (pc' := 188) dX11_text_187 rfl 1 rfl rfl ?_
  refine V_sipush (v := 512) (pc' := 191) dX11_text_188 rfl (by decide) ?_
  refine V_icmp_ge (tgt := 226) (pc' := 194) dX11_text_191 (by decide) rfl hf (fun hf => ?_) (fun hf => ?_)
  ·
    refine V_aload_n (pc' := 195) dX11_text_194 rfl 0 rfl rfl ?_
    refine V_getR (pc' := 198) 11 1 dX11_text_195 rfl (by decide) (Nat.le_of_ble_eq_true rfl) bm_1225 hs0 (fun _ _ _ => rfl) rfl hf (fun a_1 ha_1 hf => ?_)
    refine V_iload_n (pc' := 199) dX11_text_198 rfl 1 rfl rfl ?_
    refine V_iald (pc' := 200) dX11_text_199 rfl ha_1 hf (fun x_2 hf => ?_)
    refine V_istore_n (lv' := [(3, .int x_2), (0, .ref a0), (2, .int p)]) (pc' := 201) dX11_text_200 rfl rfl (Nat.le_of_ble_eq_true rfl) rfl ?_
    refine V_aload_n (pc' := 202) dX11_text_201 rfl 1 rfl rfl ?_
    refine V_getR (pc' := 205) 11 1 dX11_text_202 rfl (by decide) (Nat.le_of_ble_eq_true rfl) bm_1225 hs0 (fun _ _ _ => rfl) rfl hf (fun a_3 ha_3 hf => ?_)
    refine V_iload_n (pc' := 206) dX11_text_205 rfl 2 rfl rfl ?_
    refine V_aload_n (pc' := 207) dX11_text_206 rfl 1 rfl rfl ?_
    refine V_getR (pc' := 210) 11 43 dX11_text_207 rfl (by decide) (Nat.le_of_ble_eq_true rfl) bm_1267 hs0 (fun _ _ _ => rfl) rfl hf (fun a_4 ha_4 hf => ?_)
    refine V_iload_n (pc' := 211) dX11_text_210 rfl 2 rfl rfl ?_
    refine V_iald (pc' := 212) dX11_text_211 rfl ha_4 hf (fun x_5 hf => ?_)
    refine V_iast (pc' := 213) dX11_text_212 rfl ha_3 hf (fun h_6 hf => ?_)
    refine V_aload_n (pc' := 214) dX11_text_213 rfl 1 rfl rfl ?_
    refine V_getR (pc' := 217) 11 43 dX11_text_214 rfl (by decide) (Nat.le_of_ble_eq_true rfl) bm_1267 hs0 (fun _ _ _ => rfl) rfl hf (fun a_7 ha_7 hf => ?_)
    refine V_iload_n (pc' := 218) dX11_text_217 rfl 2 rfl rfl ?_
    refine V_iload_n (pc' := 219) dX11_text_218 rfl 0 rfl rfl ?_
    refine V_iast (pc' := 220) dX11_text_219 rfl ha_7 hf (fun h_8 hf => ?_)
    refine V_iinc (v := (p + 1)) (lv' := [(2, .int (p + 1)), (3, .int x_2), (0, .ref a0)]) (pc' := 223) dX11_text_220 rfl 2 rfl rfl (Nat.le_of_ble_eq_true rfl) rfl ?_
    refine V_goto (tgt := 187) dX11_text_223 (by decide) ?_
    exact V_sub (lv' := [(0, .ref a0), (2, .int (p + 1))]) [2, 0] rfl (hk187 (p + 1) h_8 hf)
  ·
    refine V_aload_n (pc' := 227) dX11_text_226 rfl 0 rfl rfl ?_
    refine V_cvI (pc' := 230) (As := []) (rest := []) dX11_text_227 rfl mok_X11_isWrong bm_1744 11 (by decide) rfl hs0 rfl rfl (Nat.le_of_ble_eq_true rfl) (by decide) hf (fun q e => ct_X11_isWrong hs0 e) (fun q_9 hf => ?_)
    refine V_if_eq (tgt := 235) (pc' := 233) dX11_text_230 (by decide) rfl hf (fun hf => ?_) (fun hf => ?_)
    ·
      refine V_aload_n (pc' := 236) dX11_text_235 rfl 0 rfl rfl ?_
      refine V_cvV (pc' := 239) (As := []) (rest := []) dX11_text_236 rfl mok_X11_keepsAct bm_1377 11 (by decide) rfl hs0 rfl rfl (Nat.le_of_ble_eq_true rfl) (by decide) hf (fun q e => ct_X11_keepsAct hs0 e) (fun q_10 hf => ?_)
      refine V_iconst (v := 0) (pc' := 240) dX11_text_239 rfl (by decide) ?_
      refine V_istore_n (lv' := [(2, .int 0), (0, .ref a0)]) (pc' := 241) dX11_text_240 rfl rfl (Nat.le_of_ble_eq_true rfl) rfl ?_
      exact V_sub (lv' := [(0, .ref a0), (2, .int 0)]) [1, 0] rfl (v_X11_text_241 hs0 hf)
    ·
      refine V_iconst (v := (-1)) (pc' := 234) dX11_text_233 rfl (by decide) ?_
      obtain rfl := Option.some.inj hf
      exact V_iret dX11_text_234 rfl rfl rfl ⟨rfl, rfl, rfl⟩
theorem v_X11_text_187 {l : Launch} {G : GE} {B N : Nat} {S : List SHP} {o : Int32 × MH} {a0 : Nat}    (hs0 : S[a0]? = some (.inl 11)) {n : Nat} {p : Int32} {h : MH} (hf : f_X11_text_187 a0 n p h = some o) : V l G B N mX11_text (rmm 12 0 0) false 0 0 (QI S o) S 0 0 187 [(0, .ref a0), (2, .int p)] [] h :=
  V_lp (VV := fun p h => V l G B N mX11_text (rmm 12 0 0) false 0 0 (QI S o) S 0 0 187 [(0, .ref a0), (2, .int p)] [] h) (fun _ hk _ _ hf => v_X11_text_187b hs0 hk hf) n p h hf
set_option maxRecDepth 100000 in
set_option maxHeartbeats 4000000 in
theorem v_X11_text_185 {l : Launch} {G : GE} {B N : Nat} {S : List SHP} {o : Int32 × MH} {a0 : Nat}    (hs0 : S[a0]? = some (.inl 11)) {h : MH} (hf : f_X11_text_185 a0 h = some o) : V l G B N mX11_text (rmm 12 0 0) false 0 0 (QI S o) S 0 0 185 [(0, .ref a0)] [] h := by
  unfold f_X11_text_185 at hf
  refine V_iconst (v := 0) (pc' := 186) dX11_text_185 rfl (by decide) ?_
  refine V_istore_n (lv' := [(2, .int 0), (0, .ref a0)]) (pc' := 187) dX11_text_186 rfl rfl (Nat.le_of_ble_eq_true rfl) rfl ?_
  exact V_sub (lv' := [(0, .ref a0), (2, .int 0)]) [1, 0] rfl (v_X11_text_187 hs0 hf)
set_option maxRecDepth 100000 in
set_option maxHeartbeats 4000000 in
theorem v_X11_text_176 {l : Launch} {G : GE} {B N : Nat} {S : List SHP} {o : Int32 × MH} {a0 : Nat}  {k111 : Unit → MH → Option (Int32 × MH)} (hk111 : ∀ (p : Unit) (h : MH), k111 p h = some o → V l G B N mX11_text (rmm 12 0 0) false 0 0 (QI S o) S 0 0 111 [(0, .ref a0)] [] h) (hs0 : S[a0]? = some (.inl 11)) {h : MH} (hf : f_X11_text_176 k111 a0 h = some o) : V l G B N mX11_text (rmm 12 0 0) false 0 0 (QI S o) S 0 0 176 [(0, .ref a0)] [] h := by
  unfold f_X11_text_176 at hf
  refine V_aload_n (pc' := 177) dX11_text_176 rfl 0 rfl rfl ?_
  refine V_bipush (v := 59) (pc' := 179) dX11_text_177 rfl (by decide) ?_
  refine V_cvV (pc' := 182) (As := [.int 59]) (rest := []) dX11_text_179 rfl mok_X11_must bm_1778 11 (by decide) rfl hs0 rfl rfl (Nat.le_of_ble_eq_true rfl) (by decide) hf (fun q e => ct_X11_must hs0 e) (fun q_1 hf => ?_)
  refine V_goto (tgt := 111) dX11_text_182 (by decide) ?_
  exact V_sub (lv' := [(0, .ref a0)]) [0] rfl (hk111 () q_1 hf)
set_option maxRecDepth 100000 in
set_option maxHeartbeats 4000000 in
theorem v_X11_text_111b {l : Launch} {G : GE} {B N : Nat} {S : List SHP} {o : Int32 × MH} {a0 : Nat}    (hs0 : S[a0]? = some (.inl 11)) {k111 : Unit → MH → Option (Int32 × MH)} (hk111 : ∀ (p : Unit) (h : MH), k111 p h = some o → V l G B N mX11_text (rmm 12 0 0) false 0 0 (QI S o) S 0 0 111 [(0, .ref a0)] [] h) {p : Unit} {h : MH} (hf : f_X11_text_111b a0 k111 p h = some o) : V l G B N mX11_text (rmm 12 0 0) false 0 0 (QI S o) S 0 0 111 [(0, .ref a0)] [] h := by
  unfold f_X11_text_111b at hf
  refine V_aload_n (pc' := 112) dX11_text_111 rfl 0 rfl rfl ?_
  refine V_cvI (pc' := 115) (As := []) (rest := []) dX11_text_112 rfl mok_X11_isWrong bm_1744 11 (by decide) rfl hs0 rfl rfl (Nat.le_of_ble_eq_true rfl) (by decide) hf (fun q e => ct_X11_isWrong hs0 e) (fun q_1 hf => ?_)
  refine V_if_ne (tgt := 185) (pc' := 118) dX11_text_115 (by decide) rfl hf (fun hf => ?_) (fun hf => ?_)
  ·
    refine V_aload_n (pc' := 119) dX11_text_118 rfl 0 rfl rfl ?_
    refine V_cvI (pc' := 122) (As := []) (rest := []) dX11_text_119 rfl mok_X11_behindBlanks bm_1748 11 (by decide) rfl hs0 rfl rfl (Nat.le_of_ble_eq_true rfl) (by decide) hf (fun q e => ct_X11_behindBlanks hs0 e) (fun q_2 hf => ?_)
    refine V_iconst (v := (-1)) (pc' := 123) dX11_text_122 rfl (by decide) ?_
    refine V_icmp_eq (tgt := 185) (pc' := 126) dX11_text_123 (by decide) rfl hf (fun hf => ?_) (fun hf => ?_)
    ·
      exact V_sub (lv' := [(0, .ref a0)]) [0] rfl (v_X11_text_185 hs0 hf)
    ·
      refine V_aload_n (pc' := 127) dX11_text_126 rfl 0 rfl rfl ?_
      refine V_getI (pc' := 130) 11 40 dX11_text_127 rfl (by decide) (Nat.le_of_ble_eq_true rfl) bm_1264 hs0 (fun _ _ _ => rfl) ?_
      refine V_nmI hf (fun x_3 hf => ?_)
      refine V_istore_n (lv' := [(2, .int x_3), (0, .ref a0)]) (pc' := 131) dX11_text_130 rfl rfl (Nat.le_of_ble_eq_true rfl) rfl ?_
      refine V_aload_n (pc' := 132) dX11_text_131 rfl 1 rfl rfl ?_
      refine V_ldcwS (j := 1) (tx := "link") (pc' := 135) dX11_text_132 rfl (by decide) ?_
      refine V_cvI (pc' := 138) (As := [.retAddr 1]) (rest := []) dX11_text_135 rfl mok_X11_takesWord bm_1740 11 (by decide) rfl hs0 rfl rfl (Nat.le_of_ble_eq_true rfl) (by decide) hf (fun q e => ct_X11_takesWord hs0 e) (fun q_4 hf => ?_)
      refine V_if_eq (tgt := 149) (pc' := 141) dX11_text_138 (by decide) rfl hf (fun hf => ?_) (fun hf => ?_)
      ·
        refine V_aload_n (pc' := 150) dX11_text_149 rfl 1 rfl rfl ?_
        refine V_ldcwS (j := 3) (tx := "bind") (pc' := 153) dX11_text_150 rfl (by decide) ?_
        refine V_cvI (pc' := 156) (As := [.retAddr 3]) (rest := []) dX11_text_153 rfl mok_X11_takesWord bm_1740 11 (by decide) rfl hs0 rfl rfl (Nat.le_of_ble_eq_true rfl) (by decide) hf (fun q e => ct_X11_takesWord hs0 e) (fun q_5 hf => ?_)
        refine V_if_eq (tgt := 166) (pc' := 159) dX11_text_156 (by decide) rfl hf (fun hf => ?_) (fun hf => ?_)
        ·
          refine V_aload_n (pc' := 167) dX11_text_166 rfl 1 rfl rfl ?_
          refine V_iconst (v := 1) (pc' := 168) dX11_text_167 rfl (by decide) ?_
          refine V_aload_n (pc' := 169) dX11_text_168 rfl 1 rfl rfl ?_
          refine V_getI (pc' := 172) 11 40 dX11_text_169 rfl (by decide) (Nat.le_of_ble_eq_true rfl) bm_1264 hs0 (fun _ _ _ => rfl) ?_
          refine V_cvI (pc' := 175) (As := [.int 1, .int (gI q_5.2 a0 40)]) (rest := []) dX11_text_172 rfl mok_X11_errs bm_1762 11 (by decide) rfl hs0 rfl rfl (Nat.le_of_ble_eq_true rfl) (by decide) hf (fun q e => ct_X11_errs hs0 e) (fun q_6 hf => ?_)
          refine V_pop (pc' := 176) dX11_text_175 rfl rfl ?_
          exact V_sub (lv' := [(0, .ref a0)]) [1] rfl (v_X11_text_176 hk111 hs0 hf)
        ·
          refine V_aload_n (pc' := 160) dX11_text_159 rfl 1 rfl rfl ?_
          refine V_cvV (pc' := 163) (As := []) (rest := []) dX11_text_160 rfl mok_X11_readBinding bm_1789 11 (by decide) rfl hs0 rfl rfl (Nat.le_of_ble_eq_true rfl) (by decide) hf (fun q e => ct_X11_readBinding hs0 e) (fun q_7 hf => ?_)
          refine V_goto (tgt := 176) dX11_text_163 (by decide) ?_
          exact V_sub (lv' := [(0, .ref a0)]) [1] rfl (v_X11_text_176 hk111 hs0 hf)
      ·
        refine V_aload_n (pc' := 142) dX11_text_141 rfl 1 rfl rfl ?_
        refine V_iload_n (pc' := 143) dX11_text_142 rfl 0 rfl rfl ?_
        refine V_cvV (pc' := 146) (As := [.int x_3]) (rest := []) dX11_text_143 rfl mok_X11_readLink bm_1783 11 (by decide) rfl hs0 rfl rfl (Nat.le_of_ble_eq_true rfl) (by decide) hf (fun q e => ct_X11_readLink hs0 e) (fun q_8 hf => ?_)
        refine V_goto (tgt := 176) dX11_text_146 (by decide) ?_
        exact V_sub (lv' := [(0, .ref a0)]) [1] rfl (v_X11_text_176 hk111 hs0 hf)
  ·
    exact V_sub (lv' := [(0, .ref a0)]) [0] rfl (v_X11_text_185 hs0 hf)
theorem v_X11_text_111 {l : Launch} {G : GE} {B N : Nat} {S : List SHP} {o : Int32 × MH} {a0 : Nat}    (hs0 : S[a0]? = some (.inl 11)) {n : Nat} {p : Unit} {h : MH} (hf : f_X11_text_111 a0 n p h = some o) : V l G B N mX11_text (rmm 12 0 0) false 0 0 (QI S o) S 0 0 111 [(0, .ref a0)] [] h :=
  V_lp (VV := fun p h => V l G B N mX11_text (rmm 12 0 0) false 0 0 (QI S o) S 0 0 111 [(0, .ref a0)] [] h) (fun _ hk _ _ hf => v_X11_text_111b hs0 hk hf) n p h hf
set_option maxRecDepth 100000 in
set_option maxHeartbeats 4000000 in
theorem v_X11_text_85 {l : Launch} {G : GE} {B N : Nat} {S : List SHP} {o : Int32 × MH} {a0 : Nat}    (hs0 : S[a0]? = some (.inl 11)) {h : MH} (hf : f_X11_text_85 a0 h = some o) : V l G B N mX11_text (rmm 12 0 0) false 0 0 (QI S o) S 0 0 85 [(0, .ref a0)] [] h := by
  unfold f_X11_text_85 at hf
  refine V_aload_n (pc' := 86) dX11_text_85 rfl 0 rfl rfl ?_
  refine V_iconst (v := 2) (pc' := 87) dX11_text_86 rfl (by decide) ?_
  refine V_bipush (v := 10) (pc' := 89) dX11_text_87 rfl (by decide) ?_
  refine V_cvI (pc' := 92) (As := [.int 2, .int 10]) (rest := []) dX11_text_89 rfl mok_X11_number bm_1766 11 (by decide) rfl hs0 rfl rfl (Nat.le_of_ble_eq_true rfl) (by decide) hf (fun q e => ct_X11_number hs0 e) (fun q_1 hf => ?_)
  refine V_istore_n (lv' := [(1, .int q_1.1), (0, .ref a0)]) (pc' := 93) dX11_text_92 rfl rfl (Nat.le_of_ble_eq_true rfl) rfl ?_
  refine V_aload_n (pc' := 94) dX11_text_93 rfl 1 rfl rfl ?_
  refine V_bipush (v := 59) (pc' := 96) dX11_text_94 rfl (by decide) ?_
  refine V_cvV (pc' := 99) (As := [.int 59]) (rest := []) dX11_text_96 rfl mok_X11_must bm_1778 11 (by decide) rfl hs0 rfl rfl (Nat.le_of_ble_eq_true rfl) (by decide) hf (fun q e => ct_X11_must hs0 e) (fun q_2 hf => ?_)
  refine V_aload_n (pc' := 100) dX11_text_99 rfl 1 rfl rfl ?_
  refine V_cvI (pc' := 103) (As := []) (rest := []) dX11_text_100 rfl mok_X11_isWrong bm_1744 11 (by decide) rfl hs0 rfl rfl (Nat.le_of_ble_eq_true rfl) (by decide) hf (fun q e => ct_X11_isWrong hs0 e) (fun q_3 hf => ?_)
  refine V_if_ne (tgt := 111) (pc' := 106) dX11_text_103 (by decide) rfl hf (fun hf => ?_) (fun hf => ?_)
  ·
    refine V_aload_n (pc' := 107) dX11_text_106 rfl 1 rfl rfl ?_
    refine V_iload_n (pc' := 108) dX11_text_107 rfl 0 rfl rfl ?_
    refine V_cvV (pc' := 111) (As := [.int q_1.1]) (rest := []) dX11_text_108 rfl mok_X11_clears bm_1381 11 (by decide) rfl hs0 rfl rfl (Nat.le_of_ble_eq_true rfl) (by decide) hf (fun q e => ct_X11_clears hs0 e) (fun q_4 hf => ?_)
    exact V_sub (lv' := [(0, .ref a0)]) [1] rfl (v_X11_text_111 hs0 hf)
  ·
    exact V_sub (lv' := [(0, .ref a0)]) [1] rfl (v_X11_text_111 hs0 hf)
set_option maxRecDepth 100000 in
set_option maxHeartbeats 4000000 in
theorem v_X11_text_40b {l : Launch} {G : GE} {B N : Nat} {S : List SHP} {o : Int32 × MH} {a0 : Nat}    (hs0 : S[a0]? = some (.inl 11)) {k40 : Int32 → MH → Option (Int32 × MH)} (hk40 : ∀ (p : Int32) (h : MH), k40 p h = some o → V l G B N mX11_text (rmm 12 0 0) false 0 0 (QI S o) S 0 0 40 [(0, .ref a0), (1, .int p)] [] h) {p : Int32} {h : MH} (hf : f_X11_text_40b a0 k40 p h = some o) : V l G B N mX11_text (rmm 12 0 0) false 0 0 (QI S o) S 0 0 40 [(0, .ref a0), (1, .int p)] [] h := by
  unfold f_X11_text_40b at hf
  refine V_iload_n (pc' := 41) dX11_text_40 rfl 1 rfl rfl ?_
  refine V_sipush (v := 512) (pc' := 44) dX11_text_41 rfl (by decide) ?_
  refine V_icmp_ge (tgt := 65) (pc' := 47) dX11_text_44 (by decide) rfl hf (fun hf => ?_) (fun hf => ?_)
  ·
    refine V_aload_n (pc' := 48) dX11_text_47 rfl 0 rfl rfl ?_
    refine V_getR (pc' := 51) 11 43 dX11_text_48 rfl (by decide) (Nat.le_of_ble_eq_true rfl) bm_1267 hs0 (fun _ _ _ => rfl) rfl hf (fun a_1 ha_1 hf => ?_)
    refine V_iload_n (pc' := 52) dX11_text_51 rfl 1 rfl rfl ?_
    refine V_aload_n (pc' := 53) dX11_text_52 rfl 0 rfl rfl ?_
    refine V_getR (pc' := 56) 11 1 dX11_text_53 rfl (by decide) (Nat.le_of_ble_eq_true rfl) bm_1225 hs0 (fun _ _ _ => rfl) rfl hf (fun a_2 ha_2 hf => ?_)
    refine V_iload_n (pc' := 57) dX11_text_56 rfl 1 rfl rfl ?_
    refine V_iald (pc' := 58) dX11_text_57 rfl ha_2 hf (fun x_3 hf => ?_)
    refine V_iast (pc' := 59) dX11_text_58 rfl ha_1 hf (fun h_4 hf => ?_)
    refine V_iinc (v := (p + 1)) (lv' := [(1, .int (p + 1)), (0, .ref a0)]) (pc' := 62) dX11_text_59 rfl 1 rfl rfl (Nat.le_of_ble_eq_true rfl) rfl ?_
    refine V_goto (tgt := 40) dX11_text_62 (by decide) ?_
    exact V_sub (lv' := [(0, .ref a0), (1, .int (p + 1))]) [1, 0] rfl (hk40 (p + 1) h_4 hf)
  ·
    refine V_aload_n (pc' := 66) dX11_text_65 rfl 0 rfl rfl ?_
    refine V_ldcwS (j := 0) (tx := "nodes") (pc' := 69) dX11_text_66 rfl (by decide) ?_
    refine V_cvI (pc' := 72) (As := [.retAddr 0]) (rest := []) dX11_text_69 rfl mok_X11_takesWord bm_1740 11 (by decide) rfl hs0 rfl rfl (Nat.le_of_ble_eq_true rfl) (by decide) hf (fun q e => ct_X11_takesWord hs0 e) (fun q_5 hf => ?_)
    refine V_if_ne (tgt := 85) (pc' := 75) dX11_text_72 (by decide) rfl hf (fun hf => ?_) (fun hf => ?_)
    ·
      refine V_aload_n (pc' := 76) dX11_text_75 rfl 0 rfl rfl ?_
      refine V_iconst (v := 1) (pc' := 77) dX11_text_76 rfl (by decide) ?_
      refine V_aload_n (pc' := 78) dX11_text_77 rfl 0 rfl rfl ?_
      refine V_getI (pc' := 81) 11 40 dX11_text_78 rfl (by decide) (Nat.le_of_ble_eq_true rfl) bm_1264 hs0 (fun _ _ _ => rfl) ?_
      refine V_cvI (pc' := 84) (As := [.int 1, .int (gI q_5.2 a0 40)]) (rest := []) dX11_text_81 rfl mok_X11_errs bm_1762 11 (by decide) rfl hs0 rfl rfl (Nat.le_of_ble_eq_true rfl) (by decide) hf (fun q e => ct_X11_errs hs0 e) (fun q_6 hf => ?_)
      refine V_pop (pc' := 85) dX11_text_84 rfl rfl ?_
      exact V_sub (lv' := [(0, .ref a0)]) [0] rfl (v_X11_text_85 hs0 hf)
    ·
      exact V_sub (lv' := [(0, .ref a0)]) [0] rfl (v_X11_text_85 hs0 hf)
theorem v_X11_text_40 {l : Launch} {G : GE} {B N : Nat} {S : List SHP} {o : Int32 × MH} {a0 : Nat}    (hs0 : S[a0]? = some (.inl 11)) {n : Nat} {p : Int32} {h : MH} (hf : f_X11_text_40 a0 n p h = some o) : V l G B N mX11_text (rmm 12 0 0) false 0 0 (QI S o) S 0 0 40 [(0, .ref a0), (1, .int p)] [] h :=
  V_lp (VV := fun p h => V l G B N mX11_text (rmm 12 0 0) false 0 0 (QI S o) S 0 0 40 [(0, .ref a0), (1, .int p)] [] h) (fun _ hk _ _ hf => v_X11_text_40b hs0 hk hf) n p h hf
set_option maxRecDepth 100000 in
set_option maxHeartbeats 4000000 in
theorem v_X11_text {l : Launch} {G : GE} {B N : Nat} {S : List SHP} {o : Int32 × MH} {a0 : Nat}    (hs0 : S[a0]? = some (.inl 11)) {h : MH} (hf : f_X11_text a0 h = some o) : V l G B N mX11_text (rmm 12 0 0) false 0 0 (QI S o) S 0 0 0 [(0, .ref a0)] [] h := by
  unfold f_X11_text at hf
  refine V_aload_n (pc' := 1) dX11_text_0 rfl 0 rfl rfl ?_
  refine V_iconst (v := 0) (pc' := 2) dX11_text_1 rfl (by decide) ?_
  refine V_putI (pc' := 5) 11 0 dX11_text_2 rfl (by decide) (Nat.le_of_ble_eq_true rfl) bm_1224 hs0 (Or.inl rfl) rfl ?_
  refine V_nmH hf (fun h_1 hf => ?_)
  refine V_aload_n (pc' := 6) dX11_text_5 rfl 0 rfl rfl ?_
  refine V_iconst (v := 0) (pc' := 7) dX11_text_6 rfl (by decide) ?_
  refine V_putI (pc' := 10) 11 40 dX11_text_7 rfl (by decide) (Nat.le_of_ble_eq_true rfl) bm_1264 hs0 (Or.inl rfl) rfl ?_
  refine V_nmH hf (fun h_2 hf => ?_)
  refine V_aload_n (pc' := 11) dX11_text_10 rfl 0 rfl rfl ?_
  refine V_aload_n (pc' := 12) dX11_text_11 rfl 0 rfl rfl ?_
  refine V_getI (pc' := 15) 11 37 dX11_text_12 rfl (by decide) (Nat.le_of_ble_eq_true rfl) bm_1261 hs0 (fun _ _ _ => rfl) ?_
  refine V_putI (pc' := 18) 11 41 dX11_text_15 rfl (by decide) (Nat.le_of_ble_eq_true rfl) bm_1265 hs0 (Or.inl rfl) rfl ?_
  refine V_nmH hf (fun h_3 hf => ?_)
  refine V_aload_n (pc' := 19) dX11_text_18 rfl 0 rfl rfl ?_
  refine V_iconst (v := 0) (pc' := 20) dX11_text_19 rfl (by decide) ?_
  refine V_putI (pc' := 23) 11 37 dX11_text_20 rfl (by decide) (Nat.le_of_ble_eq_true rfl) bm_1261 hs0 (Or.inl rfl) rfl ?_
  refine V_nmH hf (fun h_4 hf => ?_)
  refine V_aload_n (pc' := 24) dX11_text_23 rfl 0 rfl rfl ?_
  refine V_iconst (v := 0) (pc' := 25) dX11_text_24 rfl (by decide) ?_
  refine V_putI (pc' := 28) 11 38 dX11_text_25 rfl (by decide) (Nat.le_of_ble_eq_true rfl) bm_1262 hs0 (Or.inl rfl) rfl ?_
  refine V_nmH hf (fun h_5 hf => ?_)
  refine V_aload_n (pc' := 29) dX11_text_28 rfl 0 rfl rfl ?_
  refine V_iconst (v := (-1)) (pc' := 30) dX11_text_29 rfl (by decide) ?_
  refine V_putI (pc' := 33) 11 39 dX11_text_30 rfl (by decide) (Nat.le_of_ble_eq_true rfl) bm_1263 hs0 (Or.inl rfl) rfl ?_
  refine V_nmH hf (fun h_6 hf => ?_)
  refine V_aload_n (pc' := 34) dX11_text_33 rfl 0 rfl rfl ?_
  refine V_iconst (v := 0) (pc' := 35) dX11_text_34 rfl (by decide) ?_
  refine V_putI (pc' := 38) 11 42 dX11_text_35 rfl (by decide) (Nat.le_of_ble_eq_true rfl) bm_1266 hs0 (Or.inl rfl) rfl ?_
  refine V_nmH hf (fun h_7 hf => ?_)
  refine V_iconst (v := 0) (pc' := 39) dX11_text_38 rfl (by decide) ?_
  refine V_istore_n (lv' := [(1, .int 0), (0, .ref a0)]) (pc' := 40) dX11_text_39 rfl rfl (Nat.le_of_ble_eq_true rfl) rfl ?_
  exact V_sub (lv' := [(0, .ref a0), (1, .int 0)]) [1, 0] rfl (v_X11_text_40 hs0 hf)
theorem ct_X11_text {l : Launch} {S : List SHP} {h : MH} {a0 : Nat} (hs0 : S[a0]? = some (.inl 11)) {q : Int32 × MH} (hf : f_X11_text a0 h = some q) : CT l mX11_text 12 false 0 0 S [.ref a0] h (QI S q) :=
  CT_ofV (by decide) rfl (Nat.le_of_ble_eq_true rfl) (fun G B hT => v_X11_text hs0 hf)
/-! LabelStacksModel.fault(I)I -/
theorem dX11_fault_0 : decode cX11_fault 0 = .ok (.aload_n 0, 1) := by decide +kernel
theorem dX11_fault_1 : decode cX11_fault 1 = .ok (.iconst 0, 1) := by decide +kernel
theorem dX11_fault_2 : decode cX11_fault 2 = .ok (.putfield 84, 3) := by decide +kernel
theorem dX11_fault_5 : decode cX11_fault 5 = .ok (.iload_n 1, 1) := by decide +kernel
theorem dX11_fault_6 : decode cX11_fault 6 = .ok (.ifCond .ne 10, 3) := by decide +kernel
theorem dX11_fault_9 : decode cX11_fault 9 = .ok (.aload_n 0, 1) := by decide +kernel
theorem dX11_fault_10 : decode cX11_fault 10 = .ok (.getfield 365, 3) := by decide +kernel
theorem dX11_fault_13 : decode cX11_fault 13 = .ok (.goto 16, 3) := by decide +kernel
theorem dX11_fault_16 : decode cX11_fault 16 = .ok (.iload_n 1, 1) := by decide +kernel
theorem dX11_fault_17 : decode cX11_fault 17 = .ok (.iconst 1, 1) := by decide +kernel
theorem dX11_fault_18 : decode cX11_fault 18 = .ok (.if_icmp .ne 10, 3) := by decide +kernel
theorem dX11_fault_21 : decode cX11_fault 21 = .ok (.aload_n 0, 1) := by decide +kernel
theorem dX11_fault_22 : decode cX11_fault 22 = .ok (.getfield 75, 3) := by decide +kernel
theorem dX11_fault_25 : decode cX11_fault 25 = .ok (.goto 4, 3) := by decide +kernel
theorem dX11_fault_28 : decode cX11_fault 28 = .ok (.iconst (-1), 1) := by decide +kernel
theorem dX11_fault_29 : decode cX11_fault 29 = .ok (.ireturn, 1) := by decide +kernel
abbrev mX11_fault : MI := (RX11, yX11_fault, cX11_fault, 2, (some .int))
theorem mok_X11_fault : MOKv mX11_fault 1 := ⟨⟨bm_1807, bm_127, ⟨by decide, by decide⟩, by decide +kernel⟩, bm_1805, bm_1806⟩
def f_X11_fault   (a0 : Nat) (x1 : Int32) (h : MH) : Option (Int32 × MH) :=
  lt (sI h a0 0 0) fun h_1 =>
  if x1 = 0 then
    some ((gI h_1 a0 38), h_1)
  else
    if x1 = 1 then
      some ((gI h_1 a0 39), h_1)
    else
      some ((-1 : Int32), h_1)
set_option maxRecDepth 100000 in
set_option maxHeartbeats 4000000 in
theorem v_X11_fault {l : Launch} {G : GE} {B N : Nat} {S : List SHP} {o : Int32 × MH} {a0 : Nat} {x1 : Int32}    (hs0 : S[a0]? = some (.inl 11)) {h : MH} (hf : f_X11_fault a0 x1 h = some o) : V l G B N mX11_fault (rmm 3 0 0) false 0 0 (QI S o) S 0 0 0 [(0, .ref a0), (1, .int x1)] [] h := by
  unfold f_X11_fault at hf
  refine V_aload_n (pc' := 1) dX11_fault_0 rfl 0 rfl rfl ?_
  refine V_iconst (v := 0) (pc' := 2) dX11_fault_1 rfl (by decide) ?_
  refine V_putI (pc' := 5) 11 0 dX11_fault_2 rfl (by decide) (Nat.le_of_ble_eq_true rfl) bm_1224 hs0 (Or.inl rfl) rfl ?_
  refine V_nmH hf (fun h_1 hf => ?_)
  refine V_iload_n (pc' := 6) dX11_fault_5 rfl 1 rfl rfl ?_
  refine V_if_ne (tgt := 16) (pc' := 9) dX11_fault_6 (by decide) rfl hf (fun hf => ?_) (fun hf => ?_)
  ·
    refine V_aload_n (pc' := 10) dX11_fault_9 rfl 0 rfl rfl ?_
    refine V_getI (pc' := 13) 11 38 dX11_fault_10 rfl (by decide) (Nat.le_of_ble_eq_true rfl) bm_1262 hs0 (fun _ _ _ => rfl) ?_
    refine V_goto (tgt := 29) dX11_fault_13 (by decide) ?_
    obtain rfl := Option.some.inj hf
    exact V_iret dX11_fault_29 rfl rfl rfl ⟨rfl, rfl, rfl⟩
  ·
    refine V_iload_n (pc' := 17) dX11_fault_16 rfl 1 rfl rfl ?_
    refine V_iconst (v := 1) (pc' := 18) dX11_fault_17 rfl (by decide) ?_
    refine V_icmp_ne (tgt := 28) (pc' := 21) dX11_fault_18 (by decide) rfl hf (fun hf => ?_) (fun hf => ?_)
    ·
      refine V_aload_n (pc' := 22) dX11_fault_21 rfl 0 rfl rfl ?_
      refine V_getI (pc' := 25) 11 39 dX11_fault_22 rfl (by decide) (Nat.le_of_ble_eq_true rfl) bm_1263 hs0 (fun _ _ _ => rfl) ?_
      refine V_goto (tgt := 29) dX11_fault_25 (by decide) ?_
      obtain rfl := Option.some.inj hf
      exact V_iret dX11_fault_29 rfl rfl rfl ⟨rfl, rfl, rfl⟩
    ·
      refine V_iconst (v := (-1)) (pc' := 29) dX11_fault_28 rfl (by decide) ?_
      obtain rfl := Option.some.inj hf
      exact V_iret dX11_fault_29 rfl rfl rfl ⟨rfl, rfl, rfl⟩
theorem ct_X11_fault {l : Launch} {S : List SHP} {h : MH} {a0 : Nat} {x1 : Int32} (hs0 : S[a0]? = some (.inl 11)) {q : Int32 × MH} (hf : f_X11_fault a0 x1 h = some q) : CT l mX11_fault 3 false 0 0 S [.ref a0, .int x1] h (QI S q) :=
  CT_ofV (by decide) rfl (Nat.le_of_ble_eq_true rfl) (fun G B hT => v_X11_fault hs0 hf)
/-! LabelStacksModel.at(II)I -/
theorem dX11_at_0 : decode cX11_at 0 = .ok (.aload_n 0, 1) := by decide +kernel
theorem dX11_at_1 : decode cX11_at 1 = .ok (.iconst 0, 1) := by decide +kernel
theorem dX11_at_2 : decode cX11_at 2 = .ok (.putfield 84, 3) := by decide +kernel
theorem dX11_at_5 : decode cX11_at 5 = .ok (.iload_n 2, 1) := by decide +kernel
theorem dX11_at_6 : decode cX11_at 6 = .ok (.ifCond .ne 30, 3) := by decide +kernel
theorem dX11_at_9 : decode cX11_at 9 = .ok (.aload_n 0, 1) := by decide +kernel
theorem dX11_at_10 : decode cX11_at 10 = .ok (.iload_n 1, 1) := by decide +kernel
theorem dX11_at_11 : decode cX11_at 11 = .ok (.i2l, 1) := by decide +kernel
theorem dX11_at_12 : decode cX11_at 12 = .ok (.lconst 0, 1) := by decide +kernel
theorem dX11_at_13 : decode cX11_at 13 = .ok (.aload_n 0, 1) := by decide +kernel
theorem dX11_at_14 : decode cX11_at 14 = .ok (.invokevirtual 152, 3) := by decide +kernel
theorem dX11_at_17 : decode cX11_at 17 = .ok (.i2l, 1) := by decide +kernel
theorem dX11_at_18 : decode cX11_at 18 = .ok (.lconst 1, 1) := by decide +kernel
theorem dX11_at_19 : decode cX11_at 19 = .ok (.lsub, 1) := by decide +kernel
theorem dX11_at_20 : decode cX11_at 20 = .ok (.invokevirtual 91, 3) := by decide +kernel
theorem dX11_at_23 : decode cX11_at 23 = .ok (.ifCond .eq 11, 3) := by decide +kernel
theorem dX11_at_26 : decode cX11_at 26 = .ok (.aload_n 0, 1) := by decide +kernel
theorem dX11_at_27 : decode cX11_at 27 = .ok (.iload_n 1, 1) := by decide +kernel
theorem dX11_at_28 : decode cX11_at 28 = .ok (.invokevirtual 155, 3) := by decide +kernel
theorem dX11_at_31 : decode cX11_at 31 = .ok (.goto 4, 3) := by decide +kernel
theorem dX11_at_34 : decode cX11_at 34 = .ok (.iconst (-1), 1) := by decide +kernel
theorem dX11_at_35 : decode cX11_at 35 = .ok (.ireturn, 1) := by decide +kernel
theorem dX11_at_36 : decode cX11_at 36 = .ok (.iload_n 2, 1) := by decide +kernel
theorem dX11_at_37 : decode cX11_at 37 = .ok (.iconst 1, 1) := by decide +kernel
theorem dX11_at_38 : decode cX11_at 38 = .ok (.if_icmp .ne 29, 3) := by decide +kernel
theorem dX11_at_41 : decode cX11_at 41 = .ok (.aload_n 0, 1) := by decide +kernel
theorem dX11_at_42 : decode cX11_at 42 = .ok (.iload_n 1, 1) := by decide +kernel
theorem dX11_at_43 : decode cX11_at 43 = .ok (.i2l, 1) := by decide +kernel
theorem dX11_at_44 : decode cX11_at 44 = .ok (.lconst 0, 1) := by decide +kernel
theorem dX11_at_45 : decode cX11_at 45 = .ok (.aload_n 0, 1) := by decide +kernel
theorem dX11_at_46 : decode cX11_at 46 = .ok (.getfield 138, 3) := by decide +kernel
theorem dX11_at_49 : decode cX11_at 49 = .ok (.i2l, 1) := by decide +kernel
theorem dX11_at_50 : decode cX11_at 50 = .ok (.lconst 1, 1) := by decide +kernel
theorem dX11_at_51 : decode cX11_at 51 = .ok (.lsub, 1) := by decide +kernel
theorem dX11_at_52 : decode cX11_at 52 = .ok (.invokevirtual 91, 3) := by decide +kernel
theorem dX11_at_55 : decode cX11_at 55 = .ok (.ifCond .eq 12, 3) := by decide +kernel
theorem dX11_at_58 : decode cX11_at 58 = .ok (.aload_n 0, 1) := by decide +kernel
theorem dX11_at_59 : decode cX11_at 59 = .ok (.getfield 20, 3) := by decide +kernel
theorem dX11_at_62 : decode cX11_at 62 = .ok (.iload_n 1, 1) := by decide +kernel
theorem dX11_at_63 : decode cX11_at 63 = .ok (.iaload, 1) := by decide +kernel
theorem dX11_at_64 : decode cX11_at 64 = .ok (.goto 4, 3) := by decide +kernel
theorem dX11_at_67 : decode cX11_at 67 = .ok (.iconst (-1), 1) := by decide +kernel
theorem dX11_at_68 : decode cX11_at 68 = .ok (.ireturn, 1) := by decide +kernel
abbrev mX11_at : MI := (RX11, yX11_at, cX11_at, 3, (some .int))
theorem mok_X11_at : MOKv mX11_at 2 := ⟨⟨bm_1811, bm_127, ⟨by decide, by decide⟩, by decide +kernel⟩, bm_1809, bm_1810⟩
def f_X11_at   (a0 : Nat) (x1 : Int32) (x2 : Int32) (h : MH) : Option (Int32 × MH) :=
  lt (sI h a0 0 0) fun h_1 =>
  if x2 = 0 then
    (f_X11_wayLong a0 h_1).bind fun q_2 =>
    (f_X11_isIn a0 (Int32.toInt64 x1) 0 ((Int32.toInt64 q_2.1) - 1) q_2.2).bind fun q_3 =>
    if q_3.1 = 0 then
      some ((-1 : Int32), q_3.2)
    else
      (f_X11_wayLink a0 x1 q_3.2).bind fun q_4 =>
      some (q_4.1, q_4.2)
  else
    if x2 = 1 then
      (f_X11_isIn a0 (Int32.toInt64 x1) 0 ((Int32.toInt64 (gI h_1 a0 6)) - 1) h_1).bind fun q_5 =>
      if q_5.1 = 0 then
        some ((-1 : Int32), q_5.2)
      else
        (gR q_5.2 a0 5).bind fun a_6 =>
        (ldI q_5.2 a_6 x1).bind fun x_7 =>
        some (x_7, q_5.2)
    else
      some ((-1 : Int32), h_1)
set_option maxRecDepth 100000 in
set_option maxHeartbeats 4000000 in
theorem v_X11_at {l : Launch} {G : GE} {B N : Nat} {S : List SHP} {o : Int32 × MH} {a0 : Nat} {x1 : Int32} {x2 : Int32}    (hs0 : S[a0]? = some (.inl 11)) {h : MH} (hf : f_X11_at a0 x1 x2 h = some o) : V l G B N mX11_at (rmm 4 0 0) false 0 0 (QI S o) S 0 0 0 [(0, .ref a0), (1, .int x1), (2, .int x2)] [] h := by
  unfold f_X11_at at hf
  refine V_aload_n (pc' := 1) dX11_at_0 rfl 0 rfl rfl ?_
  refine V_iconst (v := 0) (pc' := 2) dX11_at_1 rfl (by decide) ?_
  refine V_putI (pc' := 5) 11 0 dX11_at_2 rfl (by decide) (Nat.le_of_ble_eq_true rfl) bm_1224 hs0 (Or.inl rfl) rfl ?_
  refine V_nmH hf (fun h_1 hf => ?_)
  refine V_iload_n (pc' := 6) dX11_at_5 rfl 2 rfl rfl ?_
  refine V_if_ne (tgt := 36) (pc' := 9) dX11_at_6 (by decide) rfl hf (fun hf => ?_) (fun hf => ?_)
  ·
    refine V_aload_n (pc' := 10) dX11_at_9 rfl 0 rfl rfl ?_
    refine V_iload_n (pc' := 11) dX11_at_10 rfl 1 rfl rfl ?_
    refine V_i2l (pc' := 12) dX11_at_11 rfl ?_
    refine V_lconst (v := 0) (pc' := 13) dX11_at_12 rfl (by decide) ?_
    refine V_aload_n (pc' := 14) dX11_at_13 rfl 0 rfl rfl ?_
    refine V_cvI (pc' := 17) (As := []) (rest := [.long 0, .long (Int32.toInt64 x1), .ref a0]) dX11_at_14 rfl mok_X11_wayLong bm_1453 11 (by decide) rfl hs0 rfl rfl (Nat.le_of_ble_eq_true rfl) (by decide) hf (fun q e => ct_X11_wayLong hs0 e) (fun q_2 hf => ?_)
    refine V_i2l (pc' := 18) dX11_at_17 rfl ?_
    refine V_lconst (v := 1) (pc' := 19) dX11_at_18 rfl (by decide) ?_
    refine V_lsub (pc' := 20) dX11_at_19 rfl ?_
    refine V_cvI (pc' := 23) (As := [.long (Int32.toInt64 x1), .long 0, .long ((Int32.toInt64 q_2.1) - 1)]) (rest := []) dX11_at_20 rfl mok_X11_isIn bm_1373 11 (by decide) rfl hs0 rfl rfl (Nat.le_of_ble_eq_true rfl) (by decide) hf (fun q e => ct_X11_isIn hs0 e) (fun q_3 hf => ?_)
    refine V_if_eq (tgt := 34) (pc' := 26) dX11_at_23 (by decide) rfl hf (fun hf => ?_) (fun hf => ?_)
    ·
      refine V_iconst (v := (-1)) (pc' := 35) dX11_at_34 rfl (by decide) ?_
      obtain rfl := Option.some.inj hf
      exact V_iret dX11_at_35 rfl rfl rfl ⟨rfl, rfl, rfl⟩
    ·
      refine V_aload_n (pc' := 27) dX11_at_26 rfl 0 rfl rfl ?_
      refine V_iload_n (pc' := 28) dX11_at_27 rfl 1 rfl rfl ?_
      refine V_cvI (pc' := 31) (As := [.int x1]) (rest := []) dX11_at_28 rfl mok_X11_wayLink bm_1457 11 (by decide) rfl hs0 rfl rfl (Nat.le_of_ble_eq_true rfl) (by decide) hf (fun q e => ct_X11_wayLink hs0 e) (fun q_4 hf => ?_)
      refine V_goto (tgt := 35) dX11_at_31 (by decide) ?_
      obtain rfl := Option.some.inj hf
      exact V_iret dX11_at_35 rfl rfl rfl ⟨rfl, rfl, rfl⟩
  ·
    refine V_iload_n (pc' := 37) dX11_at_36 rfl 2 rfl rfl ?_
    refine V_iconst (v := 1) (pc' := 38) dX11_at_37 rfl (by decide) ?_
    refine V_icmp_ne (tgt := 67) (pc' := 41) dX11_at_38 (by decide) rfl hf (fun hf => ?_) (fun hf => ?_)
    ·
      refine V_aload_n (pc' := 42) dX11_at_41 rfl 0 rfl rfl ?_
      refine V_iload_n (pc' := 43) dX11_at_42 rfl 1 rfl rfl ?_
      refine V_i2l (pc' := 44) dX11_at_43 rfl ?_
      refine V_lconst (v := 0) (pc' := 45) dX11_at_44 rfl (by decide) ?_
      refine V_aload_n (pc' := 46) dX11_at_45 rfl 0 rfl rfl ?_
      refine V_getI (pc' := 49) 11 6 dX11_at_46 rfl (by decide) (Nat.le_of_ble_eq_true rfl) bm_1230 hs0 (fun _ _ _ => rfl) ?_
      refine V_i2l (pc' := 50) dX11_at_49 rfl ?_
      refine V_lconst (v := 1) (pc' := 51) dX11_at_50 rfl (by decide) ?_
      refine V_lsub (pc' := 52) dX11_at_51 rfl ?_
      refine V_cvI (pc' := 55) (As := [.long (Int32.toInt64 x1), .long 0, .long ((Int32.toInt64 (gI h_1 a0 6)) - 1)]) (rest := []) dX11_at_52 rfl mok_X11_isIn bm_1373 11 (by decide) rfl hs0 rfl rfl (Nat.le_of_ble_eq_true rfl) (by decide) hf (fun q e => ct_X11_isIn hs0 e) (fun q_5 hf => ?_)
      refine V_if_eq (tgt := 67) (pc' := 58) dX11_at_55 (by decide) rfl hf (fun hf => ?_) (fun hf => ?_)
      ·
        refine V_iconst (v := (-1)) (pc' := 68) dX11_at_67 rfl (by decide) ?_
        obtain rfl := Option.some.inj hf
        exact V_iret dX11_at_68 rfl rfl rfl ⟨rfl, rfl, rfl⟩
      ·
        refine V_aload_n (pc' := 59) dX11_at_58 rfl 0 rfl rfl ?_
        refine V_getR (pc' := 62) 11 5 dX11_at_59 rfl (by decide) (Nat.le_of_ble_eq_true rfl) bm_1229 hs0 (fun _ _ _ => rfl) rfl hf (fun a_6 ha_6 hf => ?_)
        refine V_iload_n (pc' := 63) dX11_at_62 rfl 1 rfl rfl ?_
        refine V_iald (pc' := 64) dX11_at_63 rfl ha_6 hf (fun x_7 hf => ?_)
        refine V_goto (tgt := 68) dX11_at_64 (by decide) ?_
        obtain rfl := Option.some.inj hf
        exact V_iret dX11_at_68 rfl rfl rfl ⟨rfl, rfl, rfl⟩
    ·
      refine V_iconst (v := (-1)) (pc' := 68) dX11_at_67 rfl (by decide) ?_
      obtain rfl := Option.some.inj hf
      exact V_iret dX11_at_68 rfl rfl rfl ⟨rfl, rfl, rfl⟩
theorem ct_X11_at {l : Launch} {S : List SHP} {h : MH} {a0 : Nat} {x1 : Int32} {x2 : Int32} (hs0 : S[a0]? = some (.inl 11)) {q : Int32 × MH} (hf : f_X11_at a0 x1 x2 h = some q) : CT l mX11_at 4 false 0 0 S [.ref a0, .int x1, .int x2] h (QI S q) :=
  CT_ofV (by decide) rfl (Nat.le_of_ble_eq_true rfl) (fun G B hT => v_X11_at hs0 hf)
/-! LabelStacksModel.linkOf(II)I -/
theorem dX11_linkOf_0 : decode cX11_linkOf 0 = .ok (.aload_n 0, 1) := by decide +kernel
theorem dX11_linkOf_1 : decode cX11_linkOf 1 = .ok (.iconst 0, 1) := by decide +kernel
theorem dX11_linkOf_2 : decode cX11_linkOf 2 = .ok (.putfield 84, 3) := by decide +kernel
theorem dX11_linkOf_5 : decode cX11_linkOf 5 = .ok (.aload_n 0, 1) := by decide +kernel
theorem dX11_linkOf_6 : decode cX11_linkOf 6 = .ok (.iload_n 1, 1) := by decide +kernel
theorem dX11_linkOf_7 : decode cX11_linkOf 7 = .ok (.invokevirtual 126, 3) := by decide +kernel
theorem dX11_linkOf_10 : decode cX11_linkOf 10 = .ok (.ifCond .ne 5, 3) := by decide +kernel
theorem dX11_linkOf_13 : decode cX11_linkOf 13 = .ok (.iconst (-1), 1) := by decide +kernel
theorem dX11_linkOf_14 : decode cX11_linkOf 14 = .ok (.ireturn, 1) := by decide +kernel
theorem dX11_linkOf_15 : decode cX11_linkOf 15 = .ok (.iload_n 2, 1) := by decide +kernel
theorem dX11_linkOf_16 : decode cX11_linkOf 16 = .ok (.ifCond .ne 9, 3) := by decide +kernel
theorem dX11_linkOf_19 : decode cX11_linkOf 19 = .ok (.aload_n 0, 1) := by decide +kernel
theorem dX11_linkOf_20 : decode cX11_linkOf 20 = .ok (.iload_n 1, 1) := by decide +kernel
theorem dX11_linkOf_21 : decode cX11_linkOf 21 = .ok (.invokevirtual 161, 3) := by decide +kernel
theorem dX11_linkOf_24 : decode cX11_linkOf 24 = .ok (.ireturn, 1) := by decide +kernel
theorem dX11_linkOf_25 : decode cX11_linkOf 25 = .ok (.iload_n 2, 1) := by decide +kernel
theorem dX11_linkOf_26 : decode cX11_linkOf 26 = .ok (.iconst 1, 1) := by decide +kernel
theorem dX11_linkOf_27 : decode cX11_linkOf 27 = .ok (.if_icmp .ne 9, 3) := by decide +kernel
theorem dX11_linkOf_30 : decode cX11_linkOf 30 = .ok (.aload_n 0, 1) := by decide +kernel
theorem dX11_linkOf_31 : decode cX11_linkOf 31 = .ok (.iload_n 1, 1) := by decide +kernel
theorem dX11_linkOf_32 : decode cX11_linkOf 32 = .ok (.invokevirtual 158, 3) := by decide +kernel
theorem dX11_linkOf_35 : decode cX11_linkOf 35 = .ok (.ireturn, 1) := by decide +kernel
theorem dX11_linkOf_36 : decode cX11_linkOf 36 = .ok (.iload_n 2, 1) := by decide +kernel
theorem dX11_linkOf_37 : decode cX11_linkOf 37 = .ok (.iconst 2, 1) := by decide +kernel
theorem dX11_linkOf_38 : decode cX11_linkOf 38 = .ok (.if_icmp .ne 9, 3) := by decide +kernel
theorem dX11_linkOf_41 : decode cX11_linkOf 41 = .ok (.aload_n 0, 1) := by decide +kernel
theorem dX11_linkOf_42 : decode cX11_linkOf 42 = .ok (.iload_n 1, 1) := by decide +kernel
theorem dX11_linkOf_43 : decode cX11_linkOf 43 = .ok (.invokevirtual 132, 3) := by decide +kernel
theorem dX11_linkOf_46 : decode cX11_linkOf 46 = .ok (.ireturn, 1) := by decide +kernel
theorem dX11_linkOf_47 : decode cX11_linkOf 47 = .ok (.iload_n 2, 1) := by decide +kernel
theorem dX11_linkOf_48 : decode cX11_linkOf 48 = .ok (.iconst 3, 1) := by decide +kernel
theorem dX11_linkOf_49 : decode cX11_linkOf 49 = .ok (.if_icmp .ne 19, 3) := by decide +kernel
theorem dX11_linkOf_52 : decode cX11_linkOf 52 = .ok (.aload_n 0, 1) := by decide +kernel
theorem dX11_linkOf_53 : decode cX11_linkOf 53 = .ok (.iload_n 1, 1) := by decide +kernel
theorem dX11_linkOf_54 : decode cX11_linkOf 54 = .ok (.invokevirtual 129, 3) := by decide +kernel
theorem dX11_linkOf_57 : decode cX11_linkOf 57 = .ok (.ifCond .eq 7, 3) := by decide +kernel
theorem dX11_linkOf_60 : decode cX11_linkOf 60 = .ok (.iconst 1, 1) := by decide +kernel
theorem dX11_linkOf_61 : decode cX11_linkOf 61 = .ok (.goto 8, 3) := by decide +kernel
theorem dX11_linkOf_64 : decode cX11_linkOf 64 = .ok (.iconst 0, 1) := by decide +kernel
theorem dX11_linkOf_65 : decode cX11_linkOf 65 = .ok (.goto 4, 3) := by decide +kernel
theorem dX11_linkOf_68 : decode cX11_linkOf 68 = .ok (.iconst (-1), 1) := by decide +kernel
theorem dX11_linkOf_69 : decode cX11_linkOf 69 = .ok (.ireturn, 1) := by decide +kernel
abbrev mX11_linkOf : MI := (RX11, yX11_linkOf, cX11_linkOf, 3, (some .int))
theorem mok_X11_linkOf : MOKv mX11_linkOf 2 := ⟨⟨bm_1815, bm_127, ⟨by decide, by decide⟩, by decide +kernel⟩, bm_1813, bm_1814⟩
def f_X11_linkOf   (a0 : Nat) (x1 : Int32) (x2 : Int32) (h : MH) : Option (Int32 × MH) :=
  lt (sI h a0 0 0) fun h_1 =>
  (f_X11_isLink a0 x1 h_1).bind fun q_2 =>
  if q_2.1 = 0 then
    some ((-1 : Int32), q_2.2)
  else
    if x2 = 0 then
      (f_X11_from a0 x1 q_2.2).bind fun q_3 =>
      some (q_3.1, q_3.2)
    else
      if x2 = 1 then
        (f_X11_to a0 x1 q_2.2).bind fun q_4 =>
        some (q_4.1, q_4.2)
      else
        if x2 = 2 then
          (f_X11_costOf a0 x1 q_2.2).bind fun q_5 =>
          some (q_5.1, q_5.2)
        else
          if x2 = 3 then
            (f_X11_isUp a0 x1 q_2.2).bind fun q_6 =>
            if q_6.1 = 0 then
              some (0, q_6.2)
            else
              some (1, q_6.2)
          else
            some ((-1 : Int32), q_2.2)
set_option maxRecDepth 100000 in
set_option maxHeartbeats 4000000 in
theorem v_X11_linkOf {l : Launch} {G : GE} {B N : Nat} {S : List SHP} {o : Int32 × MH} {a0 : Nat} {x1 : Int32} {x2 : Int32}    (hs0 : S[a0]? = some (.inl 11)) {h : MH} (hf : f_X11_linkOf a0 x1 x2 h = some o) : V l G B N mX11_linkOf (rmm 5 0 0) false 0 0 (QI S o) S 0 0 0 [(0, .ref a0), (1, .int x1), (2, .int x2)] [] h := by
  unfold f_X11_linkOf at hf
  refine V_aload_n (pc' := 1) dX11_linkOf_0 rfl 0 rfl rfl ?_
  refine V_iconst (v := 0) (pc' := 2) dX11_linkOf_1 rfl (by decide) ?_
  refine V_putI (pc' := 5) 11 0 dX11_linkOf_2 rfl (by decide) (Nat.le_of_ble_eq_true rfl) bm_1224 hs0 (Or.inl rfl) rfl ?_
  refine V_nmH hf (fun h_1 hf => ?_)
  refine V_aload_n (pc' := 6) dX11_linkOf_5 rfl 0 rfl rfl ?_
  refine V_iload_n (pc' := 7) dX11_linkOf_6 rfl 1 rfl rfl ?_
  refine V_cvI (pc' := 10) (As := [.int x1]) (rest := []) dX11_linkOf_7 rfl mok_X11_isLink bm_1410 11 (by decide) rfl hs0 rfl rfl (Nat.le_of_ble_eq_true rfl) (by decide) hf (fun q e => ct_X11_isLink hs0 e) (fun q_2 hf => ?_)
  refine V_if_ne (tgt := 15) (pc' := 13) dX11_linkOf_10 (by decide) rfl hf (fun hf => ?_) (fun hf => ?_)
  ·
    refine V_iconst (v := (-1)) (pc' := 14) dX11_linkOf_13 rfl (by decide) ?_
    obtain rfl := Option.some.inj hf
    exact V_iret dX11_linkOf_14 rfl rfl rfl ⟨rfl, rfl, rfl⟩
  ·
    refine V_iload_n (pc' := 16) dX11_linkOf_15 rfl 2 rfl rfl ?_
    refine V_if_ne (tgt := 25) (pc' := 19) dX11_linkOf_16 (by decide) rfl hf (fun hf => ?_) (fun hf => ?_)
    ·
      refine V_aload_n (pc' := 20) dX11_linkOf_19 rfl 0 rfl rfl ?_
      refine V_iload_n (pc' := 21) dX11_linkOf_20 rfl 1 rfl rfl ?_
      refine V_cvI (pc' := 24) (As := [.int x1]) (rest := []) dX11_linkOf_21 rfl mok_X11_from bm_1465 11 (by decide) rfl hs0 rfl rfl (Nat.le_of_ble_eq_true rfl) (by decide) hf (fun q e => ct_X11_from hs0 e) (fun q_3 hf => ?_)
      obtain rfl := Option.some.inj hf
      exact V_iret dX11_linkOf_24 rfl rfl rfl ⟨rfl, rfl, rfl⟩
    ·
      refine V_iload_n (pc' := 26) dX11_linkOf_25 rfl 2 rfl rfl ?_
      refine V_iconst (v := 1) (pc' := 27) dX11_linkOf_26 rfl (by decide) ?_
      refine V_icmp_ne (tgt := 36) (pc' := 30) dX11_linkOf_27 (by decide) rfl hf (fun hf => ?_) (fun hf => ?_)
      ·
        refine V_aload_n (pc' := 31) dX11_linkOf_30 rfl 0 rfl rfl ?_
        refine V_iload_n (pc' := 32) dX11_linkOf_31 rfl 1 rfl rfl ?_
        refine V_cvI (pc' := 35) (As := [.int x1]) (rest := []) dX11_linkOf_32 rfl mok_X11_to bm_1461 11 (by decide) rfl hs0 rfl rfl (Nat.le_of_ble_eq_true rfl) (by decide) hf (fun q e => ct_X11_to hs0 e) (fun q_4 hf => ?_)
        obtain rfl := Option.some.inj hf
        exact V_iret dX11_linkOf_35 rfl rfl rfl ⟨rfl, rfl, rfl⟩
      ·
        refine V_iload_n (pc' := 37) dX11_linkOf_36 rfl 2 rfl rfl ?_
        refine V_iconst (v := 2) (pc' := 38) dX11_linkOf_37 rfl (by decide) ?_
        refine V_icmp_ne (tgt := 47) (pc' := 41) dX11_linkOf_38 (by decide) rfl hf (fun hf => ?_) (fun hf => ?_)
        ·
          refine V_aload_n (pc' := 42) dX11_linkOf_41 rfl 0 rfl rfl ?_
          refine V_iload_n (pc' := 43) dX11_linkOf_42 rfl 1 rfl rfl ?_
          refine V_cvI (pc' := 46) (As := [.int x1]) (rest := []) dX11_linkOf_43 rfl mok_X11_costOf bm_1422 11 (by decide) rfl hs0 rfl rfl (Nat.le_of_ble_eq_true rfl) (by decide) hf (fun q e => ct_X11_costOf hs0 e) (fun q_5 hf => ?_)
          obtain rfl := Option.some.inj hf
          exact V_iret dX11_linkOf_46 rfl rfl rfl ⟨rfl, rfl, rfl⟩
        ·
          refine V_iload_n (pc' := 48) dX11_linkOf_47 rfl 2 rfl rfl ?_
          refine V_iconst (v := 3) (pc' := 49) dX11_linkOf_48 rfl (by decide) ?_
          refine V_icmp_ne (tgt := 68) (pc' := 52) dX11_linkOf_49 (by decide) rfl hf (fun hf => ?_) (fun hf => ?_)
          ·
            refine V_aload_n (pc' := 53) dX11_linkOf_52 rfl 0 rfl rfl ?_
            refine V_iload_n (pc' := 54) dX11_linkOf_53 rfl 1 rfl rfl ?_
            refine V_cvI (pc' := 57) (As := [.int x1]) (rest := []) dX11_linkOf_54 rfl mok_X11_isUp bm_1414 11 (by decide) rfl hs0 rfl rfl (Nat.le_of_ble_eq_true rfl) (by decide) hf (fun q e => ct_X11_isUp hs0 e) (fun q_6 hf => ?_)
            refine V_if_eq (tgt := 64) (pc' := 60) dX11_linkOf_57 (by decide) rfl hf (fun hf => ?_) (fun hf => ?_)
            ·
              refine V_iconst (v := 0) (pc' := 65) dX11_linkOf_64 rfl (by decide) ?_
              refine V_goto (tgt := 69) dX11_linkOf_65 (by decide) ?_
              obtain rfl := Option.some.inj hf
              exact V_iret dX11_linkOf_69 rfl rfl rfl ⟨rfl, rfl, rfl⟩
            ·
              refine V_iconst (v := 1) (pc' := 61) dX11_linkOf_60 rfl (by decide) ?_
              refine V_goto (tgt := 69) dX11_linkOf_61 (by decide) ?_
              obtain rfl := Option.some.inj hf
              exact V_iret dX11_linkOf_69 rfl rfl rfl ⟨rfl, rfl, rfl⟩
          ·
            refine V_iconst (v := (-1)) (pc' := 69) dX11_linkOf_68 rfl (by decide) ?_
            obtain rfl := Option.some.inj hf
            exact V_iret dX11_linkOf_69 rfl rfl rfl ⟨rfl, rfl, rfl⟩
theorem ct_X11_linkOf {l : Launch} {S : List SHP} {h : MH} {a0 : Nat} {x1 : Int32} {x2 : Int32} (hs0 : S[a0]? = some (.inl 11)) {q : Int32 × MH} (hf : f_X11_linkOf a0 x1 x2 h = some q) : CT l mX11_linkOf 5 false 0 0 S [.ref a0, .int x1, .int x2] h (QI S q) :=
  CT_ofV (by decide) rfl (Nat.le_of_ble_eq_true rfl) (fun G B hT => v_X11_linkOf hs0 hf)
/-! LabelStacksModel.binding(II)I -/
theorem dX11_binding_0 : decode cX11_binding 0 = .ok (.aload_n 0, 1) := by decide +kernel
theorem dX11_binding_1 : decode cX11_binding 1 = .ok (.iconst 0, 1) := by decide +kernel
theorem dX11_binding_2 : decode cX11_binding 2 = .ok (.putfield 84, 3) := by decide +kernel
theorem dX11_binding_5 : decode cX11_binding 5 = .ok (.aload_n 0, 1) := by decide +kernel
theorem dX11_binding_6 : decode cX11_binding 6 = .ok (.iload_n 1, 1) := by decide +kernel
theorem dX11_binding_7 : decode cX11_binding 7 = .ok (.invokevirtual 141, 3) := by decide +kernel
theorem dX11_binding_10 : decode cX11_binding 10 = .ok (.ifCond .eq 15, 3) := by decide +kernel
theorem dX11_binding_13 : decode cX11_binding 13 = .ok (.aload_n 0, 1) := by decide +kernel
theorem dX11_binding_14 : decode cX11_binding 14 = .ok (.getfield 7, 3) := by decide +kernel
theorem dX11_binding_17 : decode cX11_binding 17 = .ok (.bipush 122, 2) := by decide +kernel
theorem dX11_binding_19 : decode cX11_binding 19 = .ok (.iload_n 1, 1) := by decide +kernel
theorem dX11_binding_20 : decode cX11_binding 20 = .ok (.iadd, 1) := by decide +kernel
theorem dX11_binding_21 : decode cX11_binding 21 = .ok (.iaload, 1) := by decide +kernel
theorem dX11_binding_22 : decode cX11_binding 22 = .ok (.ifCond .ne 5, 3) := by decide +kernel
theorem dX11_binding_25 : decode cX11_binding 25 = .ok (.iconst (-1), 1) := by decide +kernel
theorem dX11_binding_26 : decode cX11_binding 26 = .ok (.ireturn, 1) := by decide +kernel
theorem dX11_binding_27 : decode cX11_binding 27 = .ok (.iload_n 2, 1) := by decide +kernel
theorem dX11_binding_28 : decode cX11_binding 28 = .ok (.ifCond .ne 15, 3) := by decide +kernel
theorem dX11_binding_31 : decode cX11_binding 31 = .ok (.aload_n 0, 1) := by decide +kernel
theorem dX11_binding_32 : decode cX11_binding 32 = .ok (.getfield 7, 3) := by decide +kernel
theorem dX11_binding_35 : decode cX11_binding 35 = .ok (.bipush 122, 2) := by decide +kernel
theorem dX11_binding_37 : decode cX11_binding 37 = .ok (.iload_n 1, 1) := by decide +kernel
theorem dX11_binding_38 : decode cX11_binding 38 = .ok (.iadd, 1) := by decide +kernel
theorem dX11_binding_39 : decode cX11_binding 39 = .ok (.iaload, 1) := by decide +kernel
theorem dX11_binding_40 : decode cX11_binding 40 = .ok (.iconst 1, 1) := by decide +kernel
theorem dX11_binding_41 : decode cX11_binding 41 = .ok (.isub, 1) := by decide +kernel
theorem dX11_binding_42 : decode cX11_binding 42 = .ok (.ireturn, 1) := by decide +kernel
theorem dX11_binding_43 : decode cX11_binding 43 = .ok (.iload_n 2, 1) := by decide +kernel
theorem dX11_binding_44 : decode cX11_binding 44 = .ok (.iconst 1, 1) := by decide +kernel
theorem dX11_binding_45 : decode cX11_binding 45 = .ok (.if_icmp .ne 14, 3) := by decide +kernel
theorem dX11_binding_48 : decode cX11_binding 48 = .ok (.aload_n 0, 1) := by decide +kernel
theorem dX11_binding_49 : decode cX11_binding 49 = .ok (.getfield 7, 3) := by decide +kernel
theorem dX11_binding_52 : decode cX11_binding 52 = .ok (.sipush 128, 3) := by decide +kernel
theorem dX11_binding_55 : decode cX11_binding 55 = .ok (.iload_n 1, 1) := by decide +kernel
theorem dX11_binding_56 : decode cX11_binding 56 = .ok (.iadd, 1) := by decide +kernel
theorem dX11_binding_57 : decode cX11_binding 57 = .ok (.iaload, 1) := by decide +kernel
theorem dX11_binding_58 : decode cX11_binding 58 = .ok (.ireturn, 1) := by decide +kernel
theorem dX11_binding_59 : decode cX11_binding 59 = .ok (.aload_n 0, 1) := by decide +kernel
theorem dX11_binding_60 : decode cX11_binding 60 = .ok (.iload_n 2, 1) := by decide +kernel
theorem dX11_binding_61 : decode cX11_binding 61 = .ok (.i2l, 1) := by decide +kernel
theorem dX11_binding_62 : decode cX11_binding 62 = .ok (.ldc2_w 107, 3) := by decide +kernel
theorem dX11_binding_65 : decode cX11_binding 65 = .ok (.ldc2_w 164, 3) := by decide +kernel
theorem dX11_binding_68 : decode cX11_binding 68 = .ok (.aload_n 0, 1) := by decide +kernel
theorem dX11_binding_69 : decode cX11_binding 69 = .ok (.getfield 7, 3) := by decide +kernel
theorem dX11_binding_72 : decode cX11_binding 72 = .ok (.sipush 128, 3) := by decide +kernel
theorem dX11_binding_75 : decode cX11_binding 75 = .ok (.iload_n 1, 1) := by decide +kernel
theorem dX11_binding_76 : decode cX11_binding 76 = .ok (.iadd, 1) := by decide +kernel
theorem dX11_binding_77 : decode cX11_binding 77 = .ok (.iaload, 1) := by decide +kernel
theorem dX11_binding_78 : decode cX11_binding 78 = .ok (.i2l, 1) := by decide +kernel
theorem dX11_binding_79 : decode cX11_binding 79 = .ok (.ladd, 1) := by decide +kernel
theorem dX11_binding_80 : decode cX11_binding 80 = .ok (.invokevirtual 91, 3) := by decide +kernel
theorem dX11_binding_83 : decode cX11_binding 83 = .ok (.ifCond .eq 24, 3) := by decide +kernel
theorem dX11_binding_86 : decode cX11_binding 86 = .ok (.aload_n 0, 1) := by decide +kernel
theorem dX11_binding_87 : decode cX11_binding 87 = .ok (.getfield 7, 3) := by decide +kernel
theorem dX11_binding_90 : decode cX11_binding 90 = .ok (.sipush 134, 3) := by decide +kernel
theorem dX11_binding_93 : decode cX11_binding 93 = .ok (.bipush 6, 2) := by decide +kernel
theorem dX11_binding_95 : decode cX11_binding 95 = .ok (.iload_n 1, 1) := by decide +kernel
theorem dX11_binding_96 : decode cX11_binding 96 = .ok (.imul, 1) := by decide +kernel
theorem dX11_binding_97 : decode cX11_binding 97 = .ok (.iadd, 1) := by decide +kernel
theorem dX11_binding_98 : decode cX11_binding 98 = .ok (.iload_n 2, 1) := by decide +kernel
theorem dX11_binding_99 : decode cX11_binding 99 = .ok (.iadd, 1) := by decide +kernel
theorem dX11_binding_100 : decode cX11_binding 100 = .ok (.bipush 10, 2) := by decide +kernel
theorem dX11_binding_102 : decode cX11_binding 102 = .ok (.isub, 1) := by decide +kernel
theorem dX11_binding_103 : decode cX11_binding 103 = .ok (.iaload, 1) := by decide +kernel
theorem dX11_binding_104 : decode cX11_binding 104 = .ok (.goto 4, 3) := by decide +kernel
theorem dX11_binding_107 : decode cX11_binding 107 = .ok (.iconst (-1), 1) := by decide +kernel
theorem dX11_binding_108 : decode cX11_binding 108 = .ok (.ireturn, 1) := by decide +kernel
abbrev mX11_binding : MI := (RX11, yX11_binding, cX11_binding, 3, (some .int))
theorem mok_X11_binding : MOKv mX11_binding 2 := ⟨⟨bm_1819, bm_127, ⟨by decide, by decide⟩, by decide +kernel⟩, bm_1817, bm_1818⟩
def f_X11_binding   (a0 : Nat) (x1 : Int32) (x2 : Int32) (h : MH) : Option (Int32 × MH) :=
  lt (sI h a0 0 0) fun h_1 =>
  (f_X11_isBinding a0 x1 h_1).bind fun q_2 =>
  if q_2.1 = 0 then
    some ((-1 : Int32), q_2.2)
  else
    (gR q_2.2 a0 1).bind fun a_3 =>
    (ldI q_2.2 a_3 (122 + x1)).bind fun x_4 =>
    if x_4 = 0 then
      some ((-1 : Int32), q_2.2)
    else
      if x2 = 0 then
        (gR q_2.2 a0 1).bind fun a_5 =>
        (ldI q_2.2 a_5 (122 + x1)).bind fun x_6 =>
        some ((x_6 - 1), q_2.2)
      else
        if x2 = 1 then
          (gR q_2.2 a0 1).bind fun a_7 =>
          (ldI q_2.2 a_7 (128 + x1)).bind fun x_8 =>
          some (x_8, q_2.2)
        else
          (gR q_2.2 a0 1).bind fun a_9 =>
          (ldI q_2.2 a_9 (128 + x1)).bind fun x_10 =>
          (f_X11_isIn a0 (Int32.toInt64 x2) 10 (9 + (Int32.toInt64 x_10)) q_2.2).bind fun q_11 =>
          if q_11.1 = 0 then
            some ((-1 : Int32), q_11.2)
          else
            (gR q_11.2 a0 1).bind fun a_12 =>
            (ldI q_11.2 a_12 (((134 + (6 * x1)) + x2) - 10)).bind fun x_13 =>
            some (x_13, q_11.2)
set_option maxRecDepth 100000 in
set_option maxHeartbeats 4000000 in
theorem v_X11_binding {l : Launch} {G : GE} {B N : Nat} {S : List SHP} {o : Int32 × MH} {a0 : Nat} {x1 : Int32} {x2 : Int32}    (hs0 : S[a0]? = some (.inl 11)) {h : MH} (hf : f_X11_binding a0 x1 x2 h = some o) : V l G B N mX11_binding (rmm 5 0 0) false 0 0 (QI S o) S 0 0 0 [(0, .ref a0), (1, .int x1), (2, .int x2)] [] h := by
  unfold f_X11_binding at hf
  refine V_aload_n (pc' := 1) dX11_binding_0 rfl 0 rfl rfl ?_
  refine V_iconst (v := 0) (pc' := 2) dX11_binding_1 rfl (by decide) ?_
  refine V_putI (pc' := 5) 11 0 dX11_binding_2 rfl (by decide) (Nat.le_of_ble_eq_true rfl) bm_1224 hs0 (Or.inl rfl) rfl ?_
  refine V_nmH hf (fun h_1 hf => ?_)
  refine V_aload_n (pc' := 6) dX11_binding_5 rfl 0 rfl rfl ?_
  refine V_iload_n (pc' := 7) dX11_binding_6 rfl 1 rfl rfl ?_
  refine V_cvI (pc' := 10) (As := [.int x1]) (rest := []) dX11_binding_7 rfl mok_X11_isBinding bm_1430 11 (by decide) rfl hs0 rfl rfl (Nat.le_of_ble_eq_true rfl) (by decide) hf (fun q e => ct_X11_isBinding hs0 e) (fun q_2 hf => ?_)
  refine V_if_eq (tgt := 25) (pc' := 13) dX11_binding_10 (by decide) rfl hf (fun hf => ?_) (fun hf => ?_)
  ·
    refine V_iconst (v := (-1)) (pc' := 26) dX11_binding_25 rfl (by decide) ?_
    obtain rfl := Option.some.inj hf
    exact V_iret dX11_binding_26 rfl rfl rfl ⟨rfl, rfl, rfl⟩
  ·
    refine V_aload_n (pc' := 14) dX11_binding_13 rfl 0 rfl rfl ?_
    refine V_getR (pc' := 17) 11 1 dX11_binding_14 rfl (by decide) (Nat.le_of_ble_eq_true rfl) bm_1225 hs0 (fun _ _ _ => rfl) rfl hf (fun a_3 ha_3 hf => ?_)
    refine V_bipush (v := 122) (pc' := 19) dX11_binding_17 rfl (by decide) ?_
    refine V_iload_n (pc' := 20) dX11_binding_19 rfl 1 rfl rfl ?_
    refine V_iadd (pc' := 21) dX11_binding_20 rfl ?_
    refine V_iald (pc' := 22) dX11_binding_21 rfl ha_3 hf (fun x_4 hf => ?_)
    refine V_if_ne (tgt := 27) (pc' := 25) dX11_binding_22 (by decide) rfl hf (fun hf => ?_) (fun hf => ?_)
    ·
      refine V_iconst (v := (-1)) (pc' := 26) dX11_binding_25 rfl (by decide) ?_
      obtain rfl := Option.some.inj hf
      exact V_iret dX11_binding_26 rfl rfl rfl ⟨rfl, rfl, rfl⟩
    ·
      refine V_iload_n (pc' := 28) dX11_binding_27 rfl 2 rfl rfl ?_
      refine V_if_ne (tgt := 43) (pc' := 31) dX11_binding_28 (by decide) rfl hf (fun hf => ?_) (fun hf => ?_)
      ·
        refine V_aload_n (pc' := 32) dX11_binding_31 rfl 0 rfl rfl ?_
        refine V_getR (pc' := 35) 11 1 dX11_binding_32 rfl (by decide) (Nat.le_of_ble_eq_true rfl) bm_1225 hs0 (fun _ _ _ => rfl) rfl hf (fun a_5 ha_5 hf => ?_)
        refine V_bipush (v := 122) (pc' := 37) dX11_binding_35 rfl (by decide) ?_
        refine V_iload_n (pc' := 38) dX11_binding_37 rfl 1 rfl rfl ?_
        refine V_iadd (pc' := 39) dX11_binding_38 rfl ?_
        refine V_iald (pc' := 40) dX11_binding_39 rfl ha_5 hf (fun x_6 hf => ?_)
        refine V_iconst (v := 1) (pc' := 41) dX11_binding_40 rfl (by decide) ?_
        refine V_isub (pc' := 42) dX11_binding_41 rfl ?_
        obtain rfl := Option.some.inj hf
        exact V_iret dX11_binding_42 rfl rfl rfl ⟨rfl, rfl, rfl⟩
      ·
        refine V_iload_n (pc' := 44) dX11_binding_43 rfl 2 rfl rfl ?_
        refine V_iconst (v := 1) (pc' := 45) dX11_binding_44 rfl (by decide) ?_
        refine V_icmp_ne (tgt := 59) (pc' := 48) dX11_binding_45 (by decide) rfl hf (fun hf => ?_) (fun hf => ?_)
        ·
          refine V_aload_n (pc' := 49) dX11_binding_48 rfl 0 rfl rfl ?_
          refine V_getR (pc' := 52) 11 1 dX11_binding_49 rfl (by decide) (Nat.le_of_ble_eq_true rfl) bm_1225 hs0 (fun _ _ _ => rfl) rfl hf (fun a_7 ha_7 hf => ?_)
          refine V_sipush (v := 128) (pc' := 55) dX11_binding_52 rfl (by decide) ?_
          refine V_iload_n (pc' := 56) dX11_binding_55 rfl 1 rfl rfl ?_
          refine V_iadd (pc' := 57) dX11_binding_56 rfl ?_
          refine V_iald (pc' := 58) dX11_binding_57 rfl ha_7 hf (fun x_8 hf => ?_)
          obtain rfl := Option.some.inj hf
          exact V_iret dX11_binding_58 rfl rfl rfl ⟨rfl, rfl, rfl⟩
        ·
          refine V_aload_n (pc' := 60) dX11_binding_59 rfl 0 rfl rfl ?_
          refine V_iload_n (pc' := 61) dX11_binding_60 rfl 2 rfl rfl ?_
          refine V_i2l (pc' := 62) dX11_binding_61 rfl ?_
          refine V_ldc2 (v := 10) (pc' := 65) dX11_binding_62 rfl bm_1372 ?_
          refine V_ldc2 (v := 9) (pc' := 68) dX11_binding_65 rfl bm_1481 ?_
          refine V_aload_n (pc' := 69) dX11_binding_68 rfl 0 rfl rfl ?_
          refine V_getR (pc' := 72) 11 1 dX11_binding_69 rfl (by decide) (Nat.le_of_ble_eq_true rfl) bm_1225 hs0 (fun _ _ _ => rfl) rfl hf (fun a_9 ha_9 hf => ?_)
          refine V_sipush (v := 128) (pc' := 75) dX11_binding_72 rfl (by decide) ?_
          refine V_iload_n (pc' := 76) dX11_binding_75 rfl 1 rfl rfl ?_
          refine V_iadd (pc' := 77) dX11_binding_76 rfl ?_
          refine V_iald (pc' := 78) dX11_binding_77 rfl ha_9 hf (fun x_10 hf => ?_)
          refine V_i2l (pc' := 79) dX11_binding_78 rfl ?_
          refine V_ladd (pc' := 80) dX11_binding_79 rfl ?_
          refine V_cvI (pc' := 83) (As := [.long (Int32.toInt64 x2), .long 10, .long (9 + (Int32.toInt64 x_10))]) (rest := []) dX11_binding_80 rfl mok_X11_isIn bm_1373 11 (by decide) rfl hs0 rfl rfl (Nat.le_of_ble_eq_true rfl) (by decide) hf (fun q e => ct_X11_isIn hs0 e) (fun q_11 hf => ?_)
          refine V_if_eq (tgt := 107) (pc' := 86) dX11_binding_83 (by decide) rfl hf (fun hf => ?_) (fun hf => ?_)
          ·
            refine V_iconst (v := (-1)) (pc' := 108) dX11_binding_107 rfl (by decide) ?_
            obtain rfl := Option.some.inj hf
            exact V_iret dX11_binding_108 rfl rfl rfl ⟨rfl, rfl, rfl⟩
          ·
            refine V_aload_n (pc' := 87) dX11_binding_86 rfl 0 rfl rfl ?_
            refine V_getR (pc' := 90) 11 1 dX11_binding_87 rfl (by decide) (Nat.le_of_ble_eq_true rfl) bm_1225 hs0 (fun _ _ _ => rfl) rfl hf (fun a_12 ha_12 hf => ?_)
            refine V_sipush (v := 134) (pc' := 93) dX11_binding_90 rfl (by decide) ?_
            refine V_bipush (v := 6) (pc' := 95) dX11_binding_93 rfl (by decide) ?_
            refine V_iload_n (pc' := 96) dX11_binding_95 rfl 1 rfl rfl ?_
            refine V_imul (pc' := 97) dX11_binding_96 rfl ?_
            refine V_iadd (pc' := 98) dX11_binding_97 rfl ?_
            refine V_iload_n (pc' := 99) dX11_binding_98 rfl 2 rfl rfl ?_
            refine V_iadd (pc' := 100) dX11_binding_99 rfl ?_
            refine V_bipush (v := 10) (pc' := 102) dX11_binding_100 rfl (by decide) ?_
            refine V_isub (pc' := 103) dX11_binding_102 rfl ?_
            refine V_iald (pc' := 104) dX11_binding_103 rfl ha_12 hf (fun x_13 hf => ?_)
            refine V_goto (tgt := 108) dX11_binding_104 (by decide) ?_
            obtain rfl := Option.some.inj hf
            exact V_iret dX11_binding_108 rfl rfl rfl ⟨rfl, rfl, rfl⟩
theorem ct_X11_binding {l : Launch} {S : List SHP} {h : MH} {a0 : Nat} {x1 : Int32} {x2 : Int32} (hs0 : S[a0]? = some (.inl 11)) {q : Int32 × MH} (hf : f_X11_binding a0 x1 x2 h = some q) : CT l mX11_binding 5 false 0 0 S [.ref a0, .int x1, .int x2] h (QI S q) :=
  CT_ofV (by decide) rfl (Nat.le_of_ble_eq_true rfl) (fun G B hT => v_X11_binding hs0 hf)
