/-! LabelStacksModel.goesTo(I)V -/
theorem dX11_goesTo_0 : decode cX11_goesTo 0 = .ok (.iload_n 1, 1) := by decide +kernel
theorem dX11_goesTo_1 : decode cX11_goesTo 1 = .ok (.aload_n 0, 1) := by decide +kernel
theorem dX11_goesTo_2 : decode cX11_goesTo 2 = .ok (.getfield 208, 3) := by decide +kernel
theorem dX11_goesTo_5 : decode cX11_goesTo 5 = .ok (.if_icmp .ne 4, 3) := by decide +kernel
theorem dX11_goesTo_8 : decode cX11_goesTo 8 = .ok (.return_, 1) := by decide +kernel
theorem dX11_goesTo_9 : decode cX11_goesTo 9 = .ok (.aload_n 0, 1) := by decide +kernel
theorem dX11_goesTo_10 : decode cX11_goesTo 10 = .ok (.iload_n 1, 1) := by decide +kernel
theorem dX11_goesTo_11 : decode cX11_goesTo 11 = .ok (.invokevirtual 116, 3) := by decide +kernel
theorem dX11_goesTo_14 : decode cX11_goesTo 14 = .ok (.ifCond .eq 17, 3) := by decide +kernel
theorem dX11_goesTo_17 : decode cX11_goesTo 17 = .ok (.aload_n 0, 1) := by decide +kernel
theorem dX11_goesTo_18 : decode cX11_goesTo 18 = .ok (.aload_n 0, 1) := by decide +kernel
theorem dX11_goesTo_19 : decode cX11_goesTo 19 = .ok (.getfield 208, 3) := by decide +kernel
theorem dX11_goesTo_22 : decode cX11_goesTo 22 = .ok (.iload_n 1, 1) := by decide +kernel
theorem dX11_goesTo_23 : decode cX11_goesTo 23 = .ok (.invokevirtual 177, 3) := by decide +kernel
theorem dX11_goesTo_26 : decode cX11_goesTo 26 = .ok (.ldc 181, 2) := by decide +kernel
theorem dX11_goesTo_28 : decode cX11_goesTo 28 = .ok (.if_icmp .lt 9, 3) := by decide +kernel
theorem dX11_goesTo_31 : decode cX11_goesTo 31 = .ok (.aload_n 0, 1) := by decide +kernel
theorem dX11_goesTo_32 : decode cX11_goesTo 32 = .ok (.iconst 1, 1) := by decide +kernel
theorem dX11_goesTo_33 : decode cX11_goesTo 33 = .ok (.putfield 214, 3) := by decide +kernel
theorem dX11_goesTo_36 : decode cX11_goesTo 36 = .ok (.return_, 1) := by decide +kernel
theorem dX11_goesTo_37 : decode cX11_goesTo 37 = .ok (.aload_n 0, 1) := by decide +kernel
theorem dX11_goesTo_38 : decode cX11_goesTo 38 = .ok (.getfield 26, 3) := by decide +kernel
theorem dX11_goesTo_41 : decode cX11_goesTo 41 = .ok (.bipush 10, 2) := by decide +kernel
theorem dX11_goesTo_43 : decode cX11_goesTo 43 = .ok (.aload_n 0, 1) := by decide +kernel
theorem dX11_goesTo_44 : decode cX11_goesTo 44 = .ok (.getfield 208, 3) := by decide +kernel
theorem dX11_goesTo_47 : decode cX11_goesTo 47 = .ok (.imul, 1) := by decide +kernel
theorem dX11_goesTo_48 : decode cX11_goesTo 48 = .ok (.iload_n 1, 1) := by decide +kernel
theorem dX11_goesTo_49 : decode cX11_goesTo 49 = .ok (.iadd, 1) := by decide +kernel
theorem dX11_goesTo_50 : decode cX11_goesTo 50 = .ok (.laload, 1) := by decide +kernel
theorem dX11_goesTo_51 : decode cX11_goesTo 51 = .ok (.lconst 1, 1) := by decide +kernel
theorem dX11_goesTo_52 : decode cX11_goesTo 52 = .ok (.lcmp, 1) := by decide +kernel
theorem dX11_goesTo_53 : decode cX11_goesTo 53 = .ok (.ifCond .eq 8, 3) := by decide +kernel
theorem dX11_goesTo_56 : decode cX11_goesTo 56 = .ok (.aload_n 0, 1) := by decide +kernel
theorem dX11_goesTo_57 : decode cX11_goesTo 57 = .ok (.iconst 0, 1) := by decide +kernel
theorem dX11_goesTo_58 : decode cX11_goesTo 58 = .ok (.putfield 217, 3) := by decide +kernel
theorem dX11_goesTo_61 : decode cX11_goesTo 61 = .ok (.aload_n 0, 1) := by decide +kernel
theorem dX11_goesTo_62 : decode cX11_goesTo 62 = .ok (.getfield 238, 3) := by decide +kernel
theorem dX11_goesTo_65 : decode cX11_goesTo 65 = .ok (.ifCond .eq 8, 3) := by decide +kernel
theorem dX11_goesTo_68 : decode cX11_goesTo 68 = .ok (.aload_n 0, 1) := by decide +kernel
theorem dX11_goesTo_69 : decode cX11_goesTo 69 = .ok (.iload_n 1, 1) := by decide +kernel
theorem dX11_goesTo_70 : decode cX11_goesTo 70 = .ok (.invokevirtual 241, 3) := by decide +kernel
theorem dX11_goesTo_73 : decode cX11_goesTo 73 = .ok (.aload_n 0, 1) := by decide +kernel
theorem dX11_goesTo_74 : decode cX11_goesTo 74 = .ok (.getfield 217, 3) := by decide +kernel
theorem dX11_goesTo_77 : decode cX11_goesTo 77 = .ok (.ifCond .eq 41, 3) := by decide +kernel
theorem dX11_goesTo_80 : decode cX11_goesTo 80 = .ok (.aload_n 0, 1) := by decide +kernel
theorem dX11_goesTo_81 : decode cX11_goesTo 81 = .ok (.getfield 208, 3) := by decide +kernel
theorem dX11_goesTo_84 : decode cX11_goesTo 84 = .ok (.iload_n 1, 1) := by decide +kernel
theorem dX11_goesTo_85 : decode cX11_goesTo 85 = .ok (.if_icmp .eq 33, 3) := by decide +kernel
theorem dX11_goesTo_88 : decode cX11_goesTo 88 = .ok (.iconst 0, 1) := by decide +kernel
theorem dX11_goesTo_89 : decode cX11_goesTo 89 = .ok (.istore_n 2, 1) := by decide +kernel
theorem dX11_goesTo_90 : decode cX11_goesTo 90 = .ok (.aload_n 0, 1) := by decide +kernel
theorem dX11_goesTo_91 : decode cX11_goesTo 91 = .ok (.iload_n 2, 1) := by decide +kernel
theorem dX11_goesTo_92 : decode cX11_goesTo 92 = .ok (.aload_n 0, 1) := by decide +kernel
theorem dX11_goesTo_93 : decode cX11_goesTo 93 = .ok (.getfield 208, 3) := by decide +kernel
theorem dX11_goesTo_96 : decode cX11_goesTo 96 = .ok (.iload_n 1, 1) := by decide +kernel
theorem dX11_goesTo_97 : decode cX11_goesTo 97 = .ok (.invokevirtual 185, 3) := by decide +kernel
theorem dX11_goesTo_100 : decode cX11_goesTo 100 = .ok (.ifCond .ne 10, 3) := by decide +kernel
theorem dX11_goesTo_103 : decode cX11_goesTo 103 = .ok (.iload_n 2, 1) := by decide +kernel
theorem dX11_goesTo_104 : decode cX11_goesTo 104 = .ok (.iconst 1, 1) := by decide +kernel
theorem dX11_goesTo_105 : decode cX11_goesTo 105 = .ok (.iadd, 1) := by decide +kernel
theorem dX11_goesTo_106 : decode cX11_goesTo 106 = .ok (.istore_n 2, 1) := by decide +kernel
theorem dX11_goesTo_107 : decode cX11_goesTo 107 = .ok (.goto (-17), 3) := by decide +kernel
theorem dX11_goesTo_110 : decode cX11_goesTo 110 = .ok (.aload_n 0, 1) := by decide +kernel
theorem dX11_goesTo_111 : decode cX11_goesTo 111 = .ok (.iload_n 2, 1) := by decide +kernel
theorem dX11_goesTo_112 : decode cX11_goesTo 112 = .ok (.invokevirtual 244, 3) := by decide +kernel
theorem dX11_goesTo_115 : decode cX11_goesTo 115 = .ok (.goto (-42), 3) := by decide +kernel
theorem dX11_goesTo_118 : decode cX11_goesTo 118 = .ok (.aload_n 0, 1) := by decide +kernel
theorem dX11_goesTo_119 : decode cX11_goesTo 119 = .ok (.iload_n 1, 1) := by decide +kernel
theorem dX11_goesTo_120 : decode cX11_goesTo 120 = .ok (.putfield 208, 3) := by decide +kernel
theorem dX11_goesTo_123 : decode cX11_goesTo 123 = .ok (.return_, 1) := by decide +kernel
abbrev mX11_goesTo : MI := (RX11, yX11_goesTo, cX11_goesTo, 3, none)
theorem mok_X11_goesTo : MOKv mX11_goesTo 1 := ⟨⟨bm_1567, bm_127, ⟨by decide, by decide⟩, by decide +kernel⟩, bm_1566, bm_74⟩
def f_X11_goesTo_118   (a0 : Nat) (x1 : Int32) (h : MH) : Option (MH) :=
  lt (sI h a0 14 x1) fun h_1 =>
  some h_1
def f_X11_goesTo_90b  (k73 : Unit → MH → Option (MH)) (a0 : Nat) (x1 : Int32) (k90 : Int32 → MH → Option (MH)) (p : Int32) (h : MH) : Option (MH) :=
  (f_X11_isOn a0 p (gI h a0 14) x1 h).bind fun q_1 =>
  if q_1.1 = 0 then
    lt (p + 1) fun x_2 =>
    k90 x_2 q_1.2
  else
    (f_X11_goesAlong a0 p q_1.2).bind fun q_3 =>
    k73 () q_3
def f_X11_goesTo_90  (k73 : Unit → MH → Option (MH)) (a0 : Nat) (x1 : Int32) : Nat → Int32 → MH → Option (MH) := lp (f_X11_goesTo_90b k73 a0 x1)
def f_X11_goesTo_73b   (a0 : Nat) (x1 : Int32) (k73 : Unit → MH → Option (MH)) (p : Unit) (h : MH) : Option (MH) :=
  if (gI h a0 17) = 0 then
    f_X11_goesTo_118 a0 x1 h
  else
    if (gI h a0 14) = x1 then
      f_X11_goesTo_118 a0 x1 h
    else
      f_X11_goesTo_90 k73 a0 x1 FU 0 h
def f_X11_goesTo_73   (a0 : Nat) (x1 : Int32) : Nat → Unit → MH → Option (MH) := lp (f_X11_goesTo_73b a0 x1)
def f_X11_goesTo_61   (a0 : Nat) (x1 : Int32) (h : MH) : Option (MH) :=
  if (gI h a0 21) = 0 then
    f_X11_goesTo_73 a0 x1 FU () h
  else
    (f_X11_parts a0 x1 h).bind fun q_1 =>
    f_X11_goesTo_73 a0 x1 FU () q_1
def f_X11_goesTo_31   (a0 : Nat) (h : MH) : Option (MH) :=
  lt (sI h a0 16 1) fun h_1 =>
  some h_1
def f_X11_goesTo   (a0 : Nat) (x1 : Int32) (h : MH) : Option (MH) :=
  if x1 = (gI h a0 14) then
    some h
  else
    (f_X11_isNode a0 x1 h).bind fun q_1 =>
    if q_1.1 = 0 then
      f_X11_goesTo_31 a0 q_1.2
    else
      (f_X11_far2 a0 (gI q_1.2 a0 14) x1 q_1.2).bind fun q_2 =>
      if q_2.1 < 1000000 then
        (gR q_2.2 a0 9).bind fun a_3 =>
        (ldL q_2.2 a_3 ((10 * (gI q_2.2 a0 14)) + x1)).bind fun l_4 =>
        if l_4 = 1 then
          f_X11_goesTo_61 a0 x1 q_2.2
        else
          lt (sI q_2.2 a0 17 0) fun h_5 =>
          f_X11_goesTo_61 a0 x1 h_5
      else
        f_X11_goesTo_31 a0 q_2.2
set_option maxRecDepth 100000 in
set_option maxHeartbeats 4000000 in
theorem v_X11_goesTo_118 {l : Launch} {G : GE} {B N : Nat} {S : List SHP} {o : MH} {a0 : Nat} {x1 : Int32}    (hs0 : S[a0]? = some (.inl 11)) {h : MH} (hf : f_X11_goesTo_118 a0 x1 h = some o) : V l G B N mX11_goesTo (rmm 128 0 0) false 0 0 (QV S o) S 0 0 118 [(0, .ref a0), (1, .int x1)] [] h := by
  unfold f_X11_goesTo_118 at hf
  refine V_aload_n (pc' := 119) dX11_goesTo_118 rfl 0 rfl rfl ?_
  refine V_iload_n (pc' := 120) dX11_goesTo_119 rfl 1 rfl rfl ?_
  refine V_putI (pc' := 123) 11 14 dX11_goesTo_120 rfl (by decide) (Nat.le_of_ble_eq_true rfl) bm_1238 hs0 (Or.inl rfl) rfl ?_
  refine V_nmH hf (fun h_1 hf => ?_)
  obtain rfl := Option.some.inj hf
  exact V_vret dX11_goesTo_123 rfl rfl rfl ⟨rfl, rfl, rfl⟩
set_option maxRecDepth 100000 in
set_option maxHeartbeats 4000000 in
theorem v_X11_goesTo_90b {l : Launch} {G : GE} {B N : Nat} {S : List SHP} {o : MH} {a0 : Nat} {x1 : Int32}  {k73 : Unit → MH → Option (MH)} (hk73 : ∀ (p : Unit) (h : MH), k73 p h = some o → V l G B N mX11_goesTo (rmm 128 0 0) false 0 0 (QV S o) S 0 0 73 [(0, .ref a0), (1, .int x1)] [] h) (hs0 : S[a0]? = some (.inl 11)) {k90 : Int32 → MH → Option (MH)} (hk90 : ∀ (p : Int32) (h : MH), k90 p h = some o → V l G B N mX11_goesTo (rmm 128 0 0) false 0 0 (QV S o) S 0 0 90 [(0, .ref a0), (1, .int x1), (2, .int p)] [] h) {p : Int32} {h : MH} (hf : f_X11_goesTo_90b k73 a0 x1 k90 p h = some o) : V l G B N mX11_goesTo (rmm 128 0 0) false 0 0 (QV S o) S 0 0 90 [(0, .ref a0), (1, .int x1), (2, .int p)] [] h := by
  unfold f_X11_goesTo_90b at hf
  refine V_aload_n (pc' := 91) dX11_goesTo_90 rfl 0 rfl rfl ?_
  refine V_iload_n (pc' := 92) dX11_goesTo_91 rfl 2 rfl rfl ?_
  refine V_aload_n (pc' := 93) dX11_goesTo_92 rfl 0 rfl rfl ?_
  refine V_getI (pc' := 96) 11 14 dX11_goesTo_93 rfl (by decide) (Nat.le_of_ble_eq_true rfl) bm_1238 hs0 (fun _ _ _ => rfl) ?_
  refine V_iload_n (pc' := 97) dX11_goesTo_96 rfl 1 rfl rfl ?_
  refine V_cvI (pc' := 100) (As := [.int p, .int (gI h a0 14), .int x1]) (rest := []) dX11_goesTo_97 rfl mok_X11_isOn bm_1507 11 (by decide) rfl hs0 rfl rfl (Nat.le_of_ble_eq_true rfl) (by decide) hf (fun q e => ct_X11_isOn hs0 e) (fun q_1 hf => ?_)
  refine V_if_ne (tgt := 110) (pc' := 103) dX11_goesTo_100 (by decide) rfl hf (fun hf => ?_) (fun hf => ?_)
  ·
    refine V_iload_n (pc' := 104) dX11_goesTo_103 rfl 2 rfl rfl ?_
    refine V_iconst (v := 1) (pc' := 105) dX11_goesTo_104 rfl (by decide) ?_
    refine V_iadd (pc' := 106) dX11_goesTo_105 rfl ?_
    refine V_nmI hf (fun x_2 hf => ?_)
    refine V_istore_n (lv' := [(2, .int x_2), (0, .ref a0), (1, .int x1)]) (pc' := 107) dX11_goesTo_106 rfl rfl (Nat.le_of_ble_eq_true rfl) rfl ?_
    refine V_goto (tgt := 90) dX11_goesTo_107 (by decide) ?_
    exact V_sub (lv' := [(0, .ref a0), (1, .int x1), (2, .int x_2)]) [1, 2, 0] rfl (hk90 x_2 q_1.2 hf)
  ·
    refine V_aload_n (pc' := 111) dX11_goesTo_110 rfl 0 rfl rfl ?_
    refine V_iload_n (pc' := 112) dX11_goesTo_111 rfl 2 rfl rfl ?_
    refine V_cvV (pc' := 115) (As := [.int p]) (rest := []) dX11_goesTo_112 rfl mok_X11_goesAlong bm_1560 11 (by decide) rfl hs0 rfl rfl (Nat.le_of_ble_eq_true rfl) (by decide) hf (fun q e => ct_X11_goesAlong hs0 e) (fun q_3 hf => ?_)
    refine V_goto (tgt := 73) dX11_goesTo_115 (by decide) ?_
    exact V_sub (lv' := [(0, .ref a0), (1, .int x1)]) [0, 1] rfl (hk73 () q_3 hf)
theorem v_X11_goesTo_90 {l : Launch} {G : GE} {B N : Nat} {S : List SHP} {o : MH} {a0 : Nat} {x1 : Int32}  {k73 : Unit → MH → Option (MH)} (hk73 : ∀ (p : Unit) (h : MH), k73 p h = some o → V l G B N mX11_goesTo (rmm 128 0 0) false 0 0 (QV S o) S 0 0 73 [(0, .ref a0), (1, .int x1)] [] h) (hs0 : S[a0]? = some (.inl 11)) {n : Nat} {p : Int32} {h : MH} (hf : f_X11_goesTo_90 k73 a0 x1 n p h = some o) : V l G B N mX11_goesTo (rmm 128 0 0) false 0 0 (QV S o) S 0 0 90 [(0, .ref a0), (1, .int x1), (2, .int p)] [] h :=
  V_lp (VV := fun p h => V l G B N mX11_goesTo (rmm 128 0 0) false 0 0 (QV S o) S 0 0 90 [(0, .ref a0), (1, .int x1), (2, .int p)] [] h) (fun _ hk _ _ hf => v_X11_goesTo_90b hk73 hs0 hk hf) n p h hf
set_option maxRecDepth 100000 in
set_option maxHeartbeats 4000000 in
theorem v_X11_goesTo_73b {l : Launch} {G : GE} {B N : Nat} {S : List SHP} {o : MH} {a0 : Nat} {x1 : Int32}    (hs0 : S[a0]? = some (.inl 11)) {k73 : Unit → MH → Option (MH)} (hk73 : ∀ (p : Unit) (h : MH), k73 p h = some o → V l G B N mX11_goesTo (rmm 128 0 0) false 0 0 (QV S o) S 0 0 73 [(0, .ref a0), (1, .int x1)] [] h) {p : Unit} {h : MH} (hf : f_X11_goesTo_73b a0 x1 k73 p h = some o) : V l G B N mX11_goesTo (rmm 128 0 0) false 0 0 (QV S o) S 0 0 73 [(0, .ref a0), (1, .int x1)] [] h := by
  unfold f_X11_goesTo_73b at hf
  refine V_aload_n (pc' := 74) dX11_goesTo_73 rfl 0 rfl rfl ?_
  refine V_getI (pc' := 77) 11 17 dX11_goesTo_74 rfl (by decide) (Nat.le_of_ble_eq_true rfl) bm_1241 hs0 (fun _ _ _ => rfl) ?_
  refine V_if_eq (tgt := 118) (pc' := 80) dX11_goesTo_77 (by decide) rfl hf (fun hf => ?_) (fun hf => ?_)
  ·
    exact V_sub (lv' := [(0, .ref a0), (1, .int x1)]) [0, 1] rfl (v_X11_goesTo_118 hs0 hf)
  ·
    refine V_aload_n (pc' := 81) dX11_goesTo_80 rfl 0 rfl rfl ?_
    refine V_getI (pc' := 84) 11 14 dX11_goesTo_81 rfl (by decide) (Nat.le_of_ble_eq_true rfl) bm_1238 hs0 (fun _ _ _ => rfl) ?_
    refine V_iload_n (pc' := 85) dX11_goesTo_84 rfl 1 rfl rfl ?_
    refine V_icmp_eq (tgt := 118) (pc' := 88) dX11_goesTo_85 (by decide) rfl hf (fun hf => ?_) (fun hf => ?_)
    ·
      exact V_sub (lv' := [(0, .ref a0), (1, .int x1)]) [0, 1] rfl (v_X11_goesTo_118 hs0 hf)
    ·
      refine V_iconst (v := 0) (pc' := 89) dX11_goesTo_88 rfl (by decide) ?_
      refine V_istore_n (lv' := [(2, .int 0), (0, .ref a0), (1, .int x1)]) (pc' := 90) dX11_goesTo_89 rfl rfl (Nat.le_of_ble_eq_true rfl) rfl ?_
      exact V_sub (lv' := [(0, .ref a0), (1, .int x1), (2, .int 0)]) [1, 2, 0] rfl (v_X11_goesTo_90 hk73 hs0 hf)
theorem v_X11_goesTo_73 {l : Launch} {G : GE} {B N : Nat} {S : List SHP} {o : MH} {a0 : Nat} {x1 : Int32}    (hs0 : S[a0]? = some (.inl 11)) {n : Nat} {p : Unit} {h : MH} (hf : f_X11_goesTo_73 a0 x1 n p h = some o) : V l G B N mX11_goesTo (rmm 128 0 0) false 0 0 (QV S o) S 0 0 73 [(0, .ref a0), (1, .int x1)] [] h :=
  V_lp (VV := fun p h => V l G B N mX11_goesTo (rmm 128 0 0) false 0 0 (QV S o) S 0 0 73 [(0, .ref a0), (1, .int x1)] [] h) (fun _ hk _ _ hf => v_X11_goesTo_73b hs0 hk hf) n p h hf
set_option maxRecDepth 100000 in
set_option maxHeartbeats 4000000 in
theorem v_X11_goesTo_61 {l : Launch} {G : GE} {B N : Nat} {S : List SHP} {o : MH} {a0 : Nat} {x1 : Int32}    (hs0 : S[a0]? = some (.inl 11)) {h : MH} (hf : f_X11_goesTo_61 a0 x1 h = some o) : V l G B N mX11_goesTo (rmm 128 0 0) false 0 0 (QV S o) S 0 0 61 [(0, .ref a0), (1, .int x1)] [] h := by
  unfold f_X11_goesTo_61 at hf
  refine V_aload_n (pc' := 62) dX11_goesTo_61 rfl 0 rfl rfl ?_
  refine V_getI (pc' := 65) 11 21 dX11_goesTo_62 rfl (by decide) (Nat.le_of_ble_eq_true rfl) bm_1245 hs0 (fun _ _ _ => rfl) ?_
  refine V_if_eq (tgt := 73) (pc' := 68) dX11_goesTo_65 (by decide) rfl hf (fun hf => ?_) (fun hf => ?_)
  ·
    exact V_sub (lv' := [(0, .ref a0), (1, .int x1)]) [0, 1] rfl (v_X11_goesTo_73 hs0 hf)
  ·
    refine V_aload_n (pc' := 69) dX11_goesTo_68 rfl 0 rfl rfl ?_
    refine V_iload_n (pc' := 70) dX11_goesTo_69 rfl 1 rfl rfl ?_
    refine V_cvV (pc' := 73) (As := [.int x1]) (rest := []) dX11_goesTo_70 rfl mok_X11_parts bm_1568 11 (by decide) rfl hs0 rfl rfl (Nat.le_of_ble_eq_true rfl) (by decide) hf (fun q e => ct_X11_parts hs0 e) (fun q_1 hf => ?_)
    exact V_sub (lv' := [(0, .ref a0), (1, .int x1)]) [0, 1] rfl (v_X11_goesTo_73 hs0 hf)
set_option maxRecDepth 100000 in
set_option maxHeartbeats 4000000 in
theorem v_X11_goesTo_31 {l : Launch} {G : GE} {B N : Nat} {S : List SHP} {o : MH} {a0 : Nat}    (hs0 : S[a0]? = some (.inl 11)) {h : MH} (hf : f_X11_goesTo_31 a0 h = some o) : V l G B N mX11_goesTo (rmm 128 0 0) false 0 0 (QV S o) S 0 0 31 [(0, .ref a0)] [] h := by
  unfold f_X11_goesTo_31 at hf
  refine V_aload_n (pc' := 32) dX11_goesTo_31 rfl 0 rfl rfl ?_
  refine V_iconst (v := 1) (pc' := 33) dX11_goesTo_32 rfl (by decide) ?_
  refine V_putZL (pc' := 36) 11 16 dX11_goesTo_33 rfl (by decide) (Nat.le_of_ble_eq_true rfl) bm_1240 hs0 rfl rfl (by decide) ?_
  refine V_nmH hf (fun h_1 hf => ?_)
  obtain rfl := Option.some.inj hf
  exact V_vret dX11_goesTo_36 rfl rfl rfl ⟨rfl, rfl, rfl⟩
set_option maxRecDepth 100000 in
set_option maxHeartbeats 4000000 in
theorem v_X11_goesTo {l : Launch} {G : GE} {B N : Nat} {S : List SHP} {o : MH} {a0 : Nat} {x1 : Int32}    (hs0 : S[a0]? = some (.inl 11)) {h : MH} (hf : f_X11_goesTo a0 x1 h = some o) : V l G B N mX11_goesTo (rmm 128 0 0) false 0 0 (QV S o) S 0 0 0 [(0, .ref a0), (1, .int x1)] [] h := by
  unfold f_X11_goesTo at hf
  refine V_iload_n (pc' := 1) dX11_goesTo_0 rfl 1 rfl rfl ?_
  refine V_aload_n (pc' := 2) dX11_goesTo_1 rfl 0 rfl rfl ?_
  refine V_getI (pc' := 5) 11 14 dX11_goesTo_2 rfl (by decide) (Nat.le_of_ble_eq_true rfl) bm_1238 hs0 (fun _ _ _ => rfl) ?_
  refine V_icmp_ne (tgt := 9) (pc' := 8) dX11_goesTo_5 (by decide) rfl hf (fun hf => ?_) (fun hf => ?_)
  ·
    obtain rfl := Option.some.inj hf
    exact V_vret dX11_goesTo_8 rfl rfl rfl ⟨rfl, rfl, rfl⟩
  ·
    refine V_aload_n (pc' := 10) dX11_goesTo_9 rfl 0 rfl rfl ?_
    refine V_iload_n (pc' := 11) dX11_goesTo_10 rfl 1 rfl rfl ?_
    refine V_cvI (pc' := 14) (As := [.int x1]) (rest := []) dX11_goesTo_11 rfl mok_X11_isNode bm_1389 11 (by decide) rfl hs0 rfl rfl (Nat.le_of_ble_eq_true rfl) (by decide) hf (fun q e => ct_X11_isNode hs0 e) (fun q_1 hf => ?_)
    refine V_if_eq (tgt := 31) (pc' := 17) dX11_goesTo_14 (by decide) rfl hf (fun hf => ?_) (fun hf => ?_)
    ·
      exact V_sub (lv' := [(0, .ref a0)]) [0] rfl (v_X11_goesTo_31 hs0 hf)
    ·
      refine V_aload_n (pc' := 18) dX11_goesTo_17 rfl 0 rfl rfl ?_
      refine V_aload_n (pc' := 19) dX11_goesTo_18 rfl 0 rfl rfl ?_
      refine V_getI (pc' := 22) 11 14 dX11_goesTo_19 rfl (by decide) (Nat.le_of_ble_eq_true rfl) bm_1238 hs0 (fun _ _ _ => rfl) ?_
      refine V_iload_n (pc' := 23) dX11_goesTo_22 rfl 1 rfl rfl ?_
      refine V_cvI (pc' := 26) (As := [.int (gI q_1.2 a0 14), .int x1]) (rest := []) dX11_goesTo_23 rfl mok_X11_far2 bm_1499 11 (by decide) rfl hs0 rfl rfl (Nat.le_of_ble_eq_true rfl) (by decide) hf (fun q e => ct_X11_far2 hs0 e) (fun q_2 hf => ?_)
      refine V_ldc (v := 1000000) (pc' := 28) dX11_goesTo_26 rfl bm_1498 ?_
      refine V_icmp_lt (tgt := 37) (pc' := 31) dX11_goesTo_28 (by decide) rfl hf (fun hf => ?_) (fun hf => ?_)
      ·
        refine V_aload_n (pc' := 38) dX11_goesTo_37 rfl 0 rfl rfl ?_
        refine V_getR (pc' := 41) 11 9 dX11_goesTo_38 rfl (by decide) (Nat.le_of_ble_eq_true rfl) bm_1233 hs0 (fun _ _ _ => rfl) rfl hf (fun a_3 ha_3 hf => ?_)
        refine V_bipush (v := 10) (pc' := 43) dX11_goesTo_41 rfl (by decide) ?_
        refine V_aload_n (pc' := 44) dX11_goesTo_43 rfl 0 rfl rfl ?_
        refine V_getI (pc' := 47) 11 14 dX11_goesTo_44 rfl (by decide) (Nat.le_of_ble_eq_true rfl) bm_1238 hs0 (fun _ _ _ => rfl) ?_
        refine V_imul (pc' := 48) dX11_goesTo_47 rfl ?_
        refine V_iload_n (pc' := 49) dX11_goesTo_48 rfl 1 rfl rfl ?_
        refine V_iadd (pc' := 50) dX11_goesTo_49 rfl ?_
        refine V_lald (pc' := 51) dX11_goesTo_50 rfl ha_3 hf (fun l_4 hf => ?_)
        refine V_lconst (v := 1) (pc' := 52) dX11_goesTo_51 rfl (by decide) ?_
        refine V_lcmp_eq (pc1 := 53) (tgt := 61) (pc' := 56) dX11_goesTo_52 rfl dX11_goesTo_53 (by decide) rfl hf (fun hf => ?_) (fun hf => ?_)
        ·
          exact V_sub (lv' := [(0, .ref a0), (1, .int x1)]) [0, 1] rfl (v_X11_goesTo_61 hs0 hf)
        ·
          refine V_aload_n (pc' := 57) dX11_goesTo_56 rfl 0 rfl rfl ?_
          refine V_iconst (v := 0) (pc' := 58) dX11_goesTo_57 rfl (by decide) ?_
          refine V_putZL (pc' := 61) 11 17 dX11_goesTo_58 rfl (by decide) (Nat.le_of_ble_eq_true rfl) bm_1241 hs0 rfl rfl (by decide) ?_
          refine V_nmH hf (fun h_5 hf => ?_)
          exact V_sub (lv' := [(0, .ref a0), (1, .int x1)]) [0, 1] rfl (v_X11_goesTo_61 hs0 hf)
      ·
        exact V_sub (lv' := [(0, .ref a0)]) [0] rfl (v_X11_goesTo_31 hs0 hf)
theorem ct_X11_goesTo {l : Launch} {S : List SHP} {h : MH} {a0 : Nat} {x1 : Int32} (hs0 : S[a0]? = some (.inl 11)) {q : MH} (hf : f_X11_goesTo a0 x1 h = some q) : CT l mX11_goesTo 128 false 0 0 S [.ref a0, .int x1] h (QV S q) :=
  CT_ofV (by decide) rfl (Nat.le_of_ble_eq_true rfl) (fun G B hT => v_X11_goesTo hs0 hf)
/-! LabelStacksModel.goesBy(I)V -/
theorem dX11_goesBy_0 : decode cX11_goesBy 0 = .ok (.aload_n 0, 1) := by decide +kernel
theorem dX11_goesBy_1 : decode cX11_goesBy 1 = .ok (.iload_n 1, 1) := by decide +kernel
theorem dX11_goesBy_2 : decode cX11_goesBy 2 = .ok (.invokevirtual 126, 3) := by decide +kernel
theorem dX11_goesBy_5 : decode cX11_goesBy 5 = .ok (.ifCond .eq 23, 3) := by decide +kernel
theorem dX11_goesBy_8 : decode cX11_goesBy 8 = .ok (.aload_n 0, 1) := by decide +kernel
theorem dX11_goesBy_9 : decode cX11_goesBy 9 = .ok (.iload_n 1, 1) := by decide +kernel
theorem dX11_goesBy_10 : decode cX11_goesBy 10 = .ok (.invokevirtual 129, 3) := by decide +kernel
theorem dX11_goesBy_13 : decode cX11_goesBy 13 = .ok (.ifCond .eq 15, 3) := by decide +kernel
theorem dX11_goesBy_16 : decode cX11_goesBy 16 = .ok (.aload_n 0, 1) := by decide +kernel
theorem dX11_goesBy_17 : decode cX11_goesBy 17 = .ok (.iload_n 1, 1) := by decide +kernel
theorem dX11_goesBy_18 : decode cX11_goesBy 18 = .ok (.invokevirtual 161, 3) := by decide +kernel
theorem dX11_goesBy_21 : decode cX11_goesBy 21 = .ok (.aload_n 0, 1) := by decide +kernel
theorem dX11_goesBy_22 : decode cX11_goesBy 22 = .ok (.getfield 208, 3) := by decide +kernel
theorem dX11_goesBy_25 : decode cX11_goesBy 25 = .ok (.if_icmp .eq 9, 3) := by decide +kernel
theorem dX11_goesBy_28 : decode cX11_goesBy 28 = .ok (.aload_n 0, 1) := by decide +kernel
theorem dX11_goesBy_29 : decode cX11_goesBy 29 = .ok (.iconst 1, 1) := by decide +kernel
theorem dX11_goesBy_30 : decode cX11_goesBy 30 = .ok (.putfield 214, 3) := by decide +kernel
theorem dX11_goesBy_33 : decode cX11_goesBy 33 = .ok (.return_, 1) := by decide +kernel
theorem dX11_goesBy_34 : decode cX11_goesBy 34 = .ok (.aload_n 0, 1) := by decide +kernel
theorem dX11_goesBy_35 : decode cX11_goesBy 35 = .ok (.getfield 238, 3) := by decide +kernel
theorem dX11_goesBy_38 : decode cX11_goesBy 38 = .ok (.ifCond .eq 10, 3) := by decide +kernel
theorem dX11_goesBy_41 : decode cX11_goesBy 41 = .ok (.aload_n 0, 1) := by decide +kernel
theorem dX11_goesBy_42 : decode cX11_goesBy 42 = .ok (.iload_n 1, 1) := by decide +kernel
theorem dX11_goesBy_43 : decode cX11_goesBy 43 = .ok (.lconst 1, 1) := by decide +kernel
theorem dX11_goesBy_44 : decode cX11_goesBy 44 = .ok (.lconst 1, 1) := by decide +kernel
theorem dX11_goesBy_45 : decode cX11_goesBy 45 = .ok (.invokevirtual 234, 3) := by decide +kernel
theorem dX11_goesBy_48 : decode cX11_goesBy 48 = .ok (.aload_n 0, 1) := by decide +kernel
theorem dX11_goesBy_49 : decode cX11_goesBy 49 = .ok (.iload_n 1, 1) := by decide +kernel
theorem dX11_goesBy_50 : decode cX11_goesBy 50 = .ok (.invokevirtual 244, 3) := by decide +kernel
theorem dX11_goesBy_53 : decode cX11_goesBy 53 = .ok (.return_, 1) := by decide +kernel
abbrev mX11_goesBy : MI := (RX11, yX11_goesBy, cX11_goesBy, 2, none)
theorem mok_X11_goesBy : MOKv mX11_goesBy 1 := ⟨⟨bm_1547, bm_127, ⟨by decide, by decide⟩, by decide +kernel⟩, bm_1546, bm_69⟩
def f_X11_goesBy_48   (a0 : Nat) (x1 : Int32) (h : MH) : Option (MH) :=
  (f_X11_goesAlong a0 x1 h).bind fun q_1 =>
  some q_1
def f_X11_goesBy_28   (a0 : Nat) (h : MH) : Option (MH) :=
  lt (sI h a0 16 1) fun h_1 =>
  some h_1
def f_X11_goesBy   (a0 : Nat) (x1 : Int32) (h : MH) : Option (MH) :=
  (f_X11_isLink a0 x1 h).bind fun q_1 =>
  if q_1.1 = 0 then
    f_X11_goesBy_28 a0 q_1.2
  else
    (f_X11_isUp a0 x1 q_1.2).bind fun q_2 =>
    if q_2.1 = 0 then
      f_X11_goesBy_28 a0 q_2.2
    else
      (f_X11_from a0 x1 q_2.2).bind fun q_3 =>
      if q_3.1 = (gI q_3.2 a0 14) then
        if (gI q_3.2 a0 21) = 0 then
          f_X11_goesBy_48 a0 x1 q_3.2
        else
          (f_X11_shares a0 x1 1 1 q_3.2).bind fun q_4 =>
          f_X11_goesBy_48 a0 x1 q_4
      else
        f_X11_goesBy_28 a0 q_3.2
set_option maxRecDepth 100000 in
set_option maxHeartbeats 4000000 in
theorem v_X11_goesBy_48 {l : Launch} {G : GE} {B N : Nat} {S : List SHP} {o : MH} {a0 : Nat} {x1 : Int32}    (hs0 : S[a0]? = some (.inl 11)) {h : MH} (hf : f_X11_goesBy_48 a0 x1 h = some o) : V l G B N mX11_goesBy (rmm 126 0 0) false 0 0 (QV S o) S 0 0 48 [(0, .ref a0), (1, .int x1)] [] h := by
  unfold f_X11_goesBy_48 at hf
  refine V_aload_n (pc' := 49) dX11_goesBy_48 rfl 0 rfl rfl ?_
  refine V_iload_n (pc' := 50) dX11_goesBy_49 rfl 1 rfl rfl ?_
  refine V_cvV (pc' := 53) (As := [.int x1]) (rest := []) dX11_goesBy_50 rfl mok_X11_goesAlong bm_1560 11 (by decide) rfl hs0 rfl rfl (Nat.le_of_ble_eq_true rfl) (by decide) hf (fun q e => ct_X11_goesAlong hs0 e) (fun q_1 hf => ?_)
  obtain rfl := Option.some.inj hf
  exact V_vret dX11_goesBy_53 rfl rfl rfl ⟨rfl, rfl, rfl⟩
set_option maxRecDepth 100000 in
set_option maxHeartbeats 4000000 in
theorem v_X11_goesBy_28 {l : Launch} {G : GE} {B N : Nat} {S : List SHP} {o : MH} {a0 : Nat}    (hs0 : S[a0]? = some (.inl 11)) {h : MH} (hf : f_X11_goesBy_28 a0 h = some o) : V l G B N mX11_goesBy (rmm 126 0 0) false 0 0 (QV S o) S 0 0 28 [(0, .ref a0)] [] h := by
  unfold f_X11_goesBy_28 at hf
  refine V_aload_n (pc' := 29) dX11_goesBy_28 rfl 0 rfl rfl ?_
  refine V_iconst (v := 1) (pc' := 30) dX11_goesBy_29 rfl (by decide) ?_
  refine V_putZL (pc' := 33) 11 16 dX11_goesBy_30 rfl (by decide) (Nat.le_of_ble_eq_true rfl) bm_1240 hs0 rfl rfl (by decide) ?_
  refine V_nmH hf (fun h_1 hf => ?_)
  obtain rfl := Option.some.inj hf
  exact V_vret dX11_goesBy_33 rfl rfl rfl ⟨rfl, rfl, rfl⟩
set_option maxRecDepth 100000 in
set_option maxHeartbeats 4000000 in
theorem v_X11_goesBy {l : Launch} {G : GE} {B N : Nat} {S : List SHP} {o : MH} {a0 : Nat} {x1 : Int32}    (hs0 : S[a0]? = some (.inl 11)) {h : MH} (hf : f_X11_goesBy a0 x1 h = some o) : V l G B N mX11_goesBy (rmm 126 0 0) false 0 0 (QV S o) S 0 0 0 [(0, .ref a0), (1, .int x1)] [] h := by
  unfold f_X11_goesBy at hf
  refine V_aload_n (pc' := 1) dX11_goesBy_0 rfl 0 rfl rfl ?_
  refine V_iload_n (pc' := 2) dX11_goesBy_1 rfl 1 rfl rfl ?_
  refine V_cvI (pc' := 5) (As := [.int x1]) (rest := []) dX11_goesBy_2 rfl mok_X11_isLink bm_1410 11 (by decide) rfl hs0 rfl rfl (Nat.le_of_ble_eq_true rfl) (by decide) hf (fun q e => ct_X11_isLink hs0 e) (fun q_1 hf => ?_)
  refine V_if_eq (tgt := 28) (pc' := 8) dX11_goesBy_5 (by decide) rfl hf (fun hf => ?_) (fun hf => ?_)
  ·
    exact V_sub (lv' := [(0, .ref a0)]) [0] rfl (v_X11_goesBy_28 hs0 hf)
  ·
    refine V_aload_n (pc' := 9) dX11_goesBy_8 rfl 0 rfl rfl ?_
    refine V_iload_n (pc' := 10) dX11_goesBy_9 rfl 1 rfl rfl ?_
    refine V_cvI (pc' := 13) (As := [.int x1]) (rest := []) dX11_goesBy_10 rfl mok_X11_isUp bm_1414 11 (by decide) rfl hs0 rfl rfl (Nat.le_of_ble_eq_true rfl) (by decide) hf (fun q e => ct_X11_isUp hs0 e) (fun q_2 hf => ?_)
    refine V_if_eq (tgt := 28) (pc' := 16) dX11_goesBy_13 (by decide) rfl hf (fun hf => ?_) (fun hf => ?_)
    ·
      exact V_sub (lv' := [(0, .ref a0)]) [0] rfl (v_X11_goesBy_28 hs0 hf)
    ·
      refine V_aload_n (pc' := 17) dX11_goesBy_16 rfl 0 rfl rfl ?_
      refine V_iload_n (pc' := 18) dX11_goesBy_17 rfl 1 rfl rfl ?_
      refine V_cvI (pc' := 21) (As := [.int x1]) (rest := []) dX11_goesBy_18 rfl mok_X11_from bm_1465 11 (by decide) rfl hs0 rfl rfl (Nat.le_of_ble_eq_true rfl) (by decide) hf (fun q e => ct_X11_from hs0 e) (fun q_3 hf => ?_)
      refine V_aload_n (pc' := 22) dX11_goesBy_21 rfl 0 rfl rfl ?_
      refine V_getI (pc' := 25) 11 14 dX11_goesBy_22 rfl (by decide) (Nat.le_of_ble_eq_true rfl) bm_1238 hs0 (fun _ _ _ => rfl) ?_
      refine V_icmp_eq (tgt := 34) (pc' := 28) dX11_goesBy_25 (by decide) rfl hf (fun hf => ?_) (fun hf => ?_)
      ·
        refine V_aload_n (pc' := 35) dX11_goesBy_34 rfl 0 rfl rfl ?_
        refine V_getI (pc' := 38) 11 21 dX11_goesBy_35 rfl (by decide) (Nat.le_of_ble_eq_true rfl) bm_1245 hs0 (fun _ _ _ => rfl) ?_
        refine V_if_eq (tgt := 48) (pc' := 41) dX11_goesBy_38 (by decide) rfl hf (fun hf => ?_) (fun hf => ?_)
        ·
          exact V_sub (lv' := [(0, .ref a0), (1, .int x1)]) [0, 1] rfl (v_X11_goesBy_48 hs0 hf)
        ·
          refine V_aload_n (pc' := 42) dX11_goesBy_41 rfl 0 rfl rfl ?_
          refine V_iload_n (pc' := 43) dX11_goesBy_42 rfl 1 rfl rfl ?_
          refine V_lconst (v := 1) (pc' := 44) dX11_goesBy_43 rfl (by decide) ?_
          refine V_lconst (v := 1) (pc' := 45) dX11_goesBy_44 rfl (by decide) ?_
          refine V_cvV (pc' := 48) (As := [.int x1, .long 1, .long 1]) (rest := []) dX11_goesBy_45 rfl mok_X11_shares bm_1548 11 (by decide) rfl hs0 rfl rfl (Nat.le_of_ble_eq_true rfl) (by decide) hf (fun q e => ct_X11_shares hs0 e) (fun q_4 hf => ?_)
          exact V_sub (lv' := [(0, .ref a0), (1, .int x1)]) [0, 1] rfl (v_X11_goesBy_48 hs0 hf)
      ·
        exact V_sub (lv' := [(0, .ref a0)]) [0] rfl (v_X11_goesBy_28 hs0 hf)
theorem ct_X11_goesBy {l : Launch} {S : List SHP} {h : MH} {a0 : Nat} {x1 : Int32} (hs0 : S[a0]? = some (.inl 11)) {q : MH} (hf : f_X11_goesBy a0 x1 h = some q) : CT l mX11_goesBy 126 false 0 0 S [.ref a0, .int x1] h (QV S q) :=
  CT_ofV (by decide) rfl (Nat.le_of_ble_eq_true rfl) (fun G B hT => v_X11_goesBy hs0 hf)
/-! LabelStacksModel.opens(I)V -/
theorem dX11_opens_0 : decode cX11_opens 0 = .ok (.aload_n 0, 1) := by decide +kernel
theorem dX11_opens_1 : decode cX11_opens 1 = .ok (.iload_n 1, 1) := by decide +kernel
theorem dX11_opens_2 : decode cX11_opens 2 = .ok (.invokevirtual 141, 3) := by decide +kernel
theorem dX11_opens_5 : decode cX11_opens 5 = .ok (.ifCond .eq 21, 3) := by decide +kernel
theorem dX11_opens_8 : decode cX11_opens 8 = .ok (.aload_n 0, 1) := by decide +kernel
theorem dX11_opens_9 : decode cX11_opens 9 = .ok (.getfield 7, 3) := by decide +kernel
theorem dX11_opens_12 : decode cX11_opens 12 = .ok (.bipush 122, 2) := by decide +kernel
theorem dX11_opens_14 : decode cX11_opens 14 = .ok (.iload_n 1, 1) := by decide +kernel
theorem dX11_opens_15 : decode cX11_opens 15 = .ok (.iadd, 1) := by decide +kernel
theorem dX11_opens_16 : decode cX11_opens 16 = .ok (.iaload, 1) := by decide +kernel
theorem dX11_opens_17 : decode cX11_opens 17 = .ok (.aload_n 0, 1) := by decide +kernel
theorem dX11_opens_18 : decode cX11_opens 18 = .ok (.getfield 208, 3) := by decide +kernel
theorem dX11_opens_21 : decode cX11_opens 21 = .ok (.iconst 1, 1) := by decide +kernel
theorem dX11_opens_22 : decode cX11_opens 22 = .ok (.iadd, 1) := by decide +kernel
theorem dX11_opens_23 : decode cX11_opens 23 = .ok (.if_icmp .eq 9, 3) := by decide +kernel
theorem dX11_opens_26 : decode cX11_opens 26 = .ok (.aload_n 0, 1) := by decide +kernel
theorem dX11_opens_27 : decode cX11_opens 27 = .ok (.iconst 1, 1) := by decide +kernel
theorem dX11_opens_28 : decode cX11_opens 28 = .ok (.putfield 214, 3) := by decide +kernel
theorem dX11_opens_31 : decode cX11_opens 31 = .ok (.return_, 1) := by decide +kernel
theorem dX11_opens_32 : decode cX11_opens 32 = .ok (.aload_n 0, 1) := by decide +kernel
theorem dX11_opens_33 : decode cX11_opens 33 = .ok (.aload_n 0, 1) := by decide +kernel
theorem dX11_opens_34 : decode cX11_opens 34 = .ok (.getfield 7, 3) := by decide +kernel
theorem dX11_opens_37 : decode cX11_opens 37 = .ok (.sipush 134, 3) := by decide +kernel
theorem dX11_opens_40 : decode cX11_opens 40 = .ok (.bipush 6, 2) := by decide +kernel
theorem dX11_opens_42 : decode cX11_opens 42 = .ok (.iload_n 1, 1) := by decide +kernel
theorem dX11_opens_43 : decode cX11_opens 43 = .ok (.imul, 1) := by decide +kernel
theorem dX11_opens_44 : decode cX11_opens 44 = .ok (.iadd, 1) := by decide +kernel
theorem dX11_opens_45 : decode cX11_opens 45 = .ok (.aload_n 0, 1) := by decide +kernel
theorem dX11_opens_46 : decode cX11_opens 46 = .ok (.getfield 7, 3) := by decide +kernel
theorem dX11_opens_49 : decode cX11_opens 49 = .ok (.sipush 128, 3) := by decide +kernel
theorem dX11_opens_52 : decode cX11_opens 52 = .ok (.iload_n 1, 1) := by decide +kernel
theorem dX11_opens_53 : decode cX11_opens 53 = .ok (.iadd, 1) := by decide +kernel
theorem dX11_opens_54 : decode cX11_opens 54 = .ok (.iaload, 1) := by decide +kernel
theorem dX11_opens_55 : decode cX11_opens 55 = .ok (.invokevirtual 247, 3) := by decide +kernel
theorem dX11_opens_58 : decode cX11_opens 58 = .ok (.return_, 1) := by decide +kernel
abbrev mX11_opens : MI := (RX11, yX11_opens, cX11_opens, 2, none)
theorem mok_X11_opens : MOKv mX11_opens 1 := ⟨⟨bm_1543, bm_127, ⟨by decide, by decide⟩, by decide +kernel⟩, bm_1542, bm_68⟩
def f_X11_opens_26   (a0 : Nat) (h : MH) : Option (MH) :=
  lt (sI h a0 16 1) fun h_1 =>
  some h_1
def f_X11_opens   (a0 : Nat) (x1 : Int32) (h : MH) : Option (MH) :=
  (f_X11_isBinding a0 x1 h).bind fun q_1 =>
  if q_1.1 = 0 then
    f_X11_opens_26 a0 q_1.2
  else
    (gR q_1.2 a0 1).bind fun a_2 =>
    (ldI q_1.2 a_2 (122 + x1)).bind fun x_3 =>
    if x_3 = ((gI q_1.2 a0 14) + 1) then
      (gR q_1.2 a0 1).bind fun a_4 =>
      (gR q_1.2 a0 1).bind fun a_5 =>
      (ldI q_1.2 a_5 (128 + x1)).bind fun x_6 =>
      (f_X11_holds a0 a_4 (134 + (6 * x1)) x_6 q_1.2).bind fun q_7 =>
      some q_7
    else
      f_X11_opens_26 a0 q_1.2
set_option maxRecDepth 100000 in
set_option maxHeartbeats 4000000 in
theorem v_X11_opens_26 {l : Launch} {G : GE} {B N : Nat} {S : List SHP} {o : MH} {a0 : Nat}    (hs0 : S[a0]? = some (.inl 11)) {h : MH} (hf : f_X11_opens_26 a0 h = some o) : V l G B N mX11_opens (rmm 5 0 0) false 0 0 (QV S o) S 0 0 26 [(0, .ref a0)] [] h := by
  unfold f_X11_opens_26 at hf
  refine V_aload_n (pc' := 27) dX11_opens_26 rfl 0 rfl rfl ?_
  refine V_iconst (v := 1) (pc' := 28) dX11_opens_27 rfl (by decide) ?_
  refine V_putZL (pc' := 31) 11 16 dX11_opens_28 rfl (by decide) (Nat.le_of_ble_eq_true rfl) bm_1240 hs0 rfl rfl (by decide) ?_
  refine V_nmH hf (fun h_1 hf => ?_)
  obtain rfl := Option.some.inj hf
  exact V_vret dX11_opens_31 rfl rfl rfl ⟨rfl, rfl, rfl⟩
set_option maxRecDepth 100000 in
set_option maxHeartbeats 4000000 in
theorem v_X11_opens {l : Launch} {G : GE} {B N : Nat} {S : List SHP} {o : MH} {a0 : Nat} {x1 : Int32}    (hs0 : S[a0]? = some (.inl 11)) {h : MH} (hf : f_X11_opens a0 x1 h = some o) : V l G B N mX11_opens (rmm 5 0 0) false 0 0 (QV S o) S 0 0 0 [(0, .ref a0), (1, .int x1)] [] h := by
  unfold f_X11_opens at hf
  refine V_aload_n (pc' := 1) dX11_opens_0 rfl 0 rfl rfl ?_
  refine V_iload_n (pc' := 2) dX11_opens_1 rfl 1 rfl rfl ?_
  refine V_cvI (pc' := 5) (As := [.int x1]) (rest := []) dX11_opens_2 rfl mok_X11_isBinding bm_1430 11 (by decide) rfl hs0 rfl rfl (Nat.le_of_ble_eq_true rfl) (by decide) hf (fun q e => ct_X11_isBinding hs0 e) (fun q_1 hf => ?_)
  refine V_if_eq (tgt := 26) (pc' := 8) dX11_opens_5 (by decide) rfl hf (fun hf => ?_) (fun hf => ?_)
  ·
    exact V_sub (lv' := [(0, .ref a0)]) [0] rfl (v_X11_opens_26 hs0 hf)
  ·
    refine V_aload_n (pc' := 9) dX11_opens_8 rfl 0 rfl rfl ?_
    refine V_getR (pc' := 12) 11 1 dX11_opens_9 rfl (by decide) (Nat.le_of_ble_eq_true rfl) bm_1225 hs0 (fun _ _ _ => rfl) rfl hf (fun a_2 ha_2 hf => ?_)
    refine V_bipush (v := 122) (pc' := 14) dX11_opens_12 rfl (by decide) ?_
    refine V_iload_n (pc' := 15) dX11_opens_14 rfl 1 rfl rfl ?_
    refine V_iadd (pc' := 16) dX11_opens_15 rfl ?_
    refine V_iald (pc' := 17) dX11_opens_16 rfl ha_2 hf (fun x_3 hf => ?_)
    refine V_aload_n (pc' := 18) dX11_opens_17 rfl 0 rfl rfl ?_
    refine V_getI (pc' := 21) 11 14 dX11_opens_18 rfl (by decide) (Nat.le_of_ble_eq_true rfl) bm_1238 hs0 (fun _ _ _ => rfl) ?_
    refine V_iconst (v := 1) (pc' := 22) dX11_opens_21 rfl (by decide) ?_
    refine V_iadd (pc' := 23) dX11_opens_22 rfl ?_
    refine V_icmp_eq (tgt := 32) (pc' := 26) dX11_opens_23 (by decide) rfl hf (fun hf => ?_) (fun hf => ?_)
    ·
      refine V_aload_n (pc' := 33) dX11_opens_32 rfl 0 rfl rfl ?_
      refine V_aload_n (pc' := 34) dX11_opens_33 rfl 0 rfl rfl ?_
      refine V_getR (pc' := 37) 11 1 dX11_opens_34 rfl (by decide) (Nat.le_of_ble_eq_true rfl) bm_1225 hs0 (fun _ _ _ => rfl) rfl hf (fun a_4 ha_4 hf => ?_)
      refine V_sipush (v := 134) (pc' := 40) dX11_opens_37 rfl (by decide) ?_
      refine V_bipush (v := 6) (pc' := 42) dX11_opens_40 rfl (by decide) ?_
      refine V_iload_n (pc' := 43) dX11_opens_42 rfl 1 rfl rfl ?_
      refine V_imul (pc' := 44) dX11_opens_43 rfl ?_
      refine V_iadd (pc' := 45) dX11_opens_44 rfl ?_
      refine V_aload_n (pc' := 46) dX11_opens_45 rfl 0 rfl rfl ?_
      refine V_getR (pc' := 49) 11 1 dX11_opens_46 rfl (by decide) (Nat.le_of_ble_eq_true rfl) bm_1225 hs0 (fun _ _ _ => rfl) rfl hf (fun a_5 ha_5 hf => ?_)
      refine V_sipush (v := 128) (pc' := 52) dX11_opens_49 rfl (by decide) ?_
      refine V_iload_n (pc' := 53) dX11_opens_52 rfl 1 rfl rfl ?_
      refine V_iadd (pc' := 54) dX11_opens_53 rfl ?_
      refine V_iald (pc' := 55) dX11_opens_54 rfl ha_5 hf (fun x_6 hf => ?_)
      refine V_cvV (pc' := 58) (As := [.ref a_4, .int (134 + (6 * x1)), .int x_6]) (rest := []) dX11_opens_55 rfl mok_X11_holds bm_1532 11 (by decide) rfl hs0 rfl rfl (Nat.le_of_ble_eq_true rfl) (by decide) hf (fun q e => ct_X11_holds hs0 ha_4 e) (fun q_7 hf => ?_)
      obtain rfl := Option.some.inj hf
      exact V_vret dX11_opens_58 rfl rfl rfl ⟨rfl, rfl, rfl⟩
    ·
      exact V_sub (lv' := [(0, .ref a0)]) [0] rfl (v_X11_opens_26 hs0 hf)
theorem ct_X11_opens {l : Launch} {S : List SHP} {h : MH} {a0 : Nat} {x1 : Int32} (hs0 : S[a0]? = some (.inl 11)) {q : MH} (hf : f_X11_opens a0 x1 h = some q) : CT l mX11_opens 5 false 0 0 S [.ref a0, .int x1] h (QV S q) :=
  CT_ofV (by decide) rfl (Nat.le_of_ble_eq_true rfl) (fun G B hT => v_X11_opens hs0 hf)
/-! LabelStacksModel.goesAll()V -/
theorem dX11_goesAll_0 : decode cX11_goesAll 0 = .ok (.aload_n 0, 1) := by decide +kernel
theorem dX11_goesAll_1 : decode cX11_goesAll 1 = .ok (.invokevirtual 189, 3) := by decide +kernel
theorem dX11_goesAll_4 : decode cX11_goesAll 4 = .ok (.aload_n 0, 1) := by decide +kernel
theorem dX11_goesAll_5 : decode cX11_goesAll 5 = .ok (.getfield 205, 3) := by decide +kernel
theorem dX11_goesAll_8 : decode cX11_goesAll 8 = .ok (.ifCond .le 91, 3) := by decide +kernel
theorem dX11_goesAll_11 : decode cX11_goesAll 11 = .ok (.aload_n 0, 1) := by decide +kernel
theorem dX11_goesAll_12 : decode cX11_goesAll 12 = .ok (.getfield 214, 3) := by decide +kernel
theorem dX11_goesAll_15 : decode cX11_goesAll 15 = .ok (.ifCond .ne 84, 3) := by decide +kernel
theorem dX11_goesAll_18 : decode cX11_goesAll 18 = .ok (.aload_n 0, 1) := by decide +kernel
theorem dX11_goesAll_19 : decode cX11_goesAll 19 = .ok (.aload_n 0, 1) := by decide +kernel
theorem dX11_goesAll_20 : decode cX11_goesAll 20 = .ok (.getfield 205, 3) := by decide +kernel
theorem dX11_goesAll_23 : decode cX11_goesAll 23 = .ok (.iconst 1, 1) := by decide +kernel
theorem dX11_goesAll_24 : decode cX11_goesAll 24 = .ok (.isub, 1) := by decide +kernel
theorem dX11_goesAll_25 : decode cX11_goesAll 25 = .ok (.putfield 205, 3) := by decide +kernel
theorem dX11_goesAll_28 : decode cX11_goesAll 28 = .ok (.aload_n 0, 1) := by decide +kernel
theorem dX11_goesAll_29 : decode cX11_goesAll 29 = .ok (.getfield 30, 3) := by decide +kernel
theorem dX11_goesAll_32 : decode cX11_goesAll 32 = .ok (.aload_n 0, 1) := by decide +kernel
theorem dX11_goesAll_33 : decode cX11_goesAll 33 = .ok (.getfield 205, 3) := by decide +kernel
theorem dX11_goesAll_36 : decode cX11_goesAll 36 = .ok (.iaload, 1) := by decide +kernel
theorem dX11_goesAll_37 : decode cX11_goesAll 37 = .ok (.istore_n 1, 1) := by decide +kernel
theorem dX11_goesAll_38 : decode cX11_goesAll 38 = .ok (.iload_n 1, 1) := by decide +kernel
theorem dX11_goesAll_39 : decode cX11_goesAll 39 = .ok (.sipush 200, 3) := by decide +kernel
theorem dX11_goesAll_42 : decode cX11_goesAll 42 = .ok (.if_icmp .lt 15, 3) := by decide +kernel
theorem dX11_goesAll_45 : decode cX11_goesAll 45 = .ok (.aload_n 0, 1) := by decide +kernel
theorem dX11_goesAll_46 : decode cX11_goesAll 46 = .ok (.iload_n 1, 1) := by decide +kernel
theorem dX11_goesAll_47 : decode cX11_goesAll 47 = .ok (.sipush 200, 3) := by decide +kernel
theorem dX11_goesAll_50 : decode cX11_goesAll 50 = .ok (.isub, 1) := by decide +kernel
theorem dX11_goesAll_51 : decode cX11_goesAll 51 = .ok (.invokevirtual 251, 3) := by decide +kernel
theorem dX11_goesAll_54 : decode cX11_goesAll 54 = .ok (.goto 25, 3) := by decide +kernel
theorem dX11_goesAll_57 : decode cX11_goesAll 57 = .ok (.iload_n 1, 1) := by decide +kernel
theorem dX11_goesAll_58 : decode cX11_goesAll 58 = .ok (.bipush 100, 2) := by decide +kernel
theorem dX11_goesAll_60 : decode cX11_goesAll 60 = .ok (.if_icmp .lt 14, 3) := by decide +kernel
theorem dX11_goesAll_63 : decode cX11_goesAll 63 = .ok (.aload_n 0, 1) := by decide +kernel
theorem dX11_goesAll_64 : decode cX11_goesAll 64 = .ok (.iload_n 1, 1) := by decide +kernel
theorem dX11_goesAll_65 : decode cX11_goesAll 65 = .ok (.bipush 100, 2) := by decide +kernel
theorem dX11_goesAll_67 : decode cX11_goesAll 67 = .ok (.isub, 1) := by decide +kernel
theorem dX11_goesAll_68 : decode cX11_goesAll 68 = .ok (.invokevirtual 254, 3) := by decide +kernel
theorem dX11_goesAll_71 : decode cX11_goesAll 71 = .ok (.goto 8, 3) := by decide +kernel
theorem dX11_goesAll_74 : decode cX11_goesAll 74 = .ok (.aload_n 0, 1) := by decide +kernel
theorem dX11_goesAll_75 : decode cX11_goesAll 75 = .ok (.iload_n 1, 1) := by decide +kernel
theorem dX11_goesAll_76 : decode cX11_goesAll 76 = .ok (.invokevirtual 257, 3) := by decide +kernel
theorem dX11_goesAll_79 : decode cX11_goesAll 79 = .ok (.aload_n 0, 1) := by decide +kernel
theorem dX11_goesAll_80 : decode cX11_goesAll 80 = .ok (.getfield 214, 3) := by decide +kernel
theorem dX11_goesAll_83 : decode cX11_goesAll 83 = .ok (.ifCond .ne 13, 3) := by decide +kernel
theorem dX11_goesAll_86 : decode cX11_goesAll 86 = .ok (.aload_n 0, 1) := by decide +kernel
theorem dX11_goesAll_87 : decode cX11_goesAll 87 = .ok (.aload_n 0, 1) := by decide +kernel
theorem dX11_goesAll_88 : decode cX11_goesAll 88 = .ok (.getfield 211, 3) := by decide +kernel
theorem dX11_goesAll_91 : decode cX11_goesAll 91 = .ok (.iconst 1, 1) := by decide +kernel
theorem dX11_goesAll_92 : decode cX11_goesAll 92 = .ok (.iadd, 1) := by decide +kernel
theorem dX11_goesAll_93 : decode cX11_goesAll 93 = .ok (.putfield 211, 3) := by decide +kernel
theorem dX11_goesAll_96 : decode cX11_goesAll 96 = .ok (.goto (-92), 3) := by decide +kernel
theorem dX11_goesAll_99 : decode cX11_goesAll 99 = .ok (.aload_n 0, 1) := by decide +kernel
theorem dX11_goesAll_100 : decode cX11_goesAll 100 = .ok (.getfield 214, 3) := by decide +kernel
theorem dX11_goesAll_103 : decode cX11_goesAll 103 = .ok (.ifCond .eq 8, 3) := by decide +kernel
theorem dX11_goesAll_106 : decode cX11_goesAll 106 = .ok (.aload_n 0, 1) := by decide +kernel
theorem dX11_goesAll_107 : decode cX11_goesAll 107 = .ok (.iconst 0, 1) := by decide +kernel
theorem dX11_goesAll_108 : decode cX11_goesAll 108 = .ok (.putfield 217, 3) := by decide +kernel
theorem dX11_goesAll_111 : decode cX11_goesAll 111 = .ok (.return_, 1) := by decide +kernel
abbrev mX11_goesAll : MI := (RX11, yX11_goesAll, cX11_goesAll, 2, none)
theorem mok_X11_goesAll : MOKv mX11_goesAll 0 := ⟨⟨bm_1539, bm_127, ⟨by decide, by decide⟩, by decide +kernel⟩, bm_1538, bm_67⟩
def f_X11_goesAll_99   (a0 : Nat) (h : MH) : Option (MH) :=
  if (gI h a0 16) = 0 then
    some h
  else
    lt (sI h a0 17 0) fun h_1 =>
    some h_1
def f_X11_goesAll_96  (k4 : Unit → MH → Option (MH)) (a0 : Nat) (h : MH) : Option (MH) :=
  k4 () h
def f_X11_goesAll_79  (k4 : Unit → MH → Option (MH)) (a0 : Nat) (h : MH) : Option (MH) :=
  if (gI h a0 16) = 0 then
    lt (sI h a0 15 ((gI h a0 15) + 1)) fun h_1 =>
    f_X11_goesAll_96 k4 a0 h_1
  else
    f_X11_goesAll_96 k4 a0 h
def f_X11_goesAll_4b   (a0 : Nat) (k4 : Unit → MH → Option (MH)) (p : Unit) (h : MH) : Option (MH) :=
  if 0 < (gI h a0 13) then
    if (gI h a0 16) = 0 then
      lt (sI h a0 13 ((gI h a0 13) - 1)) fun h_1 =>
      (gR h_1 a0 12).bind fun a_2 =>
      (ldI h_1 a_2 (gI h_1 a0 13)).bind fun x_3 =>
      if x_3 < 200 then
        if x_3 < 100 then
          (f_X11_goesTo a0 x_3 h_1).bind fun q_4 =>
          f_X11_goesAll_79 k4 a0 q_4
        else
          (f_X11_goesBy a0 (x_3 - 100) h_1).bind fun q_5 =>
          f_X11_goesAll_79 k4 a0 q_5
      else
        (f_X11_opens a0 (x_3 - 200) h_1).bind fun q_6 =>
        f_X11_goesAll_79 k4 a0 q_6
    else
      f_X11_goesAll_99 a0 h
  else
    f_X11_goesAll_99 a0 h
def f_X11_goesAll_4   (a0 : Nat) : Nat → Unit → MH → Option (MH) := lp (f_X11_goesAll_4b a0)
def f_X11_goesAll   (a0 : Nat) (h : MH) : Option (MH) :=
  (f_X11_laysFar a0 h).bind fun q_1 =>
  f_X11_goesAll_4 a0 FU () q_1
set_option maxRecDepth 100000 in
set_option maxHeartbeats 4000000 in
theorem v_X11_goesAll_99 {l : Launch} {G : GE} {B N : Nat} {S : List SHP} {o : MH} {a0 : Nat}    (hs0 : S[a0]? = some (.inl 11)) {h : MH} (hf : f_X11_goesAll_99 a0 h = some o) : V l G B N mX11_goesAll (rmm 129 0 0) false 0 0 (QV S o) S 0 0 99 [(0, .ref a0)] [] h := by
  unfold f_X11_goesAll_99 at hf
  refine V_aload_n (pc' := 100) dX11_goesAll_99 rfl 0 rfl rfl ?_
  refine V_getI (pc' := 103) 11 16 dX11_goesAll_100 rfl (by decide) (Nat.le_of_ble_eq_true rfl) bm_1240 hs0 (fun _ _ _ => rfl) ?_
  refine V_if_eq (tgt := 111) (pc' := 106) dX11_goesAll_103 (by decide) rfl hf (fun hf => ?_) (fun hf => ?_)
  ·
    obtain rfl := Option.some.inj hf
    exact V_vret dX11_goesAll_111 rfl rfl rfl ⟨rfl, rfl, rfl⟩
  ·
    refine V_aload_n (pc' := 107) dX11_goesAll_106 rfl 0 rfl rfl ?_
    refine V_iconst (v := 0) (pc' := 108) dX11_goesAll_107 rfl (by decide) ?_
    refine V_putZL (pc' := 111) 11 17 dX11_goesAll_108 rfl (by decide) (Nat.le_of_ble_eq_true rfl) bm_1241 hs0 rfl rfl (by decide) ?_
    refine V_nmH hf (fun h_1 hf => ?_)
    obtain rfl := Option.some.inj hf
    exact V_vret dX11_goesAll_111 rfl rfl rfl ⟨rfl, rfl, rfl⟩
set_option maxRecDepth 100000 in
set_option maxHeartbeats 4000000 in
theorem v_X11_goesAll_96 {l : Launch} {G : GE} {B N : Nat} {S : List SHP} {o : MH} {a0 : Nat}  {k4 : Unit → MH → Option (MH)} (hk4 : ∀ (p : Unit) (h : MH), k4 p h = some o → V l G B N mX11_goesAll (rmm 129 0 0) false 0 0 (QV S o) S 0 0 4 [(0, .ref a0)] [] h) (hs0 : S[a0]? = some (.inl 11)) {h : MH} (hf : f_X11_goesAll_96 k4 a0 h = some o) : V l G B N mX11_goesAll (rmm 129 0 0) false 0 0 (QV S o) S 0 0 96 [(0, .ref a0)] [] h := by
  unfold f_X11_goesAll_96 at hf
  refine V_goto (tgt := 4) dX11_goesAll_96 (by decide) ?_
  exact V_sub (lv' := [(0, .ref a0)]) [0] rfl (hk4 () h hf)
set_option maxRecDepth 100000 in
set_option maxHeartbeats 4000000 in
theorem v_X11_goesAll_79 {l : Launch} {G : GE} {B N : Nat} {S : List SHP} {o : MH} {a0 : Nat}  {k4 : Unit → MH → Option (MH)} (hk4 : ∀ (p : Unit) (h : MH), k4 p h = some o → V l G B N mX11_goesAll (rmm 129 0 0) false 0 0 (QV S o) S 0 0 4 [(0, .ref a0)] [] h) (hs0 : S[a0]? = some (.inl 11)) {h : MH} (hf : f_X11_goesAll_79 k4 a0 h = some o) : V l G B N mX11_goesAll (rmm 129 0 0) false 0 0 (QV S o) S 0 0 79 [(0, .ref a0)] [] h := by
  unfold f_X11_goesAll_79 at hf
  refine V_aload_n (pc' := 80) dX11_goesAll_79 rfl 0 rfl rfl ?_
  refine V_getI (pc' := 83) 11 16 dX11_goesAll_80 rfl (by decide) (Nat.le_of_ble_eq_true rfl) bm_1240 hs0 (fun _ _ _ => rfl) ?_
  refine V_if_ne (tgt := 96) (pc' := 86) dX11_goesAll_83 (by decide) rfl hf (fun hf => ?_) (fun hf => ?_)
  ·
    refine V_aload_n (pc' := 87) dX11_goesAll_86 rfl 0 rfl rfl ?_
    refine V_aload_n (pc' := 88) dX11_goesAll_87 rfl 0 rfl rfl ?_
    refine V_getI (pc' := 91) 11 15 dX11_goesAll_88 rfl (by decide) (Nat.le_of_ble_eq_true rfl) bm_1239 hs0 (fun _ _ _ => rfl) ?_
    refine V_iconst (v := 1) (pc' := 92) dX11_goesAll_91 rfl (by decide) ?_
    refine V_iadd (pc' := 93) dX11_goesAll_92 rfl ?_
    refine V_putI (pc' := 96) 11 15 dX11_goesAll_93 rfl (by decide) (Nat.le_of_ble_eq_true rfl) bm_1239 hs0 (Or.inl rfl) rfl ?_
    refine V_nmH hf (fun h_1 hf => ?_)
    exact V_sub (lv' := [(0, .ref a0)]) [0] rfl (v_X11_goesAll_96 hk4 hs0 hf)
  ·
    exact V_sub (lv' := [(0, .ref a0)]) [0] rfl (v_X11_goesAll_96 hk4 hs0 hf)
set_option maxRecDepth 100000 in
set_option maxHeartbeats 4000000 in
theorem v_X11_goesAll_4b {l : Launch} {G : GE} {B N : Nat} {S : List SHP} {o : MH} {a0 : Nat}    (hs0 : S[a0]? = some (.inl 11)) {k4 : Unit → MH → Option (MH)} (hk4 : ∀ (p : Unit) (h : MH), k4 p h = some o → V l G B N mX11_goesAll (rmm 129 0 0) false 0 0 (QV S o) S 0 0 4 [(0, .ref a0)] [] h) {p : Unit} {h : MH} (hf : f_X11_goesAll_4b a0 k4 p h = some o) : V l G B N mX11_goesAll (rmm 129 0 0) false 0 0 (QV S o) S 0 0 4 [(0, .ref a0)] [] h := by
  unfold f_X11_goesAll_4b at hf
  refine V_aload_n (pc' := 5) dX11_goesAll_4 rfl 0 rfl rfl ?_
  refine V_getI (pc' := 8) 11 13 dX11_goesAll_5 rfl (by decide) (Nat.le_of_ble_eq_true rfl) bm_1237 hs0 (fun _ _ _ => rfl) ?_
  refine V_if_le (tgt := 99) (pc' := 11) dX11_goesAll_8 (by decide) rfl hf (fun hf => ?_) (fun hf => ?_)
  ·
    refine V_aload_n (pc' := 12) dX11_goesAll_11 rfl 0 rfl rfl ?_
    refine V_getI (pc' := 15) 11 16 dX11_goesAll_12 rfl (by decide) (Nat.le_of_ble_eq_true rfl) bm_1240 hs0 (fun _ _ _ => rfl) ?_
    refine V_if_ne (tgt := 99) (pc' := 18) dX11_goesAll_15 (by decide) rfl hf (fun hf => ?_) (fun hf => ?_)
    ·
      refine V_aload_n (pc' := 19) dX11_goesAll_18 rfl 0 rfl rfl ?_
      refine V_aload_n (pc' := 20) dX11_goesAll_19 rfl 0 rfl rfl ?_
      refine V_getI (pc' := 23) 11 13 dX11_goesAll_20 rfl (by decide) (Nat.le_of_ble_eq_true rfl) bm_1237 hs0 (fun _ _ _ => rfl) ?_
      refine V_iconst (v := 1) (pc' := 24) dX11_goesAll_23 rfl (by decide) ?_
      refine V_isub (pc' := 25) dX11_goesAll_24 rfl ?_
      refine V_putI (pc' := 28) 11 13 dX11_goesAll_25 rfl (by decide) (Nat.le_of_ble_eq_true rfl) bm_1237 hs0 (Or.inl rfl) rfl ?_
      refine V_nmH hf (fun h_1 hf => ?_)
      refine V_aload_n (pc' := 29) dX11_goesAll_28 rfl 0 rfl rfl ?_
      refine V_getR (pc' := 32) 11 12 dX11_goesAll_29 rfl (by decide) (Nat.le_of_ble_eq_true rfl) bm_1236 hs0 (fun _ _ _ => rfl) rfl hf (fun a_2 ha_2 hf => ?_)
      refine V_aload_n (pc' := 33) dX11_goesAll_32 rfl 0 rfl rfl ?_
      refine V_getI (pc' := 36) 11 13 dX11_goesAll_33 rfl (by decide) (Nat.le_of_ble_eq_true rfl) bm_1237 hs0 (fun _ _ _ => rfl) ?_
      refine V_iald (pc' := 37) dX11_goesAll_36 rfl ha_2 hf (fun x_3 hf => ?_)
      refine V_istore_n (lv' := [(1, .int x_3), (0, .ref a0)]) (pc' := 38) dX11_goesAll_37 rfl rfl (Nat.le_of_ble_eq_true rfl) rfl ?_
      refine V_iload_n (pc' := 39) dX11_goesAll_38 rfl 0 rfl rfl ?_
      refine V_sipush (v := 200) (pc' := 42) dX11_goesAll_39 rfl (by decide) ?_
      refine V_icmp_lt (tgt := 57) (pc' := 45) dX11_goesAll_42 (by decide) rfl hf (fun hf => ?_) (fun hf => ?_)
      ·
        refine V_iload_n (pc' := 58) dX11_goesAll_57 rfl 0 rfl rfl ?_
        refine V_bipush (v := 100) (pc' := 60) dX11_goesAll_58 rfl (by decide) ?_
        refine V_icmp_lt (tgt := 74) (pc' := 63) dX11_goesAll_60 (by decide) rfl hf (fun hf => ?_) (fun hf => ?_)
        ·
          refine V_aload_n (pc' := 75) dX11_goesAll_74 rfl 1 rfl rfl ?_
          refine V_iload_n (pc' := 76) dX11_goesAll_75 rfl 0 rfl rfl ?_
          refine V_cvV (pc' := 79) (As := [.int x_3]) (rest := []) dX11_goesAll_76 rfl mok_X11_goesTo bm_1564 11 (by decide) rfl hs0 rfl rfl (Nat.le_of_ble_eq_true rfl) (by decide) hf (fun q e => ct_X11_goesTo hs0 e) (fun q_4 hf => ?_)
          exact V_sub (lv' := [(0, .ref a0)]) [1] rfl (v_X11_goesAll_79 hk4 hs0 hf)
        ·
          refine V_aload_n (pc' := 64) dX11_goesAll_63 rfl 1 rfl rfl ?_
          refine V_iload_n (pc' := 65) dX11_goesAll_64 rfl 0 rfl rfl ?_
          refine V_bipush (v := 100) (pc' := 67) dX11_goesAll_65 rfl (by decide) ?_
          refine V_isub (pc' := 68) dX11_goesAll_67 rfl ?_
          refine V_cvV (pc' := 71) (As := [.int (x_3 - 100)]) (rest := []) dX11_goesAll_68 rfl mok_X11_goesBy bm_1544 11 (by decide) rfl hs0 rfl rfl (Nat.le_of_ble_eq_true rfl) (by decide) hf (fun q e => ct_X11_goesBy hs0 e) (fun q_5 hf => ?_)
          refine V_goto (tgt := 79) dX11_goesAll_71 (by decide) ?_
          exact V_sub (lv' := [(0, .ref a0)]) [1] rfl (v_X11_goesAll_79 hk4 hs0 hf)
      ·
        refine V_aload_n (pc' := 46) dX11_goesAll_45 rfl 1 rfl rfl ?_
        refine V_iload_n (pc' := 47) dX11_goesAll_46 rfl 0 rfl rfl ?_
        refine V_sipush (v := 200) (pc' := 50) dX11_goesAll_47 rfl (by decide) ?_
        refine V_isub (pc' := 51) dX11_goesAll_50 rfl ?_
        refine V_cvV (pc' := 54) (As := [.int (x_3 - 200)]) (rest := []) dX11_goesAll_51 rfl mok_X11_opens bm_1540 11 (by decide) rfl hs0 rfl rfl (Nat.le_of_ble_eq_true rfl) (by decide) hf (fun q e => ct_X11_opens hs0 e) (fun q_6 hf => ?_)
        refine V_goto (tgt := 79) dX11_goesAll_54 (by decide) ?_
        exact V_sub (lv' := [(0, .ref a0)]) [1] rfl (v_X11_goesAll_79 hk4 hs0 hf)
    ·
      exact V_sub (lv' := [(0, .ref a0)]) [0] rfl (v_X11_goesAll_99 hs0 hf)
  ·
    exact V_sub (lv' := [(0, .ref a0)]) [0] rfl (v_X11_goesAll_99 hs0 hf)
theorem v_X11_goesAll_4 {l : Launch} {G : GE} {B N : Nat} {S : List SHP} {o : MH} {a0 : Nat}    (hs0 : S[a0]? = some (.inl 11)) {n : Nat} {p : Unit} {h : MH} (hf : f_X11_goesAll_4 a0 n p h = some o) : V l G B N mX11_goesAll (rmm 129 0 0) false 0 0 (QV S o) S 0 0 4 [(0, .ref a0)] [] h :=
  V_lp (VV := fun p h => V l G B N mX11_goesAll (rmm 129 0 0) false 0 0 (QV S o) S 0 0 4 [(0, .ref a0)] [] h) (fun _ hk _ _ hf => v_X11_goesAll_4b hs0 hk hf) n p h hf
set_option maxRecDepth 100000 in
set_option maxHeartbeats 4000000 in
theorem v_X11_goesAll {l : Launch} {G : GE} {B N : Nat} {S : List SHP} {o : MH} {a0 : Nat}    (hs0 : S[a0]? = some (.inl 11)) {h : MH} (hf : f_X11_goesAll a0 h = some o) : V l G B N mX11_goesAll (rmm 129 0 0) false 0 0 (QV S o) S 0 0 0 [(0, .ref a0)] [] h := by
  unfold f_X11_goesAll at hf
  refine V_aload_n (pc' := 1) dX11_goesAll_0 rfl 0 rfl rfl ?_
  refine V_cvV (pc' := 4) (As := []) (rest := []) dX11_goesAll_1 rfl mok_X11_laysFar bm_1494 11 (by decide) rfl hs0 rfl rfl (Nat.le_of_ble_eq_true rfl) (by decide) hf (fun q e => ct_X11_laysFar hs0 e) (fun q_1 hf => ?_)
  exact V_sub (lv' := [(0, .ref a0)]) [0] rfl (v_X11_goesAll_4 hs0 hf)
theorem ct_X11_goesAll {l : Launch} {S : List SHP} {h : MH} {a0 : Nat} (hs0 : S[a0]? = some (.inl 11)) {q : MH} (hf : f_X11_goesAll a0 h = some q) : CT l mX11_goesAll 129 false 0 0 S [.ref a0] h (QV S q) :=
  CT_ofV (by decide) rfl (Nat.le_of_ble_eq_true rfl) (fun G B hT => v_X11_goesAll hs0 hf)
/-! LabelStacksModel.goes(I[IIIZ)V -/
theorem dX11_goes_0 : decode cX11_goes 0 = .ok (.aload_n 0, 1) := by decide +kernel
theorem dX11_goes_1 : decode cX11_goes 1 = .ok (.iload 5, 2) := by decide +kernel
theorem dX11_goes_3 : decode cX11_goes 3 = .ok (.putfield 238, 3) := by decide +kernel
theorem dX11_goes_6 : decode cX11_goes 6 = .ok (.aload_n 0, 1) := by decide +kernel
theorem dX11_goes_7 : decode cX11_goes 7 = .ok (.iload_n 1, 1) := by decide +kernel
theorem dX11_goes_8 : decode cX11_goes 8 = .ok (.invokevirtual 260, 3) := by decide +kernel
theorem dX11_goes_11 : decode cX11_goes 11 = .ok (.aload_n 0, 1) := by decide +kernel
theorem dX11_goes_12 : decode cX11_goes 12 = .ok (.aload_n 2, 1) := by decide +kernel
theorem dX11_goes_13 : decode cX11_goes 13 = .ok (.iload_n 3, 1) := by decide +kernel
theorem dX11_goes_14 : decode cX11_goes 14 = .ok (.iload 4, 2) := by decide +kernel
theorem dX11_goes_16 : decode cX11_goes 16 = .ok (.invokevirtual 247, 3) := by decide +kernel
theorem dX11_goes_19 : decode cX11_goes 19 = .ok (.aload_n 0, 1) := by decide +kernel
theorem dX11_goes_20 : decode cX11_goes 20 = .ok (.invokevirtual 263, 3) := by decide +kernel
theorem dX11_goes_23 : decode cX11_goes 23 = .ok (.return_, 1) := by decide +kernel
abbrev mX11_goes : MI := (RX11, yX11_goes, cX11_goes, 6, none)
theorem mok_X11_goes : MOKv mX11_goes 5 := ⟨⟨bm_1527, bm_127, ⟨by decide, by decide⟩, by decide +kernel⟩, bm_1526, bm_64⟩
def f_X11_goes   (a0 : Nat) (x1 : Int32) (a2 : Nat) (x3 : Int32) (x4 : Int32) (x5 : Int32) (h : MH) : Option (MH) :=
  if x5 = (0 : Int32) ∨ x5 = (1 : Int32) then lt (sI h a0 21 x5) fun h_1 =>
  (f_X11_begins a0 x1 h_1).bind fun q_2 =>
  (f_X11_holds a0 a2 x3 x4 q_2).bind fun q_3 =>
  (f_X11_goesAll a0 q_3).bind fun q_4 =>
  some q_4
  else none
set_option maxRecDepth 100000 in
set_option maxHeartbeats 4000000 in
theorem v_X11_goes {l : Launch} {G : GE} {B N : Nat} {S : List SHP} {o : MH} {a0 : Nat} {x1 : Int32} {a2 : Nat} {x3 : Int32} {x4 : Int32} {x5 : Int32}    (hs0 : S[a0]? = some (.inl 11)) (hs2 : S[a2]? = some (.inr 0)) {h : MH} (hf : f_X11_goes a0 x1 a2 x3 x4 x5 h = some o) : V l G B N mX11_goes (rmm 130 0 0) false 0 0 (QV S o) S 0 0 0 [(0, .ref a0), (1, .int x1), (2, .ref a2), (3, .int x3), (4, .int x4), (5, .int x5)] [] h := by
  unfold f_X11_goes at hf
  refine V_aload_n (pc' := 1) dX11_goes_0 rfl 0 rfl rfl ?_
  refine V_iload (pc' := 3) dX11_goes_1 rfl 5 rfl ?_
  refine V_putZ (pc' := 6) 11 21 dX11_goes_3 rfl (by decide) (Nat.le_of_ble_eq_true rfl) bm_1245 hs0 rfl rfl hf (fun hf => ?_)
  refine V_nmH hf (fun h_1 hf => ?_)
  refine V_aload_n (pc' := 7) dX11_goes_6 rfl 0 rfl rfl ?_
  refine V_iload_n (pc' := 8) dX11_goes_7 rfl 1 rfl rfl ?_
  refine V_cvV (pc' := 11) (As := [.int x1]) (rest := []) dX11_goes_8 rfl mok_X11_begins bm_1528 11 (by decide) rfl hs0 rfl rfl (Nat.le_of_ble_eq_true rfl) (by decide) hf (fun q e => ct_X11_begins hs0 e) (fun q_2 hf => ?_)
  refine V_aload_n (pc' := 12) dX11_goes_11 rfl 0 rfl rfl ?_
  refine V_aload_n (pc' := 13) dX11_goes_12 rfl 2 rfl rfl ?_
  refine V_iload_n (pc' := 14) dX11_goes_13 rfl 3 rfl rfl ?_
  refine V_iload (pc' := 16) dX11_goes_14 rfl 4 rfl ?_
  refine V_cvV (pc' := 19) (As := [.ref a2, .int x3, .int x4]) (rest := []) dX11_goes_16 rfl mok_X11_holds bm_1532 11 (by decide) rfl hs0 rfl rfl (Nat.le_of_ble_eq_true rfl) (by decide) hf (fun q e => ct_X11_holds hs0 hs2 e) (fun q_3 hf => ?_)
  refine V_aload_n (pc' := 20) dX11_goes_19 rfl 0 rfl rfl ?_
  refine V_cvV (pc' := 23) (As := []) (rest := []) dX11_goes_20 rfl mok_X11_goesAll bm_1536 11 (by decide) rfl hs0 rfl rfl (Nat.le_of_ble_eq_true rfl) (by decide) hf (fun q e => ct_X11_goesAll hs0 e) (fun q_4 hf => ?_)
  obtain rfl := Option.some.inj hf
  exact V_vret dX11_goes_23 rfl rfl rfl ⟨rfl, rfl, rfl⟩
theorem ct_X11_goes {l : Launch} {S : List SHP} {h : MH} {a0 : Nat} {x1 : Int32} {a2 : Nat} {x3 : Int32} {x4 : Int32} {x5 : Int32} (hs0 : S[a0]? = some (.inl 11)) (hs2 : S[a2]? = some (.inr 0)) {q : MH} (hf : f_X11_goes a0 x1 a2 x3 x4 x5 h = some q) : CT l mX11_goes 130 false 0 0 S [.ref a0, .int x1, .ref a2, .int x3, .int x4, .int x5] h (QV S q) :=
  CT_ofV (by decide) rfl (Nat.le_of_ble_eq_true rfl) (fun G B hT => v_X11_goes hs0 hs2 hf)
/-! LabelStacksModel.endOf()I -/
theorem dX11_endOf_0 : decode cX11_endOf 0 = .ok (.aload_n 0, 1) := by decide +kernel
theorem dX11_endOf_1 : decode cX11_endOf 1 = .ok (.getfield 214, 3) := by decide +kernel
theorem dX11_endOf_4 : decode cX11_endOf 4 = .ok (.ifCond .eq 13, 3) := by decide +kernel
theorem dX11_endOf_7 : decode cX11_endOf 7 = .ok (.bipush (-2), 2) := by decide +kernel
theorem dX11_endOf_9 : decode cX11_endOf 9 = .ok (.aload_n 0, 1) := by decide +kernel
theorem dX11_endOf_10 : decode cX11_endOf 10 = .ok (.getfield 211, 3) := by decide +kernel
theorem dX11_endOf_13 : decode cX11_endOf 13 = .ok (.isub, 1) := by decide +kernel
theorem dX11_endOf_14 : decode cX11_endOf 14 = .ok (.goto 7, 3) := by decide +kernel
theorem dX11_endOf_17 : decode cX11_endOf 17 = .ok (.aload_n 0, 1) := by decide +kernel
theorem dX11_endOf_18 : decode cX11_endOf 18 = .ok (.getfield 208, 3) := by decide +kernel
theorem dX11_endOf_21 : decode cX11_endOf 21 = .ok (.ireturn, 1) := by decide +kernel
abbrev mX11_endOf : MI := (RX11, yX11_endOf, cX11_endOf, 1, (some .int))
theorem mok_X11_endOf : MOKv mX11_endOf 0 := ⟨⟨bm_1579, bm_127, ⟨by decide, by decide⟩, by decide +kernel⟩, bm_1578, bm_77⟩
def f_X11_endOf   (a0 : Nat) (h : MH) : Option (Int32 × MH) :=
  if (gI h a0 16) = 0 then
    some ((gI h a0 14), h)
  else
    some (((-2 : Int32) - (gI h a0 15)), h)
set_option maxRecDepth 100000 in
set_option maxHeartbeats 4000000 in
theorem v_X11_endOf {l : Launch} {G : GE} {B N : Nat} {S : List SHP} {o : Int32 × MH} {a0 : Nat}    (hs0 : S[a0]? = some (.inl 11)) {h : MH} (hf : f_X11_endOf a0 h = some o) : V l G B N mX11_endOf (rmm 3 0 0) false 0 0 (QI S o) S 0 0 0 [(0, .ref a0)] [] h := by
  unfold f_X11_endOf at hf
  refine V_aload_n (pc' := 1) dX11_endOf_0 rfl 0 rfl rfl ?_
  refine V_getI (pc' := 4) 11 16 dX11_endOf_1 rfl (by decide) (Nat.le_of_ble_eq_true rfl) bm_1240 hs0 (fun _ _ _ => rfl) ?_
  refine V_if_eq (tgt := 17) (pc' := 7) dX11_endOf_4 (by decide) rfl hf (fun hf => ?_) (fun hf => ?_)
  ·
    refine V_aload_n (pc' := 18) dX11_endOf_17 rfl 0 rfl rfl ?_
    refine V_getI (pc' := 21) 11 14 dX11_endOf_18 rfl (by decide) (Nat.le_of_ble_eq_true rfl) bm_1238 hs0 (fun _ _ _ => rfl) ?_
    obtain rfl := Option.some.inj hf
    exact V_iret dX11_endOf_21 rfl rfl rfl ⟨rfl, rfl, rfl⟩
  ·
    refine V_bipush (v := (-2)) (pc' := 9) dX11_endOf_7 rfl (by decide) ?_
    refine V_aload_n (pc' := 10) dX11_endOf_9 rfl 0 rfl rfl ?_
    refine V_getI (pc' := 13) 11 15 dX11_endOf_10 rfl (by decide) (Nat.le_of_ble_eq_true rfl) bm_1239 hs0 (fun _ _ _ => rfl) ?_
    refine V_isub (pc' := 14) dX11_endOf_13 rfl ?_
    refine V_goto (tgt := 21) dX11_endOf_14 (by decide) ?_
    obtain rfl := Option.some.inj hf
    exact V_iret dX11_endOf_21 rfl rfl rfl ⟨rfl, rfl, rfl⟩
theorem ct_X11_endOf {l : Launch} {S : List SHP} {h : MH} {a0 : Nat} (hs0 : S[a0]? = some (.inl 11)) {q : Int32 × MH} (hf : f_X11_endOf a0 h = some q) : CT l mX11_endOf 3 false 0 0 S [.ref a0] h (QI S q) :=
  CT_ofV (by decide) rfl (Nat.le_of_ble_eq_true rfl) (fun G B hT => v_X11_endOf hs0 hf)
/-! LabelStacksModel.ends(I)I -/
theorem dX11_ends_0 : decode cX11_ends 0 = .ok (.aload_n 0, 1) := by decide +kernel
theorem dX11_ends_1 : decode cX11_ends 1 = .ok (.iconst 0, 1) := by decide +kernel
theorem dX11_ends_2 : decode cX11_ends 2 = .ok (.putfield 84, 3) := by decide +kernel
theorem dX11_ends_5 : decode cX11_ends 5 = .ok (.aload_n 0, 1) := by decide +kernel
theorem dX11_ends_6 : decode cX11_ends 6 = .ok (.iload_n 1, 1) := by decide +kernel
theorem dX11_ends_7 : decode cX11_ends 7 = .ok (.invokevirtual 116, 3) := by decide +kernel
theorem dX11_ends_10 : decode cX11_ends 10 = .ok (.ifCond .ne 5, 3) := by decide +kernel
theorem dX11_ends_13 : decode cX11_ends 13 = .ok (.iconst (-1), 1) := by decide +kernel
theorem dX11_ends_14 : decode cX11_ends 14 = .ok (.ireturn, 1) := by decide +kernel
theorem dX11_ends_15 : decode cX11_ends 15 = .ok (.aload_n 0, 1) := by decide +kernel
theorem dX11_ends_16 : decode cX11_ends 16 = .ok (.iload_n 1, 1) := by decide +kernel
theorem dX11_ends_17 : decode cX11_ends 17 = .ok (.aload_n 0, 1) := by decide +kernel
theorem dX11_ends_18 : decode cX11_ends 18 = .ok (.getfield 20, 3) := by decide +kernel
theorem dX11_ends_21 : decode cX11_ends 21 = .ok (.iconst 0, 1) := by decide +kernel
theorem dX11_ends_22 : decode cX11_ends 22 = .ok (.aload_n 0, 1) := by decide +kernel
theorem dX11_ends_23 : decode cX11_ends 23 = .ok (.getfield 138, 3) := by decide +kernel
theorem dX11_ends_26 : decode cX11_ends 26 = .ok (.iconst 0, 1) := by decide +kernel
theorem dX11_ends_27 : decode cX11_ends 27 = .ok (.invokevirtual 266, 3) := by decide +kernel
theorem dX11_ends_30 : decode cX11_ends 30 = .ok (.aload_n 0, 1) := by decide +kernel
theorem dX11_ends_31 : decode cX11_ends 31 = .ok (.invokevirtual 270, 3) := by decide +kernel
theorem dX11_ends_34 : decode cX11_ends 34 = .ok (.ireturn, 1) := by decide +kernel
abbrev mX11_ends : MI := (RX11, yX11_ends, cX11_ends, 2, (some .int))
theorem mok_X11_ends : MOKv mX11_ends 1 := ⟨⟨bm_1523, bm_127, ⟨by decide, by decide⟩, by decide +kernel⟩, bm_1521, bm_1522⟩
def f_X11_ends   (a0 : Nat) (x1 : Int32) (h : MH) : Option (Int32 × MH) :=
  lt (sI h a0 0 0) fun h_1 =>
  (f_X11_isNode a0 x1 h_1).bind fun q_2 =>
  if q_2.1 = 0 then
    some ((-1 : Int32), q_2.2)
  else
    (gR q_2.2 a0 5).bind fun a_3 =>
    (f_X11_goes a0 x1 a_3 0 (gI q_2.2 a0 6) 0 q_2.2).bind fun q_4 =>
    (f_X11_endOf a0 q_4).bind fun q_5 =>
    some (q_5.1, q_5.2)
set_option maxRecDepth 100000 in
set_option maxHeartbeats 4000000 in
theorem v_X11_ends {l : Launch} {G : GE} {B N : Nat} {S : List SHP} {o : Int32 × MH} {a0 : Nat} {x1 : Int32}    (hs0 : S[a0]? = some (.inl 11)) {h : MH} (hf : f_X11_ends a0 x1 h = some o) : V l G B N mX11_ends (rmm 131 0 0) false 0 0 (QI S o) S 0 0 0 [(0, .ref a0), (1, .int x1)] [] h := by
  unfold f_X11_ends at hf
  refine V_aload_n (pc' := 1) dX11_ends_0 rfl 0 rfl rfl ?_
  refine V_iconst (v := 0) (pc' := 2) dX11_ends_1 rfl (by decide) ?_
  refine V_putI (pc' := 5) 11 0 dX11_ends_2 rfl (by decide) (Nat.le_of_ble_eq_true rfl) bm_1224 hs0 (Or.inl rfl) rfl ?_
  refine V_nmH hf (fun h_1 hf => ?_)
  refine V_aload_n (pc' := 6) dX11_ends_5 rfl 0 rfl rfl ?_
  refine V_iload_n (pc' := 7) dX11_ends_6 rfl 1 rfl rfl ?_
  refine V_cvI (pc' := 10) (As := [.int x1]) (rest := []) dX11_ends_7 rfl mok_X11_isNode bm_1389 11 (by decide) rfl hs0 rfl rfl (Nat.le_of_ble_eq_true rfl) (by decide) hf (fun q e => ct_X11_isNode hs0 e) (fun q_2 hf => ?_)
  refine V_if_ne (tgt := 15) (pc' := 13) dX11_ends_10 (by decide) rfl hf (fun hf => ?_) (fun hf => ?_)
  ·
    refine V_iconst (v := (-1)) (pc' := 14) dX11_ends_13 rfl (by decide) ?_
    obtain rfl := Option.some.inj hf
    exact V_iret dX11_ends_14 rfl rfl rfl ⟨rfl, rfl, rfl⟩
  ·
    refine V_aload_n (pc' := 16) dX11_ends_15 rfl 0 rfl rfl ?_
    refine V_iload_n (pc' := 17) dX11_ends_16 rfl 1 rfl rfl ?_
    refine V_aload_n (pc' := 18) dX11_ends_17 rfl 0 rfl rfl ?_
    refine V_getR (pc' := 21) 11 5 dX11_ends_18 rfl (by decide) (Nat.le_of_ble_eq_true rfl) bm_1229 hs0 (fun _ _ _ => rfl) rfl hf (fun a_3 ha_3 hf => ?_)
    refine V_iconst (v := 0) (pc' := 22) dX11_ends_21 rfl (by decide) ?_
    refine V_aload_n (pc' := 23) dX11_ends_22 rfl 0 rfl rfl ?_
    refine V_getI (pc' := 26) 11 6 dX11_ends_23 rfl (by decide) (Nat.le_of_ble_eq_true rfl) bm_1230 hs0 (fun _ _ _ => rfl) ?_
    refine V_iconst (v := 0) (pc' := 27) dX11_ends_26 rfl (by decide) ?_
    refine V_cvV (pc' := 30) (As := [.int x1, .ref a_3, .int 0, .int (gI q_2.2 a0 6), .int 0]) (rest := []) dX11_ends_27 rfl mok_X11_goes bm_1524 11 (by decide) rfl hs0 rfl rfl (Nat.le_of_ble_eq_true rfl) (by decide) hf (fun q e => ct_X11_goes hs0 ha_3 e) (fun q_4 hf => ?_)
    refine V_aload_n (pc' := 31) dX11_ends_30 rfl 0 rfl rfl ?_
    refine V_cvI (pc' := 34) (As := []) (rest := []) dX11_ends_31 rfl mok_X11_endOf bm_1576 11 (by decide) rfl hs0 rfl rfl (Nat.le_of_ble_eq_true rfl) (by decide) hf (fun q e => ct_X11_endOf hs0 e) (fun q_5 hf => ?_)
    obtain rfl := Option.some.inj hf
    exact V_iret dX11_ends_34 rfl rfl rfl ⟨rfl, rfl, rfl⟩
theorem ct_X11_ends {l : Launch} {S : List SHP} {h : MH} {a0 : Nat} {x1 : Int32} (hs0 : S[a0]? = some (.inl 11)) {q : Int32 × MH} (hf : f_X11_ends a0 x1 h = some q) : CT l mX11_ends 131 false 0 0 S [.ref a0, .int x1] h (QI S q) :=
  CT_ofV (by decide) rfl (Nat.le_of_ble_eq_true rfl) (fun G B hT => v_X11_ends hs0 hf)
/-! LabelStacksModel.exact(I)I -/
theorem dX11_exact_0 : decode cX11_exact 0 = .ok (.aload_n 0, 1) := by decide +kernel
theorem dX11_exact_1 : decode cX11_exact 1 = .ok (.iconst 0, 1) := by decide +kernel
theorem dX11_exact_2 : decode cX11_exact 2 = .ok (.putfield 84, 3) := by decide +kernel
theorem dX11_exact_5 : decode cX11_exact 5 = .ok (.aload_n 0, 1) := by decide +kernel
theorem dX11_exact_6 : decode cX11_exact 6 = .ok (.iload_n 1, 1) := by decide +kernel
theorem dX11_exact_7 : decode cX11_exact 7 = .ok (.invokevirtual 116, 3) := by decide +kernel
theorem dX11_exact_10 : decode cX11_exact 10 = .ok (.ifCond .ne 5, 3) := by decide +kernel
theorem dX11_exact_13 : decode cX11_exact 13 = .ok (.iconst (-1), 1) := by decide +kernel
theorem dX11_exact_14 : decode cX11_exact 14 = .ok (.ireturn, 1) := by decide +kernel
theorem dX11_exact_15 : decode cX11_exact 15 = .ok (.aload_n 0, 1) := by decide +kernel
theorem dX11_exact_16 : decode cX11_exact 16 = .ok (.iload_n 1, 1) := by decide +kernel
theorem dX11_exact_17 : decode cX11_exact 17 = .ok (.aload_n 0, 1) := by decide +kernel
theorem dX11_exact_18 : decode cX11_exact 18 = .ok (.getfield 20, 3) := by decide +kernel
theorem dX11_exact_21 : decode cX11_exact 21 = .ok (.iconst 0, 1) := by decide +kernel
theorem dX11_exact_22 : decode cX11_exact 22 = .ok (.aload_n 0, 1) := by decide +kernel
theorem dX11_exact_23 : decode cX11_exact 23 = .ok (.getfield 138, 3) := by decide +kernel
theorem dX11_exact_26 : decode cX11_exact 26 = .ok (.iconst 0, 1) := by decide +kernel
theorem dX11_exact_27 : decode cX11_exact 27 = .ok (.invokevirtual 266, 3) := by decide +kernel
theorem dX11_exact_30 : decode cX11_exact 30 = .ok (.aload_n 0, 1) := by decide +kernel
theorem dX11_exact_31 : decode cX11_exact 31 = .ok (.getfield 217, 3) := by decide +kernel
theorem dX11_exact_34 : decode cX11_exact 34 = .ok (.ifCond .eq 7, 3) := by decide +kernel
theorem dX11_exact_37 : decode cX11_exact 37 = .ok (.iconst 1, 1) := by decide +kernel
theorem dX11_exact_38 : decode cX11_exact 38 = .ok (.goto 4, 3) := by decide +kernel
theorem dX11_exact_41 : decode cX11_exact 41 = .ok (.iconst 0, 1) := by decide +kernel
theorem dX11_exact_42 : decode cX11_exact 42 = .ok (.ireturn, 1) := by decide +kernel
abbrev mX11_exact : MI := (RX11, yX11_exact, cX11_exact, 2, (some .int))
theorem mok_X11_exact : MOKv mX11_exact 1 := ⟨⟨bm_1583, bm_127, ⟨by decide, by decide⟩, by decide +kernel⟩, bm_1581, bm_1582⟩
def f_X11_exact   (a0 : Nat) (x1 : Int32) (h : MH) : Option (Int32 × MH) :=
  lt (sI h a0 0 0) fun h_1 =>
  (f_X11_isNode a0 x1 h_1).bind fun q_2 =>
  if q_2.1 = 0 then
    some ((-1 : Int32), q_2.2)
  else
    (gR q_2.2 a0 5).bind fun a_3 =>
    (f_X11_goes a0 x1 a_3 0 (gI q_2.2 a0 6) 0 q_2.2).bind fun q_4 =>
    if (gI q_4 a0 17) = 0 then
      some (0, q_4)
    else
      some (1, q_4)
set_option maxRecDepth 100000 in
set_option maxHeartbeats 4000000 in
theorem v_X11_exact {l : Launch} {G : GE} {B N : Nat} {S : List SHP} {o : Int32 × MH} {a0 : Nat} {x1 : Int32}    (hs0 : S[a0]? = some (.inl 11)) {h : MH} (hf : f_X11_exact a0 x1 h = some o) : V l G B N mX11_exact (rmm 131 0 0) false 0 0 (QI S o) S 0 0 0 [(0, .ref a0), (1, .int x1)] [] h := by
  unfold f_X11_exact at hf
  refine V_aload_n (pc' := 1) dX11_exact_0 rfl 0 rfl rfl ?_
  refine V_iconst (v := 0) (pc' := 2) dX11_exact_1 rfl (by decide) ?_
  refine V_putI (pc' := 5) 11 0 dX11_exact_2 rfl (by decide) (Nat.le_of_ble_eq_true rfl) bm_1224 hs0 (Or.inl rfl) rfl ?_
  refine V_nmH hf (fun h_1 hf => ?_)
  refine V_aload_n (pc' := 6) dX11_exact_5 rfl 0 rfl rfl ?_
  refine V_iload_n (pc' := 7) dX11_exact_6 rfl 1 rfl rfl ?_
  refine V_cvI (pc' := 10) (As := [.int x1]) (rest := []) dX11_exact_7 rfl mok_X11_isNode bm_1389 11 (by decide) rfl hs0 rfl rfl (Nat.le_of_ble_eq_true rfl) (by decide) hf (fun q e => ct_X11_isNode hs0 e) (fun q_2 hf => ?_)
  refine V_if_ne (tgt := 15) (pc' := 13) dX11_exact_10 (by decide) rfl hf (fun hf => ?_) (fun hf => ?_)
  ·
    refine V_iconst (v := (-1)) (pc' := 14) dX11_exact_13 rfl (by decide) ?_
    obtain rfl := Option.some.inj hf
    exact V_iret dX11_exact_14 rfl rfl rfl ⟨rfl, rfl, rfl⟩
  ·
    refine V_aload_n (pc' := 16) dX11_exact_15 rfl 0 rfl rfl ?_
    refine V_iload_n (pc' := 17) dX11_exact_16 rfl 1 rfl rfl ?_
    refine V_aload_n (pc' := 18) dX11_exact_17 rfl 0 rfl rfl ?_
    refine V_getR (pc' := 21) 11 5 dX11_exact_18 rfl (by decide) (Nat.le_of_ble_eq_true rfl) bm_1229 hs0 (fun _ _ _ => rfl) rfl hf (fun a_3 ha_3 hf => ?_)
    refine V_iconst (v := 0) (pc' := 22) dX11_exact_21 rfl (by decide) ?_
    refine V_aload_n (pc' := 23) dX11_exact_22 rfl 0 rfl rfl ?_
    refine V_getI (pc' := 26) 11 6 dX11_exact_23 rfl (by decide) (Nat.le_of_ble_eq_true rfl) bm_1230 hs0 (fun _ _ _ => rfl) ?_
    refine V_iconst (v := 0) (pc' := 27) dX11_exact_26 rfl (by decide) ?_
    refine V_cvV (pc' := 30) (As := [.int x1, .ref a_3, .int 0, .int (gI q_2.2 a0 6), .int 0]) (rest := []) dX11_exact_27 rfl mok_X11_goes bm_1524 11 (by decide) rfl hs0 rfl rfl (Nat.le_of_ble_eq_true rfl) (by decide) hf (fun q e => ct_X11_goes hs0 ha_3 e) (fun q_4 hf => ?_)
    refine V_aload_n (pc' := 31) dX11_exact_30 rfl 0 rfl rfl ?_
    refine V_getI (pc' := 34) 11 17 dX11_exact_31 rfl (by decide) (Nat.le_of_ble_eq_true rfl) bm_1241 hs0 (fun _ _ _ => rfl) ?_
    refine V_if_eq (tgt := 41) (pc' := 37) dX11_exact_34 (by decide) rfl hf (fun hf => ?_) (fun hf => ?_)
    ·
      refine V_iconst (v := 0) (pc' := 42) dX11_exact_41 rfl (by decide) ?_
      obtain rfl := Option.some.inj hf
      exact V_iret dX11_exact_42 rfl rfl rfl ⟨rfl, rfl, rfl⟩
    ·
      refine V_iconst (v := 1) (pc' := 38) dX11_exact_37 rfl (by decide) ?_
      refine V_goto (tgt := 42) dX11_exact_38 (by decide) ?_
      obtain rfl := Option.some.inj hf
      exact V_iret dX11_exact_42 rfl rfl rfl ⟨rfl, rfl, rfl⟩
theorem ct_X11_exact {l : Launch} {S : List SHP} {h : MH} {a0 : Nat} {x1 : Int32} (hs0 : S[a0]? = some (.inl 11)) {q : Int32 × MH} (hf : f_X11_exact a0 x1 h = some q) : CT l mX11_exact 131 false 0 0 S [.ref a0, .int x1] h (QI S q) :=
  CT_ofV (by decide) rfl (Nat.le_of_ble_eq_true rfl) (fun G B hT => v_X11_exact hs0 hf)
/-! LabelStacksModel.high(I)I -/
theorem dX11_high_0 : decode cX11_high 0 = .ok (.aload_n 0, 1) := by decide +kernel
theorem dX11_high_1 : decode cX11_high 1 = .ok (.iconst 0, 1) := by decide +kernel
theorem dX11_high_2 : decode cX11_high 2 = .ok (.putfield 84, 3) := by decide +kernel
theorem dX11_high_5 : decode cX11_high 5 = .ok (.aload_n 0, 1) := by decide +kernel
theorem dX11_high_6 : decode cX11_high 6 = .ok (.iload_n 1, 1) := by decide +kernel
theorem dX11_high_7 : decode cX11_high 7 = .ok (.invokevirtual 116, 3) := by decide +kernel
theorem dX11_high_10 : decode cX11_high 10 = .ok (.ifCond .ne 5, 3) := by decide +kernel
theorem dX11_high_13 : decode cX11_high 13 = .ok (.iconst (-1), 1) := by decide +kernel
theorem dX11_high_14 : decode cX11_high 14 = .ok (.ireturn, 1) := by decide +kernel
theorem dX11_high_15 : decode cX11_high 15 = .ok (.aload_n 0, 1) := by decide +kernel
theorem dX11_high_16 : decode cX11_high 16 = .ok (.iload_n 1, 1) := by decide +kernel
theorem dX11_high_17 : decode cX11_high 17 = .ok (.aload_n 0, 1) := by decide +kernel
theorem dX11_high_18 : decode cX11_high 18 = .ok (.getfield 20, 3) := by decide +kernel
theorem dX11_high_21 : decode cX11_high 21 = .ok (.iconst 0, 1) := by decide +kernel
theorem dX11_high_22 : decode cX11_high 22 = .ok (.aload_n 0, 1) := by decide +kernel
theorem dX11_high_23 : decode cX11_high 23 = .ok (.getfield 138, 3) := by decide +kernel
theorem dX11_high_26 : decode cX11_high 26 = .ok (.iconst 0, 1) := by decide +kernel
theorem dX11_high_27 : decode cX11_high 27 = .ok (.invokevirtual 266, 3) := by decide +kernel
theorem dX11_high_30 : decode cX11_high 30 = .ok (.aload_n 0, 1) := by decide +kernel
theorem dX11_high_31 : decode cX11_high 31 = .ok (.getfield 220, 3) := by decide +kernel
theorem dX11_high_34 : decode cX11_high 34 = .ok (.ireturn, 1) := by decide +kernel
abbrev mX11_high : MI := (RX11, yX11_high, cX11_high, 2, (some .int))
theorem mok_X11_high : MOKv mX11_high 1 := ⟨⟨bm_1587, bm_127, ⟨by decide, by decide⟩, by decide +kernel⟩, bm_1585, bm_1586⟩
def f_X11_high   (a0 : Nat) (x1 : Int32) (h : MH) : Option (Int32 × MH) :=
  lt (sI h a0 0 0) fun h_1 =>
  (f_X11_isNode a0 x1 h_1).bind fun q_2 =>
  if q_2.1 = 0 then
    some ((-1 : Int32), q_2.2)
  else
    (gR q_2.2 a0 5).bind fun a_3 =>
    (f_X11_goes a0 x1 a_3 0 (gI q_2.2 a0 6) 0 q_2.2).bind fun q_4 =>
    some ((gI q_4 a0 18), q_4)
set_option maxRecDepth 100000 in
set_option maxHeartbeats 4000000 in
theorem v_X11_high {l : Launch} {G : GE} {B N : Nat} {S : List SHP} {o : Int32 × MH} {a0 : Nat} {x1 : Int32}    (hs0 : S[a0]? = some (.inl 11)) {h : MH} (hf : f_X11_high a0 x1 h = some o) : V l G B N mX11_high (rmm 131 0 0) false 0 0 (QI S o) S 0 0 0 [(0, .ref a0), (1, .int x1)] [] h := by
  unfold f_X11_high at hf
  refine V_aload_n (pc' := 1) dX11_high_0 rfl 0 rfl rfl ?_
  refine V_iconst (v := 0) (pc' := 2) dX11_high_1 rfl (by decide) ?_
  refine V_putI (pc' := 5) 11 0 dX11_high_2 rfl (by decide) (Nat.le_of_ble_eq_true rfl) bm_1224 hs0 (Or.inl rfl) rfl ?_
  refine V_nmH hf (fun h_1 hf => ?_)
  refine V_aload_n (pc' := 6) dX11_high_5 rfl 0 rfl rfl ?_
  refine V_iload_n (pc' := 7) dX11_high_6 rfl 1 rfl rfl ?_
  refine V_cvI (pc' := 10) (As := [.int x1]) (rest := []) dX11_high_7 rfl mok_X11_isNode bm_1389 11 (by decide) rfl hs0 rfl rfl (Nat.le_of_ble_eq_true rfl) (by decide) hf (fun q e => ct_X11_isNode hs0 e) (fun q_2 hf => ?_)
  refine V_if_ne (tgt := 15) (pc' := 13) dX11_high_10 (by decide) rfl hf (fun hf => ?_) (fun hf => ?_)
  ·
    refine V_iconst (v := (-1)) (pc' := 14) dX11_high_13 rfl (by decide) ?_
    obtain rfl := Option.some.inj hf
    exact V_iret dX11_high_14 rfl rfl rfl ⟨rfl, rfl, rfl⟩
  ·
    refine V_aload_n (pc' := 16) dX11_high_15 rfl 0 rfl rfl ?_
    refine V_iload_n (pc' := 17) dX11_high_16 rfl 1 rfl rfl ?_
    refine V_aload_n (pc' := 18) dX11_high_17 rfl 0 rfl rfl ?_
    refine V_getR (pc' := 21) 11 5 dX11_high_18 rfl (by decide) (Nat.le_of_ble_eq_true rfl) bm_1229 hs0 (fun _ _ _ => rfl) rfl hf (fun a_3 ha_3 hf => ?_)
    refine V_iconst (v := 0) (pc' := 22) dX11_high_21 rfl (by decide) ?_
    refine V_aload_n (pc' := 23) dX11_high_22 rfl 0 rfl rfl ?_
    refine V_getI (pc' := 26) 11 6 dX11_high_23 rfl (by decide) (Nat.le_of_ble_eq_true rfl) bm_1230 hs0 (fun _ _ _ => rfl) ?_
    refine V_iconst (v := 0) (pc' := 27) dX11_high_26 rfl (by decide) ?_
    refine V_cvV (pc' := 30) (As := [.int x1, .ref a_3, .int 0, .int (gI q_2.2 a0 6), .int 0]) (rest := []) dX11_high_27 rfl mok_X11_goes bm_1524 11 (by decide) rfl hs0 rfl rfl (Nat.le_of_ble_eq_true rfl) (by decide) hf (fun q e => ct_X11_goes hs0 ha_3 e) (fun q_4 hf => ?_)
    refine V_aload_n (pc' := 31) dX11_high_30 rfl 0 rfl rfl ?_
    refine V_getI (pc' := 34) 11 18 dX11_high_31 rfl (by decide) (Nat.le_of_ble_eq_true rfl) bm_1242 hs0 (fun _ _ _ => rfl) ?_
    obtain rfl := Option.some.inj hf
    exact V_iret dX11_high_34 rfl rfl rfl ⟨rfl, rfl, rfl⟩
theorem ct_X11_high {l : Launch} {S : List SHP} {h : MH} {a0 : Nat} {x1 : Int32} (hs0 : S[a0]? = some (.inl 11)) {q : Int32 × MH} (hf : f_X11_high a0 x1 h = some q) : CT l mX11_high 131 false 0 0 S [.ref a0, .int x1] h (QI S q) :=
  CT_ofV (by decide) rfl (Nat.le_of_ble_eq_true rfl) (fun G B hT => v_X11_high hs0 hf)
/-! LabelStacksModel.course(I)I -/
theorem dX11_course_0 : decode cX11_course 0 = .ok (.aload_n 0, 1) := by decide +kernel
theorem dX11_course_1 : decode cX11_course 1 = .ok (.iconst 0, 1) := by decide +kernel
theorem dX11_course_2 : decode cX11_course 2 = .ok (.putfield 84, 3) := by decide +kernel
theorem dX11_course_5 : decode cX11_course 5 = .ok (.aload_n 0, 1) := by decide +kernel
theorem dX11_course_6 : decode cX11_course 6 = .ok (.iload_n 1, 1) := by decide +kernel
theorem dX11_course_7 : decode cX11_course 7 = .ok (.invokevirtual 116, 3) := by decide +kernel
theorem dX11_course_10 : decode cX11_course 10 = .ok (.ifCond .ne 5, 3) := by decide +kernel
theorem dX11_course_13 : decode cX11_course 13 = .ok (.iconst (-1), 1) := by decide +kernel
theorem dX11_course_14 : decode cX11_course 14 = .ok (.ireturn, 1) := by decide +kernel
theorem dX11_course_15 : decode cX11_course 15 = .ok (.aload_n 0, 1) := by decide +kernel
theorem dX11_course_16 : decode cX11_course 16 = .ok (.iload_n 1, 1) := by decide +kernel
theorem dX11_course_17 : decode cX11_course 17 = .ok (.aload_n 0, 1) := by decide +kernel
theorem dX11_course_18 : decode cX11_course 18 = .ok (.getfield 20, 3) := by decide +kernel
theorem dX11_course_21 : decode cX11_course 21 = .ok (.iconst 0, 1) := by decide +kernel
theorem dX11_course_22 : decode cX11_course 22 = .ok (.aload_n 0, 1) := by decide +kernel
theorem dX11_course_23 : decode cX11_course 23 = .ok (.getfield 138, 3) := by decide +kernel
theorem dX11_course_26 : decode cX11_course 26 = .ok (.iconst 0, 1) := by decide +kernel
theorem dX11_course_27 : decode cX11_course 27 = .ok (.invokevirtual 266, 3) := by decide +kernel
theorem dX11_course_30 : decode cX11_course 30 = .ok (.aload_n 0, 1) := by decide +kernel
theorem dX11_course_31 : decode cX11_course 31 = .ok (.getfield 217, 3) := by decide +kernel
theorem dX11_course_34 : decode cX11_course 34 = .ok (.ifCond .eq 19, 3) := by decide +kernel
theorem dX11_course_37 : decode cX11_course 37 = .ok (.aload_n 0, 1) := by decide +kernel
theorem dX11_course_38 : decode cX11_course 38 = .ok (.aload_n 0, 1) := by decide +kernel
theorem dX11_course_39 : decode cX11_course 39 = .ok (.getfield 223, 3) := by decide +kernel
theorem dX11_course_42 : decode cX11_course 42 = .ok (.i2l, 1) := by decide +kernel
theorem dX11_course_43 : decode cX11_course 43 = .ok (.lconst 1, 1) := by decide +kernel
theorem dX11_course_44 : decode cX11_course 44 = .ok (.ldc2_w 273, 3) := by decide +kernel
theorem dX11_course_47 : decode cX11_course 47 = .ok (.invokevirtual 91, 3) := by decide +kernel
theorem dX11_course_50 : decode cX11_course 50 = .ok (.ifCond .ne 5, 3) := by decide +kernel
theorem dX11_course_53 : decode cX11_course 53 = .ok (.iconst (-1), 1) := by decide +kernel
theorem dX11_course_54 : decode cX11_course 54 = .ok (.ireturn, 1) := by decide +kernel
theorem dX11_course_55 : decode cX11_course 55 = .ok (.iconst 0, 1) := by decide +kernel
theorem dX11_course_56 : decode cX11_course 56 = .ok (.istore_n 2, 1) := by decide +kernel
theorem dX11_course_57 : decode cX11_course 57 = .ok (.iload_n 2, 1) := by decide +kernel
theorem dX11_course_58 : decode cX11_course 58 = .ok (.aload_n 0, 1) := by decide +kernel
theorem dX11_course_59 : decode cX11_course 59 = .ok (.getfield 223, 3) := by decide +kernel
theorem dX11_course_62 : decode cX11_course 62 = .ok (.if_icmp .ge 25, 3) := by decide +kernel
theorem dX11_course_65 : decode cX11_course 65 = .ok (.aload_n 0, 1) := by decide +kernel
theorem dX11_course_66 : decode cX11_course 66 = .ok (.getfield 7, 3) := by decide +kernel
theorem dX11_course_69 : decode cX11_course 69 = .ok (.sipush 496, 3) := by decide +kernel
theorem dX11_course_72 : decode cX11_course 72 = .ok (.iload_n 2, 1) := by decide +kernel
theorem dX11_course_73 : decode cX11_course 73 = .ok (.iadd, 1) := by decide +kernel
theorem dX11_course_74 : decode cX11_course 74 = .ok (.aload_n 0, 1) := by decide +kernel
theorem dX11_course_75 : decode cX11_course 75 = .ok (.getfield 33, 3) := by decide +kernel
theorem dX11_course_78 : decode cX11_course 78 = .ok (.iload_n 2, 1) := by decide +kernel
theorem dX11_course_79 : decode cX11_course 79 = .ok (.iaload, 1) := by decide +kernel
theorem dX11_course_80 : decode cX11_course 80 = .ok (.iastore, 1) := by decide +kernel
theorem dX11_course_81 : decode cX11_course 81 = .ok (.iinc 2 1, 3) := by decide +kernel
theorem dX11_course_84 : decode cX11_course 84 = .ok (.goto (-27), 3) := by decide +kernel
theorem dX11_course_87 : decode cX11_course 87 = .ok (.aload_n 0, 1) := by decide +kernel
theorem dX11_course_88 : decode cX11_course 88 = .ok (.getfield 7, 3) := by decide +kernel
theorem dX11_course_91 : decode cX11_course 91 = .ok (.sipush 495, 3) := by decide +kernel
theorem dX11_course_94 : decode cX11_course 94 = .ok (.aload_n 0, 1) := by decide +kernel
theorem dX11_course_95 : decode cX11_course 95 = .ok (.getfield 223, 3) := by decide +kernel
theorem dX11_course_98 : decode cX11_course 98 = .ok (.iastore, 1) := by decide +kernel
theorem dX11_course_99 : decode cX11_course 99 = .ok (.aload_n 0, 1) := by decide +kernel
theorem dX11_course_100 : decode cX11_course 100 = .ok (.getfield 223, 3) := by decide +kernel
theorem dX11_course_103 : decode cX11_course 103 = .ok (.ireturn, 1) := by decide +kernel
abbrev mX11_course : MI := (RX11, yX11_course, cX11_course, 3, (some .int))
theorem mok_X11_course : MOKv mX11_course 1 := ⟨⟨bm_1591, bm_127, ⟨by decide, by decide⟩, by decide +kernel⟩, bm_1589, bm_1590⟩
def f_X11_course_57b   (a0 : Nat) (k57 : Int32 → MH → Option (Int32 × MH)) (p : Int32) (h : MH) : Option (Int32 × MH) :=
  if p < (gI h a0 20) then
    (gR h a0 1).bind fun a_1 =>
    (gR h a0 19).bind fun a_2 =>
    (ldI h a_2 p).bind fun x_3 =>
    (stI h a_1 (496 + p) x_3).bind fun h_4 =>
    k57 (p + 1) h_4
  else
    (gR h a0 1).bind fun a_5 =>
    (stI h a_5 495 (gI h a0 20)).bind fun h_6 =>
    some ((gI h_6 a0 20), h_6)
def f_X11_course_57   (a0 : Nat) : Nat → Int32 → MH → Option (Int32 × MH) := lp (f_X11_course_57b a0)
def f_X11_course   (a0 : Nat) (x1 : Int32) (h : MH) : Option (Int32 × MH) :=
  lt (sI h a0 0 0) fun h_1 =>
  (f_X11_isNode a0 x1 h_1).bind fun q_2 =>
  if q_2.1 = 0 then
    some ((-1 : Int32), q_2.2)
  else
    (gR q_2.2 a0 5).bind fun a_3 =>
    (f_X11_goes a0 x1 a_3 0 (gI q_2.2 a0 6) 0 q_2.2).bind fun q_4 =>
    if (gI q_4 a0 17) = 0 then
      some ((-1 : Int32), q_4)
    else
      (f_X11_isIn a0 (Int32.toInt64 (gI q_4 a0 20)) 1 16 q_4).bind fun q_5 =>
      if q_5.1 = 0 then
        some ((-1 : Int32), q_5.2)
      else
        f_X11_course_57 a0 FU 0 q_5.2
set_option maxRecDepth 100000 in
set_option maxHeartbeats 4000000 in
theorem v_X11_course_57b {l : Launch} {G : GE} {B N : Nat} {S : List SHP} {o : Int32 × MH} {a0 : Nat}    (hs0 : S[a0]? = some (.inl 11)) {k57 : Int32 → MH → Option (Int32 × MH)} (hk57 : ∀ (p : Int32) (h : MH), k57 p h = some o → V l G B N mX11_course (rmm 131 0 0) false 0 0 (QI S o) S 0 0 57 [(0, .ref a0), (2, .int p)] [] h) {p : Int32} {h : MH} (hf : f_X11_course_57b a0 k57 p h = some o) : V l G B N mX11_course (rmm 131 0 0) false 0 0 (QI S o) S 0 0 57 [(0, .ref a0), (2, .int p)] [] h := by
  unfold f_X11_course_57b at hf
  refine V_iload_n (pc' := 58) dX11_course_57 rfl 1 rfl rfl ?_
  refine V_aload_n (pc' := 59) dX11_course_58 rfl 0 rfl rfl ?_
  refine V_getI (pc' := 62) 11 20 dX11_course_59 rfl (by decide) (Nat.le_of_ble_eq_true rfl) bm_1244 hs0 (fun _ _ _ => rfl) ?_
  refine V_icmp_ge (tgt := 87) (pc' := 65) dX11_course_62 (by decide) rfl hf (fun hf => ?_) (fun hf => ?_)
  ·
    refine V_aload_n (pc' := 66) dX11_course_65 rfl 0 rfl rfl ?_
    refine V_getR (pc' := 69) 11 1 dX11_course_66 rfl (by decide) (Nat.le_of_ble_eq_true rfl) bm_1225 hs0 (fun _ _ _ => rfl) rfl hf (fun a_1 ha_1 hf => ?_)
    refine V_sipush (v := 496) (pc' := 72) dX11_course_69 rfl (by decide) ?_
    refine V_iload_n (pc' := 73) dX11_course_72 rfl 1 rfl rfl ?_
    refine V_iadd (pc' := 74) dX11_course_73 rfl ?_
    refine V_aload_n (pc' := 75) dX11_course_74 rfl 0 rfl rfl ?_
    refine V_getR (pc' := 78) 11 19 dX11_course_75 rfl (by decide) (Nat.le_of_ble_eq_true rfl) bm_1243 hs0 (fun _ _ _ => rfl) rfl hf (fun a_2 ha_2 hf => ?_)
    refine V_iload_n (pc' := 79) dX11_course_78 rfl 1 rfl rfl ?_
    refine V_iald (pc' := 80) dX11_course_79 rfl ha_2 hf (fun x_3 hf => ?_)
    refine V_iast (pc' := 81) dX11_course_80 rfl ha_1 hf (fun h_4 hf => ?_)
    refine V_iinc (v := (p + 1)) (lv' := [(2, .int (p + 1)), (0, .ref a0)]) (pc' := 84) dX11_course_81 rfl 1 rfl rfl (Nat.le_of_ble_eq_true rfl) rfl ?_
    refine V_goto (tgt := 57) dX11_course_84 (by decide) ?_
    exact V_sub (lv' := [(0, .ref a0), (2, .int (p + 1))]) [1, 0] rfl (hk57 (p + 1) h_4 hf)
  ·
    refine V_aload_n (pc' := 88) dX11_course_87 rfl 0 rfl rfl ?_
    refine V_getR (pc' := 91) 11 1 dX11_course_88 rfl (by decide) (Nat.le_of_ble_eq_true rfl) bm_1225 hs0 (fun _ _ _ => rfl) rfl hf (fun a_5 ha_5 hf => ?_)
    refine V_sipush (v := 495) (pc' := 94) dX11_course_91 rfl (by decide) ?_
    refine V_aload_n (pc' := 95) dX11_course_94 rfl 0 rfl rfl ?_
    refine V_getI (pc' := 98) 11 20 dX11_course_95 rfl (by decide) (Nat.le_of_ble_eq_true rfl) bm_1244 hs0 (fun _ _ _ => rfl) ?_
    refine V_iast (pc' := 99) dX11_course_98 rfl ha_5 hf (fun h_6 hf => ?_)
    refine V_aload_n (pc' := 100) dX11_course_99 rfl 0 rfl rfl ?_
    refine V_getI (pc' := 103) 11 20 dX11_course_100 rfl (by decide) (Nat.le_of_ble_eq_true rfl) bm_1244 hs0 (fun _ _ _ => rfl) ?_
    obtain rfl := Option.some.inj hf
    exact V_iret dX11_course_103 rfl rfl rfl ⟨rfl, rfl, rfl⟩
theorem v_X11_course_57 {l : Launch} {G : GE} {B N : Nat} {S : List SHP} {o : Int32 × MH} {a0 : Nat}    (hs0 : S[a0]? = some (.inl 11)) {n : Nat} {p : Int32} {h : MH} (hf : f_X11_course_57 a0 n p h = some o) : V l G B N mX11_course (rmm 131 0 0) false 0 0 (QI S o) S 0 0 57 [(0, .ref a0), (2, .int p)] [] h :=
  V_lp (VV := fun p h => V l G B N mX11_course (rmm 131 0 0) false 0 0 (QI S o) S 0 0 57 [(0, .ref a0), (2, .int p)] [] h) (fun _ hk _ _ hf => v_X11_course_57b hs0 hk hf) n p h hf
set_option maxRecDepth 100000 in
set_option maxHeartbeats 4000000 in
theorem v_X11_course {l : Launch} {G : GE} {B N : Nat} {S : List SHP} {o : Int32 × MH} {a0 : Nat} {x1 : Int32}    (hs0 : S[a0]? = some (.inl 11)) {h : MH} (hf : f_X11_course a0 x1 h = some o) : V l G B N mX11_course (rmm 131 0 0) false 0 0 (QI S o) S 0 0 0 [(0, .ref a0), (1, .int x1)] [] h := by
  unfold f_X11_course at hf
  refine V_aload_n (pc' := 1) dX11_course_0 rfl 0 rfl rfl ?_
  refine V_iconst (v := 0) (pc' := 2) dX11_course_1 rfl (by decide) ?_
  refine V_putI (pc' := 5) 11 0 dX11_course_2 rfl (by decide) (Nat.le_of_ble_eq_true rfl) bm_1224 hs0 (Or.inl rfl) rfl ?_
  refine V_nmH hf (fun h_1 hf => ?_)
  refine V_aload_n (pc' := 6) dX11_course_5 rfl 0 rfl rfl ?_
  refine V_iload_n (pc' := 7) dX11_course_6 rfl 1 rfl rfl ?_
  refine V_cvI (pc' := 10) (As := [.int x1]) (rest := []) dX11_course_7 rfl mok_X11_isNode bm_1389 11 (by decide) rfl hs0 rfl rfl (Nat.le_of_ble_eq_true rfl) (by decide) hf (fun q e => ct_X11_isNode hs0 e) (fun q_2 hf => ?_)
  refine V_if_ne (tgt := 15) (pc' := 13) dX11_course_10 (by decide) rfl hf (fun hf => ?_) (fun hf => ?_)
  ·
    refine V_iconst (v := (-1)) (pc' := 14) dX11_course_13 rfl (by decide) ?_
    obtain rfl := Option.some.inj hf
    exact V_iret dX11_course_14 rfl rfl rfl ⟨rfl, rfl, rfl⟩
  ·
    refine V_aload_n (pc' := 16) dX11_course_15 rfl 0 rfl rfl ?_
    refine V_iload_n (pc' := 17) dX11_course_16 rfl 1 rfl rfl ?_
    refine V_aload_n (pc' := 18) dX11_course_17 rfl 0 rfl rfl ?_
    refine V_getR (pc' := 21) 11 5 dX11_course_18 rfl (by decide) (Nat.le_of_ble_eq_true rfl) bm_1229 hs0 (fun _ _ _ => rfl) rfl hf (fun a_3 ha_3 hf => ?_)
    refine V_iconst (v := 0) (pc' := 22) dX11_course_21 rfl (by decide) ?_
    refine V_aload_n (pc' := 23) dX11_course_22 rfl 0 rfl rfl ?_
    refine V_getI (pc' := 26) 11 6 dX11_course_23 rfl (by decide) (Nat.le_of_ble_eq_true rfl) bm_1230 hs0 (fun _ _ _ => rfl) ?_
    refine V_iconst (v := 0) (pc' := 27) dX11_course_26 rfl (by decide) ?_
    refine V_cvV (pc' := 30) (As := [.int x1, .ref a_3, .int 0, .int (gI q_2.2 a0 6), .int 0]) (rest := []) dX11_course_27 rfl mok_X11_goes bm_1524 11 (by decide) rfl hs0 rfl rfl (Nat.le_of_ble_eq_true rfl) (by decide) hf (fun q e => ct_X11_goes hs0 ha_3 e) (fun q_4 hf => ?_)
    refine V_aload_n (pc' := 31) dX11_course_30 rfl 0 rfl rfl ?_
    refine V_getI (pc' := 34) 11 17 dX11_course_31 rfl (by decide) (Nat.le_of_ble_eq_true rfl) bm_1241 hs0 (fun _ _ _ => rfl) ?_
    refine V_if_eq (tgt := 53) (pc' := 37) dX11_course_34 (by decide) rfl hf (fun hf => ?_) (fun hf => ?_)
    ·
      refine V_iconst (v := (-1)) (pc' := 54) dX11_course_53 rfl (by decide) ?_
      obtain rfl := Option.some.inj hf
      exact V_iret dX11_course_54 rfl rfl rfl ⟨rfl, rfl, rfl⟩
    ·
      refine V_aload_n (pc' := 38) dX11_course_37 rfl 0 rfl rfl ?_
      refine V_aload_n (pc' := 39) dX11_course_38 rfl 0 rfl rfl ?_
      refine V_getI (pc' := 42) 11 20 dX11_course_39 rfl (by decide) (Nat.le_of_ble_eq_true rfl) bm_1244 hs0 (fun _ _ _ => rfl) ?_
      refine V_i2l (pc' := 43) dX11_course_42 rfl ?_
      refine V_lconst (v := 1) (pc' := 44) dX11_course_43 rfl (by decide) ?_
      refine V_ldc2 (v := 16) (pc' := 47) dX11_course_44 rfl bm_1592 ?_
      refine V_cvI (pc' := 50) (As := [.long (Int32.toInt64 (gI q_4 a0 20)), .long 1, .long 16]) (rest := []) dX11_course_47 rfl mok_X11_isIn bm_1373 11 (by decide) rfl hs0 rfl rfl (Nat.le_of_ble_eq_true rfl) (by decide) hf (fun q e => ct_X11_isIn hs0 e) (fun q_5 hf => ?_)
      refine V_if_ne (tgt := 55) (pc' := 53) dX11_course_50 (by decide) rfl hf (fun hf => ?_) (fun hf => ?_)
      ·
        refine V_iconst (v := (-1)) (pc' := 54) dX11_course_53 rfl (by decide) ?_
        obtain rfl := Option.some.inj hf
        exact V_iret dX11_course_54 rfl rfl rfl ⟨rfl, rfl, rfl⟩
      ·
        refine V_iconst (v := 0) (pc' := 56) dX11_course_55 rfl (by decide) ?_
        refine V_istore_n (lv' := [(2, .int 0), (0, .ref a0), (1, .int x1)]) (pc' := 57) dX11_course_56 rfl rfl (Nat.le_of_ble_eq_true rfl) rfl ?_
        exact V_sub (lv' := [(0, .ref a0), (2, .int 0)]) [1, 0] rfl (v_X11_course_57 hs0 hf)
theorem ct_X11_course {l : Launch} {S : List SHP} {h : MH} {a0 : Nat} {x1 : Int32} (hs0 : S[a0]? = some (.inl 11)) {q : Int32 × MH} (hf : f_X11_course a0 x1 h = some q) : CT l mX11_course 131 false 0 0 S [.ref a0, .int x1] h (QI S q) :=
  CT_ofV (by decide) rfl (Nat.le_of_ble_eq_true rfl) (fun G B hT => v_X11_course hs0 hf)
/-! LabelStacksModel.share(III)J -/
theorem dX11_share_0 : decode cX11_share 0 = .ok (.aload_n 0, 1) := by decide +kernel
theorem dX11_share_1 : decode cX11_share 1 = .ok (.iconst 0, 1) := by decide +kernel
theorem dX11_share_2 : decode cX11_share 2 = .ok (.putfield 84, 3) := by decide +kernel
theorem dX11_share_5 : decode cX11_share 5 = .ok (.aload_n 0, 1) := by decide +kernel
theorem dX11_share_6 : decode cX11_share 6 = .ok (.iload_n 1, 1) := by decide +kernel
theorem dX11_share_7 : decode cX11_share 7 = .ok (.invokevirtual 116, 3) := by decide +kernel
theorem dX11_share_10 : decode cX11_share 10 = .ok (.ifCond .eq 22, 3) := by decide +kernel
theorem dX11_share_13 : decode cX11_share 13 = .ok (.aload_n 0, 1) := by decide +kernel
theorem dX11_share_14 : decode cX11_share 14 = .ok (.iload_n 2, 1) := by decide +kernel
theorem dX11_share_15 : decode cX11_share 15 = .ok (.invokevirtual 126, 3) := by decide +kernel
theorem dX11_share_18 : decode cX11_share 18 = .ok (.ifCond .eq 14, 3) := by decide +kernel
theorem dX11_share_21 : decode cX11_share 21 = .ok (.aload_n 0, 1) := by decide +kernel
theorem dX11_share_22 : decode cX11_share 22 = .ok (.iload_n 3, 1) := by decide +kernel
theorem dX11_share_23 : decode cX11_share 23 = .ok (.i2l, 1) := by decide +kernel
theorem dX11_share_24 : decode cX11_share 24 = .ok (.lconst 0, 1) := by decide +kernel
theorem dX11_share_25 : decode cX11_share 25 = .ok (.lconst 1, 1) := by decide +kernel
theorem dX11_share_26 : decode cX11_share 26 = .ok (.invokevirtual 91, 3) := by decide +kernel
theorem dX11_share_29 : decode cX11_share 29 = .ok (.ifCond .ne 7, 3) := by decide +kernel
theorem dX11_share_32 : decode cX11_share 32 = .ok (.ldc2_w 192, 3) := by decide +kernel
theorem dX11_share_35 : decode cX11_share 35 = .ok (.lreturn, 1) := by decide +kernel
theorem dX11_share_36 : decode cX11_share 36 = .ok (.aload_n 0, 1) := by decide +kernel
theorem dX11_share_37 : decode cX11_share 37 = .ok (.iload_n 1, 1) := by decide +kernel
theorem dX11_share_38 : decode cX11_share 38 = .ok (.aload_n 0, 1) := by decide +kernel
theorem dX11_share_39 : decode cX11_share 39 = .ok (.getfield 20, 3) := by decide +kernel
theorem dX11_share_42 : decode cX11_share 42 = .ok (.iconst 0, 1) := by decide +kernel
theorem dX11_share_43 : decode cX11_share 43 = .ok (.aload_n 0, 1) := by decide +kernel
theorem dX11_share_44 : decode cX11_share 44 = .ok (.getfield 138, 3) := by decide +kernel
theorem dX11_share_47 : decode cX11_share 47 = .ok (.iconst 1, 1) := by decide +kernel
theorem dX11_share_48 : decode cX11_share 48 = .ok (.invokevirtual 266, 3) := by decide +kernel
theorem dX11_share_51 : decode cX11_share 51 = .ok (.iload_n 3, 1) := by decide +kernel
theorem dX11_share_52 : decode cX11_share 52 = .ok (.ifCond .ne 12, 3) := by decide +kernel
theorem dX11_share_55 : decode cX11_share 55 = .ok (.aload_n 0, 1) := by decide +kernel
theorem dX11_share_56 : decode cX11_share 56 = .ok (.getfield 36, 3) := by decide +kernel
theorem dX11_share_59 : decode cX11_share 59 = .ok (.iload_n 2, 1) := by decide +kernel
theorem dX11_share_60 : decode cX11_share 60 = .ok (.laload, 1) := by decide +kernel
theorem dX11_share_61 : decode cX11_share 61 = .ok (.goto 9, 3) := by decide +kernel
theorem dX11_share_64 : decode cX11_share 64 = .ok (.aload_n 0, 1) := by decide +kernel
theorem dX11_share_65 : decode cX11_share 65 = .ok (.getfield 39, 3) := by decide +kernel
theorem dX11_share_68 : decode cX11_share 68 = .ok (.iload_n 2, 1) := by decide +kernel
theorem dX11_share_69 : decode cX11_share 69 = .ok (.laload, 1) := by decide +kernel
theorem dX11_share_70 : decode cX11_share 70 = .ok (.lreturn, 1) := by decide +kernel
abbrev mX11_share : MI := (RX11, yX11_share, cX11_share, 4, (some .long))
theorem mok_X11_share : MOKv mX11_share 3 := ⟨⟨bm_1596, bm_127, ⟨by decide, by decide⟩, by decide +kernel⟩, bm_1594, bm_1595⟩
def f_X11_share_32    (h : MH) : Option (Int64 × MH) :=
  some ((-1 : Int64), h)
def f_X11_share   (a0 : Nat) (x1 : Int32) (x2 : Int32) (x3 : Int32) (h : MH) : Option (Int64 × MH) :=
  lt (sI h a0 0 0) fun h_1 =>
  (f_X11_isNode a0 x1 h_1).bind fun q_2 =>
  if q_2.1 = 0 then
    f_X11_share_32  q_2.2
  else
    (f_X11_isLink a0 x2 q_2.2).bind fun q_3 =>
    if q_3.1 = 0 then
      f_X11_share_32  q_3.2
    else
      (f_X11_isIn a0 (Int32.toInt64 x3) 0 1 q_3.2).bind fun q_4 =>
      if q_4.1 = 0 then
        f_X11_share_32  q_4.2
      else
        (gR q_4.2 a0 5).bind fun a_5 =>
        (f_X11_goes a0 x1 a_5 0 (gI q_4.2 a0 6) 1 q_4.2).bind fun q_6 =>
        if x3 = 0 then
          (gR q_6 a0 22).bind fun a_7 =>
          (ldL q_6 a_7 x2).bind fun l_8 =>
          some (l_8, q_6)
        else
          (gR q_6 a0 23).bind fun a_9 =>
          (ldL q_6 a_9 x2).bind fun l_10 =>
          some (l_10, q_6)
set_option maxRecDepth 100000 in
set_option maxHeartbeats 4000000 in
theorem v_X11_share_32 {l : Launch} {G : GE} {B N : Nat} {S : List SHP} {o : Int64 × MH}      {h : MH} (hf : f_X11_share_32  h = some o) : V l G B N mX11_share (rmm 131 0 0) false 0 0 (QL S o) S 0 0 32 [] [] h := by
  unfold f_X11_share_32 at hf
  refine V_ldc2 (v := (-1)) (pc' := 35) dX11_share_32 rfl bm_1515 ?_
  obtain rfl := Option.some.inj hf
  exact V_lret dX11_share_35 rfl rfl rfl ⟨rfl, rfl, rfl⟩
set_option maxRecDepth 100000 in
set_option maxHeartbeats 4000000 in
theorem v_X11_share {l : Launch} {G : GE} {B N : Nat} {S : List SHP} {o : Int64 × MH} {a0 : Nat} {x1 : Int32} {x2 : Int32} {x3 : Int32}    (hs0 : S[a0]? = some (.inl 11)) {h : MH} (hf : f_X11_share a0 x1 x2 x3 h = some o) : V l G B N mX11_share (rmm 131 0 0) false 0 0 (QL S o) S 0 0 0 [(0, .ref a0), (1, .int x1), (2, .int x2), (3, .int x3)] [] h := by
  unfold f_X11_share at hf
  refine V_aload_n (pc' := 1) dX11_share_0 rfl 0 rfl rfl ?_
  refine V_iconst (v := 0) (pc' := 2) dX11_share_1 rfl (by decide) ?_
  refine V_putI (pc' := 5) 11 0 dX11_share_2 rfl (by decide) (Nat.le_of_ble_eq_true rfl) bm_1224 hs0 (Or.inl rfl) rfl ?_
  refine V_nmH hf (fun h_1 hf => ?_)
  refine V_aload_n (pc' := 6) dX11_share_5 rfl 0 rfl rfl ?_
  refine V_iload_n (pc' := 7) dX11_share_6 rfl 1 rfl rfl ?_
  refine V_cvI (pc' := 10) (As := [.int x1]) (rest := []) dX11_share_7 rfl mok_X11_isNode bm_1389 11 (by decide) rfl hs0 rfl rfl (Nat.le_of_ble_eq_true rfl) (by decide) hf (fun q e => ct_X11_isNode hs0 e) (fun q_2 hf => ?_)
  refine V_if_eq (tgt := 32) (pc' := 13) dX11_share_10 (by decide) rfl hf (fun hf => ?_) (fun hf => ?_)
  ·
    exact V_sub (lv' := []) [] rfl (v_X11_share_32  hf)
  ·
    refine V_aload_n (pc' := 14) dX11_share_13 rfl 0 rfl rfl ?_
    refine V_iload_n (pc' := 15) dX11_share_14 rfl 2 rfl rfl ?_
    refine V_cvI (pc' := 18) (As := [.int x2]) (rest := []) dX11_share_15 rfl mok_X11_isLink bm_1410 11 (by decide) rfl hs0 rfl rfl (Nat.le_of_ble_eq_true rfl) (by decide) hf (fun q e => ct_X11_isLink hs0 e) (fun q_3 hf => ?_)
    refine V_if_eq (tgt := 32) (pc' := 21) dX11_share_18 (by decide) rfl hf (fun hf => ?_) (fun hf => ?_)
    ·
      exact V_sub (lv' := []) [] rfl (v_X11_share_32  hf)
    ·
      refine V_aload_n (pc' := 22) dX11_share_21 rfl 0 rfl rfl ?_
      refine V_iload_n (pc' := 23) dX11_share_22 rfl 3 rfl rfl ?_
      refine V_i2l (pc' := 24) dX11_share_23 rfl ?_
      refine V_lconst (v := 0) (pc' := 25) dX11_share_24 rfl (by decide) ?_
      refine V_lconst (v := 1) (pc' := 26) dX11_share_25 rfl (by decide) ?_
      refine V_cvI (pc' := 29) (As := [.long (Int32.toInt64 x3), .long 0, .long 1]) (rest := []) dX11_share_26 rfl mok_X11_isIn bm_1373 11 (by decide) rfl hs0 rfl rfl (Nat.le_of_ble_eq_true rfl) (by decide) hf (fun q e => ct_X11_isIn hs0 e) (fun q_4 hf => ?_)
      refine V_if_ne (tgt := 36) (pc' := 32) dX11_share_29 (by decide) rfl hf (fun hf => ?_) (fun hf => ?_)
      ·
        exact V_sub (lv' := []) [] rfl (v_X11_share_32  hf)
      ·
        refine V_aload_n (pc' := 37) dX11_share_36 rfl 0 rfl rfl ?_
        refine V_iload_n (pc' := 38) dX11_share_37 rfl 1 rfl rfl ?_
        refine V_aload_n (pc' := 39) dX11_share_38 rfl 0 rfl rfl ?_
        refine V_getR (pc' := 42) 11 5 dX11_share_39 rfl (by decide) (Nat.le_of_ble_eq_true rfl) bm_1229 hs0 (fun _ _ _ => rfl) rfl hf (fun a_5 ha_5 hf => ?_)
        refine V_iconst (v := 0) (pc' := 43) dX11_share_42 rfl (by decide) ?_
        refine V_aload_n (pc' := 44) dX11_share_43 rfl 0 rfl rfl ?_
        refine V_getI (pc' := 47) 11 6 dX11_share_44 rfl (by decide) (Nat.le_of_ble_eq_true rfl) bm_1230 hs0 (fun _ _ _ => rfl) ?_
        refine V_iconst (v := 1) (pc' := 48) dX11_share_47 rfl (by decide) ?_
        refine V_cvV (pc' := 51) (As := [.int x1, .ref a_5, .int 0, .int (gI q_4.2 a0 6), .int 1]) (rest := []) dX11_share_48 rfl mok_X11_goes bm_1524 11 (by decide) rfl hs0 rfl rfl (Nat.le_of_ble_eq_true rfl) (by decide) hf (fun q e => ct_X11_goes hs0 ha_5 e) (fun q_6 hf => ?_)
        refine V_iload_n (pc' := 52) dX11_share_51 rfl 3 rfl rfl ?_
        refine V_if_ne (tgt := 64) (pc' := 55) dX11_share_52 (by decide) rfl hf (fun hf => ?_) (fun hf => ?_)
        ·
          refine V_aload_n (pc' := 56) dX11_share_55 rfl 0 rfl rfl ?_
          refine V_getR (pc' := 59) 11 22 dX11_share_56 rfl (by decide) (Nat.le_of_ble_eq_true rfl) bm_1246 hs0 (fun _ _ _ => rfl) rfl hf (fun a_7 ha_7 hf => ?_)
          refine V_iload_n (pc' := 60) dX11_share_59 rfl 2 rfl rfl ?_
          refine V_lald (pc' := 61) dX11_share_60 rfl ha_7 hf (fun l_8 hf => ?_)
          refine V_goto (tgt := 70) dX11_share_61 (by decide) ?_
          obtain rfl := Option.some.inj hf
          exact V_lret dX11_share_70 rfl rfl rfl ⟨rfl, rfl, rfl⟩
        ·
          refine V_aload_n (pc' := 65) dX11_share_64 rfl 0 rfl rfl ?_
          refine V_getR (pc' := 68) 11 23 dX11_share_65 rfl (by decide) (Nat.le_of_ble_eq_true rfl) bm_1247 hs0 (fun _ _ _ => rfl) rfl hf (fun a_9 ha_9 hf => ?_)
          refine V_iload_n (pc' := 69) dX11_share_68 rfl 2 rfl rfl ?_
          refine V_lald (pc' := 70) dX11_share_69 rfl ha_9 hf (fun l_10 hf => ?_)
          obtain rfl := Option.some.inj hf
          exact V_lret dX11_share_70 rfl rfl rfl ⟨rfl, rfl, rfl⟩
theorem ct_X11_share {l : Launch} {S : List SHP} {h : MH} {a0 : Nat} {x1 : Int32} {x2 : Int32} {x3 : Int32} (hs0 : S[a0]? = some (.inl 11)) {q : Int64 × MH} (hf : f_X11_share a0 x1 x2 x3 h = some q) : CT l mX11_share 131 false 0 0 S [.ref a0, .int x1, .int x2, .int x3] h (QL S q) :=
  CT_ofV (by decide) rfl (Nat.le_of_ble_eq_true rfl) (fun G B hT => v_X11_share hs0 hf)
/-! LabelStacksModel.nodeAt(I)I -/
theorem dX11_nodeAt_0 : decode cX11_nodeAt 0 = .ok (.aload_n 0, 1) := by decide +kernel
theorem dX11_nodeAt_1 : decode cX11_nodeAt 1 = .ok (.aload_n 0, 1) := by decide +kernel
theorem dX11_nodeAt_2 : decode cX11_nodeAt 2 = .ok (.getfield 48, 3) := by decide +kernel
theorem dX11_nodeAt_5 : decode cX11_nodeAt 5 = .ok (.iload_n 1, 1) := by decide +kernel
theorem dX11_nodeAt_6 : decode cX11_nodeAt 6 = .ok (.iaload, 1) := by decide +kernel
theorem dX11_nodeAt_7 : decode cX11_nodeAt 7 = .ok (.invokevirtual 161, 3) := by decide +kernel
theorem dX11_nodeAt_10 : decode cX11_nodeAt 10 = .ok (.ireturn, 1) := by decide +kernel
abbrev mX11_nodeAt : MI := (RX11, yX11_nodeAt, cX11_nodeAt, 2, (some .int))
theorem mok_X11_nodeAt : MOKv mX11_nodeAt 1 := ⟨⟨bm_1616, bm_127, ⟨by decide, by decide⟩, by decide +kernel⟩, bm_1615, bm_81⟩
def f_X11_nodeAt   (a0 : Nat) (x1 : Int32) (h : MH) : Option (Int32 × MH) :=
  (gR h a0 26).bind fun a_1 =>
  (ldI h a_1 x1).bind fun x_2 =>
  (f_X11_from a0 x_2 h).bind fun q_3 =>
  some (q_3.1, q_3.2)
set_option maxRecDepth 100000 in
set_option maxHeartbeats 4000000 in
theorem v_X11_nodeAt {l : Launch} {G : GE} {B N : Nat} {S : List SHP} {o : Int32 × MH} {a0 : Nat} {x1 : Int32}    (hs0 : S[a0]? = some (.inl 11)) {h : MH} (hf : f_X11_nodeAt a0 x1 h = some o) : V l G B N mX11_nodeAt (rmm 4 0 0) false 0 0 (QI S o) S 0 0 0 [(0, .ref a0), (1, .int x1)] [] h := by
  unfold f_X11_nodeAt at hf
  refine V_aload_n (pc' := 1) dX11_nodeAt_0 rfl 0 rfl rfl ?_
  refine V_aload_n (pc' := 2) dX11_nodeAt_1 rfl 0 rfl rfl ?_
  refine V_getR (pc' := 5) 11 26 dX11_nodeAt_2 rfl (by decide) (Nat.le_of_ble_eq_true rfl) bm_1250 hs0 (fun _ _ _ => rfl) rfl hf (fun a_1 ha_1 hf => ?_)
  refine V_iload_n (pc' := 6) dX11_nodeAt_5 rfl 1 rfl rfl ?_
  refine V_iald (pc' := 7) dX11_nodeAt_6 rfl ha_1 hf (fun x_2 hf => ?_)
  refine V_cvI (pc' := 10) (As := [.int x_2]) (rest := []) dX11_nodeAt_7 rfl mok_X11_from bm_1465 11 (by decide) rfl hs0 rfl rfl (Nat.le_of_ble_eq_true rfl) (by decide) hf (fun q e => ct_X11_from hs0 e) (fun q_3 hf => ?_)
  obtain rfl := Option.some.inj hf
  exact V_iret dX11_nodeAt_10 rfl rfl rfl ⟨rfl, rfl, rfl⟩
theorem ct_X11_nodeAt {l : Launch} {S : List SHP} {h : MH} {a0 : Nat} {x1 : Int32} (hs0 : S[a0]? = some (.inl 11)) {q : Int32 × MH} (hf : f_X11_nodeAt a0 x1 h = some q) : CT l mX11_nodeAt 4 false 0 0 S [.ref a0, .int x1] h (QI S q) :=
  CT_ofV (by decide) rfl (Nat.le_of_ble_eq_true rfl) (fun G B hT => v_X11_nodeAt hs0 hf)
/-! LabelStacksModel.covered(I)I -/
theorem dX11_covered_0 : decode cX11_covered 0 = .ok (.aload_n 0, 1) := by decide +kernel
theorem dX11_covered_1 : decode cX11_covered 1 = .ok (.getfield 217, 3) := by decide +kernel
theorem dX11_covered_4 : decode cX11_covered 4 = .ok (.ifCond .eq 23, 3) := by decide +kernel
theorem dX11_covered_7 : decode cX11_covered 7 = .ok (.aload_n 0, 1) := by decide +kernel
theorem dX11_covered_8 : decode cX11_covered 8 = .ok (.getfield 223, 3) := by decide +kernel
theorem dX11_covered_11 : decode cX11_covered 11 = .ok (.ifCond .eq 16, 3) := by decide +kernel
theorem dX11_covered_14 : decode cX11_covered 14 = .ok (.aload_n 0, 1) := by decide +kernel
theorem dX11_covered_15 : decode cX11_covered 15 = .ok (.getfield 223, 3) := by decide +kernel
theorem dX11_covered_18 : decode cX11_covered 18 = .ok (.aload_n 0, 1) := by decide +kernel
theorem dX11_covered_19 : decode cX11_covered 19 = .ok (.getfield 275, 3) := by decide +kernel
theorem dX11_covered_22 : decode cX11_covered 22 = .ok (.iload_n 1, 1) := by decide +kernel
theorem dX11_covered_23 : decode cX11_covered 23 = .ok (.isub, 1) := by decide +kernel
theorem dX11_covered_24 : decode cX11_covered 24 = .ok (.if_icmp .le 5, 3) := by decide +kernel
theorem dX11_covered_27 : decode cX11_covered 27 = .ok (.iconst 0, 1) := by decide +kernel
theorem dX11_covered_28 : decode cX11_covered 28 = .ok (.ireturn, 1) := by decide +kernel
theorem dX11_covered_29 : decode cX11_covered 29 = .ok (.iconst 0, 1) := by decide +kernel
theorem dX11_covered_30 : decode cX11_covered 30 = .ok (.istore_n 2, 1) := by decide +kernel
theorem dX11_covered_31 : decode cX11_covered 31 = .ok (.iload_n 2, 1) := by decide +kernel
theorem dX11_covered_32 : decode cX11_covered 32 = .ok (.aload_n 0, 1) := by decide +kernel
theorem dX11_covered_33 : decode cX11_covered 33 = .ok (.getfield 223, 3) := by decide +kernel
theorem dX11_covered_36 : decode cX11_covered 36 = .ok (.if_icmp .ge 28, 3) := by decide +kernel
theorem dX11_covered_39 : decode cX11_covered 39 = .ok (.aload_n 0, 1) := by decide +kernel
theorem dX11_covered_40 : decode cX11_covered 40 = .ok (.getfield 33, 3) := by decide +kernel
theorem dX11_covered_43 : decode cX11_covered 43 = .ok (.iload_n 2, 1) := by decide +kernel
theorem dX11_covered_44 : decode cX11_covered 44 = .ok (.iaload, 1) := by decide +kernel
theorem dX11_covered_45 : decode cX11_covered 45 = .ok (.aload_n 0, 1) := by decide +kernel
theorem dX11_covered_46 : decode cX11_covered 46 = .ok (.getfield 48, 3) := by decide +kernel
theorem dX11_covered_49 : decode cX11_covered 49 = .ok (.iload_n 1, 1) := by decide +kernel
theorem dX11_covered_50 : decode cX11_covered 50 = .ok (.iload_n 2, 1) := by decide +kernel
theorem dX11_covered_51 : decode cX11_covered 51 = .ok (.iadd, 1) := by decide +kernel
theorem dX11_covered_52 : decode cX11_covered 52 = .ok (.iaload, 1) := by decide +kernel
theorem dX11_covered_53 : decode cX11_covered 53 = .ok (.if_icmp .eq 5, 3) := by decide +kernel
theorem dX11_covered_56 : decode cX11_covered 56 = .ok (.iconst 0, 1) := by decide +kernel
theorem dX11_covered_57 : decode cX11_covered 57 = .ok (.ireturn, 1) := by decide +kernel
theorem dX11_covered_58 : decode cX11_covered 58 = .ok (.iinc 2 1, 3) := by decide +kernel
theorem dX11_covered_61 : decode cX11_covered 61 = .ok (.goto (-30), 3) := by decide +kernel
theorem dX11_covered_64 : decode cX11_covered 64 = .ok (.aload_n 0, 1) := by decide +kernel
theorem dX11_covered_65 : decode cX11_covered 65 = .ok (.getfield 223, 3) := by decide +kernel
theorem dX11_covered_68 : decode cX11_covered 68 = .ok (.ireturn, 1) := by decide +kernel
abbrev mX11_covered : MI := (RX11, yX11_covered, cX11_covered, 3, (some .int))
theorem mok_X11_covered : MOKv mX11_covered 1 := ⟨⟨bm_1620, bm_127, ⟨by decide, by decide⟩, by decide +kernel⟩, bm_1619, bm_82⟩
def f_X11_covered_31b   (a0 : Nat) (x1 : Int32) (k31 : Int32 → MH → Option (Int32 × MH)) (p : Int32) (h : MH) : Option (Int32 × MH) :=
  if p < (gI h a0 20) then
    (gR h a0 19).bind fun a_1 =>
    (ldI h a_1 p).bind fun x_2 =>
    (gR h a0 26).bind fun a_3 =>
    (ldI h a_3 (x1 + p)).bind fun x_4 =>
    if x_2 = x_4 then
      k31 (p + 1) h
    else
      some (0, h)
  else
    some ((gI h a0 20), h)
def f_X11_covered_31   (a0 : Nat) (x1 : Int32) : Nat → Int32 → MH → Option (Int32 × MH) := lp (f_X11_covered_31b a0 x1)
def f_X11_covered   (a0 : Nat) (x1 : Int32) (h : MH) : Option (Int32 × MH) :=
  if (gI h a0 17) = 0 then
    some (0, h)
  else
    if (gI h a0 20) = 0 then
      some (0, h)
    else
      if ((gI h a0 27) - x1) < (gI h a0 20) then
        some (0, h)
      else
        f_X11_covered_31 a0 x1 FU 0 h
set_option maxRecDepth 100000 in
set_option maxHeartbeats 4000000 in
theorem v_X11_covered_31b {l : Launch} {G : GE} {B N : Nat} {S : List SHP} {o : Int32 × MH} {a0 : Nat} {x1 : Int32}    (hs0 : S[a0]? = some (.inl 11)) {k31 : Int32 → MH → Option (Int32 × MH)} (hk31 : ∀ (p : Int32) (h : MH), k31 p h = some o → V l G B N mX11_covered (rmm 3 0 0) false 0 0 (QI S o) S 0 0 31 [(0, .ref a0), (1, .int x1), (2, .int p)] [] h) {p : Int32} {h : MH} (hf : f_X11_covered_31b a0 x1 k31 p h = some o) : V l G B N mX11_covered (rmm 3 0 0) false 0 0 (QI S o) S 0 0 31 [(0, .ref a0), (1, .int x1), (2, .int p)] [] h := by
  unfold f_X11_covered_31b at hf
  refine V_iload_n (pc' := 32) dX11_covered_31 rfl 2 rfl rfl ?_
  refine V_aload_n (pc' := 33) dX11_covered_32 rfl 0 rfl rfl ?_
  refine V_getI (pc' := 36) 11 20 dX11_covered_33 rfl (by decide) (Nat.le_of_ble_eq_true rfl) bm_1244 hs0 (fun _ _ _ => rfl) ?_
  refine V_icmp_ge (tgt := 64) (pc' := 39) dX11_covered_36 (by decide) rfl hf (fun hf => ?_) (fun hf => ?_)
  ·
    refine V_aload_n (pc' := 40) dX11_covered_39 rfl 0 rfl rfl ?_
    refine V_getR (pc' := 43) 11 19 dX11_covered_40 rfl (by decide) (Nat.le_of_ble_eq_true rfl) bm_1243 hs0 (fun _ _ _ => rfl) rfl hf (fun a_1 ha_1 hf => ?_)
    refine V_iload_n (pc' := 44) dX11_covered_43 rfl 2 rfl rfl ?_
    refine V_iald (pc' := 45) dX11_covered_44 rfl ha_1 hf (fun x_2 hf => ?_)
    refine V_aload_n (pc' := 46) dX11_covered_45 rfl 0 rfl rfl ?_
    refine V_getR (pc' := 49) 11 26 dX11_covered_46 rfl (by decide) (Nat.le_of_ble_eq_true rfl) bm_1250 hs0 (fun _ _ _ => rfl) rfl hf (fun a_3 ha_3 hf => ?_)
    refine V_iload_n (pc' := 50) dX11_covered_49 rfl 1 rfl rfl ?_
    refine V_iload_n (pc' := 51) dX11_covered_50 rfl 2 rfl rfl ?_
    refine V_iadd (pc' := 52) dX11_covered_51 rfl ?_
    refine V_iald (pc' := 53) dX11_covered_52 rfl ha_3 hf (fun x_4 hf => ?_)
    refine V_icmp_eq (tgt := 58) (pc' := 56) dX11_covered_53 (by decide) rfl hf (fun hf => ?_) (fun hf => ?_)
    ·
      refine V_iinc (v := (p + 1)) (lv' := [(2, .int (p + 1)), (0, .ref a0), (1, .int x1)]) (pc' := 61) dX11_covered_58 rfl 2 rfl rfl (Nat.le_of_ble_eq_true rfl) rfl ?_
      refine V_goto (tgt := 31) dX11_covered_61 (by decide) ?_
      exact V_sub (lv' := [(0, .ref a0), (1, .int x1), (2, .int (p + 1))]) [1, 2, 0] rfl (hk31 (p + 1) h hf)
    ·
      refine V_iconst (v := 0) (pc' := 57) dX11_covered_56 rfl (by decide) ?_
      obtain rfl := Option.some.inj hf
      exact V_iret dX11_covered_57 rfl rfl rfl ⟨rfl, rfl, rfl⟩
  ·
    refine V_aload_n (pc' := 65) dX11_covered_64 rfl 0 rfl rfl ?_
    refine V_getI (pc' := 68) 11 20 dX11_covered_65 rfl (by decide) (Nat.le_of_ble_eq_true rfl) bm_1244 hs0 (fun _ _ _ => rfl) ?_
    obtain rfl := Option.some.inj hf
    exact V_iret dX11_covered_68 rfl rfl rfl ⟨rfl, rfl, rfl⟩
theorem v_X11_covered_31 {l : Launch} {G : GE} {B N : Nat} {S : List SHP} {o : Int32 × MH} {a0 : Nat} {x1 : Int32}    (hs0 : S[a0]? = some (.inl 11)) {n : Nat} {p : Int32} {h : MH} (hf : f_X11_covered_31 a0 x1 n p h = some o) : V l G B N mX11_covered (rmm 3 0 0) false 0 0 (QI S o) S 0 0 31 [(0, .ref a0), (1, .int x1), (2, .int p)] [] h :=
  V_lp (VV := fun p h => V l G B N mX11_covered (rmm 3 0 0) false 0 0 (QI S o) S 0 0 31 [(0, .ref a0), (1, .int x1), (2, .int p)] [] h) (fun _ hk _ _ hf => v_X11_covered_31b hs0 hk hf) n p h hf
set_option maxRecDepth 100000 in
set_option maxHeartbeats 4000000 in
theorem v_X11_covered {l : Launch} {G : GE} {B N : Nat} {S : List SHP} {o : Int32 × MH} {a0 : Nat} {x1 : Int32}    (hs0 : S[a0]? = some (.inl 11)) {h : MH} (hf : f_X11_covered a0 x1 h = some o) : V l G B N mX11_covered (rmm 3 0 0) false 0 0 (QI S o) S 0 0 0 [(0, .ref a0), (1, .int x1)] [] h := by
  unfold f_X11_covered at hf
  refine V_aload_n (pc' := 1) dX11_covered_0 rfl 0 rfl rfl ?_
  refine V_getI (pc' := 4) 11 17 dX11_covered_1 rfl (by decide) (Nat.le_of_ble_eq_true rfl) bm_1241 hs0 (fun _ _ _ => rfl) ?_
  refine V_if_eq (tgt := 27) (pc' := 7) dX11_covered_4 (by decide) rfl hf (fun hf => ?_) (fun hf => ?_)
  ·
    refine V_iconst (v := 0) (pc' := 28) dX11_covered_27 rfl (by decide) ?_
    obtain rfl := Option.some.inj hf
    exact V_iret dX11_covered_28 rfl rfl rfl ⟨rfl, rfl, rfl⟩
  ·
    refine V_aload_n (pc' := 8) dX11_covered_7 rfl 0 rfl rfl ?_
    refine V_getI (pc' := 11) 11 20 dX11_covered_8 rfl (by decide) (Nat.le_of_ble_eq_true rfl) bm_1244 hs0 (fun _ _ _ => rfl) ?_
    refine V_if_eq (tgt := 27) (pc' := 14) dX11_covered_11 (by decide) rfl hf (fun hf => ?_) (fun hf => ?_)
    ·
      refine V_iconst (v := 0) (pc' := 28) dX11_covered_27 rfl (by decide) ?_
      obtain rfl := Option.some.inj hf
      exact V_iret dX11_covered_28 rfl rfl rfl ⟨rfl, rfl, rfl⟩
    ·
      refine V_aload_n (pc' := 15) dX11_covered_14 rfl 0 rfl rfl ?_
      refine V_getI (pc' := 18) 11 20 dX11_covered_15 rfl (by decide) (Nat.le_of_ble_eq_true rfl) bm_1244 hs0 (fun _ _ _ => rfl) ?_
      refine V_aload_n (pc' := 19) dX11_covered_18 rfl 0 rfl rfl ?_
      refine V_getI (pc' := 22) 11 27 dX11_covered_19 rfl (by decide) (Nat.le_of_ble_eq_true rfl) bm_1251 hs0 (fun _ _ _ => rfl) ?_
      refine V_iload_n (pc' := 23) dX11_covered_22 rfl 1 rfl rfl ?_
      refine V_isub (pc' := 24) dX11_covered_23 rfl ?_
      refine V_icmp_le (tgt := 29) (pc' := 27) dX11_covered_24 (by decide) rfl hf (fun hf => ?_) (fun hf => ?_)
      ·
        refine V_iconst (v := 0) (pc' := 28) dX11_covered_27 rfl (by decide) ?_
        obtain rfl := Option.some.inj hf
        exact V_iret dX11_covered_28 rfl rfl rfl ⟨rfl, rfl, rfl⟩
      ·
        refine V_iconst (v := 0) (pc' := 30) dX11_covered_29 rfl (by decide) ?_
        refine V_istore_n (lv' := [(2, .int 0), (0, .ref a0), (1, .int x1)]) (pc' := 31) dX11_covered_30 rfl rfl (Nat.le_of_ble_eq_true rfl) rfl ?_
        exact V_sub (lv' := [(0, .ref a0), (1, .int x1), (2, .int 0)]) [1, 2, 0] rfl (v_X11_covered_31 hs0 hf)
theorem ct_X11_covered {l : Launch} {S : List SHP} {h : MH} {a0 : Nat} {x1 : Int32} (hs0 : S[a0]? = some (.inl 11)) {q : Int32 × MH} (hf : f_X11_covered a0 x1 h = some q) : CT l mX11_covered 3 false 0 0 S [.ref a0, .int x1] h (QI S q) :=
  CT_ofV (by decide) rfl (Nat.le_of_ble_eq_true rfl) (fun G B hT => v_X11_covered hs0 hf)
/-! LabelStacksModel.coveredBy(II)I -/
theorem dX11_coveredBy_0 : decode cX11_coveredBy 0 = .ok (.iload_n 2, 1) := by decide +kernel
theorem dX11_coveredBy_1 : decode cX11_coveredBy 1 = .ok (.bipush 100, 2) := by decide +kernel
theorem dX11_coveredBy_3 : decode cX11_coveredBy 3 = .ok (.if_icmp .lt 35, 3) := by decide +kernel
theorem dX11_coveredBy_6 : decode cX11_coveredBy 6 = .ok (.iload_n 2, 1) := by decide +kernel
theorem dX11_coveredBy_7 : decode cX11_coveredBy 7 = .ok (.bipush 100, 2) := by decide +kernel
theorem dX11_coveredBy_9 : decode cX11_coveredBy 9 = .ok (.isub, 1) := by decide +kernel
theorem dX11_coveredBy_10 : decode cX11_coveredBy 10 = .ok (.aload_n 0, 1) := by decide +kernel
theorem dX11_coveredBy_11 : decode cX11_coveredBy 11 = .ok (.getfield 48, 3) := by decide +kernel
theorem dX11_coveredBy_14 : decode cX11_coveredBy 14 = .ok (.iload_n 1, 1) := by decide +kernel
theorem dX11_coveredBy_15 : decode cX11_coveredBy 15 = .ok (.iaload, 1) := by decide +kernel
theorem dX11_coveredBy_16 : decode cX11_coveredBy 16 = .ok (.if_icmp .ne 20, 3) := by decide +kernel
theorem dX11_coveredBy_19 : decode cX11_coveredBy 19 = .ok (.aload_n 0, 1) := by decide +kernel
theorem dX11_coveredBy_20 : decode cX11_coveredBy 20 = .ok (.aload_n 0, 1) := by decide +kernel
theorem dX11_coveredBy_21 : decode cX11_coveredBy 21 = .ok (.getfield 48, 3) := by decide +kernel
theorem dX11_coveredBy_24 : decode cX11_coveredBy 24 = .ok (.iload_n 1, 1) := by decide +kernel
theorem dX11_coveredBy_25 : decode cX11_coveredBy 25 = .ok (.iaload, 1) := by decide +kernel
theorem dX11_coveredBy_26 : decode cX11_coveredBy 26 = .ok (.invokevirtual 129, 3) := by decide +kernel
theorem dX11_coveredBy_29 : decode cX11_coveredBy 29 = .ok (.ifCond .eq 7, 3) := by decide +kernel
theorem dX11_coveredBy_32 : decode cX11_coveredBy 32 = .ok (.iconst 1, 1) := by decide +kernel
theorem dX11_coveredBy_33 : decode cX11_coveredBy 33 = .ok (.goto 4, 3) := by decide +kernel
theorem dX11_coveredBy_36 : decode cX11_coveredBy 36 = .ok (.iconst 0, 1) := by decide +kernel
theorem dX11_coveredBy_37 : decode cX11_coveredBy 37 = .ok (.ireturn, 1) := by decide +kernel
theorem dX11_coveredBy_38 : decode cX11_coveredBy 38 = .ok (.aload_n 0, 1) := by decide +kernel
theorem dX11_coveredBy_39 : decode cX11_coveredBy 39 = .ok (.getfield 60, 3) := by decide +kernel
theorem dX11_coveredBy_42 : decode cX11_coveredBy 42 = .ok (.iconst 0, 1) := by decide +kernel
theorem dX11_coveredBy_43 : decode cX11_coveredBy 43 = .ok (.iload_n 2, 1) := by decide +kernel
theorem dX11_coveredBy_44 : decode cX11_coveredBy 44 = .ok (.iastore, 1) := by decide +kernel
theorem dX11_coveredBy_45 : decode cX11_coveredBy 45 = .ok (.aload_n 0, 1) := by decide +kernel
theorem dX11_coveredBy_46 : decode cX11_coveredBy 46 = .ok (.aload_n 0, 1) := by decide +kernel
theorem dX11_coveredBy_47 : decode cX11_coveredBy 47 = .ok (.iload_n 1, 1) := by decide +kernel
theorem dX11_coveredBy_48 : decode cX11_coveredBy 48 = .ok (.invokevirtual 278, 3) := by decide +kernel
theorem dX11_coveredBy_51 : decode cX11_coveredBy 51 = .ok (.aload_n 0, 1) := by decide +kernel
theorem dX11_coveredBy_52 : decode cX11_coveredBy 52 = .ok (.getfield 60, 3) := by decide +kernel
theorem dX11_coveredBy_55 : decode cX11_coveredBy 55 = .ok (.iconst 0, 1) := by decide +kernel
theorem dX11_coveredBy_56 : decode cX11_coveredBy 56 = .ok (.iconst 1, 1) := by decide +kernel
theorem dX11_coveredBy_57 : decode cX11_coveredBy 57 = .ok (.iconst 0, 1) := by decide +kernel
theorem dX11_coveredBy_58 : decode cX11_coveredBy 58 = .ok (.invokevirtual 266, 3) := by decide +kernel
theorem dX11_coveredBy_61 : decode cX11_coveredBy 61 = .ok (.aload_n 0, 1) := by decide +kernel
theorem dX11_coveredBy_62 : decode cX11_coveredBy 62 = .ok (.iload_n 1, 1) := by decide +kernel
theorem dX11_coveredBy_63 : decode cX11_coveredBy 63 = .ok (.invokevirtual 281, 3) := by decide +kernel
theorem dX11_coveredBy_66 : decode cX11_coveredBy 66 = .ok (.ireturn, 1) := by decide +kernel
abbrev mX11_coveredBy : MI := (RX11, yX11_coveredBy, cX11_coveredBy, 3, (some .int))
theorem mok_X11_coveredBy : MOKv mX11_coveredBy 2 := ⟨⟨bm_1612, bm_127, ⟨by decide, by decide⟩, by decide +kernel⟩, bm_1611, bm_80⟩
def f_X11_coveredBy   (a0 : Nat) (x1 : Int32) (x2 : Int32) (h : MH) : Option (Int32 × MH) :=
  if x2 < 100 then
    (gR h a0 31).bind fun a_1 =>
    (stI h a_1 0 x2).bind fun h_2 =>
    (f_X11_nodeAt a0 x1 h_2).bind fun q_3 =>
    (gR q_3.2 a0 31).bind fun a_4 =>
    (f_X11_goes a0 q_3.1 a_4 0 1 0 q_3.2).bind fun q_5 =>
    (f_X11_covered a0 x1 q_5).bind fun q_6 =>
    some (q_6.1, q_6.2)
  else
    (gR h a0 26).bind fun a_7 =>
    (ldI h a_7 x1).bind fun x_8 =>
    if (x2 - 100) = x_8 then
      (gR h a0 26).bind fun a_9 =>
      (ldI h a_9 x1).bind fun x_10 =>
      (f_X11_isUp a0 x_10 h).bind fun q_11 =>
      if q_11.1 = 0 then
        some (0, q_11.2)
      else
        some (1, q_11.2)
    else
      some (0, h)
set_option maxRecDepth 100000 in
set_option maxHeartbeats 4000000 in
theorem v_X11_coveredBy {l : Launch} {G : GE} {B N : Nat} {S : List SHP} {o : Int32 × MH} {a0 : Nat} {x1 : Int32} {x2 : Int32}    (hs0 : S[a0]? = some (.inl 11)) {h : MH} (hf : f_X11_coveredBy a0 x1 x2 h = some o) : V l G B N mX11_coveredBy (rmm 131 0 0) false 0 0 (QI S o) S 0 0 0 [(0, .ref a0), (1, .int x1), (2, .int x2)] [] h := by
  unfold f_X11_coveredBy at hf
  refine V_iload_n (pc' := 1) dX11_coveredBy_0 rfl 2 rfl rfl ?_
  refine V_bipush (v := 100) (pc' := 3) dX11_coveredBy_1 rfl (by decide) ?_
  refine V_icmp_lt (tgt := 38) (pc' := 6) dX11_coveredBy_3 (by decide) rfl hf (fun hf => ?_) (fun hf => ?_)
  ·
    refine V_aload_n (pc' := 39) dX11_coveredBy_38 rfl 0 rfl rfl ?_
    refine V_getR (pc' := 42) 11 31 dX11_coveredBy_39 rfl (by decide) (Nat.le_of_ble_eq_true rfl) bm_1255 hs0 (fun _ _ _ => rfl) rfl hf (fun a_1 ha_1 hf => ?_)
    refine V_iconst (v := 0) (pc' := 43) dX11_coveredBy_42 rfl (by decide) ?_
    refine V_iload_n (pc' := 44) dX11_coveredBy_43 rfl 2 rfl rfl ?_
    refine V_iast (pc' := 45) dX11_coveredBy_44 rfl ha_1 hf (fun h_2 hf => ?_)
    refine V_aload_n (pc' := 46) dX11_coveredBy_45 rfl 0 rfl rfl ?_
    refine V_aload_n (pc' := 47) dX11_coveredBy_46 rfl 0 rfl rfl ?_
    refine V_iload_n (pc' := 48) dX11_coveredBy_47 rfl 1 rfl rfl ?_
    refine V_cvI (pc' := 51) (As := [.int x1]) (rest := [.ref a0]) dX11_coveredBy_48 rfl mok_X11_nodeAt bm_1613 11 (by decide) rfl hs0 rfl rfl (Nat.le_of_ble_eq_true rfl) (by decide) hf (fun q e => ct_X11_nodeAt hs0 e) (fun q_3 hf => ?_)
    refine V_aload_n (pc' := 52) dX11_coveredBy_51 rfl 0 rfl rfl ?_
    refine V_getR (pc' := 55) 11 31 dX11_coveredBy_52 rfl (by decide) (Nat.le_of_ble_eq_true rfl) bm_1255 hs0 (fun _ _ _ => rfl) rfl hf (fun a_4 ha_4 hf => ?_)
    refine V_iconst (v := 0) (pc' := 56) dX11_coveredBy_55 rfl (by decide) ?_
    refine V_iconst (v := 1) (pc' := 57) dX11_coveredBy_56 rfl (by decide) ?_
    refine V_iconst (v := 0) (pc' := 58) dX11_coveredBy_57 rfl (by decide) ?_
    refine V_cvV (pc' := 61) (As := [.int q_3.1, .ref a_4, .int 0, .int 1, .int 0]) (rest := []) dX11_coveredBy_58 rfl mok_X11_goes bm_1524 11 (by decide) rfl hs0 rfl rfl (Nat.le_of_ble_eq_true rfl) (by decide) hf (fun q e => ct_X11_goes hs0 ha_4 e) (fun q_5 hf => ?_)
    refine V_aload_n (pc' := 62) dX11_coveredBy_61 rfl 0 rfl rfl ?_
    refine V_iload_n (pc' := 63) dX11_coveredBy_62 rfl 1 rfl rfl ?_
    refine V_cvI (pc' := 66) (As := [.int x1]) (rest := []) dX11_coveredBy_63 rfl mok_X11_covered bm_1617 11 (by decide) rfl hs0 rfl rfl (Nat.le_of_ble_eq_true rfl) (by decide) hf (fun q e => ct_X11_covered hs0 e) (fun q_6 hf => ?_)
    obtain rfl := Option.some.inj hf
    exact V_iret dX11_coveredBy_66 rfl rfl rfl ⟨rfl, rfl, rfl⟩
  ·
    refine V_iload_n (pc' := 7) dX11_coveredBy_6 rfl 2 rfl rfl ?_
    refine V_bipush (v := 100) (pc' := 9) dX11_coveredBy_7 rfl (by decide) ?_
    refine V_isub (pc' := 10) dX11_coveredBy_9 rfl ?_
    refine V_aload_n (pc' := 11) dX11_coveredBy_10 rfl 0 rfl rfl ?_
    refine V_getR (pc' := 14) 11 26 dX11_coveredBy_11 rfl (by decide) (Nat.le_of_ble_eq_true rfl) bm_1250 hs0 (fun _ _ _ => rfl) rfl hf (fun a_7 ha_7 hf => ?_)
    refine V_iload_n (pc' := 15) dX11_coveredBy_14 rfl 1 rfl rfl ?_
    refine V_iald (pc' := 16) dX11_coveredBy_15 rfl ha_7 hf (fun x_8 hf => ?_)
    refine V_icmp_ne (tgt := 36) (pc' := 19) dX11_coveredBy_16 (by decide) rfl hf (fun hf => ?_) (fun hf => ?_)
    ·
      refine V_aload_n (pc' := 20) dX11_coveredBy_19 rfl 0 rfl rfl ?_
      refine V_aload_n (pc' := 21) dX11_coveredBy_20 rfl 0 rfl rfl ?_
      refine V_getR (pc' := 24) 11 26 dX11_coveredBy_21 rfl (by decide) (Nat.le_of_ble_eq_true rfl) bm_1250 hs0 (fun _ _ _ => rfl) rfl hf (fun a_9 ha_9 hf => ?_)
      refine V_iload_n (pc' := 25) dX11_coveredBy_24 rfl 1 rfl rfl ?_
      refine V_iald (pc' := 26) dX11_coveredBy_25 rfl ha_9 hf (fun x_10 hf => ?_)
      refine V_cvI (pc' := 29) (As := [.int x_10]) (rest := []) dX11_coveredBy_26 rfl mok_X11_isUp bm_1414 11 (by decide) rfl hs0 rfl rfl (Nat.le_of_ble_eq_true rfl) (by decide) hf (fun q e => ct_X11_isUp hs0 e) (fun q_11 hf => ?_)
      refine V_if_eq (tgt := 36) (pc' := 32) dX11_coveredBy_29 (by decide) rfl hf (fun hf => ?_) (fun hf => ?_)
      ·
        refine V_iconst (v := 0) (pc' := 37) dX11_coveredBy_36 rfl (by decide) ?_
        obtain rfl := Option.some.inj hf
        exact V_iret dX11_coveredBy_37 rfl rfl rfl ⟨rfl, rfl, rfl⟩
      ·
        refine V_iconst (v := 1) (pc' := 33) dX11_coveredBy_32 rfl (by decide) ?_
        refine V_goto (tgt := 37) dX11_coveredBy_33 (by decide) ?_
        obtain rfl := Option.some.inj hf
        exact V_iret dX11_coveredBy_37 rfl rfl rfl ⟨rfl, rfl, rfl⟩
    ·
      refine V_iconst (v := 0) (pc' := 37) dX11_coveredBy_36 rfl (by decide) ?_
      obtain rfl := Option.some.inj hf
      exact V_iret dX11_coveredBy_37 rfl rfl rfl ⟨rfl, rfl, rfl⟩
theorem ct_X11_coveredBy {l : Launch} {S : List SHP} {h : MH} {a0 : Nat} {x1 : Int32} {x2 : Int32} (hs0 : S[a0]? = some (.inl 11)) {q : Int32 × MH} (hf : f_X11_coveredBy a0 x1 x2 h = some q) : CT l mX11_coveredBy 131 false 0 0 S [.ref a0, .int x1, .int x2] h (QI S q) :=
  CT_ofV (by decide) rfl (Nat.le_of_ble_eq_true rfl) (fun G B hT => v_X11_coveredBy hs0 hf)
/-! LabelStacksModel.coveredByBinding(II)I -/
theorem dX11_coveredByBinding_0 : decode cX11_coveredByBinding 0 = .ok (.aload_n 0, 1) := by decide +kernel
theorem dX11_coveredByBinding_1 : decode cX11_coveredByBinding 1 = .ok (.getfield 7, 3) := by decide +kernel
theorem dX11_coveredByBinding_4 : decode cX11_coveredByBinding 4 = .ok (.bipush 122, 2) := by decide +kernel
theorem dX11_coveredByBinding_6 : decode cX11_coveredByBinding 6 = .ok (.iload_n 2, 1) := by decide +kernel
theorem dX11_coveredByBinding_7 : decode cX11_coveredByBinding 7 = .ok (.iadd, 1) := by decide +kernel
theorem dX11_coveredByBinding_8 : decode cX11_coveredByBinding 8 = .ok (.iaload, 1) := by decide +kernel
theorem dX11_coveredByBinding_9 : decode cX11_coveredByBinding 9 = .ok (.aload_n 0, 1) := by decide +kernel
theorem dX11_coveredByBinding_10 : decode cX11_coveredByBinding 10 = .ok (.iload_n 1, 1) := by decide +kernel
theorem dX11_coveredByBinding_11 : decode cX11_coveredByBinding 11 = .ok (.invokevirtual 278, 3) := by decide +kernel
theorem dX11_coveredByBinding_14 : decode cX11_coveredByBinding 14 = .ok (.iconst 1, 1) := by decide +kernel
theorem dX11_coveredByBinding_15 : decode cX11_coveredByBinding 15 = .ok (.iadd, 1) := by decide +kernel
theorem dX11_coveredByBinding_16 : decode cX11_coveredByBinding 16 = .ok (.if_icmp .eq 5, 3) := by decide +kernel
theorem dX11_coveredByBinding_19 : decode cX11_coveredByBinding 19 = .ok (.iconst 0, 1) := by decide +kernel
theorem dX11_coveredByBinding_20 : decode cX11_coveredByBinding 20 = .ok (.ireturn, 1) := by decide +kernel
theorem dX11_coveredByBinding_21 : decode cX11_coveredByBinding 21 = .ok (.aload_n 0, 1) := by decide +kernel
theorem dX11_coveredByBinding_22 : decode cX11_coveredByBinding 22 = .ok (.aload_n 0, 1) := by decide +kernel
theorem dX11_coveredByBinding_23 : decode cX11_coveredByBinding 23 = .ok (.iload_n 1, 1) := by decide +kernel
theorem dX11_coveredByBinding_24 : decode cX11_coveredByBinding 24 = .ok (.invokevirtual 278, 3) := by decide +kernel
theorem dX11_coveredByBinding_27 : decode cX11_coveredByBinding 27 = .ok (.aload_n 0, 1) := by decide +kernel
theorem dX11_coveredByBinding_28 : decode cX11_coveredByBinding 28 = .ok (.getfield 7, 3) := by decide +kernel
theorem dX11_coveredByBinding_31 : decode cX11_coveredByBinding 31 = .ok (.sipush 134, 3) := by decide +kernel
theorem dX11_coveredByBinding_34 : decode cX11_coveredByBinding 34 = .ok (.bipush 6, 2) := by decide +kernel
theorem dX11_coveredByBinding_36 : decode cX11_coveredByBinding 36 = .ok (.iload_n 2, 1) := by decide +kernel
theorem dX11_coveredByBinding_37 : decode cX11_coveredByBinding 37 = .ok (.imul, 1) := by decide +kernel
theorem dX11_coveredByBinding_38 : decode cX11_coveredByBinding 38 = .ok (.iadd, 1) := by decide +kernel
theorem dX11_coveredByBinding_39 : decode cX11_coveredByBinding 39 = .ok (.aload_n 0, 1) := by decide +kernel
theorem dX11_coveredByBinding_40 : decode cX11_coveredByBinding 40 = .ok (.getfield 7, 3) := by decide +kernel
theorem dX11_coveredByBinding_43 : decode cX11_coveredByBinding 43 = .ok (.sipush 128, 3) := by decide +kernel
theorem dX11_coveredByBinding_46 : decode cX11_coveredByBinding 46 = .ok (.iload_n 2, 1) := by decide +kernel
theorem dX11_coveredByBinding_47 : decode cX11_coveredByBinding 47 = .ok (.iadd, 1) := by decide +kernel
theorem dX11_coveredByBinding_48 : decode cX11_coveredByBinding 48 = .ok (.iaload, 1) := by decide +kernel
theorem dX11_coveredByBinding_49 : decode cX11_coveredByBinding 49 = .ok (.iconst 0, 1) := by decide +kernel
theorem dX11_coveredByBinding_50 : decode cX11_coveredByBinding 50 = .ok (.invokevirtual 266, 3) := by decide +kernel
theorem dX11_coveredByBinding_53 : decode cX11_coveredByBinding 53 = .ok (.aload_n 0, 1) := by decide +kernel
theorem dX11_coveredByBinding_54 : decode cX11_coveredByBinding 54 = .ok (.iload_n 1, 1) := by decide +kernel
theorem dX11_coveredByBinding_55 : decode cX11_coveredByBinding 55 = .ok (.invokevirtual 281, 3) := by decide +kernel
theorem dX11_coveredByBinding_58 : decode cX11_coveredByBinding 58 = .ok (.ireturn, 1) := by decide +kernel
abbrev mX11_coveredByBinding : MI := (RX11, yX11_coveredByBinding, cX11_coveredByBinding, 3, (some .int))
theorem mok_X11_coveredByBinding : MOKv mX11_coveredByBinding 2 := ⟨⟨bm_1628, bm_127, ⟨by decide, by decide⟩, by decide +kernel⟩, bm_1627, bm_84⟩
def f_X11_coveredByBinding   (a0 : Nat) (x1 : Int32) (x2 : Int32) (h : MH) : Option (Int32 × MH) :=
  (gR h a0 1).bind fun a_1 =>
  (ldI h a_1 (122 + x2)).bind fun x_2 =>
  (f_X11_nodeAt a0 x1 h).bind fun q_3 =>
  if x_2 = (q_3.1 + 1) then
    (f_X11_nodeAt a0 x1 q_3.2).bind fun q_4 =>
    (gR q_4.2 a0 1).bind fun a_5 =>
    (gR q_4.2 a0 1).bind fun a_6 =>
    (ldI q_4.2 a_6 (128 + x2)).bind fun x_7 =>
    (f_X11_goes a0 q_4.1 a_5 (134 + (6 * x2)) x_7 0 q_4.2).bind fun q_8 =>
    (f_X11_covered a0 x1 q_8).bind fun q_9 =>
    some (q_9.1, q_9.2)
  else
    some (0, q_3.2)
set_option maxRecDepth 100000 in
set_option maxHeartbeats 4000000 in
theorem v_X11_coveredByBinding {l : Launch} {G : GE} {B N : Nat} {S : List SHP} {o : Int32 × MH} {a0 : Nat} {x1 : Int32} {x2 : Int32}    (hs0 : S[a0]? = some (.inl 11)) {h : MH} (hf : f_X11_coveredByBinding a0 x1 x2 h = some o) : V l G B N mX11_coveredByBinding (rmm 131 0 0) false 0 0 (QI S o) S 0 0 0 [(0, .ref a0), (1, .int x1), (2, .int x2)] [] h := by
  unfold f_X11_coveredByBinding at hf
  refine V_aload_n (pc' := 1) dX11_coveredByBinding_0 rfl 0 rfl rfl ?_
  refine V_getR (pc' := 4) 11 1 dX11_coveredByBinding_1 rfl (by decide) (Nat.le_of_ble_eq_true rfl) bm_1225 hs0 (fun _ _ _ => rfl) rfl hf (fun a_1 ha_1 hf => ?_)
  refine V_bipush (v := 122) (pc' := 6) dX11_coveredByBinding_4 rfl (by decide) ?_
  refine V_iload_n (pc' := 7) dX11_coveredByBinding_6 rfl 2 rfl rfl ?_
  refine V_iadd (pc' := 8) dX11_coveredByBinding_7 rfl ?_
  refine V_iald (pc' := 9) dX11_coveredByBinding_8 rfl ha_1 hf (fun x_2 hf => ?_)
  refine V_aload_n (pc' := 10) dX11_coveredByBinding_9 rfl 0 rfl rfl ?_
  refine V_iload_n (pc' := 11) dX11_coveredByBinding_10 rfl 1 rfl rfl ?_
  refine V_cvI (pc' := 14) (As := [.int x1]) (rest := [.int x_2]) dX11_coveredByBinding_11 rfl mok_X11_nodeAt bm_1613 11 (by decide) rfl hs0 rfl rfl (Nat.le_of_ble_eq_true rfl) (by decide) hf (fun q e => ct_X11_nodeAt hs0 e) (fun q_3 hf => ?_)
  refine V_iconst (v := 1) (pc' := 15) dX11_coveredByBinding_14 rfl (by decide) ?_
  refine V_iadd (pc' := 16) dX11_coveredByBinding_15 rfl ?_
  refine V_icmp_eq (tgt := 21) (pc' := 19) dX11_coveredByBinding_16 (by decide) rfl hf (fun hf => ?_) (fun hf => ?_)
  ·
    refine V_aload_n (pc' := 22) dX11_coveredByBinding_21 rfl 0 rfl rfl ?_
    refine V_aload_n (pc' := 23) dX11_coveredByBinding_22 rfl 0 rfl rfl ?_
    refine V_iload_n (pc' := 24) dX11_coveredByBinding_23 rfl 1 rfl rfl ?_
    refine V_cvI (pc' := 27) (As := [.int x1]) (rest := [.ref a0]) dX11_coveredByBinding_24 rfl mok_X11_nodeAt bm_1613 11 (by decide) rfl hs0 rfl rfl (Nat.le_of_ble_eq_true rfl) (by decide) hf (fun q e => ct_X11_nodeAt hs0 e) (fun q_4 hf => ?_)
    refine V_aload_n (pc' := 28) dX11_coveredByBinding_27 rfl 0 rfl rfl ?_
    refine V_getR (pc' := 31) 11 1 dX11_coveredByBinding_28 rfl (by decide) (Nat.le_of_ble_eq_true rfl) bm_1225 hs0 (fun _ _ _ => rfl) rfl hf (fun a_5 ha_5 hf => ?_)
    refine V_sipush (v := 134) (pc' := 34) dX11_coveredByBinding_31 rfl (by decide) ?_
    refine V_bipush (v := 6) (pc' := 36) dX11_coveredByBinding_34 rfl (by decide) ?_
    refine V_iload_n (pc' := 37) dX11_coveredByBinding_36 rfl 2 rfl rfl ?_
    refine V_imul (pc' := 38) dX11_coveredByBinding_37 rfl ?_
    refine V_iadd (pc' := 39) dX11_coveredByBinding_38 rfl ?_
    refine V_aload_n (pc' := 40) dX11_coveredByBinding_39 rfl 0 rfl rfl ?_
    refine V_getR (pc' := 43) 11 1 dX11_coveredByBinding_40 rfl (by decide) (Nat.le_of_ble_eq_true rfl) bm_1225 hs0 (fun _ _ _ => rfl) rfl hf (fun a_6 ha_6 hf => ?_)
    refine V_sipush (v := 128) (pc' := 46) dX11_coveredByBinding_43 rfl (by decide) ?_
    refine V_iload_n (pc' := 47) dX11_coveredByBinding_46 rfl 2 rfl rfl ?_
    refine V_iadd (pc' := 48) dX11_coveredByBinding_47 rfl ?_
    refine V_iald (pc' := 49) dX11_coveredByBinding_48 rfl ha_6 hf (fun x_7 hf => ?_)
    refine V_iconst (v := 0) (pc' := 50) dX11_coveredByBinding_49 rfl (by decide) ?_
    refine V_cvV (pc' := 53) (As := [.int q_4.1, .ref a_5, .int (134 + (6 * x2)), .int x_7, .int 0]) (rest := []) dX11_coveredByBinding_50 rfl mok_X11_goes bm_1524 11 (by decide) rfl hs0 rfl rfl (Nat.le_of_ble_eq_true rfl) (by decide) hf (fun q e => ct_X11_goes hs0 ha_5 e) (fun q_8 hf => ?_)
    refine V_aload_n (pc' := 54) dX11_coveredByBinding_53 rfl 0 rfl rfl ?_
    refine V_iload_n (pc' := 55) dX11_coveredByBinding_54 rfl 1 rfl rfl ?_
    refine V_cvI (pc' := 58) (As := [.int x1]) (rest := []) dX11_coveredByBinding_55 rfl mok_X11_covered bm_1617 11 (by decide) rfl hs0 rfl rfl (Nat.le_of_ble_eq_true rfl) (by decide) hf (fun q e => ct_X11_covered hs0 e) (fun q_9 hf => ?_)
    obtain rfl := Option.some.inj hf
    exact V_iret dX11_coveredByBinding_58 rfl rfl rfl ⟨rfl, rfl, rfl⟩
  ·
    refine V_iconst (v := 0) (pc' := 20) dX11_coveredByBinding_19 rfl (by decide) ?_
    obtain rfl := Option.some.inj hf
    exact V_iret dX11_coveredByBinding_20 rfl rfl rfl ⟨rfl, rfl, rfl⟩
theorem ct_X11_coveredByBinding {l : Launch} {S : List SHP} {h : MH} {a0 : Nat} {x1 : Int32} {x2 : Int32} (hs0 : S[a0]? = some (.inl 11)) {q : Int32 × MH} (hf : f_X11_coveredByBinding a0 x1 x2 h = some q) : CT l mX11_coveredByBinding 131 false 0 0 S [.ref a0, .int x1, .int x2] h (QI S q) :=
  CT_ofV (by decide) rfl (Nat.le_of_ble_eq_true rfl) (fun G B hT => v_X11_coveredByBinding hs0 hf)
/-! LabelStacksModel.tries(IIII)V -/
theorem dX11_tries_0 : decode cX11_tries 0 = .ok (.iload_n 3, 1) := by decide +kernel
theorem dX11_tries_1 : decode cX11_tries 1 = .ok (.ifCond .eq 15, 3) := by decide +kernel
theorem dX11_tries_4 : decode cX11_tries 4 = .ok (.aload_n 0, 1) := by decide +kernel
theorem dX11_tries_5 : decode cX11_tries 5 = .ok (.getfield 51, 3) := by decide +kernel
theorem dX11_tries_8 : decode cX11_tries 8 = .ok (.iload_n 1, 1) := by decide +kernel
theorem dX11_tries_9 : decode cX11_tries 9 = .ok (.iload_n 3, 1) := by decide +kernel
theorem dX11_tries_10 : decode cX11_tries 10 = .ok (.iadd, 1) := by decide +kernel
theorem dX11_tries_11 : decode cX11_tries 11 = .ok (.iaload, 1) := by decide +kernel
theorem dX11_tries_12 : decode cX11_tries 12 = .ok (.iconst (-1), 1) := by decide +kernel
theorem dX11_tries_13 : decode cX11_tries 13 = .ok (.if_icmp .ne 4, 3) := by decide +kernel
theorem dX11_tries_16 : decode cX11_tries 16 = .ok (.return_, 1) := by decide +kernel
theorem dX11_tries_17 : decode cX11_tries 17 = .ok (.iconst 1, 1) := by decide +kernel
theorem dX11_tries_18 : decode cX11_tries 18 = .ok (.aload_n 0, 1) := by decide +kernel
theorem dX11_tries_19 : decode cX11_tries 19 = .ok (.getfield 51, 3) := by decide +kernel
theorem dX11_tries_22 : decode cX11_tries 22 = .ok (.iload_n 1, 1) := by decide +kernel
theorem dX11_tries_23 : decode cX11_tries 23 = .ok (.iload_n 3, 1) := by decide +kernel
theorem dX11_tries_24 : decode cX11_tries 24 = .ok (.iadd, 1) := by decide +kernel
theorem dX11_tries_25 : decode cX11_tries 25 = .ok (.iaload, 1) := by decide +kernel
theorem dX11_tries_26 : decode cX11_tries 26 = .ok (.iadd, 1) := by decide +kernel
theorem dX11_tries_27 : decode cX11_tries 27 = .ok (.istore 5, 2) := by decide +kernel
theorem dX11_tries_29 : decode cX11_tries 29 = .ok (.iload 5, 2) := by decide +kernel
theorem dX11_tries_31 : decode cX11_tries 31 = .ok (.aload_n 0, 1) := by decide +kernel
theorem dX11_tries_32 : decode cX11_tries 32 = .ok (.getfield 16, 3) := by decide +kernel
theorem dX11_tries_35 : decode cX11_tries 35 = .ok (.if_icmp .gt 21, 3) := by decide +kernel
theorem dX11_tries_38 : decode cX11_tries 38 = .ok (.iload 4, 2) := by decide +kernel
theorem dX11_tries_40 : decode cX11_tries 40 = .ok (.aload_n 0, 1) := by decide +kernel
theorem dX11_tries_41 : decode cX11_tries 41 = .ok (.getfield 51, 3) := by decide +kernel
theorem dX11_tries_44 : decode cX11_tries 44 = .ok (.iload_n 1, 1) := by decide +kernel
theorem dX11_tries_45 : decode cX11_tries 45 = .ok (.iload_n 3, 1) := by decide +kernel
theorem dX11_tries_46 : decode cX11_tries 46 = .ok (.iadd, 1) := by decide +kernel
theorem dX11_tries_47 : decode cX11_tries 47 = .ok (.iaload, 1) := by decide +kernel
theorem dX11_tries_48 : decode cX11_tries 48 = .ok (.iadd, 1) := by decide +kernel
theorem dX11_tries_49 : decode cX11_tries 49 = .ok (.aload_n 0, 1) := by decide +kernel
theorem dX11_tries_50 : decode cX11_tries 50 = .ok (.getfield 16, 3) := by decide +kernel
theorem dX11_tries_53 : decode cX11_tries 53 = .ok (.if_icmp .le 4, 3) := by decide +kernel
theorem dX11_tries_56 : decode cX11_tries 56 = .ok (.return_, 1) := by decide +kernel
theorem dX11_tries_57 : decode cX11_tries 57 = .ok (.aload_n 0, 1) := by decide +kernel
theorem dX11_tries_58 : decode cX11_tries 58 = .ok (.getfield 51, 3) := by decide +kernel
theorem dX11_tries_61 : decode cX11_tries 61 = .ok (.iload_n 1, 1) := by decide +kernel
theorem dX11_tries_62 : decode cX11_tries 62 = .ok (.iaload, 1) := by decide +kernel
theorem dX11_tries_63 : decode cX11_tries 63 = .ok (.iconst (-1), 1) := by decide +kernel
theorem dX11_tries_64 : decode cX11_tries 64 = .ok (.if_icmp .eq 55, 3) := by decide +kernel
theorem dX11_tries_67 : decode cX11_tries 67 = .ok (.iload 5, 2) := by decide +kernel
theorem dX11_tries_69 : decode cX11_tries 69 = .ok (.aload_n 0, 1) := by decide +kernel
theorem dX11_tries_70 : decode cX11_tries 70 = .ok (.getfield 51, 3) := by decide +kernel
theorem dX11_tries_73 : decode cX11_tries 73 = .ok (.iload_n 1, 1) := by decide +kernel
theorem dX11_tries_74 : decode cX11_tries 74 = .ok (.iaload, 1) := by decide +kernel
theorem dX11_tries_75 : decode cX11_tries 75 = .ok (.if_icmp .lt 44, 3) := by decide +kernel
theorem dX11_tries_78 : decode cX11_tries 78 = .ok (.iload 5, 2) := by decide +kernel
theorem dX11_tries_80 : decode cX11_tries 80 = .ok (.aload_n 0, 1) := by decide +kernel
theorem dX11_tries_81 : decode cX11_tries 81 = .ok (.getfield 51, 3) := by decide +kernel
theorem dX11_tries_84 : decode cX11_tries 84 = .ok (.iload_n 1, 1) := by decide +kernel
theorem dX11_tries_85 : decode cX11_tries 85 = .ok (.iaload, 1) := by decide +kernel
theorem dX11_tries_86 : decode cX11_tries 86 = .ok (.if_icmp .ne 37, 3) := by decide +kernel
theorem dX11_tries_89 : decode cX11_tries 89 = .ok (.iload_n 3, 1) := by decide +kernel
theorem dX11_tries_90 : decode cX11_tries 90 = .ok (.aload_n 0, 1) := by decide +kernel
theorem dX11_tries_91 : decode cX11_tries 91 = .ok (.getfield 57, 3) := by decide +kernel
theorem dX11_tries_94 : decode cX11_tries 94 = .ok (.iload_n 1, 1) := by decide +kernel
theorem dX11_tries_95 : decode cX11_tries 95 = .ok (.iaload, 1) := by decide +kernel
theorem dX11_tries_96 : decode cX11_tries 96 = .ok (.if_icmp .gt 23, 3) := by decide +kernel
theorem dX11_tries_99 : decode cX11_tries 99 = .ok (.iload_n 3, 1) := by decide +kernel
theorem dX11_tries_100 : decode cX11_tries 100 = .ok (.aload_n 0, 1) := by decide +kernel
theorem dX11_tries_101 : decode cX11_tries 101 = .ok (.getfield 57, 3) := by decide +kernel
theorem dX11_tries_104 : decode cX11_tries 104 = .ok (.iload_n 1, 1) := by decide +kernel
theorem dX11_tries_105 : decode cX11_tries 105 = .ok (.iaload, 1) := by decide +kernel
theorem dX11_tries_106 : decode cX11_tries 106 = .ok (.if_icmp .ne 17, 3) := by decide +kernel
theorem dX11_tries_109 : decode cX11_tries 109 = .ok (.iload_n 2, 1) := by decide +kernel
theorem dX11_tries_110 : decode cX11_tries 110 = .ok (.aload_n 0, 1) := by decide +kernel
theorem dX11_tries_111 : decode cX11_tries 111 = .ok (.getfield 54, 3) := by decide +kernel
theorem dX11_tries_114 : decode cX11_tries 114 = .ok (.iload_n 1, 1) := by decide +kernel
theorem dX11_tries_115 : decode cX11_tries 115 = .ok (.iaload, 1) := by decide +kernel
theorem dX11_tries_116 : decode cX11_tries 116 = .ok (.if_icmp .ge 7, 3) := by decide +kernel
theorem dX11_tries_119 : decode cX11_tries 119 = .ok (.iconst 1, 1) := by decide +kernel
theorem dX11_tries_120 : decode cX11_tries 120 = .ok (.goto 4, 3) := by decide +kernel
theorem dX11_tries_123 : decode cX11_tries 123 = .ok (.iconst 0, 1) := by decide +kernel
theorem dX11_tries_124 : decode cX11_tries 124 = .ok (.istore 6, 2) := by decide +kernel
theorem dX11_tries_126 : decode cX11_tries 126 = .ok (.iload 6, 2) := by decide +kernel
theorem dX11_tries_128 : decode cX11_tries 128 = .ok (.ifCond .ne 4, 3) := by decide +kernel
theorem dX11_tries_131 : decode cX11_tries 131 = .ok (.return_, 1) := by decide +kernel
theorem dX11_tries_132 : decode cX11_tries 132 = .ok (.aload_n 0, 1) := by decide +kernel
theorem dX11_tries_133 : decode cX11_tries 133 = .ok (.getfield 51, 3) := by decide +kernel
theorem dX11_tries_136 : decode cX11_tries 136 = .ok (.iload_n 1, 1) := by decide +kernel
theorem dX11_tries_137 : decode cX11_tries 137 = .ok (.iload 5, 2) := by decide +kernel
theorem dX11_tries_139 : decode cX11_tries 139 = .ok (.iastore, 1) := by decide +kernel
theorem dX11_tries_140 : decode cX11_tries 140 = .ok (.aload_n 0, 1) := by decide +kernel
theorem dX11_tries_141 : decode cX11_tries 141 = .ok (.getfield 54, 3) := by decide +kernel
theorem dX11_tries_144 : decode cX11_tries 144 = .ok (.iload_n 1, 1) := by decide +kernel
theorem dX11_tries_145 : decode cX11_tries 145 = .ok (.iload_n 2, 1) := by decide +kernel
theorem dX11_tries_146 : decode cX11_tries 146 = .ok (.iastore, 1) := by decide +kernel
theorem dX11_tries_147 : decode cX11_tries 147 = .ok (.aload_n 0, 1) := by decide +kernel
theorem dX11_tries_148 : decode cX11_tries 148 = .ok (.getfield 57, 3) := by decide +kernel
theorem dX11_tries_151 : decode cX11_tries 151 = .ok (.iload_n 1, 1) := by decide +kernel
theorem dX11_tries_152 : decode cX11_tries 152 = .ok (.iload_n 3, 1) := by decide +kernel
theorem dX11_tries_153 : decode cX11_tries 153 = .ok (.iastore, 1) := by decide +kernel
theorem dX11_tries_154 : decode cX11_tries 154 = .ok (.return_, 1) := by decide +kernel
abbrev mX11_tries : MI := (RX11, yX11_tries, cX11_tries, 7, none)
theorem mok_X11_tries : MOKv mX11_tries 4 := ⟨⟨bm_1624, bm_127, ⟨by decide, by decide⟩, by decide +kernel⟩, bm_1623, bm_83⟩
def f_X11_tries_124   (a0 : Nat) (x1 : Int32) (x2 : Int32) (x3 : Int32) (x5 : Int32) (t0 : Int32) (h : MH) : Option (MH) :=
  if t0 = 0 then
    some h
  else
    (gR h a0 28).bind fun a_1 =>
    (stI h a_1 x1 x5).bind fun h_2 =>
    (gR h_2 a0 29).bind fun a_3 =>
    (stI h_2 a_3 x1 x2).bind fun h_4 =>
    (gR h_4 a0 30).bind fun a_5 =>
    (stI h_4 a_5 x1 x3).bind fun h_6 =>
    some h_6
def f_X11_tries_123   (a0 : Nat) (x1 : Int32) (x2 : Int32) (x3 : Int32) (x5 : Int32) (h : MH) : Option (MH) :=
  f_X11_tries_124 a0 x1 x2 x3 x5 0 h
def f_X11_tries_119   (a0 : Nat) (x1 : Int32) (x2 : Int32) (x3 : Int32) (x5 : Int32) (h : MH) : Option (MH) :=
  f_X11_tries_124 a0 x1 x2 x3 x5 1 h
def f_X11_tries   (a0 : Nat) (x1 : Int32) (x2 : Int32) (x3 : Int32) (x4 : Int32) (h : MH) : Option (MH) :=
  if x3 = 0 then
    some h
  else
    (gR h a0 28).bind fun a_1 =>
    (ldI h a_1 (x1 + x3)).bind fun x_2 =>
    if x_2 = (-1 : Int32) then
      some h
    else
      (gR h a0 28).bind fun a_3 =>
      (ldI h a_3 (x1 + x3)).bind fun x_4 =>
      lt (1 + x_4) fun x_5 =>
      if (gI h a0 4) < x_5 then
        some h
      else
        (gR h a0 28).bind fun a_6 =>
        (ldI h a_6 (x1 + x3)).bind fun x_7 =>
        if (gI h a0 4) < (x4 + x_7) then
          some h
        else
          (gR h a0 28).bind fun a_8 =>
          (ldI h a_8 x1).bind fun x_9 =>
          if x_9 = (-1 : Int32) then
            f_X11_tries_119 a0 x1 x2 x3 x_5 h
          else
            (gR h a0 28).bind fun a_10 =>
            (ldI h a_10 x1).bind fun x_11 =>
            if x_5 < x_11 then
              f_X11_tries_119 a0 x1 x2 x3 x_5 h
            else
              (gR h a0 28).bind fun a_12 =>
              (ldI h a_12 x1).bind fun x_13 =>
              if x_5 = x_13 then
                (gR h a0 30).bind fun a_14 =>
                (ldI h a_14 x1).bind fun x_15 =>
                if x_15 < x3 then
                  f_X11_tries_119 a0 x1 x2 x3 x_5 h
                else
                  (gR h a0 30).bind fun a_16 =>
                  (ldI h a_16 x1).bind fun x_17 =>
                  if x3 = x_17 then
                    (gR h a0 29).bind fun a_18 =>
                    (ldI h a_18 x1).bind fun x_19 =>
                    if x2 < x_19 then
                      f_X11_tries_119 a0 x1 x2 x3 x_5 h
                    else
                      f_X11_tries_123 a0 x1 x2 x3 x_5 h
                  else
                    f_X11_tries_123 a0 x1 x2 x3 x_5 h
              else
                f_X11_tries_123 a0 x1 x2 x3 x_5 h
set_option maxRecDepth 100000 in
set_option maxHeartbeats 4000000 in
theorem v_X11_tries_124 {l : Launch} {G : GE} {B N : Nat} {S : List SHP} {o : MH} {a0 : Nat} {x1 : Int32} {x2 : Int32} {x3 : Int32} {x5 : Int32} {t0 : Int32}    (hs0 : S[a0]? = some (.inl 11)) {h : MH} (hf : f_X11_tries_124 a0 x1 x2 x3 x5 t0 h = some o) : V l G B N mX11_tries (rmm 3 0 0) false 0 0 (QV S o) S 0 0 124 [(0, .ref a0), (1, .int x1), (2, .int x2), (3, .int x3), (5, .int x5)] [.int t0] h := by
  unfold f_X11_tries_124 at hf
  refine V_istore (lv' := [(6, .int t0), (0, .ref a0), (1, .int x1), (2, .int x2), (3, .int x3), (5, .int x5)]) (pc' := 126) dX11_tries_124 rfl (Nat.le_of_ble_eq_true rfl) rfl ?_
  refine V_iload (pc' := 128) dX11_tries_126 rfl 0 rfl ?_
  refine V_if_ne (tgt := 132) (pc' := 131) dX11_tries_128 (by decide) rfl hf (fun hf => ?_) (fun hf => ?_)
  ·
    obtain rfl := Option.some.inj hf
    exact V_vret dX11_tries_131 rfl rfl rfl ⟨rfl, rfl, rfl⟩
  ·
    refine V_aload_n (pc' := 133) dX11_tries_132 rfl 1 rfl rfl ?_
    refine V_getR (pc' := 136) 11 28 dX11_tries_133 rfl (by decide) (Nat.le_of_ble_eq_true rfl) bm_1252 hs0 (fun _ _ _ => rfl) rfl hf (fun a_1 ha_1 hf => ?_)
    refine V_iload_n (pc' := 137) dX11_tries_136 rfl 2 rfl rfl ?_
    refine V_iload (pc' := 139) dX11_tries_137 rfl 5 rfl ?_
    refine V_iast (pc' := 140) dX11_tries_139 rfl ha_1 hf (fun h_2 hf => ?_)
    refine V_aload_n (pc' := 141) dX11_tries_140 rfl 1 rfl rfl ?_
    refine V_getR (pc' := 144) 11 29 dX11_tries_141 rfl (by decide) (Nat.le_of_ble_eq_true rfl) bm_1253 hs0 (fun _ _ _ => rfl) rfl hf (fun a_3 ha_3 hf => ?_)
    refine V_iload_n (pc' := 145) dX11_tries_144 rfl 2 rfl rfl ?_
    refine V_iload_n (pc' := 146) dX11_tries_145 rfl 3 rfl rfl ?_
    refine V_iast (pc' := 147) dX11_tries_146 rfl ha_3 hf (fun h_4 hf => ?_)
    refine V_aload_n (pc' := 148) dX11_tries_147 rfl 1 rfl rfl ?_
    refine V_getR (pc' := 151) 11 30 dX11_tries_148 rfl (by decide) (Nat.le_of_ble_eq_true rfl) bm_1254 hs0 (fun _ _ _ => rfl) rfl hf (fun a_5 ha_5 hf => ?_)
    refine V_iload_n (pc' := 152) dX11_tries_151 rfl 2 rfl rfl ?_
    refine V_iload_n (pc' := 153) dX11_tries_152 rfl 4 rfl rfl ?_
    refine V_iast (pc' := 154) dX11_tries_153 rfl ha_5 hf (fun h_6 hf => ?_)
    obtain rfl := Option.some.inj hf
    exact V_vret dX11_tries_154 rfl rfl rfl ⟨rfl, rfl, rfl⟩
set_option maxRecDepth 100000 in
set_option maxHeartbeats 4000000 in
theorem v_X11_tries_123 {l : Launch} {G : GE} {B N : Nat} {S : List SHP} {o : MH} {a0 : Nat} {x1 : Int32} {x2 : Int32} {x3 : Int32} {x5 : Int32}    (hs0 : S[a0]? = some (.inl 11)) {h : MH} (hf : f_X11_tries_123 a0 x1 x2 x3 x5 h = some o) : V l G B N mX11_tries (rmm 3 0 0) false 0 0 (QV S o) S 0 0 123 [(0, .ref a0), (1, .int x1), (2, .int x2), (3, .int x3), (5, .int x5)] [] h := by
  unfold f_X11_tries_123 at hf
  refine V_iconst (v := 0) (pc' := 124) dX11_tries_123 rfl (by decide) ?_
  exact V_sub (lv' := [(0, .ref a0), (1, .int x1), (2, .int x2), (3, .int x3), (5, .int x5)]) [0, 1, 2, 3, 4] rfl (v_X11_tries_124 hs0 hf)
set_option maxRecDepth 100000 in
set_option maxHeartbeats 4000000 in
theorem v_X11_tries_119 {l : Launch} {G : GE} {B N : Nat} {S : List SHP} {o : MH} {a0 : Nat} {x1 : Int32} {x2 : Int32} {x3 : Int32} {x5 : Int32}    (hs0 : S[a0]? = some (.inl 11)) {h : MH} (hf : f_X11_tries_119 a0 x1 x2 x3 x5 h = some o) : V l G B N mX11_tries (rmm 3 0 0) false 0 0 (QV S o) S 0 0 119 [(0, .ref a0), (1, .int x1), (2, .int x2), (3, .int x3), (5, .int x5)] [] h := by
  unfold f_X11_tries_119 at hf
  refine V_iconst (v := 1) (pc' := 120) dX11_tries_119 rfl (by decide) ?_
  refine V_goto (tgt := 124) dX11_tries_120 (by decide) ?_
  exact V_sub (lv' := [(0, .ref a0), (1, .int x1), (2, .int x2), (3, .int x3), (5, .int x5)]) [0, 1, 2, 3, 4] rfl (v_X11_tries_124 hs0 hf)
set_option maxRecDepth 100000 in
set_option maxHeartbeats 4000000 in
theorem v_X11_tries {l : Launch} {G : GE} {B N : Nat} {S : List SHP} {o : MH} {a0 : Nat} {x1 : Int32} {x2 : Int32} {x3 : Int32} {x4 : Int32}    (hs0 : S[a0]? = some (.inl 11)) {h : MH} (hf : f_X11_tries a0 x1 x2 x3 x4 h = some o) : V l G B N mX11_tries (rmm 3 0 0) false 0 0 (QV S o) S 0 0 0 [(0, .ref a0), (1, .int x1), (2, .int x2), (3, .int x3), (4, .int x4)] [] h := by
  unfold f_X11_tries at hf
  refine V_iload_n (pc' := 1) dX11_tries_0 rfl 3 rfl rfl ?_
  refine V_if_eq (tgt := 16) (pc' := 4) dX11_tries_1 (by decide) rfl hf (fun hf => ?_) (fun hf => ?_)
  ·
    obtain rfl := Option.some.inj hf
    exact V_vret dX11_tries_16 rfl rfl rfl ⟨rfl, rfl, rfl⟩
  ·
    refine V_aload_n (pc' := 5) dX11_tries_4 rfl 0 rfl rfl ?_
    refine V_getR (pc' := 8) 11 28 dX11_tries_5 rfl (by decide) (Nat.le_of_ble_eq_true rfl) bm_1252 hs0 (fun _ _ _ => rfl) rfl hf (fun a_1 ha_1 hf => ?_)
    refine V_iload_n (pc' := 9) dX11_tries_8 rfl 1 rfl rfl ?_
    refine V_iload_n (pc' := 10) dX11_tries_9 rfl 3 rfl rfl ?_
    refine V_iadd (pc' := 11) dX11_tries_10 rfl ?_
    refine V_iald (pc' := 12) dX11_tries_11 rfl ha_1 hf (fun x_2 hf => ?_)
    refine V_iconst (v := (-1)) (pc' := 13) dX11_tries_12 rfl (by decide) ?_
    refine V_icmp_ne (tgt := 17) (pc' := 16) dX11_tries_13 (by decide) rfl hf (fun hf => ?_) (fun hf => ?_)
    ·
      obtain rfl := Option.some.inj hf
      exact V_vret dX11_tries_16 rfl rfl rfl ⟨rfl, rfl, rfl⟩
    ·
      refine V_iconst (v := 1) (pc' := 18) dX11_tries_17 rfl (by decide) ?_
      refine V_aload_n (pc' := 19) dX11_tries_18 rfl 0 rfl rfl ?_
      refine V_getR (pc' := 22) 11 28 dX11_tries_19 rfl (by decide) (Nat.le_of_ble_eq_true rfl) bm_1252 hs0 (fun _ _ _ => rfl) rfl hf (fun a_3 ha_3 hf => ?_)
      refine V_iload_n (pc' := 23) dX11_tries_22 rfl 1 rfl rfl ?_
      refine V_iload_n (pc' := 24) dX11_tries_23 rfl 3 rfl rfl ?_
      refine V_iadd (pc' := 25) dX11_tries_24 rfl ?_
      refine V_iald (pc' := 26) dX11_tries_25 rfl ha_3 hf (fun x_4 hf => ?_)
      refine V_iadd (pc' := 27) dX11_tries_26 rfl ?_
      refine V_nmI hf (fun x_5 hf => ?_)
      refine V_istore (lv' := [(5, .int x_5), (0, .ref a0), (1, .int x1), (2, .int x2), (3, .int x3), (4, .int x4)]) (pc' := 29) dX11_tries_27 rfl (Nat.le_of_ble_eq_true rfl) rfl ?_
      refine V_iload (pc' := 31) dX11_tries_29 rfl 0 rfl ?_
      refine V_aload_n (pc' := 32) dX11_tries_31 rfl 1 rfl rfl ?_
      refine V_getI (pc' := 35) 11 4 dX11_tries_32 rfl (by decide) (Nat.le_of_ble_eq_true rfl) bm_1228 hs0 (fun _ _ _ => rfl) ?_
      refine V_icmp_gt (tgt := 56) (pc' := 38) dX11_tries_35 (by decide) rfl hf (fun hf => ?_) (fun hf => ?_)
      ·
        obtain rfl := Option.some.inj hf
        exact V_vret dX11_tries_56 rfl rfl rfl ⟨rfl, rfl, rfl⟩
      ·
        refine V_iload (pc' := 40) dX11_tries_38 rfl 5 rfl ?_
        refine V_aload_n (pc' := 41) dX11_tries_40 rfl 1 rfl rfl ?_
        refine V_getR (pc' := 44) 11 28 dX11_tries_41 rfl (by decide) (Nat.le_of_ble_eq_true rfl) bm_1252 hs0 (fun _ _ _ => rfl) rfl hf (fun a_6 ha_6 hf => ?_)
        refine V_iload_n (pc' := 45) dX11_tries_44 rfl 2 rfl rfl ?_
        refine V_iload_n (pc' := 46) dX11_tries_45 rfl 4 rfl rfl ?_
        refine V_iadd (pc' := 47) dX11_tries_46 rfl ?_
        refine V_iald (pc' := 48) dX11_tries_47 rfl ha_6 hf (fun x_7 hf => ?_)
        refine V_iadd (pc' := 49) dX11_tries_48 rfl ?_
        refine V_aload_n (pc' := 50) dX11_tries_49 rfl 1 rfl rfl ?_
        refine V_getI (pc' := 53) 11 4 dX11_tries_50 rfl (by decide) (Nat.le_of_ble_eq_true rfl) bm_1228 hs0 (fun _ _ _ => rfl) ?_
        refine V_icmp_le (tgt := 57) (pc' := 56) dX11_tries_53 (by decide) rfl hf (fun hf => ?_) (fun hf => ?_)
        ·
          obtain rfl := Option.some.inj hf
          exact V_vret dX11_tries_56 rfl rfl rfl ⟨rfl, rfl, rfl⟩
        ·
          refine V_aload_n (pc' := 58) dX11_tries_57 rfl 1 rfl rfl ?_
          refine V_getR (pc' := 61) 11 28 dX11_tries_58 rfl (by decide) (Nat.le_of_ble_eq_true rfl) bm_1252 hs0 (fun _ _ _ => rfl) rfl hf (fun a_8 ha_8 hf => ?_)
          refine V_iload_n (pc' := 62) dX11_tries_61 rfl 2 rfl rfl ?_
          refine V_iald (pc' := 63) dX11_tries_62 rfl ha_8 hf (fun x_9 hf => ?_)
          refine V_iconst (v := (-1)) (pc' := 64) dX11_tries_63 rfl (by decide) ?_
          refine V_icmp_eq (tgt := 119) (pc' := 67) dX11_tries_64 (by decide) rfl hf (fun hf => ?_) (fun hf => ?_)
          ·
            exact V_sub (lv' := [(0, .ref a0), (1, .int x1), (2, .int x2), (3, .int x3), (5, .int x_5)]) [1, 2, 3, 4, 0] rfl (v_X11_tries_119 hs0 hf)
          ·
            refine V_iload (pc' := 69) dX11_tries_67 rfl 0 rfl ?_
            refine V_aload_n (pc' := 70) dX11_tries_69 rfl 1 rfl rfl ?_
            refine V_getR (pc' := 73) 11 28 dX11_tries_70 rfl (by decide) (Nat.le_of_ble_eq_true rfl) bm_1252 hs0 (fun _ _ _ => rfl) rfl hf (fun a_10 ha_10 hf => ?_)
            refine V_iload_n (pc' := 74) dX11_tries_73 rfl 2 rfl rfl ?_
            refine V_iald (pc' := 75) dX11_tries_74 rfl ha_10 hf (fun x_11 hf => ?_)
            refine V_icmp_lt (tgt := 119) (pc' := 78) dX11_tries_75 (by decide) rfl hf (fun hf => ?_) (fun hf => ?_)
            ·
              exact V_sub (lv' := [(0, .ref a0), (1, .int x1), (2, .int x2), (3, .int x3), (5, .int x_5)]) [1, 2, 3, 4, 0] rfl (v_X11_tries_119 hs0 hf)
            ·
              refine V_iload (pc' := 80) dX11_tries_78 rfl 0 rfl ?_
              refine V_aload_n (pc' := 81) dX11_tries_80 rfl 1 rfl rfl ?_
              refine V_getR (pc' := 84) 11 28 dX11_tries_81 rfl (by decide) (Nat.le_of_ble_eq_true rfl) bm_1252 hs0 (fun _ _ _ => rfl) rfl hf (fun a_12 ha_12 hf => ?_)
              refine V_iload_n (pc' := 85) dX11_tries_84 rfl 2 rfl rfl ?_
              refine V_iald (pc' := 86) dX11_tries_85 rfl ha_12 hf (fun x_13 hf => ?_)
              refine V_icmp_ne (tgt := 123) (pc' := 89) dX11_tries_86 (by decide) rfl hf (fun hf => ?_) (fun hf => ?_)
              ·
                refine V_iload_n (pc' := 90) dX11_tries_89 rfl 4 rfl rfl ?_
                refine V_aload_n (pc' := 91) dX11_tries_90 rfl 1 rfl rfl ?_
                refine V_getR (pc' := 94) 11 30 dX11_tries_91 rfl (by decide) (Nat.le_of_ble_eq_true rfl) bm_1254 hs0 (fun _ _ _ => rfl) rfl hf (fun a_14 ha_14 hf => ?_)
                refine V_iload_n (pc' := 95) dX11_tries_94 rfl 2 rfl rfl ?_
                refine V_iald (pc' := 96) dX11_tries_95 rfl ha_14 hf (fun x_15 hf => ?_)
                refine V_icmp_gt (tgt := 119) (pc' := 99) dX11_tries_96 (by decide) rfl hf (fun hf => ?_) (fun hf => ?_)
                ·
                  exact V_sub (lv' := [(0, .ref a0), (1, .int x1), (2, .int x2), (3, .int x3), (5, .int x_5)]) [1, 2, 3, 4, 0] rfl (v_X11_tries_119 hs0 hf)
                ·
                  refine V_iload_n (pc' := 100) dX11_tries_99 rfl 4 rfl rfl ?_
                  refine V_aload_n (pc' := 101) dX11_tries_100 rfl 1 rfl rfl ?_
                  refine V_getR (pc' := 104) 11 30 dX11_tries_101 rfl (by decide) (Nat.le_of_ble_eq_true rfl) bm_1254 hs0 (fun _ _ _ => rfl) rfl hf (fun a_16 ha_16 hf => ?_)
                  refine V_iload_n (pc' := 105) dX11_tries_104 rfl 2 rfl rfl ?_
                  refine V_iald (pc' := 106) dX11_tries_105 rfl ha_16 hf (fun x_17 hf => ?_)
                  refine V_icmp_ne (tgt := 123) (pc' := 109) dX11_tries_106 (by decide) rfl hf (fun hf => ?_) (fun hf => ?_)
                  ·
                    refine V_iload_n (pc' := 110) dX11_tries_109 rfl 3 rfl rfl ?_
                    refine V_aload_n (pc' := 111) dX11_tries_110 rfl 1 rfl rfl ?_
                    refine V_getR (pc' := 114) 11 29 dX11_tries_111 rfl (by decide) (Nat.le_of_ble_eq_true rfl) bm_1253 hs0 (fun _ _ _ => rfl) rfl hf (fun a_18 ha_18 hf => ?_)
                    refine V_iload_n (pc' := 115) dX11_tries_114 rfl 2 rfl rfl ?_
                    refine V_iald (pc' := 116) dX11_tries_115 rfl ha_18 hf (fun x_19 hf => ?_)
                    refine V_icmp_ge (tgt := 123) (pc' := 119) dX11_tries_116 (by decide) rfl hf (fun hf => ?_) (fun hf => ?_)
                    ·
                      exact V_sub (lv' := [(0, .ref a0), (1, .int x1), (2, .int x2), (3, .int x3), (5, .int x_5)]) [1, 2, 3, 4, 0] rfl (v_X11_tries_119 hs0 hf)
                    ·
                      exact V_sub (lv' := [(0, .ref a0), (1, .int x1), (2, .int x2), (3, .int x3), (5, .int x_5)]) [1, 2, 3, 4, 0] rfl (v_X11_tries_123 hs0 hf)
                  ·
                    exact V_sub (lv' := [(0, .ref a0), (1, .int x1), (2, .int x2), (3, .int x3), (5, .int x_5)]) [1, 2, 3, 4, 0] rfl (v_X11_tries_123 hs0 hf)
              ·
                exact V_sub (lv' := [(0, .ref a0), (1, .int x1), (2, .int x2), (3, .int x3), (5, .int x_5)]) [1, 2, 3, 4, 0] rfl (v_X11_tries_123 hs0 hf)
theorem ct_X11_tries {l : Launch} {S : List SHP} {h : MH} {a0 : Nat} {x1 : Int32} {x2 : Int32} {x3 : Int32} {x4 : Int32} (hs0 : S[a0]? = some (.inl 11)) {q : MH} (hf : f_X11_tries a0 x1 x2 x3 x4 h = some q) : CT l mX11_tries 3 false 0 0 S [.ref a0, .int x1, .int x2, .int x3, .int x4] h (QV S q) :=
  CT_ofV (by decide) rfl (Nat.le_of_ble_eq_true rfl) (fun G B hT => v_X11_tries hs0 hf)
/-! LabelStacksModel.laysFewest()V -/
theorem dX11_laysFewest_0 : decode cX11_laysFewest 0 = .ok (.aload_n 0, 1) := by decide +kernel
theorem dX11_laysFewest_1 : decode cX11_laysFewest 1 = .ok (.getfield 51, 3) := by decide +kernel
theorem dX11_laysFewest_4 : decode cX11_laysFewest 4 = .ok (.aload_n 0, 1) := by decide +kernel
theorem dX11_laysFewest_5 : decode cX11_laysFewest 5 = .ok (.getfield 275, 3) := by decide +kernel
theorem dX11_laysFewest_8 : decode cX11_laysFewest 8 = .ok (.iconst 0, 1) := by decide +kernel
theorem dX11_laysFewest_9 : decode cX11_laysFewest 9 = .ok (.iastore, 1) := by decide +kernel
theorem dX11_laysFewest_10 : decode cX11_laysFewest 10 = .ok (.aload_n 0, 1) := by decide +kernel
theorem dX11_laysFewest_11 : decode cX11_laysFewest 11 = .ok (.getfield 275, 3) := by decide +kernel
theorem dX11_laysFewest_14 : decode cX11_laysFewest 14 = .ok (.iconst 1, 1) := by decide +kernel
theorem dX11_laysFewest_15 : decode cX11_laysFewest 15 = .ok (.isub, 1) := by decide +kernel
theorem dX11_laysFewest_16 : decode cX11_laysFewest 16 = .ok (.istore_n 1, 1) := by decide +kernel
theorem dX11_laysFewest_17 : decode cX11_laysFewest 17 = .ok (.iload_n 1, 1) := by decide +kernel
theorem dX11_laysFewest_18 : decode cX11_laysFewest 18 = .ok (.ifCond .lt 114, 3) := by decide +kernel
theorem dX11_laysFewest_21 : decode cX11_laysFewest 21 = .ok (.aload_n 0, 1) := by decide +kernel
theorem dX11_laysFewest_22 : decode cX11_laysFewest 22 = .ok (.getfield 51, 3) := by decide +kernel
theorem dX11_laysFewest_25 : decode cX11_laysFewest 25 = .ok (.iload_n 1, 1) := by decide +kernel
theorem dX11_laysFewest_26 : decode cX11_laysFewest 26 = .ok (.iconst (-1), 1) := by decide +kernel
theorem dX11_laysFewest_27 : decode cX11_laysFewest 27 = .ok (.iastore, 1) := by decide +kernel
theorem dX11_laysFewest_28 : decode cX11_laysFewest 28 = .ok (.iconst 0, 1) := by decide +kernel
theorem dX11_laysFewest_29 : decode cX11_laysFewest 29 = .ok (.istore_n 2, 1) := by decide +kernel
theorem dX11_laysFewest_30 : decode cX11_laysFewest 30 = .ok (.iload_n 2, 1) := by decide +kernel
theorem dX11_laysFewest_31 : decode cX11_laysFewest 31 = .ok (.aload_n 0, 1) := by decide +kernel
theorem dX11_laysFewest_32 : decode cX11_laysFewest 32 = .ok (.invokevirtual 87, 3) := by decide +kernel
theorem dX11_laysFewest_35 : decode cX11_laysFewest 35 = .ok (.if_icmp .ge 22, 3) := by decide +kernel
theorem dX11_laysFewest_38 : decode cX11_laysFewest 38 = .ok (.aload_n 0, 1) := by decide +kernel
theorem dX11_laysFewest_39 : decode cX11_laysFewest 39 = .ok (.iload_n 1, 1) := by decide +kernel
theorem dX11_laysFewest_40 : decode cX11_laysFewest 40 = .ok (.iload_n 2, 1) := by decide +kernel
theorem dX11_laysFewest_41 : decode cX11_laysFewest 41 = .ok (.aload_n 0, 1) := by decide +kernel
theorem dX11_laysFewest_42 : decode cX11_laysFewest 42 = .ok (.iload_n 1, 1) := by decide +kernel
theorem dX11_laysFewest_43 : decode cX11_laysFewest 43 = .ok (.iload_n 2, 1) := by decide +kernel
theorem dX11_laysFewest_44 : decode cX11_laysFewest 44 = .ok (.invokevirtual 284, 3) := by decide +kernel
theorem dX11_laysFewest_47 : decode cX11_laysFewest 47 = .ok (.iconst 1, 1) := by decide +kernel
theorem dX11_laysFewest_48 : decode cX11_laysFewest 48 = .ok (.invokevirtual 287, 3) := by decide +kernel
theorem dX11_laysFewest_51 : decode cX11_laysFewest 51 = .ok (.iinc 2 1, 3) := by decide +kernel
theorem dX11_laysFewest_54 : decode cX11_laysFewest 54 = .ok (.goto (-24), 3) := by decide +kernel
theorem dX11_laysFewest_57 : decode cX11_laysFewest 57 = .ok (.aload_n 0, 1) := by decide +kernel
theorem dX11_laysFewest_58 : decode cX11_laysFewest 58 = .ok (.iload_n 1, 1) := by decide +kernel
theorem dX11_laysFewest_59 : decode cX11_laysFewest 59 = .ok (.bipush 100, 2) := by decide +kernel
theorem dX11_laysFewest_61 : decode cX11_laysFewest 61 = .ok (.aload_n 0, 1) := by decide +kernel
theorem dX11_laysFewest_62 : decode cX11_laysFewest 62 = .ok (.getfield 48, 3) := by decide +kernel
theorem dX11_laysFewest_65 : decode cX11_laysFewest 65 = .ok (.iload_n 1, 1) := by decide +kernel
theorem dX11_laysFewest_66 : decode cX11_laysFewest 66 = .ok (.iaload, 1) := by decide +kernel
theorem dX11_laysFewest_67 : decode cX11_laysFewest 67 = .ok (.iadd, 1) := by decide +kernel
theorem dX11_laysFewest_68 : decode cX11_laysFewest 68 = .ok (.aload_n 0, 1) := by decide +kernel
theorem dX11_laysFewest_69 : decode cX11_laysFewest 69 = .ok (.iload_n 1, 1) := by decide +kernel
theorem dX11_laysFewest_70 : decode cX11_laysFewest 70 = .ok (.bipush 100, 2) := by decide +kernel
theorem dX11_laysFewest_72 : decode cX11_laysFewest 72 = .ok (.aload_n 0, 1) := by decide +kernel
theorem dX11_laysFewest_73 : decode cX11_laysFewest 73 = .ok (.getfield 48, 3) := by decide +kernel
theorem dX11_laysFewest_76 : decode cX11_laysFewest 76 = .ok (.iload_n 1, 1) := by decide +kernel
theorem dX11_laysFewest_77 : decode cX11_laysFewest 77 = .ok (.iaload, 1) := by decide +kernel
theorem dX11_laysFewest_78 : decode cX11_laysFewest 78 = .ok (.iadd, 1) := by decide +kernel
theorem dX11_laysFewest_79 : decode cX11_laysFewest 79 = .ok (.invokevirtual 284, 3) := by decide +kernel
theorem dX11_laysFewest_82 : decode cX11_laysFewest 82 = .ok (.iconst 1, 1) := by decide +kernel
theorem dX11_laysFewest_83 : decode cX11_laysFewest 83 = .ok (.invokevirtual 287, 3) := by decide +kernel
theorem dX11_laysFewest_86 : decode cX11_laysFewest 86 = .ok (.iconst 0, 1) := by decide +kernel
theorem dX11_laysFewest_87 : decode cX11_laysFewest 87 = .ok (.istore_n 2, 1) := by decide +kernel
theorem dX11_laysFewest_88 : decode cX11_laysFewest 88 = .ok (.iload_n 2, 1) := by decide +kernel
theorem dX11_laysFewest_89 : decode cX11_laysFewest 89 = .ok (.bipush 6, 2) := by decide +kernel
theorem dX11_laysFewest_91 : decode cX11_laysFewest 91 = .ok (.if_icmp .ge 35, 3) := by decide +kernel
theorem dX11_laysFewest_94 : decode cX11_laysFewest 94 = .ok (.aload_n 0, 1) := by decide +kernel
theorem dX11_laysFewest_95 : decode cX11_laysFewest 95 = .ok (.iload_n 1, 1) := by decide +kernel
theorem dX11_laysFewest_96 : decode cX11_laysFewest 96 = .ok (.sipush 200, 3) := by decide +kernel
theorem dX11_laysFewest_99 : decode cX11_laysFewest 99 = .ok (.iload_n 2, 1) := by decide +kernel
theorem dX11_laysFewest_100 : decode cX11_laysFewest 100 = .ok (.iadd, 1) := by decide +kernel
theorem dX11_laysFewest_101 : decode cX11_laysFewest 101 = .ok (.aload_n 0, 1) := by decide +kernel
theorem dX11_laysFewest_102 : decode cX11_laysFewest 102 = .ok (.iload_n 1, 1) := by decide +kernel
theorem dX11_laysFewest_103 : decode cX11_laysFewest 103 = .ok (.iload_n 2, 1) := by decide +kernel
theorem dX11_laysFewest_104 : decode cX11_laysFewest 104 = .ok (.invokevirtual 291, 3) := by decide +kernel
theorem dX11_laysFewest_107 : decode cX11_laysFewest 107 = .ok (.aload_n 0, 1) := by decide +kernel
theorem dX11_laysFewest_108 : decode cX11_laysFewest 108 = .ok (.getfield 7, 3) := by decide +kernel
theorem dX11_laysFewest_111 : decode cX11_laysFewest 111 = .ok (.sipush 128, 3) := by decide +kernel
theorem dX11_laysFewest_114 : decode cX11_laysFewest 114 = .ok (.iload_n 2, 1) := by decide +kernel
theorem dX11_laysFewest_115 : decode cX11_laysFewest 115 = .ok (.iadd, 1) := by decide +kernel
theorem dX11_laysFewest_116 : decode cX11_laysFewest 116 = .ok (.iaload, 1) := by decide +kernel
theorem dX11_laysFewest_117 : decode cX11_laysFewest 117 = .ok (.invokevirtual 287, 3) := by decide +kernel
theorem dX11_laysFewest_120 : decode cX11_laysFewest 120 = .ok (.iinc 2 1, 3) := by decide +kernel
theorem dX11_laysFewest_123 : decode cX11_laysFewest 123 = .ok (.goto (-35), 3) := by decide +kernel
theorem dX11_laysFewest_126 : decode cX11_laysFewest 126 = .ok (.iinc 1 (-1), 3) := by decide +kernel
theorem dX11_laysFewest_129 : decode cX11_laysFewest 129 = .ok (.goto (-112), 3) := by decide +kernel
theorem dX11_laysFewest_132 : decode cX11_laysFewest 132 = .ok (.return_, 1) := by decide +kernel
abbrev mX11_laysFewest : MI := (RX11, yX11_laysFewest, cX11_laysFewest, 3, none)
theorem mok_X11_laysFewest : MOKv mX11_laysFewest 0 := ⟨⟨bm_1608, bm_127, ⟨by decide, by decide⟩, by decide +kernel⟩, bm_1607, bm_79⟩
def f_X11_laysFewest_88b  (k17 : Int32 → MH → Option (MH)) (a0 : Nat) (x1 : Int32) (k88 : Int32 → MH → Option (MH)) (p : Int32) (h : MH) : Option (MH) :=
  if p < 6 then
    (f_X11_coveredByBinding a0 x1 p h).bind fun q_1 =>
    (gR q_1.2 a0 1).bind fun a_2 =>
    (ldI q_1.2 a_2 (128 + p)).bind fun x_3 =>
    (f_X11_tries a0 x1 (200 + p) q_1.1 x_3 q_1.2).bind fun q_4 =>
    k88 (p + 1) q_4
  else
    k17 (x1 + (-1)) h
def f_X11_laysFewest_88  (k17 : Int32 → MH → Option (MH)) (a0 : Nat) (x1 : Int32) : Nat → Int32 → MH → Option (MH) := lp (f_X11_laysFewest_88b k17 a0 x1)
def f_X11_laysFewest_30b  (k17 : Int32 → MH → Option (MH)) (a0 : Nat) (x1 : Int32) (k30 : Int32 → MH → Option (MH)) (p : Int32) (h : MH) : Option (MH) :=
  (f_X11_n a0 h).bind fun q_1 =>
  if p < q_1.1 then
    (f_X11_coveredBy a0 x1 p q_1.2).bind fun q_2 =>
    (f_X11_tries a0 x1 p q_2.1 1 q_2.2).bind fun q_3 =>
    k30 (p + 1) q_3
  else
    (gR q_1.2 a0 26).bind fun a_4 =>
    (ldI q_1.2 a_4 x1).bind fun x_5 =>
    (gR q_1.2 a0 26).bind fun a_6 =>
    (ldI q_1.2 a_6 x1).bind fun x_7 =>
    (f_X11_coveredBy a0 x1 (100 + x_7) q_1.2).bind fun q_8 =>
    (f_X11_tries a0 x1 (100 + x_5) q_8.1 1 q_8.2).bind fun q_9 =>
    f_X11_laysFewest_88 k17 a0 x1 FU 0 q_9
def f_X11_laysFewest_30  (k17 : Int32 → MH → Option (MH)) (a0 : Nat) (x1 : Int32) : Nat → Int32 → MH → Option (MH) := lp (f_X11_laysFewest_30b k17 a0 x1)
def f_X11_laysFewest_17b   (a0 : Nat) (k17 : Int32 → MH → Option (MH)) (p : Int32) (h : MH) : Option (MH) :=
  if p < 0 then
    some h
  else
    (gR h a0 28).bind fun a_1 =>
    (stI h a_1 p (-1 : Int32)).bind fun h_2 =>
    f_X11_laysFewest_30 k17 a0 p FU 0 h_2
def f_X11_laysFewest_17   (a0 : Nat) : Nat → Int32 → MH → Option (MH) := lp (f_X11_laysFewest_17b a0)
def f_X11_laysFewest   (a0 : Nat) (h : MH) : Option (MH) :=
  (gR h a0 28).bind fun a_1 =>
  (stI h a_1 (gI h a0 27) 0).bind fun h_2 =>
  lt ((gI h_2 a0 27) - 1) fun x_3 =>
  f_X11_laysFewest_17 a0 FU x_3 h_2
set_option maxRecDepth 100000 in
set_option maxHeartbeats 4000000 in
theorem v_X11_laysFewest_88b {l : Launch} {G : GE} {B N : Nat} {S : List SHP} {o : MH} {a0 : Nat} {x1 : Int32}  {k17 : Int32 → MH → Option (MH)} (hk17 : ∀ (p : Int32) (h : MH), k17 p h = some o → V l G B N mX11_laysFewest (rmm 132 0 0) false 0 0 (QV S o) S 0 0 17 [(0, .ref a0), (1, .int p)] [] h) (hs0 : S[a0]? = some (.inl 11)) {k88 : Int32 → MH → Option (MH)} (hk88 : ∀ (p : Int32) (h : MH), k88 p h = some o → V l G B N mX11_laysFewest (rmm 132 0 0) false 0 0 (QV S o) S 0 0 88 [(0, .ref a0), (1, .int x1), (2, .int p)] [] h) {p : Int32} {h : MH} (hf : f_X11_laysFewest_88b k17 a0 x1 k88 p h = some o) : V l G B N mX11_laysFewest (rmm 132 0 0) false 0 0 (QV S o) S 0 0 88 [(0, .ref a0), (1, .int x1), (2, .int p)] [] h := by
  unfold f_X11_laysFewest_88b at hf
  refine V_iload_n (pc' := 89) dX11_laysFewest_88 rfl 2 rfl rfl ?_
  refine V_bipush (v := 6) (pc' := 91) dX11_laysFewest_89 rfl (by decide) ?_
  refine V_icmp_ge (tgt := 126) (pc' := 94) dX11_laysFewest_91 (by decide) rfl hf (fun hf => ?_) (fun hf => ?_)
  ·
    refine V_aload_n (pc' := 95) dX11_laysFewest_94 rfl 0 rfl rfl ?_
    refine V_iload_n (pc' := 96) dX11_laysFewest_95 rfl 1 rfl rfl ?_
    refine V_sipush (v := 200) (pc' := 99) dX11_laysFewest_96 rfl (by decide) ?_
    refine V_iload_n (pc' := 100) dX11_laysFewest_99 rfl 2 rfl rfl ?_
    refine V_iadd (pc' := 101) dX11_laysFewest_100 rfl ?_
    refine V_aload_n (pc' := 102) dX11_laysFewest_101 rfl 0 rfl rfl ?_
    refine V_iload_n (pc' := 103) dX11_laysFewest_102 rfl 1 rfl rfl ?_
    refine V_iload_n (pc' := 104) dX11_laysFewest_103 rfl 2 rfl rfl ?_
    refine V_cvI (pc' := 107) (As := [.int x1, .int p]) (rest := [.int (200 + p), .int x1, .ref a0]) dX11_laysFewest_104 rfl mok_X11_coveredByBinding bm_1625 11 (by decide) rfl hs0 rfl rfl (Nat.le_of_ble_eq_true rfl) (by decide) hf (fun q e => ct_X11_coveredByBinding hs0 e) (fun q_1 hf => ?_)
    refine V_aload_n (pc' := 108) dX11_laysFewest_107 rfl 0 rfl rfl ?_
    refine V_getR (pc' := 111) 11 1 dX11_laysFewest_108 rfl (by decide) (Nat.le_of_ble_eq_true rfl) bm_1225 hs0 (fun _ _ _ => rfl) rfl hf (fun a_2 ha_2 hf => ?_)
    refine V_sipush (v := 128) (pc' := 114) dX11_laysFewest_111 rfl (by decide) ?_
    refine V_iload_n (pc' := 115) dX11_laysFewest_114 rfl 2 rfl rfl ?_
    refine V_iadd (pc' := 116) dX11_laysFewest_115 rfl ?_
    refine V_iald (pc' := 117) dX11_laysFewest_116 rfl ha_2 hf (fun x_3 hf => ?_)
    refine V_cvV (pc' := 120) (As := [.int x1, .int (200 + p), .int q_1.1, .int x_3]) (rest := []) dX11_laysFewest_117 rfl mok_X11_tries bm_1621 11 (by decide) rfl hs0 rfl rfl (Nat.le_of_ble_eq_true rfl) (by decide) hf (fun q e => ct_X11_tries hs0 e) (fun q_4 hf => ?_)
    refine V_iinc (v := (p + 1)) (lv' := [(2, .int (p + 1)), (0, .ref a0), (1, .int x1)]) (pc' := 123) dX11_laysFewest_120 rfl 2 rfl rfl (Nat.le_of_ble_eq_true rfl) rfl ?_
    refine V_goto (tgt := 88) dX11_laysFewest_123 (by decide) ?_
    exact V_sub (lv' := [(0, .ref a0), (1, .int x1), (2, .int (p + 1))]) [1, 2, 0] rfl (hk88 (p + 1) q_4 hf)
  ·
    refine V_iinc (v := (x1 + (-1))) (lv' := [(1, .int (x1 + (-1))), (0, .ref a0), (2, .int p)]) (pc' := 129) dX11_laysFewest_126 rfl 1 rfl rfl (Nat.le_of_ble_eq_true rfl) rfl ?_
    refine V_goto (tgt := 17) dX11_laysFewest_129 (by decide) ?_
    exact V_sub (lv' := [(0, .ref a0), (1, .int (x1 + (-1)))]) [1, 0] rfl (hk17 (x1 + (-1)) h hf)
theorem v_X11_laysFewest_88 {l : Launch} {G : GE} {B N : Nat} {S : List SHP} {o : MH} {a0 : Nat} {x1 : Int32}  {k17 : Int32 → MH → Option (MH)} (hk17 : ∀ (p : Int32) (h : MH), k17 p h = some o → V l G B N mX11_laysFewest (rmm 132 0 0) false 0 0 (QV S o) S 0 0 17 [(0, .ref a0), (1, .int p)] [] h) (hs0 : S[a0]? = some (.inl 11)) {n : Nat} {p : Int32} {h : MH} (hf : f_X11_laysFewest_88 k17 a0 x1 n p h = some o) : V l G B N mX11_laysFewest (rmm 132 0 0) false 0 0 (QV S o) S 0 0 88 [(0, .ref a0), (1, .int x1), (2, .int p)] [] h :=
  V_lp (VV := fun p h => V l G B N mX11_laysFewest (rmm 132 0 0) false 0 0 (QV S o) S 0 0 88 [(0, .ref a0), (1, .int x1), (2, .int p)] [] h) (fun _ hk _ _ hf => v_X11_laysFewest_88b hk17 hs0 hk hf) n p h hf
set_option maxRecDepth 100000 in
set_option maxHeartbeats 4000000 in
theorem v_X11_laysFewest_30b {l : Launch} {G : GE} {B N : Nat} {S : List SHP} {o : MH} {a0 : Nat} {x1 : Int32}  {k17 : Int32 → MH → Option (MH)} (hk17 : ∀ (p : Int32) (h : MH), k17 p h = some o → V l G B N mX11_laysFewest (rmm 132 0 0) false 0 0 (QV S o) S 0 0 17 [(0, .ref a0), (1, .int p)] [] h) (hs0 : S[a0]? = some (.inl 11)) {k30 : Int32 → MH → Option (MH)} (hk30 : ∀ (p : Int32) (h : MH), k30 p h = some o → V l G B N mX11_laysFewest (rmm 132 0 0) false 0 0 (QV S o) S 0 0 30 [(0, .ref a0), (1, .int x1), (2, .int p)] [] h) {p : Int32} {h : MH} (hf : f_X11_laysFewest_30b k17 a0 x1 k30 p h = some o) : V l G B N mX11_laysFewest (rmm 132 0 0) false 0 0 (QV S o) S 0 0 30 [(0, .ref a0), (1, .int x1), (2, .int p)] [] h := by
  unfold f_X11_laysFewest_30b at hf
  refine V_iload_n (pc' := 31) dX11_laysFewest_30 rfl 2 rfl rfl ?_
  refine V_aload_n (pc' := 32) dX11_laysFewest_31 rfl 0 rfl rfl ?_
  refine V_cvI (pc' := 35) (As := []) (rest := [.int p]) dX11_laysFewest_32 rfl mok_X11_n bm_1393 11 (by decide) rfl hs0 rfl rfl (Nat.le_of_ble_eq_true rfl) (by decide) hf (fun q e => ct_X11_n hs0 e) (fun q_1 hf => ?_)
  refine V_icmp_ge (tgt := 57) (pc' := 38) dX11_laysFewest_35 (by decide) rfl hf (fun hf => ?_) (fun hf => ?_)
  ·
    refine V_aload_n (pc' := 39) dX11_laysFewest_38 rfl 0 rfl rfl ?_
    refine V_iload_n (pc' := 40) dX11_laysFewest_39 rfl 1 rfl rfl ?_
    refine V_iload_n (pc' := 41) dX11_laysFewest_40 rfl 2 rfl rfl ?_
    refine V_aload_n (pc' := 42) dX11_laysFewest_41 rfl 0 rfl rfl ?_
    refine V_iload_n (pc' := 43) dX11_laysFewest_42 rfl 1 rfl rfl ?_
    refine V_iload_n (pc' := 44) dX11_laysFewest_43 rfl 2 rfl rfl ?_
    refine V_cvI (pc' := 47) (As := [.int x1, .int p]) (rest := [.int p, .int x1, .ref a0]) dX11_laysFewest_44 rfl mok_X11_coveredBy bm_1609 11 (by decide) rfl hs0 rfl rfl (Nat.le_of_ble_eq_true rfl) (by decide) hf (fun q e => ct_X11_coveredBy hs0 e) (fun q_2 hf => ?_)
    refine V_iconst (v := 1) (pc' := 48) dX11_laysFewest_47 rfl (by decide) ?_
    refine V_cvV (pc' := 51) (As := [.int x1, .int p, .int q_2.1, .int 1]) (rest := []) dX11_laysFewest_48 rfl mok_X11_tries bm_1621 11 (by decide) rfl hs0 rfl rfl (Nat.le_of_ble_eq_true rfl) (by decide) hf (fun q e => ct_X11_tries hs0 e) (fun q_3 hf => ?_)
    refine V_iinc (v := (p + 1)) (lv' := [(2, .int (p + 1)), (0, .ref a0), (1, .int x1)]) (pc' := 54) dX11_laysFewest_51 rfl 2 rfl rfl (Nat.le_of_ble_eq_true rfl) rfl ?_
    refine V_goto (tgt := 30) dX11_laysFewest_54 (by decide) ?_
    exact V_sub (lv' := [(0, .ref a0), (1, .int x1), (2, .int (p + 1))]) [1, 2, 0] rfl (hk30 (p + 1) q_3 hf)
  ·
    refine V_aload_n (pc' := 58) dX11_laysFewest_57 rfl 0 rfl rfl ?_
    refine V_iload_n (pc' := 59) dX11_laysFewest_58 rfl 1 rfl rfl ?_
    refine V_bipush (v := 100) (pc' := 61) dX11_laysFewest_59 rfl (by decide) ?_
    refine V_aload_n (pc' := 62) dX11_laysFewest_61 rfl 0 rfl rfl ?_
    refine V_getR (pc' := 65) 11 26 dX11_laysFewest_62 rfl (by decide) (Nat.le_of_ble_eq_true rfl) bm_1250 hs0 (fun _ _ _ => rfl) rfl hf (fun a_4 ha_4 hf => ?_)
    refine V_iload_n (pc' := 66) dX11_laysFewest_65 rfl 1 rfl rfl ?_
    refine V_iald (pc' := 67) dX11_laysFewest_66 rfl ha_4 hf (fun x_5 hf => ?_)
    refine V_iadd (pc' := 68) dX11_laysFewest_67 rfl ?_
    refine V_aload_n (pc' := 69) dX11_laysFewest_68 rfl 0 rfl rfl ?_
    refine V_iload_n (pc' := 70) dX11_laysFewest_69 rfl 1 rfl rfl ?_
    refine V_bipush (v := 100) (pc' := 72) dX11_laysFewest_70 rfl (by decide) ?_
    refine V_aload_n (pc' := 73) dX11_laysFewest_72 rfl 0 rfl rfl ?_
    refine V_getR (pc' := 76) 11 26 dX11_laysFewest_73 rfl (by decide) (Nat.le_of_ble_eq_true rfl) bm_1250 hs0 (fun _ _ _ => rfl) rfl hf (fun a_6 ha_6 hf => ?_)
    refine V_iload_n (pc' := 77) dX11_laysFewest_76 rfl 1 rfl rfl ?_
    refine V_iald (pc' := 78) dX11_laysFewest_77 rfl ha_6 hf (fun x_7 hf => ?_)
    refine V_iadd (pc' := 79) dX11_laysFewest_78 rfl ?_
    refine V_cvI (pc' := 82) (As := [.int x1, .int (100 + x_7)]) (rest := [.int (100 + x_5), .int x1, .ref a0]) dX11_laysFewest_79 rfl mok_X11_coveredBy bm_1609 11 (by decide) rfl hs0 rfl rfl (Nat.le_of_ble_eq_true rfl) (by decide) hf (fun q e => ct_X11_coveredBy hs0 e) (fun q_8 hf => ?_)
    refine V_iconst (v := 1) (pc' := 83) dX11_laysFewest_82 rfl (by decide) ?_
    refine V_cvV (pc' := 86) (As := [.int x1, .int (100 + x_5), .int q_8.1, .int 1]) (rest := []) dX11_laysFewest_83 rfl mok_X11_tries bm_1621 11 (by decide) rfl hs0 rfl rfl (Nat.le_of_ble_eq_true rfl) (by decide) hf (fun q e => ct_X11_tries hs0 e) (fun q_9 hf => ?_)
    refine V_iconst (v := 0) (pc' := 87) dX11_laysFewest_86 rfl (by decide) ?_
    refine V_istore_n (lv' := [(2, .int 0), (0, .ref a0), (1, .int x1)]) (pc' := 88) dX11_laysFewest_87 rfl rfl (Nat.le_of_ble_eq_true rfl) rfl ?_
    exact V_sub (lv' := [(0, .ref a0), (1, .int x1), (2, .int 0)]) [1, 2, 0] rfl (v_X11_laysFewest_88 hk17 hs0 hf)
theorem v_X11_laysFewest_30 {l : Launch} {G : GE} {B N : Nat} {S : List SHP} {o : MH} {a0 : Nat} {x1 : Int32}  {k17 : Int32 → MH → Option (MH)} (hk17 : ∀ (p : Int32) (h : MH), k17 p h = some o → V l G B N mX11_laysFewest (rmm 132 0 0) false 0 0 (QV S o) S 0 0 17 [(0, .ref a0), (1, .int p)] [] h) (hs0 : S[a0]? = some (.inl 11)) {n : Nat} {p : Int32} {h : MH} (hf : f_X11_laysFewest_30 k17 a0 x1 n p h = some o) : V l G B N mX11_laysFewest (rmm 132 0 0) false 0 0 (QV S o) S 0 0 30 [(0, .ref a0), (1, .int x1), (2, .int p)] [] h :=
  V_lp (VV := fun p h => V l G B N mX11_laysFewest (rmm 132 0 0) false 0 0 (QV S o) S 0 0 30 [(0, .ref a0), (1, .int x1), (2, .int p)] [] h) (fun _ hk _ _ hf => v_X11_laysFewest_30b hk17 hs0 hk hf) n p h hf
set_option maxRecDepth 100000 in
set_option maxHeartbeats 4000000 in
theorem v_X11_laysFewest_17b {l : Launch} {G : GE} {B N : Nat} {S : List SHP} {o : MH} {a0 : Nat}    (hs0 : S[a0]? = some (.inl 11)) {k17 : Int32 → MH → Option (MH)} (hk17 : ∀ (p : Int32) (h : MH), k17 p h = some o → V l G B N mX11_laysFewest (rmm 132 0 0) false 0 0 (QV S o) S 0 0 17 [(0, .ref a0), (1, .int p)] [] h) {p : Int32} {h : MH} (hf : f_X11_laysFewest_17b a0 k17 p h = some o) : V l G B N mX11_laysFewest (rmm 132 0 0) false 0 0 (QV S o) S 0 0 17 [(0, .ref a0), (1, .int p)] [] h := by
  unfold f_X11_laysFewest_17b at hf
  refine V_iload_n (pc' := 18) dX11_laysFewest_17 rfl 1 rfl rfl ?_
  refine V_if_lt (tgt := 132) (pc' := 21) dX11_laysFewest_18 (by decide) rfl hf (fun hf => ?_) (fun hf => ?_)
  ·
    obtain rfl := Option.some.inj hf
    exact V_vret dX11_laysFewest_132 rfl rfl rfl ⟨rfl, rfl, rfl⟩
  ·
    refine V_aload_n (pc' := 22) dX11_laysFewest_21 rfl 0 rfl rfl ?_
    refine V_getR (pc' := 25) 11 28 dX11_laysFewest_22 rfl (by decide) (Nat.le_of_ble_eq_true rfl) bm_1252 hs0 (fun _ _ _ => rfl) rfl hf (fun a_1 ha_1 hf => ?_)
    refine V_iload_n (pc' := 26) dX11_laysFewest_25 rfl 1 rfl rfl ?_
    refine V_iconst (v := (-1)) (pc' := 27) dX11_laysFewest_26 rfl (by decide) ?_
    refine V_iast (pc' := 28) dX11_laysFewest_27 rfl ha_1 hf (fun h_2 hf => ?_)
    refine V_iconst (v := 0) (pc' := 29) dX11_laysFewest_28 rfl (by decide) ?_
    refine V_istore_n (lv' := [(2, .int 0), (0, .ref a0), (1, .int p)]) (pc' := 30) dX11_laysFewest_29 rfl rfl (Nat.le_of_ble_eq_true rfl) rfl ?_
    exact V_sub (lv' := [(0, .ref a0), (1, .int p), (2, .int 0)]) [1, 2, 0] rfl (v_X11_laysFewest_30 hk17 hs0 hf)
theorem v_X11_laysFewest_17 {l : Launch} {G : GE} {B N : Nat} {S : List SHP} {o : MH} {a0 : Nat}    (hs0 : S[a0]? = some (.inl 11)) {n : Nat} {p : Int32} {h : MH} (hf : f_X11_laysFewest_17 a0 n p h = some o) : V l G B N mX11_laysFewest (rmm 132 0 0) false 0 0 (QV S o) S 0 0 17 [(0, .ref a0), (1, .int p)] [] h :=
  V_lp (VV := fun p h => V l G B N mX11_laysFewest (rmm 132 0 0) false 0 0 (QV S o) S 0 0 17 [(0, .ref a0), (1, .int p)] [] h) (fun _ hk _ _ hf => v_X11_laysFewest_17b hs0 hk hf) n p h hf
set_option maxRecDepth 100000 in
set_option maxHeartbeats 4000000 in
theorem v_X11_laysFewest {l : Launch} {G : GE} {B N : Nat} {S : List SHP} {o : MH} {a0 : Nat}    (hs0 : S[a0]? = some (.inl 11)) {h : MH} (hf : f_X11_laysFewest a0 h = some o) : V l G B N mX11_laysFewest (rmm 132 0 0) false 0 0 (QV S o) S 0 0 0 [(0, .ref a0)] [] h := by
  unfold f_X11_laysFewest at hf
  refine V_aload_n (pc' := 1) dX11_laysFewest_0 rfl 0 rfl rfl ?_
  refine V_getR (pc' := 4) 11 28 dX11_laysFewest_1 rfl (by decide) (Nat.le_of_ble_eq_true rfl) bm_1252 hs0 (fun _ _ _ => rfl) rfl hf (fun a_1 ha_1 hf => ?_)
  refine V_aload_n (pc' := 5) dX11_laysFewest_4 rfl 0 rfl rfl ?_
  refine V_getI (pc' := 8) 11 27 dX11_laysFewest_5 rfl (by decide) (Nat.le_of_ble_eq_true rfl) bm_1251 hs0 (fun _ _ _ => rfl) ?_
  refine V_iconst (v := 0) (pc' := 9) dX11_laysFewest_8 rfl (by decide) ?_
  refine V_iast (pc' := 10) dX11_laysFewest_9 rfl ha_1 hf (fun h_2 hf => ?_)
  refine V_aload_n (pc' := 11) dX11_laysFewest_10 rfl 0 rfl rfl ?_
  refine V_getI (pc' := 14) 11 27 dX11_laysFewest_11 rfl (by decide) (Nat.le_of_ble_eq_true rfl) bm_1251 hs0 (fun _ _ _ => rfl) ?_
  refine V_iconst (v := 1) (pc' := 15) dX11_laysFewest_14 rfl (by decide) ?_
  refine V_isub (pc' := 16) dX11_laysFewest_15 rfl ?_
  refine V_nmI hf (fun x_3 hf => ?_)
  refine V_istore_n (lv' := [(1, .int x_3), (0, .ref a0)]) (pc' := 17) dX11_laysFewest_16 rfl rfl (Nat.le_of_ble_eq_true rfl) rfl ?_
  exact V_sub (lv' := [(0, .ref a0), (1, .int x_3)]) [1, 0] rfl (v_X11_laysFewest_17 hs0 hf)
theorem ct_X11_laysFewest {l : Launch} {S : List SHP} {h : MH} {a0 : Nat} (hs0 : S[a0]? = some (.inl 11)) {q : MH} (hf : f_X11_laysFewest a0 h = some q) : CT l mX11_laysFewest 132 false 0 0 S [.ref a0] h (QV S q) :=
  CT_ofV (by decide) rfl (Nat.le_of_ble_eq_true rfl) (fun G B hT => v_X11_laysFewest hs0 hf)
