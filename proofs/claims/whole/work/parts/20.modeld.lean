/-! LabelStacksModel.takesWay()V -/
theorem dX11_takesWay_0 : decode cX11_takesWay 0 = .ok (.aload_n 0, 1) := by decide +kernel
theorem dX11_takesWay_1 : decode cX11_takesWay 1 = .ok (.aload_n 0, 1) := by decide +kernel
theorem dX11_takesWay_2 : decode cX11_takesWay 2 = .ok (.invokevirtual 152, 3) := by decide +kernel
theorem dX11_takesWay_5 : decode cX11_takesWay 5 = .ok (.putfield 275, 3) := by decide +kernel
theorem dX11_takesWay_8 : decode cX11_takesWay 8 = .ok (.iconst 0, 1) := by decide +kernel
theorem dX11_takesWay_9 : decode cX11_takesWay 9 = .ok (.istore_n 1, 1) := by decide +kernel
theorem dX11_takesWay_10 : decode cX11_takesWay 10 = .ok (.iload_n 1, 1) := by decide +kernel
theorem dX11_takesWay_11 : decode cX11_takesWay 11 = .ok (.aload_n 0, 1) := by decide +kernel
theorem dX11_takesWay_12 : decode cX11_takesWay 12 = .ok (.getfield 275, 3) := by decide +kernel
theorem dX11_takesWay_15 : decode cX11_takesWay 15 = .ok (.if_icmp .ge 20, 3) := by decide +kernel
theorem dX11_takesWay_18 : decode cX11_takesWay 18 = .ok (.aload_n 0, 1) := by decide +kernel
theorem dX11_takesWay_19 : decode cX11_takesWay 19 = .ok (.getfield 48, 3) := by decide +kernel
theorem dX11_takesWay_22 : decode cX11_takesWay 22 = .ok (.iload_n 1, 1) := by decide +kernel
theorem dX11_takesWay_23 : decode cX11_takesWay 23 = .ok (.aload_n 0, 1) := by decide +kernel
theorem dX11_takesWay_24 : decode cX11_takesWay 24 = .ok (.iload_n 1, 1) := by decide +kernel
theorem dX11_takesWay_25 : decode cX11_takesWay 25 = .ok (.invokevirtual 155, 3) := by decide +kernel
theorem dX11_takesWay_28 : decode cX11_takesWay 28 = .ok (.iastore, 1) := by decide +kernel
theorem dX11_takesWay_29 : decode cX11_takesWay 29 = .ok (.iinc 1 1, 3) := by decide +kernel
theorem dX11_takesWay_32 : decode cX11_takesWay 32 = .ok (.goto (-22), 3) := by decide +kernel
theorem dX11_takesWay_35 : decode cX11_takesWay 35 = .ok (.return_, 1) := by decide +kernel
abbrev mX11_takesWay : MI := (RX11, yX11_takesWay, cX11_takesWay, 2, none)
theorem mok_X11_takesWay : MOKv mX11_takesWay 0 := ⟨⟨bm_1604, bm_127, ⟨by decide, by decide⟩, by decide +kernel⟩, bm_1603, bm_78⟩
def f_X11_takesWay_10b   (a0 : Nat) (k10 : Int32 → MH → Option (MH)) (p : Int32) (h : MH) : Option (MH) :=
  if p < (gI h a0 27) then
    (gR h a0 26).bind fun a_1 =>
    (f_X11_wayLink a0 p h).bind fun q_2 =>
    (stI q_2.2 a_1 p q_2.1).bind fun h_3 =>
    k10 (p + 1) h_3
  else
    some h
def f_X11_takesWay_10   (a0 : Nat) : Nat → Int32 → MH → Option (MH) := lp (f_X11_takesWay_10b a0)
def f_X11_takesWay   (a0 : Nat) (h : MH) : Option (MH) :=
  (f_X11_wayLong a0 h).bind fun q_1 =>
  lt (sI q_1.2 a0 27 q_1.1) fun h_2 =>
  f_X11_takesWay_10 a0 FU 0 h_2
set_option maxRecDepth 100000 in
set_option maxHeartbeats 4000000 in
theorem v_X11_takesWay_10b {l : Launch} {G : GE} {B N : Nat} {S : List SHP} {o : MH} {a0 : Nat}    (hs0 : S[a0]? = some (.inl 11)) {k10 : Int32 → MH → Option (MH)} (hk10 : ∀ (p : Int32) (h : MH), k10 p h = some o → V l G B N mX11_takesWay (rmm 4 0 0) false 0 0 (QV S o) S 0 0 10 [(0, .ref a0), (1, .int p)] [] h) {p : Int32} {h : MH} (hf : f_X11_takesWay_10b a0 k10 p h = some o) : V l G B N mX11_takesWay (rmm 4 0 0) false 0 0 (QV S o) S 0 0 10 [(0, .ref a0), (1, .int p)] [] h := by
  unfold f_X11_takesWay_10b at hf
  refine V_iload_n (pc' := 11) dX11_takesWay_10 rfl 1 rfl rfl ?_
  refine V_aload_n (pc' := 12) dX11_takesWay_11 rfl 0 rfl rfl ?_
  refine V_getI (pc' := 15) 11 27 dX11_takesWay_12 rfl (by decide) (Nat.le_of_ble_eq_true rfl) bm_1251 hs0 (fun _ _ _ => rfl) ?_
  refine V_icmp_ge (tgt := 35) (pc' := 18) dX11_takesWay_15 (by decide) rfl hf (fun hf => ?_) (fun hf => ?_)
  ·
    refine V_aload_n (pc' := 19) dX11_takesWay_18 rfl 0 rfl rfl ?_
    refine V_getR (pc' := 22) 11 26 dX11_takesWay_19 rfl (by decide) (Nat.le_of_ble_eq_true rfl) bm_1250 hs0 (fun _ _ _ => rfl) rfl hf (fun a_1 ha_1 hf => ?_)
    refine V_iload_n (pc' := 23) dX11_takesWay_22 rfl 1 rfl rfl ?_
    refine V_aload_n (pc' := 24) dX11_takesWay_23 rfl 0 rfl rfl ?_
    refine V_iload_n (pc' := 25) dX11_takesWay_24 rfl 1 rfl rfl ?_
    refine V_cvI (pc' := 28) (As := [.int p]) (rest := [.int p, .ref a_1]) dX11_takesWay_25 rfl mok_X11_wayLink bm_1457 11 (by decide) rfl hs0 rfl rfl (Nat.le_of_ble_eq_true rfl) (by decide) hf (fun q e => ct_X11_wayLink hs0 e) (fun q_2 hf => ?_)
    refine V_iast (pc' := 29) dX11_takesWay_28 rfl ha_1 hf (fun h_3 hf => ?_)
    refine V_iinc (v := (p + 1)) (lv' := [(1, .int (p + 1)), (0, .ref a0)]) (pc' := 32) dX11_takesWay_29 rfl 1 rfl rfl (Nat.le_of_ble_eq_true rfl) rfl ?_
    refine V_goto (tgt := 10) dX11_takesWay_32 (by decide) ?_
    exact V_sub (lv' := [(0, .ref a0), (1, .int (p + 1))]) [1, 0] rfl (hk10 (p + 1) h_3 hf)
  ·
    obtain rfl := Option.some.inj hf
    exact V_vret dX11_takesWay_35 rfl rfl rfl ⟨rfl, rfl, rfl⟩
theorem v_X11_takesWay_10 {l : Launch} {G : GE} {B N : Nat} {S : List SHP} {o : MH} {a0 : Nat}    (hs0 : S[a0]? = some (.inl 11)) {n : Nat} {p : Int32} {h : MH} (hf : f_X11_takesWay_10 a0 n p h = some o) : V l G B N mX11_takesWay (rmm 4 0 0) false 0 0 (QV S o) S 0 0 10 [(0, .ref a0), (1, .int p)] [] h :=
  V_lp (VV := fun p h => V l G B N mX11_takesWay (rmm 4 0 0) false 0 0 (QV S o) S 0 0 10 [(0, .ref a0), (1, .int p)] [] h) (fun _ hk _ _ hf => v_X11_takesWay_10b hs0 hk hf) n p h hf
set_option maxRecDepth 100000 in
set_option maxHeartbeats 4000000 in
theorem v_X11_takesWay {l : Launch} {G : GE} {B N : Nat} {S : List SHP} {o : MH} {a0 : Nat}    (hs0 : S[a0]? = some (.inl 11)) {h : MH} (hf : f_X11_takesWay a0 h = some o) : V l G B N mX11_takesWay (rmm 4 0 0) false 0 0 (QV S o) S 0 0 0 [(0, .ref a0)] [] h := by
  unfold f_X11_takesWay at hf
  refine V_aload_n (pc' := 1) dX11_takesWay_0 rfl 0 rfl rfl ?_
  refine V_aload_n (pc' := 2) dX11_takesWay_1 rfl 0 rfl rfl ?_
  refine V_cvI (pc' := 5) (As := []) (rest := [.ref a0]) dX11_takesWay_2 rfl mok_X11_wayLong bm_1453 11 (by decide) rfl hs0 rfl rfl (Nat.le_of_ble_eq_true rfl) (by decide) hf (fun q e => ct_X11_wayLong hs0 e) (fun q_1 hf => ?_)
  refine V_putI (pc' := 8) 11 27 dX11_takesWay_5 rfl (by decide) (Nat.le_of_ble_eq_true rfl) bm_1251 hs0 (Or.inl rfl) rfl ?_
  refine V_nmH hf (fun h_2 hf => ?_)
  refine V_iconst (v := 0) (pc' := 9) dX11_takesWay_8 rfl (by decide) ?_
  refine V_istore_n (lv' := [(1, .int 0), (0, .ref a0)]) (pc' := 10) dX11_takesWay_9 rfl rfl (Nat.le_of_ble_eq_true rfl) rfl ?_
  exact V_sub (lv' := [(0, .ref a0), (1, .int 0)]) [1, 0] rfl (v_X11_takesWay_10 hs0 hf)
theorem ct_X11_takesWay {l : Launch} {S : List SHP} {h : MH} {a0 : Nat} (hs0 : S[a0]? = some (.inl 11)) {q : MH} (hf : f_X11_takesWay a0 h = some q) : CT l mX11_takesWay 4 false 0 0 S [.ref a0] h (QV S q) :=
  CT_ofV (by decide) rfl (Nat.le_of_ble_eq_true rfl) (fun G B hT => v_X11_takesWay hs0 hf)
/-! LabelStacksModel.writes()I -/
theorem dX11_writes_0 : decode cX11_writes 0 = .ok (.aload_n 0, 1) := by decide +kernel
theorem dX11_writes_1 : decode cX11_writes 1 = .ok (.iconst 0, 1) := by decide +kernel
theorem dX11_writes_2 : decode cX11_writes 2 = .ok (.putfield 138, 3) := by decide +kernel
theorem dX11_writes_5 : decode cX11_writes 5 = .ok (.iconst 0, 1) := by decide +kernel
theorem dX11_writes_6 : decode cX11_writes 6 = .ok (.istore_n 1, 1) := by decide +kernel
theorem dX11_writes_7 : decode cX11_writes 7 = .ok (.iload_n 1, 1) := by decide +kernel
theorem dX11_writes_8 : decode cX11_writes 8 = .ok (.aload_n 0, 1) := by decide +kernel
theorem dX11_writes_9 : decode cX11_writes 9 = .ok (.getfield 275, 3) := by decide +kernel
theorem dX11_writes_12 : decode cX11_writes 12 = .ok (.if_icmp .ge 40, 3) := by decide +kernel
theorem dX11_writes_15 : decode cX11_writes 15 = .ok (.aload_n 0, 1) := by decide +kernel
theorem dX11_writes_16 : decode cX11_writes 16 = .ok (.getfield 20, 3) := by decide +kernel
theorem dX11_writes_19 : decode cX11_writes 19 = .ok (.aload_n 0, 1) := by decide +kernel
theorem dX11_writes_20 : decode cX11_writes 20 = .ok (.getfield 138, 3) := by decide +kernel
theorem dX11_writes_23 : decode cX11_writes 23 = .ok (.aload_n 0, 1) := by decide +kernel
theorem dX11_writes_24 : decode cX11_writes 24 = .ok (.getfield 54, 3) := by decide +kernel
theorem dX11_writes_27 : decode cX11_writes 27 = .ok (.iload_n 1, 1) := by decide +kernel
theorem dX11_writes_28 : decode cX11_writes 28 = .ok (.iaload, 1) := by decide +kernel
theorem dX11_writes_29 : decode cX11_writes 29 = .ok (.iastore, 1) := by decide +kernel
theorem dX11_writes_30 : decode cX11_writes 30 = .ok (.aload_n 0, 1) := by decide +kernel
theorem dX11_writes_31 : decode cX11_writes 31 = .ok (.aload_n 0, 1) := by decide +kernel
theorem dX11_writes_32 : decode cX11_writes 32 = .ok (.getfield 138, 3) := by decide +kernel
theorem dX11_writes_35 : decode cX11_writes 35 = .ok (.iconst 1, 1) := by decide +kernel
theorem dX11_writes_36 : decode cX11_writes 36 = .ok (.iadd, 1) := by decide +kernel
theorem dX11_writes_37 : decode cX11_writes 37 = .ok (.putfield 138, 3) := by decide +kernel
theorem dX11_writes_40 : decode cX11_writes 40 = .ok (.iload_n 1, 1) := by decide +kernel
theorem dX11_writes_41 : decode cX11_writes 41 = .ok (.aload_n 0, 1) := by decide +kernel
theorem dX11_writes_42 : decode cX11_writes 42 = .ok (.getfield 57, 3) := by decide +kernel
theorem dX11_writes_45 : decode cX11_writes 45 = .ok (.iload_n 1, 1) := by decide +kernel
theorem dX11_writes_46 : decode cX11_writes 46 = .ok (.iaload, 1) := by decide +kernel
theorem dX11_writes_47 : decode cX11_writes 47 = .ok (.iadd, 1) := by decide +kernel
theorem dX11_writes_48 : decode cX11_writes 48 = .ok (.istore_n 1, 1) := by decide +kernel
theorem dX11_writes_49 : decode cX11_writes 49 = .ok (.goto (-42), 3) := by decide +kernel
theorem dX11_writes_52 : decode cX11_writes 52 = .ok (.aload_n 0, 1) := by decide +kernel
theorem dX11_writes_53 : decode cX11_writes 53 = .ok (.getfield 138, 3) := by decide +kernel
theorem dX11_writes_56 : decode cX11_writes 56 = .ok (.ireturn, 1) := by decide +kernel
abbrev mX11_writes : MI := (RX11, yX11_writes, cX11_writes, 2, (some .int))
theorem mok_X11_writes : MOKv mX11_writes 0 := ⟨⟨bm_1632, bm_127, ⟨by decide, by decide⟩, by decide +kernel⟩, bm_1631, bm_85⟩
def f_X11_writes_7b   (a0 : Nat) (k7 : Int32 → MH → Option (Int32 × MH)) (p : Int32) (h : MH) : Option (Int32 × MH) :=
  if p < (gI h a0 27) then
    (gR h a0 5).bind fun a_1 =>
    (gR h a0 29).bind fun a_2 =>
    (ldI h a_2 p).bind fun x_3 =>
    (stI h a_1 (gI h a0 6) x_3).bind fun h_4 =>
    lt (sI h_4 a0 6 ((gI h_4 a0 6) + 1)) fun h_5 =>
    (gR h_5 a0 30).bind fun a_6 =>
    (ldI h_5 a_6 p).bind fun x_7 =>
    lt (p + x_7) fun x_8 =>
    k7 x_8 h_5
  else
    some ((gI h a0 6), h)
def f_X11_writes_7   (a0 : Nat) : Nat → Int32 → MH → Option (Int32 × MH) := lp (f_X11_writes_7b a0)
def f_X11_writes   (a0 : Nat) (h : MH) : Option (Int32 × MH) :=
  lt (sI h a0 6 0) fun h_1 =>
  f_X11_writes_7 a0 FU 0 h_1
set_option maxRecDepth 100000 in
set_option maxHeartbeats 4000000 in
theorem v_X11_writes_7b {l : Launch} {G : GE} {B N : Nat} {S : List SHP} {o : Int32 × MH} {a0 : Nat}    (hs0 : S[a0]? = some (.inl 11)) {k7 : Int32 → MH → Option (Int32 × MH)} (hk7 : ∀ (p : Int32) (h : MH), k7 p h = some o → V l G B N mX11_writes (rmm 3 0 0) false 0 0 (QI S o) S 0 0 7 [(0, .ref a0), (1, .int p)] [] h) {p : Int32} {h : MH} (hf : f_X11_writes_7b a0 k7 p h = some o) : V l G B N mX11_writes (rmm 3 0 0) false 0 0 (QI S o) S 0 0 7 [(0, .ref a0), (1, .int p)] [] h := by
  unfold f_X11_writes_7b at hf
  refine V_iload_n (pc' := 8) dX11_writes_7 rfl 1 rfl rfl ?_
  refine V_aload_n (pc' := 9) dX11_writes_8 rfl 0 rfl rfl ?_
  refine V_getI (pc' := 12) 11 27 dX11_writes_9 rfl (by decide) (Nat.le_of_ble_eq_true rfl) bm_1251 hs0 (fun _ _ _ => rfl) ?_
  refine V_icmp_ge (tgt := 52) (pc' := 15) dX11_writes_12 (by decide) rfl hf (fun hf => ?_) (fun hf => ?_)
  ·
    refine V_aload_n (pc' := 16) dX11_writes_15 rfl 0 rfl rfl ?_
    refine V_getR (pc' := 19) 11 5 dX11_writes_16 rfl (by decide) (Nat.le_of_ble_eq_true rfl) bm_1229 hs0 (fun _ _ _ => rfl) rfl hf (fun a_1 ha_1 hf => ?_)
    refine V_aload_n (pc' := 20) dX11_writes_19 rfl 0 rfl rfl ?_
    refine V_getI (pc' := 23) 11 6 dX11_writes_20 rfl (by decide) (Nat.le_of_ble_eq_true rfl) bm_1230 hs0 (fun _ _ _ => rfl) ?_
    refine V_aload_n (pc' := 24) dX11_writes_23 rfl 0 rfl rfl ?_
    refine V_getR (pc' := 27) 11 29 dX11_writes_24 rfl (by decide) (Nat.le_of_ble_eq_true rfl) bm_1253 hs0 (fun _ _ _ => rfl) rfl hf (fun a_2 ha_2 hf => ?_)
    refine V_iload_n (pc' := 28) dX11_writes_27 rfl 1 rfl rfl ?_
    refine V_iald (pc' := 29) dX11_writes_28 rfl ha_2 hf (fun x_3 hf => ?_)
    refine V_iast (pc' := 30) dX11_writes_29 rfl ha_1 hf (fun h_4 hf => ?_)
    refine V_aload_n (pc' := 31) dX11_writes_30 rfl 0 rfl rfl ?_
    refine V_aload_n (pc' := 32) dX11_writes_31 rfl 0 rfl rfl ?_
    refine V_getI (pc' := 35) 11 6 dX11_writes_32 rfl (by decide) (Nat.le_of_ble_eq_true rfl) bm_1230 hs0 (fun _ _ _ => rfl) ?_
    refine V_iconst (v := 1) (pc' := 36) dX11_writes_35 rfl (by decide) ?_
    refine V_iadd (pc' := 37) dX11_writes_36 rfl ?_
    refine V_putI (pc' := 40) 11 6 dX11_writes_37 rfl (by decide) (Nat.le_of_ble_eq_true rfl) bm_1230 hs0 (Or.inl rfl) rfl ?_
    refine V_nmH hf (fun h_5 hf => ?_)
    refine V_iload_n (pc' := 41) dX11_writes_40 rfl 1 rfl rfl ?_
    refine V_aload_n (pc' := 42) dX11_writes_41 rfl 0 rfl rfl ?_
    refine V_getR (pc' := 45) 11 30 dX11_writes_42 rfl (by decide) (Nat.le_of_ble_eq_true rfl) bm_1254 hs0 (fun _ _ _ => rfl) rfl hf (fun a_6 ha_6 hf => ?_)
    refine V_iload_n (pc' := 46) dX11_writes_45 rfl 1 rfl rfl ?_
    refine V_iald (pc' := 47) dX11_writes_46 rfl ha_6 hf (fun x_7 hf => ?_)
    refine V_iadd (pc' := 48) dX11_writes_47 rfl ?_
    refine V_nmI hf (fun x_8 hf => ?_)
    refine V_istore_n (lv' := [(1, .int x_8), (0, .ref a0)]) (pc' := 49) dX11_writes_48 rfl rfl (Nat.le_of_ble_eq_true rfl) rfl ?_
    refine V_goto (tgt := 7) dX11_writes_49 (by decide) ?_
    exact V_sub (lv' := [(0, .ref a0), (1, .int x_8)]) [1, 0] rfl (hk7 x_8 h_5 hf)
  ·
    refine V_aload_n (pc' := 53) dX11_writes_52 rfl 0 rfl rfl ?_
    refine V_getI (pc' := 56) 11 6 dX11_writes_53 rfl (by decide) (Nat.le_of_ble_eq_true rfl) bm_1230 hs0 (fun _ _ _ => rfl) ?_
    obtain rfl := Option.some.inj hf
    exact V_iret dX11_writes_56 rfl rfl rfl ⟨rfl, rfl, rfl⟩
theorem v_X11_writes_7 {l : Launch} {G : GE} {B N : Nat} {S : List SHP} {o : Int32 × MH} {a0 : Nat}    (hs0 : S[a0]? = some (.inl 11)) {n : Nat} {p : Int32} {h : MH} (hf : f_X11_writes_7 a0 n p h = some o) : V l G B N mX11_writes (rmm 3 0 0) false 0 0 (QI S o) S 0 0 7 [(0, .ref a0), (1, .int p)] [] h :=
  V_lp (VV := fun p h => V l G B N mX11_writes (rmm 3 0 0) false 0 0 (QI S o) S 0 0 7 [(0, .ref a0), (1, .int p)] [] h) (fun _ hk _ _ hf => v_X11_writes_7b hs0 hk hf) n p h hf
set_option maxRecDepth 100000 in
set_option maxHeartbeats 4000000 in
theorem v_X11_writes {l : Launch} {G : GE} {B N : Nat} {S : List SHP} {o : Int32 × MH} {a0 : Nat}    (hs0 : S[a0]? = some (.inl 11)) {h : MH} (hf : f_X11_writes a0 h = some o) : V l G B N mX11_writes (rmm 3 0 0) false 0 0 (QI S o) S 0 0 0 [(0, .ref a0)] [] h := by
  unfold f_X11_writes at hf
  refine V_aload_n (pc' := 1) dX11_writes_0 rfl 0 rfl rfl ?_
  refine V_iconst (v := 0) (pc' := 2) dX11_writes_1 rfl (by decide) ?_
  refine V_putI (pc' := 5) 11 6 dX11_writes_2 rfl (by decide) (Nat.le_of_ble_eq_true rfl) bm_1230 hs0 (Or.inl rfl) rfl ?_
  refine V_nmH hf (fun h_1 hf => ?_)
  refine V_iconst (v := 0) (pc' := 6) dX11_writes_5 rfl (by decide) ?_
  refine V_istore_n (lv' := [(1, .int 0), (0, .ref a0)]) (pc' := 7) dX11_writes_6 rfl rfl (Nat.le_of_ble_eq_true rfl) rfl ?_
  exact V_sub (lv' := [(0, .ref a0), (1, .int 0)]) [1, 0] rfl (v_X11_writes_7 hs0 hf)
theorem ct_X11_writes {l : Launch} {S : List SHP} {h : MH} {a0 : Nat} (hs0 : S[a0]? = some (.inl 11)) {q : Int32 × MH} (hf : f_X11_writes a0 h = some q) : CT l mX11_writes 3 false 0 0 S [.ref a0] h (QI S q) :=
  CT_ofV (by decide) rfl (Nat.le_of_ble_eq_true rfl) (fun G B hT => v_X11_writes hs0 hf)
/-! LabelStacksModel.write()I -/
theorem dX11_write_0 : decode cX11_write 0 = .ok (.aload_n 0, 1) := by decide +kernel
theorem dX11_write_1 : decode cX11_write 1 = .ok (.iconst 0, 1) := by decide +kernel
theorem dX11_write_2 : decode cX11_write 2 = .ok (.putfield 84, 3) := by decide +kernel
theorem dX11_write_5 : decode cX11_write 5 = .ok (.aload_n 0, 1) := by decide +kernel
theorem dX11_write_6 : decode cX11_write 6 = .ok (.invokevirtual 294, 3) := by decide +kernel
theorem dX11_write_9 : decode cX11_write 9 = .ok (.aload_n 0, 1) := by decide +kernel
theorem dX11_write_10 : decode cX11_write 10 = .ok (.invokevirtual 297, 3) := by decide +kernel
theorem dX11_write_13 : decode cX11_write 13 = .ok (.aload_n 0, 1) := by decide +kernel
theorem dX11_write_14 : decode cX11_write 14 = .ok (.getfield 275, 3) := by decide +kernel
theorem dX11_write_17 : decode cX11_write 17 = .ok (.ifCond .eq 13, 3) := by decide +kernel
theorem dX11_write_20 : decode cX11_write 20 = .ok (.aload_n 0, 1) := by decide +kernel
theorem dX11_write_21 : decode cX11_write 21 = .ok (.getfield 51, 3) := by decide +kernel
theorem dX11_write_24 : decode cX11_write 24 = .ok (.iconst 0, 1) := by decide +kernel
theorem dX11_write_25 : decode cX11_write 25 = .ok (.iaload, 1) := by decide +kernel
theorem dX11_write_26 : decode cX11_write 26 = .ok (.iconst (-1), 1) := by decide +kernel
theorem dX11_write_27 : decode cX11_write 27 = .ok (.if_icmp .ne 7, 3) := by decide +kernel
theorem dX11_write_30 : decode cX11_write 30 = .ok (.iconst (-1), 1) := by decide +kernel
theorem dX11_write_31 : decode cX11_write 31 = .ok (.goto 7, 3) := by decide +kernel
theorem dX11_write_34 : decode cX11_write 34 = .ok (.aload_n 0, 1) := by decide +kernel
theorem dX11_write_35 : decode cX11_write 35 = .ok (.invokevirtual 300, 3) := by decide +kernel
theorem dX11_write_38 : decode cX11_write 38 = .ok (.ireturn, 1) := by decide +kernel
abbrev mX11_write : MI := (RX11, yX11_write, cX11_write, 1, (some .int))
theorem mok_X11_write : MOKv mX11_write 0 := ⟨⟨bm_1600, bm_127, ⟨by decide, by decide⟩, by decide +kernel⟩, bm_1598, bm_1599⟩
def f_X11_write_30    (h : MH) : Option (Int32 × MH) :=
  some ((-1 : Int32), h)
def f_X11_write   (a0 : Nat) (h : MH) : Option (Int32 × MH) :=
  lt (sI h a0 0 0) fun h_1 =>
  (f_X11_takesWay a0 h_1).bind fun q_2 =>
  (f_X11_laysFewest a0 q_2).bind fun q_3 =>
  if (gI q_3 a0 27) = 0 then
    f_X11_write_30  q_3
  else
    (gR q_3 a0 28).bind fun a_4 =>
    (ldI q_3 a_4 0).bind fun x_5 =>
    if x_5 = (-1 : Int32) then
      f_X11_write_30  q_3
    else
      (f_X11_writes a0 q_3).bind fun q_6 =>
      some (q_6.1, q_6.2)
set_option maxRecDepth 100000 in
set_option maxHeartbeats 4000000 in
theorem v_X11_write_30 {l : Launch} {G : GE} {B N : Nat} {S : List SHP} {o : Int32 × MH}      {h : MH} (hf : f_X11_write_30  h = some o) : V l G B N mX11_write (rmm 133 0 0) false 0 0 (QI S o) S 0 0 30 [] [] h := by
  unfold f_X11_write_30 at hf
  refine V_iconst (v := (-1)) (pc' := 31) dX11_write_30 rfl (by decide) ?_
  refine V_goto (tgt := 38) dX11_write_31 (by decide) ?_
  obtain rfl := Option.some.inj hf
  exact V_iret dX11_write_38 rfl rfl rfl ⟨rfl, rfl, rfl⟩
set_option maxRecDepth 100000 in
set_option maxHeartbeats 4000000 in
theorem v_X11_write {l : Launch} {G : GE} {B N : Nat} {S : List SHP} {o : Int32 × MH} {a0 : Nat}    (hs0 : S[a0]? = some (.inl 11)) {h : MH} (hf : f_X11_write a0 h = some o) : V l G B N mX11_write (rmm 133 0 0) false 0 0 (QI S o) S 0 0 0 [(0, .ref a0)] [] h := by
  unfold f_X11_write at hf
  refine V_aload_n (pc' := 1) dX11_write_0 rfl 0 rfl rfl ?_
  refine V_iconst (v := 0) (pc' := 2) dX11_write_1 rfl (by decide) ?_
  refine V_putI (pc' := 5) 11 0 dX11_write_2 rfl (by decide) (Nat.le_of_ble_eq_true rfl) bm_1224 hs0 (Or.inl rfl) rfl ?_
  refine V_nmH hf (fun h_1 hf => ?_)
  refine V_aload_n (pc' := 6) dX11_write_5 rfl 0 rfl rfl ?_
  refine V_cvV (pc' := 9) (As := []) (rest := []) dX11_write_6 rfl mok_X11_takesWay bm_1601 11 (by decide) rfl hs0 rfl rfl (Nat.le_of_ble_eq_true rfl) (by decide) hf (fun q e => ct_X11_takesWay hs0 e) (fun q_2 hf => ?_)
  refine V_aload_n (pc' := 10) dX11_write_9 rfl 0 rfl rfl ?_
  refine V_cvV (pc' := 13) (As := []) (rest := []) dX11_write_10 rfl mok_X11_laysFewest bm_1605 11 (by decide) rfl hs0 rfl rfl (Nat.le_of_ble_eq_true rfl) (by decide) hf (fun q e => ct_X11_laysFewest hs0 e) (fun q_3 hf => ?_)
  refine V_aload_n (pc' := 14) dX11_write_13 rfl 0 rfl rfl ?_
  refine V_getI (pc' := 17) 11 27 dX11_write_14 rfl (by decide) (Nat.le_of_ble_eq_true rfl) bm_1251 hs0 (fun _ _ _ => rfl) ?_
  refine V_if_eq (tgt := 30) (pc' := 20) dX11_write_17 (by decide) rfl hf (fun hf => ?_) (fun hf => ?_)
  ·
    exact V_sub (lv' := []) [] rfl (v_X11_write_30  hf)
  ·
    refine V_aload_n (pc' := 21) dX11_write_20 rfl 0 rfl rfl ?_
    refine V_getR (pc' := 24) 11 28 dX11_write_21 rfl (by decide) (Nat.le_of_ble_eq_true rfl) bm_1252 hs0 (fun _ _ _ => rfl) rfl hf (fun a_4 ha_4 hf => ?_)
    refine V_iconst (v := 0) (pc' := 25) dX11_write_24 rfl (by decide) ?_
    refine V_iald (pc' := 26) dX11_write_25 rfl ha_4 hf (fun x_5 hf => ?_)
    refine V_iconst (v := (-1)) (pc' := 27) dX11_write_26 rfl (by decide) ?_
    refine V_icmp_ne (tgt := 34) (pc' := 30) dX11_write_27 (by decide) rfl hf (fun hf => ?_) (fun hf => ?_)
    ·
      exact V_sub (lv' := []) [] rfl (v_X11_write_30  hf)
    ·
      refine V_aload_n (pc' := 35) dX11_write_34 rfl 0 rfl rfl ?_
      refine V_cvI (pc' := 38) (As := []) (rest := []) dX11_write_35 rfl mok_X11_writes bm_1629 11 (by decide) rfl hs0 rfl rfl (Nat.le_of_ble_eq_true rfl) (by decide) hf (fun q e => ct_X11_writes hs0 e) (fun q_6 hf => ?_)
      obtain rfl := Option.some.inj hf
      exact V_iret dX11_write_38 rfl rfl rfl ⟨rfl, rfl, rfl⟩
theorem ct_X11_write {l : Launch} {S : List SHP} {h : MH} {a0 : Nat} (hs0 : S[a0]? = some (.inl 11)) {q : Int32 × MH} (hf : f_X11_write a0 h = some q) : CT l mX11_write 133 false 0 0 S [.ref a0] h (QI S q) :=
  CT_ofV (by decide) rfl (Nat.le_of_ble_eq_true rfl) (fun G B hT => v_X11_write hs0 hf)
/-! LabelStacksModel.witness()I -/
theorem dX11_witness_0 : decode cX11_witness 0 = .ok (.aload_n 0, 1) := by decide +kernel
theorem dX11_witness_1 : decode cX11_witness 1 = .ok (.iconst 0, 1) := by decide +kernel
theorem dX11_witness_2 : decode cX11_witness 2 = .ok (.putfield 84, 3) := by decide +kernel
theorem dX11_witness_5 : decode cX11_witness 5 = .ok (.aload_n 0, 1) := by decide +kernel
theorem dX11_witness_6 : decode cX11_witness 6 = .ok (.invokevirtual 294, 3) := by decide +kernel
theorem dX11_witness_9 : decode cX11_witness 9 = .ok (.aload_n 0, 1) := by decide +kernel
theorem dX11_witness_10 : decode cX11_witness 10 = .ok (.invokevirtual 297, 3) := by decide +kernel
theorem dX11_witness_13 : decode cX11_witness 13 = .ok (.aload_n 0, 1) := by decide +kernel
theorem dX11_witness_14 : decode cX11_witness 14 = .ok (.getfield 275, 3) := by decide +kernel
theorem dX11_witness_17 : decode cX11_witness 17 = .ok (.ifCond .eq 13, 3) := by decide +kernel
theorem dX11_witness_20 : decode cX11_witness 20 = .ok (.aload_n 0, 1) := by decide +kernel
theorem dX11_witness_21 : decode cX11_witness 21 = .ok (.getfield 51, 3) := by decide +kernel
theorem dX11_witness_24 : decode cX11_witness 24 = .ok (.iconst 0, 1) := by decide +kernel
theorem dX11_witness_25 : decode cX11_witness 25 = .ok (.iaload, 1) := by decide +kernel
theorem dX11_witness_26 : decode cX11_witness 26 = .ok (.iconst (-1), 1) := by decide +kernel
theorem dX11_witness_27 : decode cX11_witness 27 = .ok (.if_icmp .eq 5, 3) := by decide +kernel
theorem dX11_witness_30 : decode cX11_witness 30 = .ok (.iconst (-1), 1) := by decide +kernel
theorem dX11_witness_31 : decode cX11_witness 31 = .ok (.ireturn, 1) := by decide +kernel
theorem dX11_witness_32 : decode cX11_witness 32 = .ok (.iconst 0, 1) := by decide +kernel
theorem dX11_witness_33 : decode cX11_witness 33 = .ok (.istore_n 1, 1) := by decide +kernel
theorem dX11_witness_34 : decode cX11_witness 34 = .ok (.iconst 0, 1) := by decide +kernel
theorem dX11_witness_35 : decode cX11_witness 35 = .ok (.istore_n 2, 1) := by decide +kernel
theorem dX11_witness_36 : decode cX11_witness 36 = .ok (.iload_n 2, 1) := by decide +kernel
theorem dX11_witness_37 : decode cX11_witness 37 = .ok (.aload_n 0, 1) := by decide +kernel
theorem dX11_witness_38 : decode cX11_witness 38 = .ok (.getfield 275, 3) := by decide +kernel
theorem dX11_witness_41 : decode cX11_witness 41 = .ok (.if_icmp .ge 21, 3) := by decide +kernel
theorem dX11_witness_44 : decode cX11_witness 44 = .ok (.aload_n 0, 1) := by decide +kernel
theorem dX11_witness_45 : decode cX11_witness 45 = .ok (.getfield 51, 3) := by decide +kernel
theorem dX11_witness_48 : decode cX11_witness 48 = .ok (.iload_n 2, 1) := by decide +kernel
theorem dX11_witness_49 : decode cX11_witness 49 = .ok (.iaload, 1) := by decide +kernel
theorem dX11_witness_50 : decode cX11_witness 50 = .ok (.iconst (-1), 1) := by decide +kernel
theorem dX11_witness_51 : decode cX11_witness 51 = .ok (.if_icmp .ne 5, 3) := by decide +kernel
theorem dX11_witness_54 : decode cX11_witness 54 = .ok (.iload_n 2, 1) := by decide +kernel
theorem dX11_witness_55 : decode cX11_witness 55 = .ok (.istore_n 1, 1) := by decide +kernel
theorem dX11_witness_56 : decode cX11_witness 56 = .ok (.iinc 2 1, 3) := by decide +kernel
theorem dX11_witness_59 : decode cX11_witness 59 = .ok (.goto (-23), 3) := by decide +kernel
theorem dX11_witness_62 : decode cX11_witness 62 = .ok (.iload_n 1, 1) := by decide +kernel
theorem dX11_witness_63 : decode cX11_witness 63 = .ok (.ireturn, 1) := by decide +kernel
abbrev mX11_witness : MI := (RX11, yX11_witness, cX11_witness, 3, (some .int))
theorem mok_X11_witness : MOKv mX11_witness 0 := ⟨⟨bm_1636, bm_127, ⟨by decide, by decide⟩, by decide +kernel⟩, bm_1634, bm_1635⟩
def f_X11_witness_56  (k36 : Int32 × Int32 → MH → Option (Int32 × MH)) (a0 : Nat) (x1 : Int32) (x2 : Int32) (h : MH) : Option (Int32 × MH) :=
  k36 (x1, (x2 + 1)) h
def f_X11_witness_36b   (a0 : Nat) (k36 : Int32 × Int32 → MH → Option (Int32 × MH)) (p : Int32 × Int32) (h : MH) : Option (Int32 × MH) :=
  if p.2 < (gI h a0 27) then
    (gR h a0 28).bind fun a_1 =>
    (ldI h a_1 p.2).bind fun x_2 =>
    if x_2 = (-1 : Int32) then
      f_X11_witness_56 k36 a0 p.2 p.2 h
    else
      f_X11_witness_56 k36 a0 p.1 p.2 h
  else
    some (p.1, h)
def f_X11_witness_36   (a0 : Nat) : Nat → Int32 × Int32 → MH → Option (Int32 × MH) := lp (f_X11_witness_36b a0)
def f_X11_witness   (a0 : Nat) (h : MH) : Option (Int32 × MH) :=
  lt (sI h a0 0 0) fun h_1 =>
  (f_X11_takesWay a0 h_1).bind fun q_2 =>
  (f_X11_laysFewest a0 q_2).bind fun q_3 =>
  if (gI q_3 a0 27) = 0 then
    some ((-1 : Int32), q_3)
  else
    (gR q_3 a0 28).bind fun a_4 =>
    (ldI q_3 a_4 0).bind fun x_5 =>
    if x_5 = (-1 : Int32) then
      f_X11_witness_36 a0 FU (0, 0) q_3
    else
      some ((-1 : Int32), q_3)
set_option maxRecDepth 100000 in
set_option maxHeartbeats 4000000 in
theorem v_X11_witness_56 {l : Launch} {G : GE} {B N : Nat} {S : List SHP} {o : Int32 × MH} {a0 : Nat} {x1 : Int32} {x2 : Int32}  {k36 : Int32 × Int32 → MH → Option (Int32 × MH)} (hk36 : ∀ (p : Int32 × Int32) (h : MH), k36 p h = some o → V l G B N mX11_witness (rmm 133 0 0) false 0 0 (QI S o) S 0 0 36 [(0, .ref a0), (1, .int p.1), (2, .int p.2)] [] h) (hs0 : S[a0]? = some (.inl 11)) {h : MH} (hf : f_X11_witness_56 k36 a0 x1 x2 h = some o) : V l G B N mX11_witness (rmm 133 0 0) false 0 0 (QI S o) S 0 0 56 [(0, .ref a0), (1, .int x1), (2, .int x2)] [] h := by
  unfold f_X11_witness_56 at hf
  refine V_iinc (v := (x2 + 1)) (lv' := [(2, .int (x2 + 1)), (0, .ref a0), (1, .int x1)]) (pc' := 59) dX11_witness_56 rfl 2 rfl rfl (Nat.le_of_ble_eq_true rfl) rfl ?_
  refine V_goto (tgt := 36) dX11_witness_59 (by decide) ?_
  exact V_sub (lv' := [(0, .ref a0), (1, .int x1), (2, .int (x2 + 1))]) [1, 2, 0] rfl (hk36 (x1, (x2 + 1)) h hf)
set_option maxRecDepth 100000 in
set_option maxHeartbeats 4000000 in
theorem v_X11_witness_36b {l : Launch} {G : GE} {B N : Nat} {S : List SHP} {o : Int32 × MH} {a0 : Nat}    (hs0 : S[a0]? = some (.inl 11)) {k36 : Int32 × Int32 → MH → Option (Int32 × MH)} (hk36 : ∀ (p : Int32 × Int32) (h : MH), k36 p h = some o → V l G B N mX11_witness (rmm 133 0 0) false 0 0 (QI S o) S 0 0 36 [(0, .ref a0), (1, .int p.1), (2, .int p.2)] [] h) {p : Int32 × Int32} {h : MH} (hf : f_X11_witness_36b a0 k36 p h = some o) : V l G B N mX11_witness (rmm 133 0 0) false 0 0 (QI S o) S 0 0 36 [(0, .ref a0), (1, .int p.1), (2, .int p.2)] [] h := by
  unfold f_X11_witness_36b at hf
  refine V_iload_n (pc' := 37) dX11_witness_36 rfl 2 rfl rfl ?_
  refine V_aload_n (pc' := 38) dX11_witness_37 rfl 0 rfl rfl ?_
  refine V_getI (pc' := 41) 11 27 dX11_witness_38 rfl (by decide) (Nat.le_of_ble_eq_true rfl) bm_1251 hs0 (fun _ _ _ => rfl) ?_
  refine V_icmp_ge (tgt := 62) (pc' := 44) dX11_witness_41 (by decide) rfl hf (fun hf => ?_) (fun hf => ?_)
  ·
    refine V_aload_n (pc' := 45) dX11_witness_44 rfl 0 rfl rfl ?_
    refine V_getR (pc' := 48) 11 28 dX11_witness_45 rfl (by decide) (Nat.le_of_ble_eq_true rfl) bm_1252 hs0 (fun _ _ _ => rfl) rfl hf (fun a_1 ha_1 hf => ?_)
    refine V_iload_n (pc' := 49) dX11_witness_48 rfl 2 rfl rfl ?_
    refine V_iald (pc' := 50) dX11_witness_49 rfl ha_1 hf (fun x_2 hf => ?_)
    refine V_iconst (v := (-1)) (pc' := 51) dX11_witness_50 rfl (by decide) ?_
    refine V_icmp_ne (tgt := 56) (pc' := 54) dX11_witness_51 (by decide) rfl hf (fun hf => ?_) (fun hf => ?_)
    ·
      refine V_iload_n (pc' := 55) dX11_witness_54 rfl 2 rfl rfl ?_
      refine V_istore_n (lv' := [(1, .int p.2), (0, .ref a0), (2, .int p.2)]) (pc' := 56) dX11_witness_55 rfl rfl (Nat.le_of_ble_eq_true rfl) rfl ?_
      exact V_sub (lv' := [(0, .ref a0), (1, .int p.2), (2, .int p.2)]) [1, 0, 2] rfl (v_X11_witness_56 hk36 hs0 hf)
    ·
      exact V_sub (lv' := [(0, .ref a0), (1, .int p.1), (2, .int p.2)]) [0, 1, 2] rfl (v_X11_witness_56 hk36 hs0 hf)
  ·
    refine V_iload_n (pc' := 63) dX11_witness_62 rfl 1 rfl rfl ?_
    obtain rfl := Option.some.inj hf
    exact V_iret dX11_witness_63 rfl rfl rfl ⟨rfl, rfl, rfl⟩
theorem v_X11_witness_36 {l : Launch} {G : GE} {B N : Nat} {S : List SHP} {o : Int32 × MH} {a0 : Nat}    (hs0 : S[a0]? = some (.inl 11)) {n : Nat} {p : Int32 × Int32} {h : MH} (hf : f_X11_witness_36 a0 n p h = some o) : V l G B N mX11_witness (rmm 133 0 0) false 0 0 (QI S o) S 0 0 36 [(0, .ref a0), (1, .int p.1), (2, .int p.2)] [] h :=
  V_lp (VV := fun p h => V l G B N mX11_witness (rmm 133 0 0) false 0 0 (QI S o) S 0 0 36 [(0, .ref a0), (1, .int p.1), (2, .int p.2)] [] h) (fun _ hk _ _ hf => v_X11_witness_36b hs0 hk hf) n p h hf
set_option maxRecDepth 100000 in
set_option maxHeartbeats 4000000 in
theorem v_X11_witness {l : Launch} {G : GE} {B N : Nat} {S : List SHP} {o : Int32 × MH} {a0 : Nat}    (hs0 : S[a0]? = some (.inl 11)) {h : MH} (hf : f_X11_witness a0 h = some o) : V l G B N mX11_witness (rmm 133 0 0) false 0 0 (QI S o) S 0 0 0 [(0, .ref a0)] [] h := by
  unfold f_X11_witness at hf
  refine V_aload_n (pc' := 1) dX11_witness_0 rfl 0 rfl rfl ?_
  refine V_iconst (v := 0) (pc' := 2) dX11_witness_1 rfl (by decide) ?_
  refine V_putI (pc' := 5) 11 0 dX11_witness_2 rfl (by decide) (Nat.le_of_ble_eq_true rfl) bm_1224 hs0 (Or.inl rfl) rfl ?_
  refine V_nmH hf (fun h_1 hf => ?_)
  refine V_aload_n (pc' := 6) dX11_witness_5 rfl 0 rfl rfl ?_
  refine V_cvV (pc' := 9) (As := []) (rest := []) dX11_witness_6 rfl mok_X11_takesWay bm_1601 11 (by decide) rfl hs0 rfl rfl (Nat.le_of_ble_eq_true rfl) (by decide) hf (fun q e => ct_X11_takesWay hs0 e) (fun q_2 hf => ?_)
  refine V_aload_n (pc' := 10) dX11_witness_9 rfl 0 rfl rfl ?_
  refine V_cvV (pc' := 13) (As := []) (rest := []) dX11_witness_10 rfl mok_X11_laysFewest bm_1605 11 (by decide) rfl hs0 rfl rfl (Nat.le_of_ble_eq_true rfl) (by decide) hf (fun q e => ct_X11_laysFewest hs0 e) (fun q_3 hf => ?_)
  refine V_aload_n (pc' := 14) dX11_witness_13 rfl 0 rfl rfl ?_
  refine V_getI (pc' := 17) 11 27 dX11_witness_14 rfl (by decide) (Nat.le_of_ble_eq_true rfl) bm_1251 hs0 (fun _ _ _ => rfl) ?_
  refine V_if_eq (tgt := 30) (pc' := 20) dX11_witness_17 (by decide) rfl hf (fun hf => ?_) (fun hf => ?_)
  ·
    refine V_iconst (v := (-1)) (pc' := 31) dX11_witness_30 rfl (by decide) ?_
    obtain rfl := Option.some.inj hf
    exact V_iret dX11_witness_31 rfl rfl rfl ⟨rfl, rfl, rfl⟩
  ·
    refine V_aload_n (pc' := 21) dX11_witness_20 rfl 0 rfl rfl ?_
    refine V_getR (pc' := 24) 11 28 dX11_witness_21 rfl (by decide) (Nat.le_of_ble_eq_true rfl) bm_1252 hs0 (fun _ _ _ => rfl) rfl hf (fun a_4 ha_4 hf => ?_)
    refine V_iconst (v := 0) (pc' := 25) dX11_witness_24 rfl (by decide) ?_
    refine V_iald (pc' := 26) dX11_witness_25 rfl ha_4 hf (fun x_5 hf => ?_)
    refine V_iconst (v := (-1)) (pc' := 27) dX11_witness_26 rfl (by decide) ?_
    refine V_icmp_eq (tgt := 32) (pc' := 30) dX11_witness_27 (by decide) rfl hf (fun hf => ?_) (fun hf => ?_)
    ·
      refine V_iconst (v := 0) (pc' := 33) dX11_witness_32 rfl (by decide) ?_
      refine V_istore_n (lv' := [(1, .int 0), (0, .ref a0)]) (pc' := 34) dX11_witness_33 rfl rfl (Nat.le_of_ble_eq_true rfl) rfl ?_
      refine V_iconst (v := 0) (pc' := 35) dX11_witness_34 rfl (by decide) ?_
      refine V_istore_n (lv' := [(2, .int 0), (1, .int 0), (0, .ref a0)]) (pc' := 36) dX11_witness_35 rfl rfl (Nat.le_of_ble_eq_true rfl) rfl ?_
      exact V_sub (lv' := [(0, .ref a0), (1, .int 0), (2, .int 0)]) [2, 1, 0] rfl (v_X11_witness_36 hs0 hf)
    ·
      refine V_iconst (v := (-1)) (pc' := 31) dX11_witness_30 rfl (by decide) ?_
      obtain rfl := Option.some.inj hf
      exact V_iret dX11_witness_31 rfl rfl rfl ⟨rfl, rfl, rfl⟩
theorem ct_X11_witness {l : Launch} {S : List SHP} {h : MH} {a0 : Nat} (hs0 : S[a0]? = some (.inl 11)) {q : Int32 × MH} (hf : f_X11_witness a0 h = some q) : CT l mX11_witness 133 false 0 0 S [.ref a0] h (QI S q) :=
  CT_ofV (by decide) rfl (Nat.le_of_ble_eq_true rfl) (fun G B hT => v_X11_witness hs0 hf)
/-! LabelStacksModel.coveredByNode(I)I -/
theorem dX11_coveredByNode_0 : decode cX11_coveredByNode 0 = .ok (.iconst 0, 1) := by decide +kernel
theorem dX11_coveredByNode_1 : decode cX11_coveredByNode 1 = .ok (.istore_n 2, 1) := by decide +kernel
theorem dX11_coveredByNode_2 : decode cX11_coveredByNode 2 = .ok (.iconst 0, 1) := by decide +kernel
theorem dX11_coveredByNode_3 : decode cX11_coveredByNode 3 = .ok (.istore_n 3, 1) := by decide +kernel
theorem dX11_coveredByNode_4 : decode cX11_coveredByNode 4 = .ok (.iload_n 3, 1) := by decide +kernel
theorem dX11_coveredByNode_5 : decode cX11_coveredByNode 5 = .ok (.aload_n 0, 1) := by decide +kernel
theorem dX11_coveredByNode_6 : decode cX11_coveredByNode 6 = .ok (.invokevirtual 87, 3) := by decide +kernel
theorem dX11_coveredByNode_9 : decode cX11_coveredByNode 9 = .ok (.if_icmp .ge 20, 3) := by decide +kernel
theorem dX11_coveredByNode_12 : decode cX11_coveredByNode 12 = .ok (.iload_n 2, 1) := by decide +kernel
theorem dX11_coveredByNode_13 : decode cX11_coveredByNode 13 = .ok (.aload_n 0, 1) := by decide +kernel
theorem dX11_coveredByNode_14 : decode cX11_coveredByNode 14 = .ok (.iload_n 1, 1) := by decide +kernel
theorem dX11_coveredByNode_15 : decode cX11_coveredByNode 15 = .ok (.iload_n 3, 1) := by decide +kernel
theorem dX11_coveredByNode_16 : decode cX11_coveredByNode 16 = .ok (.invokevirtual 284, 3) := by decide +kernel
theorem dX11_coveredByNode_19 : decode cX11_coveredByNode 19 = .ok (.invokestatic 303, 3) := by decide +kernel
theorem dX11_coveredByNode_22 : decode cX11_coveredByNode 22 = .ok (.istore_n 2, 1) := by decide +kernel
theorem dX11_coveredByNode_23 : decode cX11_coveredByNode 23 = .ok (.iinc 3 1, 3) := by decide +kernel
theorem dX11_coveredByNode_26 : decode cX11_coveredByNode 26 = .ok (.goto (-22), 3) := by decide +kernel
theorem dX11_coveredByNode_29 : decode cX11_coveredByNode 29 = .ok (.iload_n 2, 1) := by decide +kernel
theorem dX11_coveredByNode_30 : decode cX11_coveredByNode 30 = .ok (.ireturn, 1) := by decide +kernel
abbrev mX11_coveredByNode : MI := (RX11, yX11_coveredByNode, cX11_coveredByNode, 4, (some .int))
theorem mok_X11_coveredByNode : MOKv mX11_coveredByNode 1 := ⟨⟨bm_1644, bm_127, ⟨by decide, by decide⟩, by decide +kernel⟩, bm_1643, bm_86⟩
def f_X11_coveredByNode_4b   (a0 : Nat) (x1 : Int32) (k4 : Int32 × Int32 → MH → Option (Int32 × MH)) (p : Int32 × Int32) (h : MH) : Option (Int32 × MH) :=
  (f_X11_n a0 h).bind fun q_1 =>
  if p.2 < q_1.1 then
    (f_X11_coveredBy a0 x1 p.2 q_1.2).bind fun q_2 =>
    lt ((if p.1 < q_2.1 then q_2.1 else p.1) : Int32) fun x_3 =>
    k4 (x_3, (p.2 + 1)) q_2.2
  else
    some (p.1, q_1.2)
def f_X11_coveredByNode_4   (a0 : Nat) (x1 : Int32) : Nat → Int32 × Int32 → MH → Option (Int32 × MH) := lp (f_X11_coveredByNode_4b a0 x1)
def f_X11_coveredByNode   (a0 : Nat) (x1 : Int32) (h : MH) : Option (Int32 × MH) :=
  f_X11_coveredByNode_4 a0 x1 FU (0, 0) h
set_option maxRecDepth 100000 in
set_option maxHeartbeats 4000000 in
theorem v_X11_coveredByNode_4b {l : Launch} {G : GE} {B N : Nat} {S : List SHP} {o : Int32 × MH} {a0 : Nat} {x1 : Int32}    (hs0 : S[a0]? = some (.inl 11)) {k4 : Int32 × Int32 → MH → Option (Int32 × MH)} (hk4 : ∀ (p : Int32 × Int32) (h : MH), k4 p h = some o → V l G B N mX11_coveredByNode (rmm 132 0 0) false 0 0 (QI S o) S 0 0 4 [(0, .ref a0), (1, .int x1), (2, .int p.1), (3, .int p.2)] [] h) {p : Int32 × Int32} {h : MH} (hf : f_X11_coveredByNode_4b a0 x1 k4 p h = some o) : V l G B N mX11_coveredByNode (rmm 132 0 0) false 0 0 (QI S o) S 0 0 4 [(0, .ref a0), (1, .int x1), (2, .int p.1), (3, .int p.2)] [] h := by
  unfold f_X11_coveredByNode_4b at hf
  refine V_iload_n (pc' := 5) dX11_coveredByNode_4 rfl 3 rfl rfl ?_
  refine V_aload_n (pc' := 6) dX11_coveredByNode_5 rfl 0 rfl rfl ?_
  refine V_cvI (pc' := 9) (As := []) (rest := [.int p.2]) dX11_coveredByNode_6 rfl mok_X11_n bm_1393 11 (by decide) rfl hs0 rfl rfl (Nat.le_of_ble_eq_true rfl) (by decide) hf (fun q e => ct_X11_n hs0 e) (fun q_1 hf => ?_)
  refine V_icmp_ge (tgt := 29) (pc' := 12) dX11_coveredByNode_9 (by decide) rfl hf (fun hf => ?_) (fun hf => ?_)
  ·
    refine V_iload_n (pc' := 13) dX11_coveredByNode_12 rfl 2 rfl rfl ?_
    refine V_aload_n (pc' := 14) dX11_coveredByNode_13 rfl 0 rfl rfl ?_
    refine V_iload_n (pc' := 15) dX11_coveredByNode_14 rfl 1 rfl rfl ?_
    refine V_iload_n (pc' := 16) dX11_coveredByNode_15 rfl 3 rfl rfl ?_
    refine V_cvI (pc' := 19) (As := [.int x1, .int p.2]) (rest := [.int p.1]) dX11_coveredByNode_16 rfl mok_X11_coveredBy bm_1609 11 (by decide) rfl hs0 rfl rfl (Nat.le_of_ble_eq_true rfl) (by decide) hf (fun q e => ct_X11_coveredBy hs0 e) (fun q_2 hf => ?_)
    refine V_max (pc' := 22) dX11_coveredByNode_19 rfl bm_1645 (Nat.le_of_ble_eq_true rfl) (by decide) ?_
    refine V_nmI hf (fun x_3 hf => ?_)
    refine V_istore_n (lv' := [(2, .int x_3), (0, .ref a0), (1, .int x1), (3, .int p.2)]) (pc' := 23) dX11_coveredByNode_22 rfl rfl (Nat.le_of_ble_eq_true rfl) rfl ?_
    refine V_iinc (v := (p.2 + 1)) (lv' := [(3, .int (p.2 + 1)), (2, .int x_3), (0, .ref a0), (1, .int x1)]) (pc' := 26) dX11_coveredByNode_23 rfl 3 rfl rfl (Nat.le_of_ble_eq_true rfl) rfl ?_
    refine V_goto (tgt := 4) dX11_coveredByNode_26 (by decide) ?_
    exact V_sub (lv' := [(0, .ref a0), (1, .int x1), (2, .int x_3), (3, .int (p.2 + 1))]) [2, 3, 1, 0] rfl (hk4 (x_3, (p.2 + 1)) q_2.2 hf)
  ·
    refine V_iload_n (pc' := 30) dX11_coveredByNode_29 rfl 2 rfl rfl ?_
    obtain rfl := Option.some.inj hf
    exact V_iret dX11_coveredByNode_30 rfl rfl rfl ⟨rfl, rfl, rfl⟩
theorem v_X11_coveredByNode_4 {l : Launch} {G : GE} {B N : Nat} {S : List SHP} {o : Int32 × MH} {a0 : Nat} {x1 : Int32}    (hs0 : S[a0]? = some (.inl 11)) {n : Nat} {p : Int32 × Int32} {h : MH} (hf : f_X11_coveredByNode_4 a0 x1 n p h = some o) : V l G B N mX11_coveredByNode (rmm 132 0 0) false 0 0 (QI S o) S 0 0 4 [(0, .ref a0), (1, .int x1), (2, .int p.1), (3, .int p.2)] [] h :=
  V_lp (VV := fun p h => V l G B N mX11_coveredByNode (rmm 132 0 0) false 0 0 (QI S o) S 0 0 4 [(0, .ref a0), (1, .int x1), (2, .int p.1), (3, .int p.2)] [] h) (fun _ hk _ _ hf => v_X11_coveredByNode_4b hs0 hk hf) n p h hf
set_option maxRecDepth 100000 in
set_option maxHeartbeats 4000000 in
theorem v_X11_coveredByNode {l : Launch} {G : GE} {B N : Nat} {S : List SHP} {o : Int32 × MH} {a0 : Nat} {x1 : Int32}    (hs0 : S[a0]? = some (.inl 11)) {h : MH} (hf : f_X11_coveredByNode a0 x1 h = some o) : V l G B N mX11_coveredByNode (rmm 132 0 0) false 0 0 (QI S o) S 0 0 0 [(0, .ref a0), (1, .int x1)] [] h := by
  unfold f_X11_coveredByNode at hf
  refine V_iconst (v := 0) (pc' := 1) dX11_coveredByNode_0 rfl (by decide) ?_
  refine V_istore_n (lv' := [(2, .int 0), (0, .ref a0), (1, .int x1)]) (pc' := 2) dX11_coveredByNode_1 rfl rfl (Nat.le_of_ble_eq_true rfl) rfl ?_
  refine V_iconst (v := 0) (pc' := 3) dX11_coveredByNode_2 rfl (by decide) ?_
  refine V_istore_n (lv' := [(3, .int 0), (2, .int 0), (0, .ref a0), (1, .int x1)]) (pc' := 4) dX11_coveredByNode_3 rfl rfl (Nat.le_of_ble_eq_true rfl) rfl ?_
  exact V_sub (lv' := [(0, .ref a0), (1, .int x1), (2, .int 0), (3, .int 0)]) [2, 3, 1, 0] rfl (v_X11_coveredByNode_4 hs0 hf)
theorem ct_X11_coveredByNode {l : Launch} {S : List SHP} {h : MH} {a0 : Nat} {x1 : Int32} (hs0 : S[a0]? = some (.inl 11)) {q : Int32 × MH} (hf : f_X11_coveredByNode a0 x1 h = some q) : CT l mX11_coveredByNode 132 false 0 0 S [.ref a0, .int x1] h (QI S q) :=
  CT_ofV (by decide) rfl (Nat.le_of_ble_eq_true rfl) (fun G B hT => v_X11_coveredByNode hs0 hf)
/-! LabelStacksModel.greedy()I -/
theorem dX11_greedy_0 : decode cX11_greedy 0 = .ok (.aload_n 0, 1) := by decide +kernel
theorem dX11_greedy_1 : decode cX11_greedy 1 = .ok (.iconst 0, 1) := by decide +kernel
theorem dX11_greedy_2 : decode cX11_greedy 2 = .ok (.putfield 84, 3) := by decide +kernel
theorem dX11_greedy_5 : decode cX11_greedy 5 = .ok (.aload_n 0, 1) := by decide +kernel
theorem dX11_greedy_6 : decode cX11_greedy 6 = .ok (.invokevirtual 294, 3) := by decide +kernel
theorem dX11_greedy_9 : decode cX11_greedy 9 = .ok (.iconst 0, 1) := by decide +kernel
theorem dX11_greedy_10 : decode cX11_greedy 10 = .ok (.istore_n 1, 1) := by decide +kernel
theorem dX11_greedy_11 : decode cX11_greedy 11 = .ok (.iconst 0, 1) := by decide +kernel
theorem dX11_greedy_12 : decode cX11_greedy 12 = .ok (.istore_n 2, 1) := by decide +kernel
theorem dX11_greedy_13 : decode cX11_greedy 13 = .ok (.iload_n 2, 1) := by decide +kernel
theorem dX11_greedy_14 : decode cX11_greedy 14 = .ok (.aload_n 0, 1) := by decide +kernel
theorem dX11_greedy_15 : decode cX11_greedy 15 = .ok (.getfield 275, 3) := by decide +kernel
theorem dX11_greedy_18 : decode cX11_greedy 18 = .ok (.if_icmp .ge 47, 3) := by decide +kernel
theorem dX11_greedy_21 : decode cX11_greedy 21 = .ok (.aload_n 0, 1) := by decide +kernel
theorem dX11_greedy_22 : decode cX11_greedy 22 = .ok (.iload_n 2, 1) := by decide +kernel
theorem dX11_greedy_23 : decode cX11_greedy 23 = .ok (.invokevirtual 308, 3) := by decide +kernel
theorem dX11_greedy_26 : decode cX11_greedy 26 = .ok (.istore_n 3, 1) := by decide +kernel
theorem dX11_greedy_27 : decode cX11_greedy 27 = .ok (.iload_n 3, 1) := by decide +kernel
theorem dX11_greedy_28 : decode cX11_greedy 28 = .ok (.ifCond .ne 18, 3) := by decide +kernel
theorem dX11_greedy_31 : decode cX11_greedy 31 = .ok (.aload_n 0, 1) := by decide +kernel
theorem dX11_greedy_32 : decode cX11_greedy 32 = .ok (.aload_n 0, 1) := by decide +kernel
theorem dX11_greedy_33 : decode cX11_greedy 33 = .ok (.getfield 48, 3) := by decide +kernel
theorem dX11_greedy_36 : decode cX11_greedy 36 = .ok (.iload_n 2, 1) := by decide +kernel
theorem dX11_greedy_37 : decode cX11_greedy 37 = .ok (.iaload, 1) := by decide +kernel
theorem dX11_greedy_38 : decode cX11_greedy 38 = .ok (.invokevirtual 129, 3) := by decide +kernel
theorem dX11_greedy_41 : decode cX11_greedy 41 = .ok (.ifCond .ne 5, 3) := by decide +kernel
theorem dX11_greedy_44 : decode cX11_greedy 44 = .ok (.iconst (-1), 1) := by decide +kernel
theorem dX11_greedy_45 : decode cX11_greedy 45 = .ok (.ireturn, 1) := by decide +kernel
theorem dX11_greedy_46 : decode cX11_greedy 46 = .ok (.iload_n 2, 1) := by decide +kernel
theorem dX11_greedy_47 : decode cX11_greedy 47 = .ok (.iload_n 3, 1) := by decide +kernel
theorem dX11_greedy_48 : decode cX11_greedy 48 = .ok (.ifCond .ne 7, 3) := by decide +kernel
theorem dX11_greedy_51 : decode cX11_greedy 51 = .ok (.iconst 1, 1) := by decide +kernel
theorem dX11_greedy_52 : decode cX11_greedy 52 = .ok (.goto 4, 3) := by decide +kernel
theorem dX11_greedy_55 : decode cX11_greedy 55 = .ok (.iload_n 3, 1) := by decide +kernel
theorem dX11_greedy_56 : decode cX11_greedy 56 = .ok (.iadd, 1) := by decide +kernel
theorem dX11_greedy_57 : decode cX11_greedy 57 = .ok (.istore_n 2, 1) := by decide +kernel
theorem dX11_greedy_58 : decode cX11_greedy 58 = .ok (.iload_n 1, 1) := by decide +kernel
theorem dX11_greedy_59 : decode cX11_greedy 59 = .ok (.iconst 1, 1) := by decide +kernel
theorem dX11_greedy_60 : decode cX11_greedy 60 = .ok (.iadd, 1) := by decide +kernel
theorem dX11_greedy_61 : decode cX11_greedy 61 = .ok (.istore_n 1, 1) := by decide +kernel
theorem dX11_greedy_62 : decode cX11_greedy 62 = .ok (.goto (-49), 3) := by decide +kernel
theorem dX11_greedy_65 : decode cX11_greedy 65 = .ok (.iload_n 1, 1) := by decide +kernel
theorem dX11_greedy_66 : decode cX11_greedy 66 = .ok (.ireturn, 1) := by decide +kernel
abbrev mX11_greedy : MI := (RX11, yX11_greedy, cX11_greedy, 4, (some .int))
theorem mok_X11_greedy : MOKv mX11_greedy 0 := ⟨⟨bm_1640, bm_127, ⟨by decide, by decide⟩, by decide +kernel⟩, bm_1638, bm_1639⟩
def f_X11_greedy_56  (k13 : Int32 × Int32 → MH → Option (Int32 × MH)) (a0 : Nat) (x1 : Int32) (t0 : Int32) (t1 : Int32) (h : MH) : Option (Int32 × MH) :=
  lt (t0 + t1) fun x_1 =>
  lt (x1 + 1) fun x_2 =>
  k13 (x_2, x_1) h
def f_X11_greedy_46  (k13 : Int32 × Int32 → MH → Option (Int32 × MH)) (a0 : Nat) (x1 : Int32) (x2 : Int32) (x3 : Int32) (h : MH) : Option (Int32 × MH) :=
  if x3 = 0 then
    f_X11_greedy_56 k13 a0 x1 x2 1 h
  else
    f_X11_greedy_56 k13 a0 x1 x2 x3 h
def f_X11_greedy_13b   (a0 : Nat) (k13 : Int32 × Int32 → MH → Option (Int32 × MH)) (p : Int32 × Int32) (h : MH) : Option (Int32 × MH) :=
  if p.2 < (gI h a0 27) then
    (f_X11_coveredByNode a0 p.2 h).bind fun q_1 =>
    if q_1.1 = 0 then
      (gR q_1.2 a0 26).bind fun a_2 =>
      (ldI q_1.2 a_2 p.2).bind fun x_3 =>
      (f_X11_isUp a0 x_3 q_1.2).bind fun q_4 =>
      if q_4.1 = 0 then
        some ((-1 : Int32), q_4.2)
      else
        f_X11_greedy_46 k13 a0 p.1 p.2 q_1.1 q_4.2
    else
      f_X11_greedy_46 k13 a0 p.1 p.2 q_1.1 q_1.2
  else
    some (p.1, h)
def f_X11_greedy_13   (a0 : Nat) : Nat → Int32 × Int32 → MH → Option (Int32 × MH) := lp (f_X11_greedy_13b a0)
def f_X11_greedy   (a0 : Nat) (h : MH) : Option (Int32 × MH) :=
  lt (sI h a0 0 0) fun h_1 =>
  (f_X11_takesWay a0 h_1).bind fun q_2 =>
  f_X11_greedy_13 a0 FU (0, 0) q_2
set_option maxRecDepth 100000 in
set_option maxHeartbeats 4000000 in
theorem v_X11_greedy_56 {l : Launch} {G : GE} {B N : Nat} {S : List SHP} {o : Int32 × MH} {a0 : Nat} {x1 : Int32} {t0 : Int32} {t1 : Int32}  {k13 : Int32 × Int32 → MH → Option (Int32 × MH)} (hk13 : ∀ (p : Int32 × Int32) (h : MH), k13 p h = some o → V l G B N mX11_greedy (rmm 133 0 0) false 0 0 (QI S o) S 0 0 13 [(0, .ref a0), (1, .int p.1), (2, .int p.2)] [] h) (hs0 : S[a0]? = some (.inl 11)) {h : MH} (hf : f_X11_greedy_56 k13 a0 x1 t0 t1 h = some o) : V l G B N mX11_greedy (rmm 133 0 0) false 0 0 (QI S o) S 0 0 56 [(0, .ref a0), (1, .int x1)] [.int t1, .int t0] h := by
  unfold f_X11_greedy_56 at hf
  refine V_iadd (pc' := 57) dX11_greedy_56 rfl ?_
  refine V_nmI hf (fun x_1 hf => ?_)
  refine V_istore_n (lv' := [(2, .int x_1), (0, .ref a0), (1, .int x1)]) (pc' := 58) dX11_greedy_57 rfl rfl (Nat.le_of_ble_eq_true rfl) rfl ?_
  refine V_iload_n (pc' := 59) dX11_greedy_58 rfl 2 rfl rfl ?_
  refine V_iconst (v := 1) (pc' := 60) dX11_greedy_59 rfl (by decide) ?_
  refine V_iadd (pc' := 61) dX11_greedy_60 rfl ?_
  refine V_nmI hf (fun x_2 hf => ?_)
  refine V_istore_n (lv' := [(1, .int x_2), (2, .int x_1), (0, .ref a0)]) (pc' := 62) dX11_greedy_61 rfl rfl (Nat.le_of_ble_eq_true rfl) rfl ?_
  refine V_goto (tgt := 13) dX11_greedy_62 (by decide) ?_
  exact V_sub (lv' := [(0, .ref a0), (1, .int x_2), (2, .int x_1)]) [2, 0, 1] rfl (hk13 (x_2, x_1) h hf)
set_option maxRecDepth 100000 in
set_option maxHeartbeats 4000000 in
theorem v_X11_greedy_46 {l : Launch} {G : GE} {B N : Nat} {S : List SHP} {o : Int32 × MH} {a0 : Nat} {x1 : Int32} {x2 : Int32} {x3 : Int32}  {k13 : Int32 × Int32 → MH → Option (Int32 × MH)} (hk13 : ∀ (p : Int32 × Int32) (h : MH), k13 p h = some o → V l G B N mX11_greedy (rmm 133 0 0) false 0 0 (QI S o) S 0 0 13 [(0, .ref a0), (1, .int p.1), (2, .int p.2)] [] h) (hs0 : S[a0]? = some (.inl 11)) {h : MH} (hf : f_X11_greedy_46 k13 a0 x1 x2 x3 h = some o) : V l G B N mX11_greedy (rmm 133 0 0) false 0 0 (QI S o) S 0 0 46 [(0, .ref a0), (1, .int x1), (2, .int x2), (3, .int x3)] [] h := by
  unfold f_X11_greedy_46 at hf
  refine V_iload_n (pc' := 47) dX11_greedy_46 rfl 2 rfl rfl ?_
  refine V_iload_n (pc' := 48) dX11_greedy_47 rfl 3 rfl rfl ?_
  refine V_if_ne (tgt := 55) (pc' := 51) dX11_greedy_48 (by decide) rfl hf (fun hf => ?_) (fun hf => ?_)
  ·
    refine V_iconst (v := 1) (pc' := 52) dX11_greedy_51 rfl (by decide) ?_
    refine V_goto (tgt := 56) dX11_greedy_52 (by decide) ?_
    exact V_sub (lv' := [(0, .ref a0), (1, .int x1)]) [0, 1] rfl (v_X11_greedy_56 hk13 hs0 hf)
  ·
    refine V_iload_n (pc' := 56) dX11_greedy_55 rfl 3 rfl rfl ?_
    exact V_sub (lv' := [(0, .ref a0), (1, .int x1)]) [0, 1] rfl (v_X11_greedy_56 hk13 hs0 hf)
set_option maxRecDepth 100000 in
set_option maxHeartbeats 4000000 in
theorem v_X11_greedy_13b {l : Launch} {G : GE} {B N : Nat} {S : List SHP} {o : Int32 × MH} {a0 : Nat}    (hs0 : S[a0]? = some (.inl 11)) {k13 : Int32 × Int32 → MH → Option (Int32 × MH)} (hk13 : ∀ (p : Int32 × Int32) (h : MH), k13 p h = some o → V l G B N mX11_greedy (rmm 133 0 0) false 0 0 (QI S o) S 0 0 13 [(0, .ref a0), (1, .int p.1), (2, .int p.2)] [] h) {p : Int32 × Int32} {h : MH} (hf : f_X11_greedy_13b a0 k13 p h = some o) : V l G B N mX11_greedy (rmm 133 0 0) false 0 0 (QI S o) S 0 0 13 [(0, .ref a0), (1, .int p.1), (2, .int p.2)] [] h := by
  unfold f_X11_greedy_13b at hf
  refine V_iload_n (pc' := 14) dX11_greedy_13 rfl 2 rfl rfl ?_
  refine V_aload_n (pc' := 15) dX11_greedy_14 rfl 0 rfl rfl ?_
  refine V_getI (pc' := 18) 11 27 dX11_greedy_15 rfl (by decide) (Nat.le_of_ble_eq_true rfl) bm_1251 hs0 (fun _ _ _ => rfl) ?_
  refine V_icmp_ge (tgt := 65) (pc' := 21) dX11_greedy_18 (by decide) rfl hf (fun hf => ?_) (fun hf => ?_)
  ·
    refine V_aload_n (pc' := 22) dX11_greedy_21 rfl 0 rfl rfl ?_
    refine V_iload_n (pc' := 23) dX11_greedy_22 rfl 2 rfl rfl ?_
    refine V_cvI (pc' := 26) (As := [.int p.2]) (rest := []) dX11_greedy_23 rfl mok_X11_coveredByNode bm_1641 11 (by decide) rfl hs0 rfl rfl (Nat.le_of_ble_eq_true rfl) (by decide) hf (fun q e => ct_X11_coveredByNode hs0 e) (fun q_1 hf => ?_)
    refine V_istore_n (lv' := [(3, .int q_1.1), (0, .ref a0), (1, .int p.1), (2, .int p.2)]) (pc' := 27) dX11_greedy_26 rfl rfl (Nat.le_of_ble_eq_true rfl) rfl ?_
    refine V_iload_n (pc' := 28) dX11_greedy_27 rfl 0 rfl rfl ?_
    refine V_if_ne (tgt := 46) (pc' := 31) dX11_greedy_28 (by decide) rfl hf (fun hf => ?_) (fun hf => ?_)
    ·
      refine V_aload_n (pc' := 32) dX11_greedy_31 rfl 1 rfl rfl ?_
      refine V_aload_n (pc' := 33) dX11_greedy_32 rfl 1 rfl rfl ?_
      refine V_getR (pc' := 36) 11 26 dX11_greedy_33 rfl (by decide) (Nat.le_of_ble_eq_true rfl) bm_1250 hs0 (fun _ _ _ => rfl) rfl hf (fun a_2 ha_2 hf => ?_)
      refine V_iload_n (pc' := 37) dX11_greedy_36 rfl 3 rfl rfl ?_
      refine V_iald (pc' := 38) dX11_greedy_37 rfl ha_2 hf (fun x_3 hf => ?_)
      refine V_cvI (pc' := 41) (As := [.int x_3]) (rest := []) dX11_greedy_38 rfl mok_X11_isUp bm_1414 11 (by decide) rfl hs0 rfl rfl (Nat.le_of_ble_eq_true rfl) (by decide) hf (fun q e => ct_X11_isUp hs0 e) (fun q_4 hf => ?_)
      refine V_if_ne (tgt := 46) (pc' := 44) dX11_greedy_41 (by decide) rfl hf (fun hf => ?_) (fun hf => ?_)
      ·
        refine V_iconst (v := (-1)) (pc' := 45) dX11_greedy_44 rfl (by decide) ?_
        obtain rfl := Option.some.inj hf
        exact V_iret dX11_greedy_45 rfl rfl rfl ⟨rfl, rfl, rfl⟩
      ·
        exact V_sub (lv' := [(0, .ref a0), (1, .int p.1), (2, .int p.2), (3, .int q_1.1)]) [1, 2, 3, 0] rfl (v_X11_greedy_46 hk13 hs0 hf)
    ·
      exact V_sub (lv' := [(0, .ref a0), (1, .int p.1), (2, .int p.2), (3, .int q_1.1)]) [1, 2, 3, 0] rfl (v_X11_greedy_46 hk13 hs0 hf)
  ·
    refine V_iload_n (pc' := 66) dX11_greedy_65 rfl 1 rfl rfl ?_
    obtain rfl := Option.some.inj hf
    exact V_iret dX11_greedy_66 rfl rfl rfl ⟨rfl, rfl, rfl⟩
theorem v_X11_greedy_13 {l : Launch} {G : GE} {B N : Nat} {S : List SHP} {o : Int32 × MH} {a0 : Nat}    (hs0 : S[a0]? = some (.inl 11)) {n : Nat} {p : Int32 × Int32} {h : MH} (hf : f_X11_greedy_13 a0 n p h = some o) : V l G B N mX11_greedy (rmm 133 0 0) false 0 0 (QI S o) S 0 0 13 [(0, .ref a0), (1, .int p.1), (2, .int p.2)] [] h :=
  V_lp (VV := fun p h => V l G B N mX11_greedy (rmm 133 0 0) false 0 0 (QI S o) S 0 0 13 [(0, .ref a0), (1, .int p.1), (2, .int p.2)] [] h) (fun _ hk _ _ hf => v_X11_greedy_13b hs0 hk hf) n p h hf
set_option maxRecDepth 100000 in
set_option maxHeartbeats 4000000 in
theorem v_X11_greedy {l : Launch} {G : GE} {B N : Nat} {S : List SHP} {o : Int32 × MH} {a0 : Nat}    (hs0 : S[a0]? = some (.inl 11)) {h : MH} (hf : f_X11_greedy a0 h = some o) : V l G B N mX11_greedy (rmm 133 0 0) false 0 0 (QI S o) S 0 0 0 [(0, .ref a0)] [] h := by
  unfold f_X11_greedy at hf
  refine V_aload_n (pc' := 1) dX11_greedy_0 rfl 0 rfl rfl ?_
  refine V_iconst (v := 0) (pc' := 2) dX11_greedy_1 rfl (by decide) ?_
  refine V_putI (pc' := 5) 11 0 dX11_greedy_2 rfl (by decide) (Nat.le_of_ble_eq_true rfl) bm_1224 hs0 (Or.inl rfl) rfl ?_
  refine V_nmH hf (fun h_1 hf => ?_)
  refine V_aload_n (pc' := 6) dX11_greedy_5 rfl 0 rfl rfl ?_
  refine V_cvV (pc' := 9) (As := []) (rest := []) dX11_greedy_6 rfl mok_X11_takesWay bm_1601 11 (by decide) rfl hs0 rfl rfl (Nat.le_of_ble_eq_true rfl) (by decide) hf (fun q e => ct_X11_takesWay hs0 e) (fun q_2 hf => ?_)
  refine V_iconst (v := 0) (pc' := 10) dX11_greedy_9 rfl (by decide) ?_
  refine V_istore_n (lv' := [(1, .int 0), (0, .ref a0)]) (pc' := 11) dX11_greedy_10 rfl rfl (Nat.le_of_ble_eq_true rfl) rfl ?_
  refine V_iconst (v := 0) (pc' := 12) dX11_greedy_11 rfl (by decide) ?_
  refine V_istore_n (lv' := [(2, .int 0), (1, .int 0), (0, .ref a0)]) (pc' := 13) dX11_greedy_12 rfl rfl (Nat.le_of_ble_eq_true rfl) rfl ?_
  exact V_sub (lv' := [(0, .ref a0), (1, .int 0), (2, .int 0)]) [2, 1, 0] rfl (v_X11_greedy_13 hs0 hf)
theorem ct_X11_greedy {l : Launch} {S : List SHP} {h : MH} {a0 : Nat} (hs0 : S[a0]? = some (.inl 11)) {q : Int32 × MH} (hf : f_X11_greedy a0 h = some q) : CT l mX11_greedy 133 false 0 0 S [.ref a0] h (QI S q) :=
  CT_ofV (by decide) rfl (Nat.le_of_ble_eq_true rfl) (fun G B hT => v_X11_greedy hs0 hf)
/-! LabelStacksModel.covers(I)I -/
theorem dX11_covers_0 : decode cX11_covers 0 = .ok (.aload_n 0, 1) := by decide +kernel
theorem dX11_covers_1 : decode cX11_covers 1 = .ok (.iconst 0, 1) := by decide +kernel
theorem dX11_covers_2 : decode cX11_covers 2 = .ok (.putfield 84, 3) := by decide +kernel
theorem dX11_covers_5 : decode cX11_covers 5 = .ok (.aload_n 0, 1) := by decide +kernel
theorem dX11_covers_6 : decode cX11_covers 6 = .ok (.invokevirtual 294, 3) := by decide +kernel
theorem dX11_covers_9 : decode cX11_covers 9 = .ok (.aload_n 0, 1) := by decide +kernel
theorem dX11_covers_10 : decode cX11_covers 10 = .ok (.iload_n 1, 1) := by decide +kernel
theorem dX11_covers_11 : decode cX11_covers 11 = .ok (.i2l, 1) := by decide +kernel
theorem dX11_covers_12 : decode cX11_covers 12 = .ok (.lconst 0, 1) := by decide +kernel
theorem dX11_covers_13 : decode cX11_covers 13 = .ok (.aload_n 0, 1) := by decide +kernel
theorem dX11_covers_14 : decode cX11_covers 14 = .ok (.getfield 275, 3) := by decide +kernel
theorem dX11_covers_17 : decode cX11_covers 17 = .ok (.i2l, 1) := by decide +kernel
theorem dX11_covers_18 : decode cX11_covers 18 = .ok (.lconst 1, 1) := by decide +kernel
theorem dX11_covers_19 : decode cX11_covers 19 = .ok (.lsub, 1) := by decide +kernel
theorem dX11_covers_20 : decode cX11_covers 20 = .ok (.invokevirtual 91, 3) := by decide +kernel
theorem dX11_covers_23 : decode cX11_covers 23 = .ok (.ifCond .eq 11, 3) := by decide +kernel
theorem dX11_covers_26 : decode cX11_covers 26 = .ok (.aload_n 0, 1) := by decide +kernel
theorem dX11_covers_27 : decode cX11_covers 27 = .ok (.iload_n 1, 1) := by decide +kernel
theorem dX11_covers_28 : decode cX11_covers 28 = .ok (.invokevirtual 308, 3) := by decide +kernel
theorem dX11_covers_31 : decode cX11_covers 31 = .ok (.goto 4, 3) := by decide +kernel
theorem dX11_covers_34 : decode cX11_covers 34 = .ok (.iconst (-1), 1) := by decide +kernel
theorem dX11_covers_35 : decode cX11_covers 35 = .ok (.ireturn, 1) := by decide +kernel
abbrev mX11_covers : MI := (RX11, yX11_covers, cX11_covers, 2, (some .int))
theorem mok_X11_covers : MOKv mX11_covers 1 := ⟨⟨bm_1649, bm_127, ⟨by decide, by decide⟩, by decide +kernel⟩, bm_1647, bm_1648⟩
def f_X11_covers   (a0 : Nat) (x1 : Int32) (h : MH) : Option (Int32 × MH) :=
  lt (sI h a0 0 0) fun h_1 =>
  (f_X11_takesWay a0 h_1).bind fun q_2 =>
  (f_X11_isIn a0 (Int32.toInt64 x1) 0 ((Int32.toInt64 (gI q_2 a0 27)) - 1) q_2).bind fun q_3 =>
  if q_3.1 = 0 then
    some ((-1 : Int32), q_3.2)
  else
    (f_X11_coveredByNode a0 x1 q_3.2).bind fun q_4 =>
    some (q_4.1, q_4.2)
set_option maxRecDepth 100000 in
set_option maxHeartbeats 4000000 in
theorem v_X11_covers {l : Launch} {G : GE} {B N : Nat} {S : List SHP} {o : Int32 × MH} {a0 : Nat} {x1 : Int32}    (hs0 : S[a0]? = some (.inl 11)) {h : MH} (hf : f_X11_covers a0 x1 h = some o) : V l G B N mX11_covers (rmm 133 0 0) false 0 0 (QI S o) S 0 0 0 [(0, .ref a0), (1, .int x1)] [] h := by
  unfold f_X11_covers at hf
  refine V_aload_n (pc' := 1) dX11_covers_0 rfl 0 rfl rfl ?_
  refine V_iconst (v := 0) (pc' := 2) dX11_covers_1 rfl (by decide) ?_
  refine V_putI (pc' := 5) 11 0 dX11_covers_2 rfl (by decide) (Nat.le_of_ble_eq_true rfl) bm_1224 hs0 (Or.inl rfl) rfl ?_
  refine V_nmH hf (fun h_1 hf => ?_)
  refine V_aload_n (pc' := 6) dX11_covers_5 rfl 0 rfl rfl ?_
  refine V_cvV (pc' := 9) (As := []) (rest := []) dX11_covers_6 rfl mok_X11_takesWay bm_1601 11 (by decide) rfl hs0 rfl rfl (Nat.le_of_ble_eq_true rfl) (by decide) hf (fun q e => ct_X11_takesWay hs0 e) (fun q_2 hf => ?_)
  refine V_aload_n (pc' := 10) dX11_covers_9 rfl 0 rfl rfl ?_
  refine V_iload_n (pc' := 11) dX11_covers_10 rfl 1 rfl rfl ?_
  refine V_i2l (pc' := 12) dX11_covers_11 rfl ?_
  refine V_lconst (v := 0) (pc' := 13) dX11_covers_12 rfl (by decide) ?_
  refine V_aload_n (pc' := 14) dX11_covers_13 rfl 0 rfl rfl ?_
  refine V_getI (pc' := 17) 11 27 dX11_covers_14 rfl (by decide) (Nat.le_of_ble_eq_true rfl) bm_1251 hs0 (fun _ _ _ => rfl) ?_
  refine V_i2l (pc' := 18) dX11_covers_17 rfl ?_
  refine V_lconst (v := 1) (pc' := 19) dX11_covers_18 rfl (by decide) ?_
  refine V_lsub (pc' := 20) dX11_covers_19 rfl ?_
  refine V_cvI (pc' := 23) (As := [.long (Int32.toInt64 x1), .long 0, .long ((Int32.toInt64 (gI q_2 a0 27)) - 1)]) (rest := []) dX11_covers_20 rfl mok_X11_isIn bm_1373 11 (by decide) rfl hs0 rfl rfl (Nat.le_of_ble_eq_true rfl) (by decide) hf (fun q e => ct_X11_isIn hs0 e) (fun q_3 hf => ?_)
  refine V_if_eq (tgt := 34) (pc' := 26) dX11_covers_23 (by decide) rfl hf (fun hf => ?_) (fun hf => ?_)
  ·
    refine V_iconst (v := (-1)) (pc' := 35) dX11_covers_34 rfl (by decide) ?_
    obtain rfl := Option.some.inj hf
    exact V_iret dX11_covers_35 rfl rfl rfl ⟨rfl, rfl, rfl⟩
  ·
    refine V_aload_n (pc' := 27) dX11_covers_26 rfl 0 rfl rfl ?_
    refine V_iload_n (pc' := 28) dX11_covers_27 rfl 1 rfl rfl ?_
    refine V_cvI (pc' := 31) (As := [.int x1]) (rest := []) dX11_covers_28 rfl mok_X11_coveredByNode bm_1641 11 (by decide) rfl hs0 rfl rfl (Nat.le_of_ble_eq_true rfl) (by decide) hf (fun q e => ct_X11_coveredByNode hs0 e) (fun q_4 hf => ?_)
    refine V_goto (tgt := 35) dX11_covers_31 (by decide) ?_
    obtain rfl := Option.some.inj hf
    exact V_iret dX11_covers_35 rfl rfl rfl ⟨rfl, rfl, rfl⟩
theorem ct_X11_covers {l : Launch} {S : List SHP} {h : MH} {a0 : Nat} {x1 : Int32} (hs0 : S[a0]? = some (.inl 11)) {q : Int32 × MH} (hf : f_X11_covers a0 x1 h = some q) : CT l mX11_covers 133 false 0 0 S [.ref a0, .int x1] h (QI S q) :=
  CT_ofV (by decide) rfl (Nat.le_of_ble_eq_true rfl) (fun G B hT => v_X11_covers hs0 hf)
/-! LabelStacksModel.isDemand(I)Z -/
theorem dX11_isDemand_0 : decode cX11_isDemand 0 = .ok (.aload_n 0, 1) := by decide +kernel
theorem dX11_isDemand_1 : decode cX11_isDemand 1 = .ok (.iload_n 1, 1) := by decide +kernel
theorem dX11_isDemand_2 : decode cX11_isDemand 2 = .ok (.i2l, 1) := by decide +kernel
theorem dX11_isDemand_3 : decode cX11_isDemand 3 = .ok (.lconst 0, 1) := by decide +kernel
theorem dX11_isDemand_4 : decode cX11_isDemand 4 = .ok (.ldc2_w 311, 3) := by decide +kernel
theorem dX11_isDemand_7 : decode cX11_isDemand 7 = .ok (.invokevirtual 91, 3) := by decide +kernel
theorem dX11_isDemand_10 : decode cX11_isDemand 10 = .ok (.ireturn, 1) := by decide +kernel
abbrev mX11_isDemand : MI := (RX11, yX11_isDemand, cX11_isDemand, 2, (some .boolean))
theorem mok_X11_isDemand : MOKv mX11_isDemand 1 := ⟨⟨bm_1657, bm_127, ⟨by decide, by decide⟩, by decide +kernel⟩, bm_1656, bm_87⟩
def f_X11_isDemand   (a0 : Nat) (x1 : Int32) (h : MH) : Option (Int32 × MH) :=
  (f_X11_isIn a0 (Int32.toInt64 x1) 0 7 h).bind fun q_1 =>
  if q_1.1 = 0 ∨ q_1.1 = 1 then some (q_1.1, q_1.2) else none
set_option maxRecDepth 100000 in
set_option maxHeartbeats 4000000 in
theorem v_X11_isDemand {l : Launch} {G : GE} {B N : Nat} {S : List SHP} {o : Int32 × MH} {a0 : Nat} {x1 : Int32}    (hs0 : S[a0]? = some (.inl 11)) {h : MH} (hf : f_X11_isDemand a0 x1 h = some o) : V l G B N mX11_isDemand (rmm 4 0 0) false 0 0 (QI S o) S 0 0 0 [(0, .ref a0), (1, .int x1)] [] h := by
  unfold f_X11_isDemand at hf
  refine V_aload_n (pc' := 1) dX11_isDemand_0 rfl 0 rfl rfl ?_
  refine V_iload_n (pc' := 2) dX11_isDemand_1 rfl 1 rfl rfl ?_
  refine V_i2l (pc' := 3) dX11_isDemand_2 rfl ?_
  refine V_lconst (v := 0) (pc' := 4) dX11_isDemand_3 rfl (by decide) ?_
  refine V_ldc2 (v := 7) (pc' := 7) dX11_isDemand_4 rfl bm_1658 ?_
  refine V_cvI (pc' := 10) (As := [.long (Int32.toInt64 x1), .long 0, .long 7]) (rest := []) dX11_isDemand_7 rfl mok_X11_isIn bm_1373 11 (by decide) rfl hs0 rfl rfl (Nat.le_of_ble_eq_true rfl) (by decide) hf (fun q e => ct_X11_isIn hs0 e) (fun q_1 hf => ?_)
  refine V_zret dX11_isDemand_10 rfl rfl rfl hf (fun hf => ?_)
  obtain rfl := Option.some.inj hf
  exact ⟨rfl, rfl, rfl⟩
theorem ct_X11_isDemand {l : Launch} {S : List SHP} {h : MH} {a0 : Nat} {x1 : Int32} (hs0 : S[a0]? = some (.inl 11)) {q : Int32 × MH} (hf : f_X11_isDemand a0 x1 h = some q) : CT l mX11_isDemand 4 false 0 0 S [.ref a0, .int x1] h (QI S q) :=
  CT_ofV (by decide) rfl (Nat.le_of_ble_eq_true rfl) (fun G B hT => v_X11_isDemand hs0 hf)
/-! LabelStacksModel.demand(III)Z -/
theorem dX11_demand_0 : decode cX11_demand 0 = .ok (.aload_n 0, 1) := by decide +kernel
theorem dX11_demand_1 : decode cX11_demand 1 = .ok (.iconst 0, 1) := by decide +kernel
theorem dX11_demand_2 : decode cX11_demand 2 = .ok (.putfield 84, 3) := by decide +kernel
theorem dX11_demand_5 : decode cX11_demand 5 = .ok (.aload_n 0, 1) := by decide +kernel
theorem dX11_demand_6 : decode cX11_demand 6 = .ok (.iload_n 1, 1) := by decide +kernel
theorem dX11_demand_7 : decode cX11_demand 7 = .ok (.invokevirtual 313, 3) := by decide +kernel
theorem dX11_demand_10 : decode cX11_demand 10 = .ok (.ifCond .eq 24, 3) := by decide +kernel
theorem dX11_demand_13 : decode cX11_demand 13 = .ok (.aload_n 0, 1) := by decide +kernel
theorem dX11_demand_14 : decode cX11_demand 14 = .ok (.iload_n 2, 1) := by decide +kernel
theorem dX11_demand_15 : decode cX11_demand 15 = .ok (.invokevirtual 116, 3) := by decide +kernel
theorem dX11_demand_18 : decode cX11_demand 18 = .ok (.ifCond .eq 16, 3) := by decide +kernel
theorem dX11_demand_21 : decode cX11_demand 21 = .ok (.aload_n 0, 1) := by decide +kernel
theorem dX11_demand_22 : decode cX11_demand 22 = .ok (.iload_n 3, 1) := by decide +kernel
theorem dX11_demand_23 : decode cX11_demand 23 = .ok (.i2l, 1) := by decide +kernel
theorem dX11_demand_24 : decode cX11_demand 24 = .ok (.lconst 1, 1) := by decide +kernel
theorem dX11_demand_25 : decode cX11_demand 25 = .ok (.ldc2_w 120, 3) := by decide +kernel
theorem dX11_demand_28 : decode cX11_demand 28 = .ok (.invokevirtual 91, 3) := by decide +kernel
theorem dX11_demand_31 : decode cX11_demand 31 = .ok (.ifCond .ne 5, 3) := by decide +kernel
theorem dX11_demand_34 : decode cX11_demand 34 = .ok (.iconst 0, 1) := by decide +kernel
theorem dX11_demand_35 : decode cX11_demand 35 = .ok (.ireturn, 1) := by decide +kernel
theorem dX11_demand_36 : decode cX11_demand 36 = .ok (.aload_n 0, 1) := by decide +kernel
theorem dX11_demand_37 : decode cX11_demand 37 = .ok (.invokevirtual 109, 3) := by decide +kernel
theorem dX11_demand_40 : decode cX11_demand 40 = .ok (.aload_n 0, 1) := by decide +kernel
theorem dX11_demand_41 : decode cX11_demand 41 = .ok (.getfield 7, 3) := by decide +kernel
theorem dX11_demand_44 : decode cX11_demand 44 = .ok (.sipush 170, 3) := by decide +kernel
theorem dX11_demand_47 : decode cX11_demand 47 = .ok (.iload_n 1, 1) := by decide +kernel
theorem dX11_demand_48 : decode cX11_demand 48 = .ok (.iadd, 1) := by decide +kernel
theorem dX11_demand_49 : decode cX11_demand 49 = .ok (.iload_n 2, 1) := by decide +kernel
theorem dX11_demand_50 : decode cX11_demand 50 = .ok (.iconst 1, 1) := by decide +kernel
theorem dX11_demand_51 : decode cX11_demand 51 = .ok (.iadd, 1) := by decide +kernel
theorem dX11_demand_52 : decode cX11_demand 52 = .ok (.iastore, 1) := by decide +kernel
theorem dX11_demand_53 : decode cX11_demand 53 = .ok (.aload_n 0, 1) := by decide +kernel
theorem dX11_demand_54 : decode cX11_demand 54 = .ok (.getfield 7, 3) := by decide +kernel
theorem dX11_demand_57 : decode cX11_demand 57 = .ok (.sipush 178, 3) := by decide +kernel
theorem dX11_demand_60 : decode cX11_demand 60 = .ok (.iload_n 1, 1) := by decide +kernel
theorem dX11_demand_61 : decode cX11_demand 61 = .ok (.iadd, 1) := by decide +kernel
theorem dX11_demand_62 : decode cX11_demand 62 = .ok (.iload_n 3, 1) := by decide +kernel
theorem dX11_demand_63 : decode cX11_demand 63 = .ok (.iastore, 1) := by decide +kernel
theorem dX11_demand_64 : decode cX11_demand 64 = .ok (.aload_n 0, 1) := by decide +kernel
theorem dX11_demand_65 : decode cX11_demand 65 = .ok (.getfield 7, 3) := by decide +kernel
theorem dX11_demand_68 : decode cX11_demand 68 = .ok (.sipush 186, 3) := by decide +kernel
theorem dX11_demand_71 : decode cX11_demand 71 = .ok (.iload_n 1, 1) := by decide +kernel
theorem dX11_demand_72 : decode cX11_demand 72 = .ok (.iadd, 1) := by decide +kernel
theorem dX11_demand_73 : decode cX11_demand 73 = .ok (.aload_n 0, 1) := by decide +kernel
theorem dX11_demand_74 : decode cX11_demand 74 = .ok (.getfield 138, 3) := by decide +kernel
theorem dX11_demand_77 : decode cX11_demand 77 = .ok (.iastore, 1) := by decide +kernel
theorem dX11_demand_78 : decode cX11_demand 78 = .ok (.iconst 0, 1) := by decide +kernel
theorem dX11_demand_79 : decode cX11_demand 79 = .ok (.istore 4, 2) := by decide +kernel
theorem dX11_demand_81 : decode cX11_demand 81 = .ok (.iload 4, 2) := by decide +kernel
theorem dX11_demand_83 : decode cX11_demand 83 = .ok (.aload_n 0, 1) := by decide +kernel
theorem dX11_demand_84 : decode cX11_demand 84 = .ok (.getfield 138, 3) := by decide +kernel
theorem dX11_demand_87 : decode cX11_demand 87 = .ok (.if_icmp .ge 32, 3) := by decide +kernel
theorem dX11_demand_90 : decode cX11_demand 90 = .ok (.aload_n 0, 1) := by decide +kernel
theorem dX11_demand_91 : decode cX11_demand 91 = .ok (.getfield 7, 3) := by decide +kernel
theorem dX11_demand_94 : decode cX11_demand 94 = .ok (.sipush 194, 3) := by decide +kernel
theorem dX11_demand_97 : decode cX11_demand 97 = .ok (.bipush 12, 2) := by decide +kernel
theorem dX11_demand_99 : decode cX11_demand 99 = .ok (.iload_n 1, 1) := by decide +kernel
theorem dX11_demand_100 : decode cX11_demand 100 = .ok (.imul, 1) := by decide +kernel
theorem dX11_demand_101 : decode cX11_demand 101 = .ok (.iadd, 1) := by decide +kernel
theorem dX11_demand_102 : decode cX11_demand 102 = .ok (.iload 4, 2) := by decide +kernel
theorem dX11_demand_104 : decode cX11_demand 104 = .ok (.iadd, 1) := by decide +kernel
theorem dX11_demand_105 : decode cX11_demand 105 = .ok (.aload_n 0, 1) := by decide +kernel
theorem dX11_demand_106 : decode cX11_demand 106 = .ok (.getfield 20, 3) := by decide +kernel
theorem dX11_demand_109 : decode cX11_demand 109 = .ok (.iload 4, 2) := by decide +kernel
theorem dX11_demand_111 : decode cX11_demand 111 = .ok (.iaload, 1) := by decide +kernel
theorem dX11_demand_112 : decode cX11_demand 112 = .ok (.iastore, 1) := by decide +kernel
theorem dX11_demand_113 : decode cX11_demand 113 = .ok (.iinc 4 1, 3) := by decide +kernel
theorem dX11_demand_116 : decode cX11_demand 116 = .ok (.goto (-35), 3) := by decide +kernel
theorem dX11_demand_119 : decode cX11_demand 119 = .ok (.iconst 1, 1) := by decide +kernel
theorem dX11_demand_120 : decode cX11_demand 120 = .ok (.ireturn, 1) := by decide +kernel
abbrev mX11_demand : MI := (RX11, yX11_demand, cX11_demand, 5, (some .boolean))
theorem mok_X11_demand : MOKv mX11_demand 3 := ⟨⟨bm_1653, bm_127, ⟨by decide, by decide⟩, by decide +kernel⟩, bm_1651, bm_1652⟩
def f_X11_demand_81b   (a0 : Nat) (x1 : Int32) (k81 : Int32 → MH → Option (Int32 × MH)) (p : Int32) (h : MH) : Option (Int32 × MH) :=
  if p < (gI h a0 6) then
    (gR h a0 1).bind fun a_1 =>
    (gR h a0 5).bind fun a_2 =>
    (ldI h a_2 p).bind fun x_3 =>
    (stI h a_1 ((194 + (12 * x1)) + p) x_3).bind fun h_4 =>
    k81 (p + 1) h_4
  else
    some (1, h)
def f_X11_demand_81   (a0 : Nat) (x1 : Int32) : Nat → Int32 → MH → Option (Int32 × MH) := lp (f_X11_demand_81b a0 x1)
def f_X11_demand   (a0 : Nat) (x1 : Int32) (x2 : Int32) (x3 : Int32) (h : MH) : Option (Int32 × MH) :=
  lt (sI h a0 0 0) fun h_1 =>
  (f_X11_isDemand a0 x1 h_1).bind fun q_2 =>
  if q_2.1 = 0 then
    some (0, q_2.2)
  else
    (f_X11_isNode a0 x2 q_2.2).bind fun q_3 =>
    if q_3.1 = 0 then
      some (0, q_3.2)
    else
      (f_X11_isIn a0 (Int32.toInt64 x3) 1 99 q_3.2).bind fun q_4 =>
      if q_4.1 = 0 then
        some (0, q_4.2)
      else
        (f_X11_keepsAct a0 q_4.2).bind fun q_5 =>
        (gR q_5 a0 1).bind fun a_6 =>
        (stI q_5 a_6 (170 + x1) (x2 + 1)).bind fun h_7 =>
        (gR h_7 a0 1).bind fun a_8 =>
        (stI h_7 a_8 (178 + x1) x3).bind fun h_9 =>
        (gR h_9 a0 1).bind fun a_10 =>
        (stI h_9 a_10 (186 + x1) (gI h_9 a0 6)).bind fun h_11 =>
        f_X11_demand_81 a0 x1 FU 0 h_11
set_option maxRecDepth 100000 in
set_option maxHeartbeats 4000000 in
theorem v_X11_demand_81b {l : Launch} {G : GE} {B N : Nat} {S : List SHP} {o : Int32 × MH} {a0 : Nat} {x1 : Int32}    (hs0 : S[a0]? = some (.inl 11)) {k81 : Int32 → MH → Option (Int32 × MH)} (hk81 : ∀ (p : Int32) (h : MH), k81 p h = some o → V l G B N mX11_demand (rmm 5 0 0) false 0 0 (QI S o) S 0 0 81 [(0, .ref a0), (1, .int x1), (4, .int p)] [] h) {p : Int32} {h : MH} (hf : f_X11_demand_81b a0 x1 k81 p h = some o) : V l G B N mX11_demand (rmm 5 0 0) false 0 0 (QI S o) S 0 0 81 [(0, .ref a0), (1, .int x1), (4, .int p)] [] h := by
  unfold f_X11_demand_81b at hf
  refine V_iload (pc' := 83) dX11_demand_81 rfl 2 rfl ?_
  refine V_aload_n (pc' := 84) dX11_demand_83 rfl 0 rfl rfl ?_
  refine V_getI (pc' := 87) 11 6 dX11_demand_84 rfl (by decide) (Nat.le_of_ble_eq_true rfl) bm_1230 hs0 (fun _ _ _ => rfl) ?_
  refine V_icmp_ge (tgt := 119) (pc' := 90) dX11_demand_87 (by decide) rfl hf (fun hf => ?_) (fun hf => ?_)
  ·
    refine V_aload_n (pc' := 91) dX11_demand_90 rfl 0 rfl rfl ?_
    refine V_getR (pc' := 94) 11 1 dX11_demand_91 rfl (by decide) (Nat.le_of_ble_eq_true rfl) bm_1225 hs0 (fun _ _ _ => rfl) rfl hf (fun a_1 ha_1 hf => ?_)
    refine V_sipush (v := 194) (pc' := 97) dX11_demand_94 rfl (by decide) ?_
    refine V_bipush (v := 12) (pc' := 99) dX11_demand_97 rfl (by decide) ?_
    refine V_iload_n (pc' := 100) dX11_demand_99 rfl 1 rfl rfl ?_
    refine V_imul (pc' := 101) dX11_demand_100 rfl ?_
    refine V_iadd (pc' := 102) dX11_demand_101 rfl ?_
    refine V_iload (pc' := 104) dX11_demand_102 rfl 2 rfl ?_
    refine V_iadd (pc' := 105) dX11_demand_104 rfl ?_
    refine V_aload_n (pc' := 106) dX11_demand_105 rfl 0 rfl rfl ?_
    refine V_getR (pc' := 109) 11 5 dX11_demand_106 rfl (by decide) (Nat.le_of_ble_eq_true rfl) bm_1229 hs0 (fun _ _ _ => rfl) rfl hf (fun a_2 ha_2 hf => ?_)
    refine V_iload (pc' := 111) dX11_demand_109 rfl 2 rfl ?_
    refine V_iald (pc' := 112) dX11_demand_111 rfl ha_2 hf (fun x_3 hf => ?_)
    refine V_iast (pc' := 113) dX11_demand_112 rfl ha_1 hf (fun h_4 hf => ?_)
    refine V_iinc (v := (p + 1)) (lv' := [(4, .int (p + 1)), (0, .ref a0), (1, .int x1)]) (pc' := 116) dX11_demand_113 rfl 2 rfl rfl (Nat.le_of_ble_eq_true rfl) rfl ?_
    refine V_goto (tgt := 81) dX11_demand_116 (by decide) ?_
    exact V_sub (lv' := [(0, .ref a0), (1, .int x1), (4, .int (p + 1))]) [1, 2, 0] rfl (hk81 (p + 1) h_4 hf)
  ·
    refine V_iconst (v := 1) (pc' := 120) dX11_demand_119 rfl (by decide) ?_
    obtain rfl := Option.some.inj hf
    exact V_zretL dX11_demand_120 rfl rfl rfl (by decide) ⟨rfl, rfl, rfl⟩
theorem v_X11_demand_81 {l : Launch} {G : GE} {B N : Nat} {S : List SHP} {o : Int32 × MH} {a0 : Nat} {x1 : Int32}    (hs0 : S[a0]? = some (.inl 11)) {n : Nat} {p : Int32} {h : MH} (hf : f_X11_demand_81 a0 x1 n p h = some o) : V l G B N mX11_demand (rmm 5 0 0) false 0 0 (QI S o) S 0 0 81 [(0, .ref a0), (1, .int x1), (4, .int p)] [] h :=
  V_lp (VV := fun p h => V l G B N mX11_demand (rmm 5 0 0) false 0 0 (QI S o) S 0 0 81 [(0, .ref a0), (1, .int x1), (4, .int p)] [] h) (fun _ hk _ _ hf => v_X11_demand_81b hs0 hk hf) n p h hf
set_option maxRecDepth 100000 in
set_option maxHeartbeats 4000000 in
theorem v_X11_demand {l : Launch} {G : GE} {B N : Nat} {S : List SHP} {o : Int32 × MH} {a0 : Nat} {x1 : Int32} {x2 : Int32} {x3 : Int32}    (hs0 : S[a0]? = some (.inl 11)) {h : MH} (hf : f_X11_demand a0 x1 x2 x3 h = some o) : V l G B N mX11_demand (rmm 5 0 0) false 0 0 (QI S o) S 0 0 0 [(0, .ref a0), (1, .int x1), (2, .int x2), (3, .int x3)] [] h := by
  unfold f_X11_demand at hf
  refine V_aload_n (pc' := 1) dX11_demand_0 rfl 0 rfl rfl ?_
  refine V_iconst (v := 0) (pc' := 2) dX11_demand_1 rfl (by decide) ?_
  refine V_putI (pc' := 5) 11 0 dX11_demand_2 rfl (by decide) (Nat.le_of_ble_eq_true rfl) bm_1224 hs0 (Or.inl rfl) rfl ?_
  refine V_nmH hf (fun h_1 hf => ?_)
  refine V_aload_n (pc' := 6) dX11_demand_5 rfl 0 rfl rfl ?_
  refine V_iload_n (pc' := 7) dX11_demand_6 rfl 1 rfl rfl ?_
  refine V_cvI (pc' := 10) (As := [.int x1]) (rest := []) dX11_demand_7 rfl mok_X11_isDemand bm_1654 11 (by decide) rfl hs0 rfl rfl (Nat.le_of_ble_eq_true rfl) (by decide) hf (fun q e => ct_X11_isDemand hs0 e) (fun q_2 hf => ?_)
  refine V_if_eq (tgt := 34) (pc' := 13) dX11_demand_10 (by decide) rfl hf (fun hf => ?_) (fun hf => ?_)
  ·
    refine V_iconst (v := 0) (pc' := 35) dX11_demand_34 rfl (by decide) ?_
    obtain rfl := Option.some.inj hf
    exact V_zretL dX11_demand_35 rfl rfl rfl (by decide) ⟨rfl, rfl, rfl⟩
  ·
    refine V_aload_n (pc' := 14) dX11_demand_13 rfl 0 rfl rfl ?_
    refine V_iload_n (pc' := 15) dX11_demand_14 rfl 2 rfl rfl ?_
    refine V_cvI (pc' := 18) (As := [.int x2]) (rest := []) dX11_demand_15 rfl mok_X11_isNode bm_1389 11 (by decide) rfl hs0 rfl rfl (Nat.le_of_ble_eq_true rfl) (by decide) hf (fun q e => ct_X11_isNode hs0 e) (fun q_3 hf => ?_)
    refine V_if_eq (tgt := 34) (pc' := 21) dX11_demand_18 (by decide) rfl hf (fun hf => ?_) (fun hf => ?_)
    ·
      refine V_iconst (v := 0) (pc' := 35) dX11_demand_34 rfl (by decide) ?_
      obtain rfl := Option.some.inj hf
      exact V_zretL dX11_demand_35 rfl rfl rfl (by decide) ⟨rfl, rfl, rfl⟩
    ·
      refine V_aload_n (pc' := 22) dX11_demand_21 rfl 0 rfl rfl ?_
      refine V_iload_n (pc' := 23) dX11_demand_22 rfl 3 rfl rfl ?_
      refine V_i2l (pc' := 24) dX11_demand_23 rfl ?_
      refine V_lconst (v := 1) (pc' := 25) dX11_demand_24 rfl (by decide) ?_
      refine V_ldc2 (v := 99) (pc' := 28) dX11_demand_25 rfl bm_1397 ?_
      refine V_cvI (pc' := 31) (As := [.long (Int32.toInt64 x3), .long 1, .long 99]) (rest := []) dX11_demand_28 rfl mok_X11_isIn bm_1373 11 (by decide) rfl hs0 rfl rfl (Nat.le_of_ble_eq_true rfl) (by decide) hf (fun q e => ct_X11_isIn hs0 e) (fun q_4 hf => ?_)
      refine V_if_ne (tgt := 36) (pc' := 34) dX11_demand_31 (by decide) rfl hf (fun hf => ?_) (fun hf => ?_)
      ·
        refine V_iconst (v := 0) (pc' := 35) dX11_demand_34 rfl (by decide) ?_
        obtain rfl := Option.some.inj hf
        exact V_zretL dX11_demand_35 rfl rfl rfl (by decide) ⟨rfl, rfl, rfl⟩
      ·
        refine V_aload_n (pc' := 37) dX11_demand_36 rfl 0 rfl rfl ?_
        refine V_cvV (pc' := 40) (As := []) (rest := []) dX11_demand_37 rfl mok_X11_keepsAct bm_1377 11 (by decide) rfl hs0 rfl rfl (Nat.le_of_ble_eq_true rfl) (by decide) hf (fun q e => ct_X11_keepsAct hs0 e) (fun q_5 hf => ?_)
        refine V_aload_n (pc' := 41) dX11_demand_40 rfl 0 rfl rfl ?_
        refine V_getR (pc' := 44) 11 1 dX11_demand_41 rfl (by decide) (Nat.le_of_ble_eq_true rfl) bm_1225 hs0 (fun _ _ _ => rfl) rfl hf (fun a_6 ha_6 hf => ?_)
        refine V_sipush (v := 170) (pc' := 47) dX11_demand_44 rfl (by decide) ?_
        refine V_iload_n (pc' := 48) dX11_demand_47 rfl 1 rfl rfl ?_
        refine V_iadd (pc' := 49) dX11_demand_48 rfl ?_
        refine V_iload_n (pc' := 50) dX11_demand_49 rfl 2 rfl rfl ?_
        refine V_iconst (v := 1) (pc' := 51) dX11_demand_50 rfl (by decide) ?_
        refine V_iadd (pc' := 52) dX11_demand_51 rfl ?_
        refine V_iast (pc' := 53) dX11_demand_52 rfl ha_6 hf (fun h_7 hf => ?_)
        refine V_aload_n (pc' := 54) dX11_demand_53 rfl 0 rfl rfl ?_
        refine V_getR (pc' := 57) 11 1 dX11_demand_54 rfl (by decide) (Nat.le_of_ble_eq_true rfl) bm_1225 hs0 (fun _ _ _ => rfl) rfl hf (fun a_8 ha_8 hf => ?_)
        refine V_sipush (v := 178) (pc' := 60) dX11_demand_57 rfl (by decide) ?_
        refine V_iload_n (pc' := 61) dX11_demand_60 rfl 1 rfl rfl ?_
        refine V_iadd (pc' := 62) dX11_demand_61 rfl ?_
        refine V_iload_n (pc' := 63) dX11_demand_62 rfl 3 rfl rfl ?_
        refine V_iast (pc' := 64) dX11_demand_63 rfl ha_8 hf (fun h_9 hf => ?_)
        refine V_aload_n (pc' := 65) dX11_demand_64 rfl 0 rfl rfl ?_
        refine V_getR (pc' := 68) 11 1 dX11_demand_65 rfl (by decide) (Nat.le_of_ble_eq_true rfl) bm_1225 hs0 (fun _ _ _ => rfl) rfl hf (fun a_10 ha_10 hf => ?_)
        refine V_sipush (v := 186) (pc' := 71) dX11_demand_68 rfl (by decide) ?_
        refine V_iload_n (pc' := 72) dX11_demand_71 rfl 1 rfl rfl ?_
        refine V_iadd (pc' := 73) dX11_demand_72 rfl ?_
        refine V_aload_n (pc' := 74) dX11_demand_73 rfl 0 rfl rfl ?_
        refine V_getI (pc' := 77) 11 6 dX11_demand_74 rfl (by decide) (Nat.le_of_ble_eq_true rfl) bm_1230 hs0 (fun _ _ _ => rfl) ?_
        refine V_iast (pc' := 78) dX11_demand_77 rfl ha_10 hf (fun h_11 hf => ?_)
        refine V_iconst (v := 0) (pc' := 79) dX11_demand_78 rfl (by decide) ?_
        refine V_istore (lv' := [(4, .int 0), (0, .ref a0), (1, .int x1), (2, .int x2), (3, .int x3)]) (pc' := 81) dX11_demand_79 rfl (Nat.le_of_ble_eq_true rfl) rfl ?_
        exact V_sub (lv' := [(0, .ref a0), (1, .int x1), (4, .int 0)]) [1, 2, 0] rfl (v_X11_demand_81 hs0 hf)
theorem ct_X11_demand {l : Launch} {S : List SHP} {h : MH} {a0 : Nat} {x1 : Int32} {x2 : Int32} {x3 : Int32} (hs0 : S[a0]? = some (.inl 11)) {q : Int32 × MH} (hf : f_X11_demand a0 x1 x2 x3 h = some q) : CT l mX11_demand 5 false 0 0 S [.ref a0, .int x1, .int x2, .int x3] h (QI S q) :=
  CT_ofV (by decide) rfl (Nat.le_of_ble_eq_true rfl) (fun G B hT => v_X11_demand hs0 hf)
/-! LabelStacksModel.runsDemand(IZ)V -/
theorem dX11_runsDemand_0 : decode cX11_runsDemand 0 = .ok (.aload_n 0, 1) := by decide +kernel
theorem dX11_runsDemand_1 : decode cX11_runsDemand 1 = .ok (.aload_n 0, 1) := by decide +kernel
theorem dX11_runsDemand_2 : decode cX11_runsDemand 2 = .ok (.getfield 7, 3) := by decide +kernel
theorem dX11_runsDemand_5 : decode cX11_runsDemand 5 = .ok (.sipush 170, 3) := by decide +kernel
theorem dX11_runsDemand_8 : decode cX11_runsDemand 8 = .ok (.iload_n 1, 1) := by decide +kernel
theorem dX11_runsDemand_9 : decode cX11_runsDemand 9 = .ok (.iadd, 1) := by decide +kernel
theorem dX11_runsDemand_10 : decode cX11_runsDemand 10 = .ok (.iaload, 1) := by decide +kernel
theorem dX11_runsDemand_11 : decode cX11_runsDemand 11 = .ok (.iconst 1, 1) := by decide +kernel
theorem dX11_runsDemand_12 : decode cX11_runsDemand 12 = .ok (.isub, 1) := by decide +kernel
theorem dX11_runsDemand_13 : decode cX11_runsDemand 13 = .ok (.aload_n 0, 1) := by decide +kernel
theorem dX11_runsDemand_14 : decode cX11_runsDemand 14 = .ok (.getfield 7, 3) := by decide +kernel
theorem dX11_runsDemand_17 : decode cX11_runsDemand 17 = .ok (.sipush 194, 3) := by decide +kernel
theorem dX11_runsDemand_20 : decode cX11_runsDemand 20 = .ok (.bipush 12, 2) := by decide +kernel
theorem dX11_runsDemand_22 : decode cX11_runsDemand 22 = .ok (.iload_n 1, 1) := by decide +kernel
theorem dX11_runsDemand_23 : decode cX11_runsDemand 23 = .ok (.imul, 1) := by decide +kernel
theorem dX11_runsDemand_24 : decode cX11_runsDemand 24 = .ok (.iadd, 1) := by decide +kernel
theorem dX11_runsDemand_25 : decode cX11_runsDemand 25 = .ok (.aload_n 0, 1) := by decide +kernel
theorem dX11_runsDemand_26 : decode cX11_runsDemand 26 = .ok (.getfield 7, 3) := by decide +kernel
theorem dX11_runsDemand_29 : decode cX11_runsDemand 29 = .ok (.sipush 186, 3) := by decide +kernel
theorem dX11_runsDemand_32 : decode cX11_runsDemand 32 = .ok (.iload_n 1, 1) := by decide +kernel
theorem dX11_runsDemand_33 : decode cX11_runsDemand 33 = .ok (.iadd, 1) := by decide +kernel
theorem dX11_runsDemand_34 : decode cX11_runsDemand 34 = .ok (.iaload, 1) := by decide +kernel
theorem dX11_runsDemand_35 : decode cX11_runsDemand 35 = .ok (.iload_n 2, 1) := by decide +kernel
theorem dX11_runsDemand_36 : decode cX11_runsDemand 36 = .ok (.invokevirtual 266, 3) := by decide +kernel
theorem dX11_runsDemand_39 : decode cX11_runsDemand 39 = .ok (.return_, 1) := by decide +kernel
abbrev mX11_runsDemand : MI := (RX11, yX11_runsDemand, cX11_runsDemand, 3, none)
theorem mok_X11_runsDemand : MOKv mX11_runsDemand 2 := ⟨⟨bm_1670, bm_127, ⟨by decide, by decide⟩, by decide +kernel⟩, bm_1669, bm_89⟩
def f_X11_runsDemand   (a0 : Nat) (x1 : Int32) (x2 : Int32) (h : MH) : Option (MH) :=
  (gR h a0 1).bind fun a_1 =>
  (ldI h a_1 (170 + x1)).bind fun x_2 =>
  (gR h a0 1).bind fun a_3 =>
  (gR h a0 1).bind fun a_4 =>
  (ldI h a_4 (186 + x1)).bind fun x_5 =>
  (f_X11_goes a0 (x_2 - 1) a_3 (194 + (12 * x1)) x_5 x2 h).bind fun q_6 =>
  some q_6
set_option maxRecDepth 100000 in
set_option maxHeartbeats 4000000 in
theorem v_X11_runsDemand {l : Launch} {G : GE} {B N : Nat} {S : List SHP} {o : MH} {a0 : Nat} {x1 : Int32} {x2 : Int32}    (hs0 : S[a0]? = some (.inl 11)) {h : MH} (hf : f_X11_runsDemand a0 x1 x2 h = some o) : V l G B N mX11_runsDemand (rmm 131 0 0) false 0 0 (QV S o) S 0 0 0 [(0, .ref a0), (1, .int x1), (2, .int x2)] [] h := by
  unfold f_X11_runsDemand at hf
  refine V_aload_n (pc' := 1) dX11_runsDemand_0 rfl 0 rfl rfl ?_
  refine V_aload_n (pc' := 2) dX11_runsDemand_1 rfl 0 rfl rfl ?_
  refine V_getR (pc' := 5) 11 1 dX11_runsDemand_2 rfl (by decide) (Nat.le_of_ble_eq_true rfl) bm_1225 hs0 (fun _ _ _ => rfl) rfl hf (fun a_1 ha_1 hf => ?_)
  refine V_sipush (v := 170) (pc' := 8) dX11_runsDemand_5 rfl (by decide) ?_
  refine V_iload_n (pc' := 9) dX11_runsDemand_8 rfl 1 rfl rfl ?_
  refine V_iadd (pc' := 10) dX11_runsDemand_9 rfl ?_
  refine V_iald (pc' := 11) dX11_runsDemand_10 rfl ha_1 hf (fun x_2 hf => ?_)
  refine V_iconst (v := 1) (pc' := 12) dX11_runsDemand_11 rfl (by decide) ?_
  refine V_isub (pc' := 13) dX11_runsDemand_12 rfl ?_
  refine V_aload_n (pc' := 14) dX11_runsDemand_13 rfl 0 rfl rfl ?_
  refine V_getR (pc' := 17) 11 1 dX11_runsDemand_14 rfl (by decide) (Nat.le_of_ble_eq_true rfl) bm_1225 hs0 (fun _ _ _ => rfl) rfl hf (fun a_3 ha_3 hf => ?_)
  refine V_sipush (v := 194) (pc' := 20) dX11_runsDemand_17 rfl (by decide) ?_
  refine V_bipush (v := 12) (pc' := 22) dX11_runsDemand_20 rfl (by decide) ?_
  refine V_iload_n (pc' := 23) dX11_runsDemand_22 rfl 1 rfl rfl ?_
  refine V_imul (pc' := 24) dX11_runsDemand_23 rfl ?_
  refine V_iadd (pc' := 25) dX11_runsDemand_24 rfl ?_
  refine V_aload_n (pc' := 26) dX11_runsDemand_25 rfl 0 rfl rfl ?_
  refine V_getR (pc' := 29) 11 1 dX11_runsDemand_26 rfl (by decide) (Nat.le_of_ble_eq_true rfl) bm_1225 hs0 (fun _ _ _ => rfl) rfl hf (fun a_4 ha_4 hf => ?_)
  refine V_sipush (v := 186) (pc' := 32) dX11_runsDemand_29 rfl (by decide) ?_
  refine V_iload_n (pc' := 33) dX11_runsDemand_32 rfl 1 rfl rfl ?_
  refine V_iadd (pc' := 34) dX11_runsDemand_33 rfl ?_
  refine V_iald (pc' := 35) dX11_runsDemand_34 rfl ha_4 hf (fun x_5 hf => ?_)
  refine V_iload_n (pc' := 36) dX11_runsDemand_35 rfl 2 rfl rfl ?_
  refine V_cvV (pc' := 39) (As := [.int (x_2 - 1), .ref a_3, .int (194 + (12 * x1)), .int x_5, .int x2]) (rest := []) dX11_runsDemand_36 rfl mok_X11_goes bm_1524 11 (by decide) rfl hs0 rfl rfl (Nat.le_of_ble_eq_true rfl) (by decide) hf (fun q e => ct_X11_goes hs0 ha_3 e) (fun q_6 hf => ?_)
  obtain rfl := Option.some.inj hf
  exact V_vret dX11_runsDemand_39 rfl rfl rfl ⟨rfl, rfl, rfl⟩
theorem ct_X11_runsDemand {l : Launch} {S : List SHP} {h : MH} {a0 : Nat} {x1 : Int32} {x2 : Int32} (hs0 : S[a0]? = some (.inl 11)) {q : MH} (hf : f_X11_runsDemand a0 x1 x2 h = some q) : CT l mX11_runsDemand 131 false 0 0 S [.ref a0, .int x1, .int x2] h (QV S q) :=
  CT_ofV (by decide) rfl (Nat.le_of_ble_eq_true rfl) (fun G B hT => v_X11_runsDemand hs0 hf)
/-! LabelStacksModel.laysLoads()V -/
theorem dX11_laysLoads_0 : decode cX11_laysLoads 0 = .ok (.iconst 0, 1) := by decide +kernel
theorem dX11_laysLoads_1 : decode cX11_laysLoads 1 = .ok (.istore_n 1, 1) := by decide +kernel
theorem dX11_laysLoads_2 : decode cX11_laysLoads 2 = .ok (.iload_n 1, 1) := by decide +kernel
theorem dX11_laysLoads_3 : decode cX11_laysLoads 3 = .ok (.bipush 30, 2) := by decide +kernel
theorem dX11_laysLoads_5 : decode cX11_laysLoads 5 = .ok (.if_icmp .ge 23, 3) := by decide +kernel
theorem dX11_laysLoads_8 : decode cX11_laysLoads 8 = .ok (.aload_n 0, 1) := by decide +kernel
theorem dX11_laysLoads_9 : decode cX11_laysLoads 9 = .ok (.getfield 63, 3) := by decide +kernel
theorem dX11_laysLoads_12 : decode cX11_laysLoads 12 = .ok (.iload_n 1, 1) := by decide +kernel
theorem dX11_laysLoads_13 : decode cX11_laysLoads 13 = .ok (.lconst 0, 1) := by decide +kernel
theorem dX11_laysLoads_14 : decode cX11_laysLoads 14 = .ok (.lastore, 1) := by decide +kernel
theorem dX11_laysLoads_15 : decode cX11_laysLoads 15 = .ok (.aload_n 0, 1) := by decide +kernel
theorem dX11_laysLoads_16 : decode cX11_laysLoads 16 = .ok (.getfield 66, 3) := by decide +kernel
theorem dX11_laysLoads_19 : decode cX11_laysLoads 19 = .ok (.iload_n 1, 1) := by decide +kernel
theorem dX11_laysLoads_20 : decode cX11_laysLoads 20 = .ok (.lconst 1, 1) := by decide +kernel
theorem dX11_laysLoads_21 : decode cX11_laysLoads 21 = .ok (.lastore, 1) := by decide +kernel
theorem dX11_laysLoads_22 : decode cX11_laysLoads 22 = .ok (.iinc 1 1, 3) := by decide +kernel
theorem dX11_laysLoads_25 : decode cX11_laysLoads 25 = .ok (.goto (-23), 3) := by decide +kernel
theorem dX11_laysLoads_28 : decode cX11_laysLoads 28 = .ok (.iconst 0, 1) := by decide +kernel
theorem dX11_laysLoads_29 : decode cX11_laysLoads 29 = .ok (.istore_n 1, 1) := by decide +kernel
theorem dX11_laysLoads_30 : decode cX11_laysLoads 30 = .ok (.iload_n 1, 1) := by decide +kernel
theorem dX11_laysLoads_31 : decode cX11_laysLoads 31 = .ok (.bipush 8, 2) := by decide +kernel
theorem dX11_laysLoads_33 : decode cX11_laysLoads 33 = .ok (.if_icmp .ge 114, 3) := by decide +kernel
theorem dX11_laysLoads_36 : decode cX11_laysLoads 36 = .ok (.aload_n 0, 1) := by decide +kernel
theorem dX11_laysLoads_37 : decode cX11_laysLoads 37 = .ok (.getfield 7, 3) := by decide +kernel
theorem dX11_laysLoads_40 : decode cX11_laysLoads 40 = .ok (.sipush 170, 3) := by decide +kernel
theorem dX11_laysLoads_43 : decode cX11_laysLoads 43 = .ok (.iload_n 1, 1) := by decide +kernel
theorem dX11_laysLoads_44 : decode cX11_laysLoads 44 = .ok (.iadd, 1) := by decide +kernel
theorem dX11_laysLoads_45 : decode cX11_laysLoads 45 = .ok (.iaload, 1) := by decide +kernel
theorem dX11_laysLoads_46 : decode cX11_laysLoads 46 = .ok (.ifCond .ne 6, 3) := by decide +kernel
theorem dX11_laysLoads_49 : decode cX11_laysLoads 49 = .ok (.goto 92, 3) := by decide +kernel
theorem dX11_laysLoads_52 : decode cX11_laysLoads 52 = .ok (.aload_n 0, 1) := by decide +kernel
theorem dX11_laysLoads_53 : decode cX11_laysLoads 53 = .ok (.iload_n 1, 1) := by decide +kernel
theorem dX11_laysLoads_54 : decode cX11_laysLoads 54 = .ok (.iconst 1, 1) := by decide +kernel
theorem dX11_laysLoads_55 : decode cX11_laysLoads 55 = .ok (.invokevirtual 316, 3) := by decide +kernel
theorem dX11_laysLoads_58 : decode cX11_laysLoads 58 = .ok (.iconst 0, 1) := by decide +kernel
theorem dX11_laysLoads_59 : decode cX11_laysLoads 59 = .ok (.istore_n 2, 1) := by decide +kernel
theorem dX11_laysLoads_60 : decode cX11_laysLoads 60 = .ok (.iload_n 2, 1) := by decide +kernel
theorem dX11_laysLoads_61 : decode cX11_laysLoads 61 = .ok (.aload_n 0, 1) := by decide +kernel
theorem dX11_laysLoads_62 : decode cX11_laysLoads 62 = .ok (.invokevirtual 95, 3) := by decide +kernel
theorem dX11_laysLoads_65 : decode cX11_laysLoads 65 = .ok (.if_icmp .ge 76, 3) := by decide +kernel
theorem dX11_laysLoads_68 : decode cX11_laysLoads 68 = .ok (.aload_n 0, 1) := by decide +kernel
theorem dX11_laysLoads_69 : decode cX11_laysLoads 69 = .ok (.getfield 214, 3) := by decide +kernel
theorem dX11_laysLoads_72 : decode cX11_laysLoads 72 = .ok (.ifCond .ne 69, 3) := by decide +kernel
theorem dX11_laysLoads_75 : decode cX11_laysLoads 75 = .ok (.aload_n 0, 1) := by decide +kernel
theorem dX11_laysLoads_76 : decode cX11_laysLoads 76 = .ok (.aload_n 0, 1) := by decide +kernel
theorem dX11_laysLoads_77 : decode cX11_laysLoads 77 = .ok (.getfield 63, 3) := by decide +kernel
theorem dX11_laysLoads_80 : decode cX11_laysLoads 80 = .ok (.iload_n 2, 1) := by decide +kernel
theorem dX11_laysLoads_81 : decode cX11_laysLoads 81 = .ok (.laload, 1) := by decide +kernel
theorem dX11_laysLoads_82 : decode cX11_laysLoads 82 = .ok (.aload_n 0, 1) := by decide +kernel
theorem dX11_laysLoads_83 : decode cX11_laysLoads 83 = .ok (.getfield 66, 3) := by decide +kernel
theorem dX11_laysLoads_86 : decode cX11_laysLoads 86 = .ok (.iload_n 2, 1) := by decide +kernel
theorem dX11_laysLoads_87 : decode cX11_laysLoads 87 = .ok (.laload, 1) := by decide +kernel
theorem dX11_laysLoads_88 : decode cX11_laysLoads 88 = .ok (.aload_n 0, 1) := by decide +kernel
theorem dX11_laysLoads_89 : decode cX11_laysLoads 89 = .ok (.getfield 7, 3) := by decide +kernel
theorem dX11_laysLoads_92 : decode cX11_laysLoads 92 = .ok (.sipush 178, 3) := by decide +kernel
theorem dX11_laysLoads_95 : decode cX11_laysLoads 95 = .ok (.iload_n 1, 1) := by decide +kernel
theorem dX11_laysLoads_96 : decode cX11_laysLoads 96 = .ok (.iadd, 1) := by decide +kernel
theorem dX11_laysLoads_97 : decode cX11_laysLoads 97 = .ok (.iaload, 1) := by decide +kernel
theorem dX11_laysLoads_98 : decode cX11_laysLoads 98 = .ok (.i2l, 1) := by decide +kernel
theorem dX11_laysLoads_99 : decode cX11_laysLoads 99 = .ok (.aload_n 0, 1) := by decide +kernel
theorem dX11_laysLoads_100 : decode cX11_laysLoads 100 = .ok (.getfield 36, 3) := by decide +kernel
theorem dX11_laysLoads_103 : decode cX11_laysLoads 103 = .ok (.iload_n 2, 1) := by decide +kernel
theorem dX11_laysLoads_104 : decode cX11_laysLoads 104 = .ok (.laload, 1) := by decide +kernel
theorem dX11_laysLoads_105 : decode cX11_laysLoads 105 = .ok (.lmul, 1) := by decide +kernel
theorem dX11_laysLoads_106 : decode cX11_laysLoads 106 = .ok (.aload_n 0, 1) := by decide +kernel
theorem dX11_laysLoads_107 : decode cX11_laysLoads 107 = .ok (.getfield 39, 3) := by decide +kernel
theorem dX11_laysLoads_110 : decode cX11_laysLoads 110 = .ok (.iload_n 2, 1) := by decide +kernel
theorem dX11_laysLoads_111 : decode cX11_laysLoads 111 = .ok (.laload, 1) := by decide +kernel
theorem dX11_laysLoads_112 : decode cX11_laysLoads 112 = .ok (.invokevirtual 226, 3) := by decide +kernel
theorem dX11_laysLoads_115 : decode cX11_laysLoads 115 = .ok (.aload_n 0, 1) := by decide +kernel
theorem dX11_laysLoads_116 : decode cX11_laysLoads 116 = .ok (.getfield 63, 3) := by decide +kernel
theorem dX11_laysLoads_119 : decode cX11_laysLoads 119 = .ok (.iload_n 2, 1) := by decide +kernel
theorem dX11_laysLoads_120 : decode cX11_laysLoads 120 = .ok (.aload_n 0, 1) := by decide +kernel
theorem dX11_laysLoads_121 : decode cX11_laysLoads 121 = .ok (.getfield 198, 3) := by decide +kernel
theorem dX11_laysLoads_124 : decode cX11_laysLoads 124 = .ok (.lastore, 1) := by decide +kernel
theorem dX11_laysLoads_125 : decode cX11_laysLoads 125 = .ok (.aload_n 0, 1) := by decide +kernel
theorem dX11_laysLoads_126 : decode cX11_laysLoads 126 = .ok (.getfield 66, 3) := by decide +kernel
theorem dX11_laysLoads_129 : decode cX11_laysLoads 129 = .ok (.iload_n 2, 1) := by decide +kernel
theorem dX11_laysLoads_130 : decode cX11_laysLoads 130 = .ok (.aload_n 0, 1) := by decide +kernel
theorem dX11_laysLoads_131 : decode cX11_laysLoads 131 = .ok (.getfield 202, 3) := by decide +kernel
theorem dX11_laysLoads_134 : decode cX11_laysLoads 134 = .ok (.lastore, 1) := by decide +kernel
theorem dX11_laysLoads_135 : decode cX11_laysLoads 135 = .ok (.iinc 2 1, 3) := by decide +kernel
theorem dX11_laysLoads_138 : decode cX11_laysLoads 138 = .ok (.goto (-78), 3) := by decide +kernel
theorem dX11_laysLoads_141 : decode cX11_laysLoads 141 = .ok (.iinc 1 1, 3) := by decide +kernel
theorem dX11_laysLoads_144 : decode cX11_laysLoads 144 = .ok (.goto (-114), 3) := by decide +kernel
theorem dX11_laysLoads_147 : decode cX11_laysLoads 147 = .ok (.return_, 1) := by decide +kernel
abbrev mX11_laysLoads : MI := (RX11, yX11_laysLoads, cX11_laysLoads, 3, none)
theorem mok_X11_laysLoads : MOKv mX11_laysLoads 0 := ⟨⟨bm_1666, bm_127, ⟨by decide, by decide⟩, by decide +kernel⟩, bm_1665, bm_88⟩
def f_X11_laysLoads_141  (k30 : Int32 → MH → Option (MH)) (a0 : Nat) (x1 : Int32) (h : MH) : Option (MH) :=
  k30 (x1 + 1) h
def f_X11_laysLoads_60b  (k30 : Int32 → MH → Option (MH)) (a0 : Nat) (x1 : Int32) (k60 : Int32 → MH → Option (MH)) (p : Int32) (h : MH) : Option (MH) :=
  (f_X11_links a0 h).bind fun q_1 =>
  if p < q_1.1 then
    if (gI q_1.2 a0 16) = 0 then
      (gR q_1.2 a0 32).bind fun a_2 =>
      (ldL q_1.2 a_2 p).bind fun l_3 =>
      (gR q_1.2 a0 33).bind fun a_4 =>
      (ldL q_1.2 a_4 p).bind fun l_5 =>
      (gR q_1.2 a0 1).bind fun a_6 =>
      (ldI q_1.2 a_6 (178 + x1)).bind fun x_7 =>
      (gR q_1.2 a0 22).bind fun a_8 =>
      (ldL q_1.2 a_8 p).bind fun l_9 =>
      (gR q_1.2 a0 23).bind fun a_10 =>
      (ldL q_1.2 a_10 p).bind fun l_11 =>
      (f_X11_adds a0 l_3 l_5 ((Int32.toInt64 x_7) * l_9) l_11 q_1.2).bind fun q_12 =>
      (gR q_12 a0 32).bind fun a_13 =>
      (stL q_12 a_13 p (gL q_12 a0 10)).bind fun h_14 =>
      (gR h_14 a0 33).bind fun a_15 =>
      (stL h_14 a_15 p (gL h_14 a0 11)).bind fun h_16 =>
      k60 (p + 1) h_16
    else
      f_X11_laysLoads_141 k30 a0 x1 q_1.2
  else
    f_X11_laysLoads_141 k30 a0 x1 q_1.2
def f_X11_laysLoads_60  (k30 : Int32 → MH → Option (MH)) (a0 : Nat) (x1 : Int32) : Nat → Int32 → MH → Option (MH) := lp (f_X11_laysLoads_60b k30 a0 x1)
def f_X11_laysLoads_30b   (a0 : Nat) (k30 : Int32 → MH → Option (MH)) (p : Int32) (h : MH) : Option (MH) :=
  if p < 8 then
    (gR h a0 1).bind fun a_1 =>
    (ldI h a_1 (170 + p)).bind fun x_2 =>
    if x_2 = 0 then
      f_X11_laysLoads_141 k30 a0 p h
    else
      (f_X11_runsDemand a0 p 1 h).bind fun q_3 =>
      f_X11_laysLoads_60 k30 a0 p FU 0 q_3
  else
    some h
def f_X11_laysLoads_30   (a0 : Nat) : Nat → Int32 → MH → Option (MH) := lp (f_X11_laysLoads_30b a0)
def f_X11_laysLoads_2b   (a0 : Nat) (k2 : Int32 → MH → Option (MH)) (p : Int32) (h : MH) : Option (MH) :=
  if p < 30 then
    (gR h a0 32).bind fun a_1 =>
    (stL h a_1 p 0).bind fun h_2 =>
    (gR h_2 a0 33).bind fun a_3 =>
    (stL h_2 a_3 p 1).bind fun h_4 =>
    k2 (p + 1) h_4
  else
    f_X11_laysLoads_30 a0 FU 0 h
def f_X11_laysLoads_2   (a0 : Nat) : Nat → Int32 → MH → Option (MH) := lp (f_X11_laysLoads_2b a0)
def f_X11_laysLoads   (a0 : Nat) (h : MH) : Option (MH) :=
  f_X11_laysLoads_2 a0 FU 0 h
set_option maxRecDepth 100000 in
set_option maxHeartbeats 4000000 in
theorem v_X11_laysLoads_141 {l : Launch} {G : GE} {B N : Nat} {S : List SHP} {o : MH} {a0 : Nat} {x1 : Int32}  {k30 : Int32 → MH → Option (MH)} (hk30 : ∀ (p : Int32) (h : MH), k30 p h = some o → V l G B N mX11_laysLoads (rmm 132 0 0) false 0 0 (QV S o) S 0 0 30 [(0, .ref a0), (1, .int p)] [] h) (hs0 : S[a0]? = some (.inl 11)) {h : MH} (hf : f_X11_laysLoads_141 k30 a0 x1 h = some o) : V l G B N mX11_laysLoads (rmm 132 0 0) false 0 0 (QV S o) S 0 0 141 [(0, .ref a0), (1, .int x1)] [] h := by
  unfold f_X11_laysLoads_141 at hf
  refine V_iinc (v := (x1 + 1)) (lv' := [(1, .int (x1 + 1)), (0, .ref a0)]) (pc' := 144) dX11_laysLoads_141 rfl 1 rfl rfl (Nat.le_of_ble_eq_true rfl) rfl ?_
  refine V_goto (tgt := 30) dX11_laysLoads_144 (by decide) ?_
  exact V_sub (lv' := [(0, .ref a0), (1, .int (x1 + 1))]) [1, 0] rfl (hk30 (x1 + 1) h hf)
set_option maxRecDepth 100000 in
set_option maxHeartbeats 4000000 in
theorem v_X11_laysLoads_60b {l : Launch} {G : GE} {B N : Nat} {S : List SHP} {o : MH} {a0 : Nat} {x1 : Int32}  {k30 : Int32 → MH → Option (MH)} (hk30 : ∀ (p : Int32) (h : MH), k30 p h = some o → V l G B N mX11_laysLoads (rmm 132 0 0) false 0 0 (QV S o) S 0 0 30 [(0, .ref a0), (1, .int p)] [] h) (hs0 : S[a0]? = some (.inl 11)) {k60 : Int32 → MH → Option (MH)} (hk60 : ∀ (p : Int32) (h : MH), k60 p h = some o → V l G B N mX11_laysLoads (rmm 132 0 0) false 0 0 (QV S o) S 0 0 60 [(0, .ref a0), (1, .int x1), (2, .int p)] [] h) {p : Int32} {h : MH} (hf : f_X11_laysLoads_60b k30 a0 x1 k60 p h = some o) : V l G B N mX11_laysLoads (rmm 132 0 0) false 0 0 (QV S o) S 0 0 60 [(0, .ref a0), (1, .int x1), (2, .int p)] [] h := by
  unfold f_X11_laysLoads_60b at hf
  refine V_iload_n (pc' := 61) dX11_laysLoads_60 rfl 2 rfl rfl ?_
  refine V_aload_n (pc' := 62) dX11_laysLoads_61 rfl 0 rfl rfl ?_
  refine V_cvI (pc' := 65) (As := []) (rest := [.int p]) dX11_laysLoads_62 rfl mok_X11_links bm_1398 11 (by decide) rfl hs0 rfl rfl (Nat.le_of_ble_eq_true rfl) (by decide) hf (fun q e => ct_X11_links hs0 e) (fun q_1 hf => ?_)
  refine V_icmp_ge (tgt := 141) (pc' := 68) dX11_laysLoads_65 (by decide) rfl hf (fun hf => ?_) (fun hf => ?_)
  ·
    refine V_aload_n (pc' := 69) dX11_laysLoads_68 rfl 0 rfl rfl ?_
    refine V_getI (pc' := 72) 11 16 dX11_laysLoads_69 rfl (by decide) (Nat.le_of_ble_eq_true rfl) bm_1240 hs0 (fun _ _ _ => rfl) ?_
    refine V_if_ne (tgt := 141) (pc' := 75) dX11_laysLoads_72 (by decide) rfl hf (fun hf => ?_) (fun hf => ?_)
    ·
      refine V_aload_n (pc' := 76) dX11_laysLoads_75 rfl 0 rfl rfl ?_
      refine V_aload_n (pc' := 77) dX11_laysLoads_76 rfl 0 rfl rfl ?_
      refine V_getR (pc' := 80) 11 32 dX11_laysLoads_77 rfl (by decide) (Nat.le_of_ble_eq_true rfl) bm_1256 hs0 (fun _ _ _ => rfl) rfl hf (fun a_2 ha_2 hf => ?_)
      refine V_iload_n (pc' := 81) dX11_laysLoads_80 rfl 2 rfl rfl ?_
      refine V_lald (pc' := 82) dX11_laysLoads_81 rfl ha_2 hf (fun l_3 hf => ?_)
      refine V_aload_n (pc' := 83) dX11_laysLoads_82 rfl 0 rfl rfl ?_
      refine V_getR (pc' := 86) 11 33 dX11_laysLoads_83 rfl (by decide) (Nat.le_of_ble_eq_true rfl) bm_1257 hs0 (fun _ _ _ => rfl) rfl hf (fun a_4 ha_4 hf => ?_)
      refine V_iload_n (pc' := 87) dX11_laysLoads_86 rfl 2 rfl rfl ?_
      refine V_lald (pc' := 88) dX11_laysLoads_87 rfl ha_4 hf (fun l_5 hf => ?_)
      refine V_aload_n (pc' := 89) dX11_laysLoads_88 rfl 0 rfl rfl ?_
      refine V_getR (pc' := 92) 11 1 dX11_laysLoads_89 rfl (by decide) (Nat.le_of_ble_eq_true rfl) bm_1225 hs0 (fun _ _ _ => rfl) rfl hf (fun a_6 ha_6 hf => ?_)
      refine V_sipush (v := 178) (pc' := 95) dX11_laysLoads_92 rfl (by decide) ?_
      refine V_iload_n (pc' := 96) dX11_laysLoads_95 rfl 1 rfl rfl ?_
      refine V_iadd (pc' := 97) dX11_laysLoads_96 rfl ?_
      refine V_iald (pc' := 98) dX11_laysLoads_97 rfl ha_6 hf (fun x_7 hf => ?_)
      refine V_i2l (pc' := 99) dX11_laysLoads_98 rfl ?_
      refine V_aload_n (pc' := 100) dX11_laysLoads_99 rfl 0 rfl rfl ?_
      refine V_getR (pc' := 103) 11 22 dX11_laysLoads_100 rfl (by decide) (Nat.le_of_ble_eq_true rfl) bm_1246 hs0 (fun _ _ _ => rfl) rfl hf (fun a_8 ha_8 hf => ?_)
      refine V_iload_n (pc' := 104) dX11_laysLoads_103 rfl 2 rfl rfl ?_
      refine V_lald (pc' := 105) dX11_laysLoads_104 rfl ha_8 hf (fun l_9 hf => ?_)
      refine V_lmul (pc' := 106) dX11_laysLoads_105 rfl ?_
      refine V_aload_n (pc' := 107) dX11_laysLoads_106 rfl 0 rfl rfl ?_
      refine V_getR (pc' := 110) 11 23 dX11_laysLoads_107 rfl (by decide) (Nat.le_of_ble_eq_true rfl) bm_1247 hs0 (fun _ _ _ => rfl) rfl hf (fun a_10 ha_10 hf => ?_)
      refine V_iload_n (pc' := 111) dX11_laysLoads_110 rfl 2 rfl rfl ?_
      refine V_lald (pc' := 112) dX11_laysLoads_111 rfl ha_10 hf (fun l_11 hf => ?_)
      refine V_cvV (pc' := 115) (As := [.long l_3, .long l_5, .long ((Int32.toInt64 x_7) * l_9), .long l_11]) (rest := []) dX11_laysLoads_112 rfl mok_X11_adds bm_1552 11 (by decide) rfl hs0 rfl rfl (Nat.le_of_ble_eq_true rfl) (by decide) hf (fun q e => ct_X11_adds hs0 e) (fun q_12 hf => ?_)
      refine V_aload_n (pc' := 116) dX11_laysLoads_115 rfl 0 rfl rfl ?_
      refine V_getR (pc' := 119) 11 32 dX11_laysLoads_116 rfl (by decide) (Nat.le_of_ble_eq_true rfl) bm_1256 hs0 (fun _ _ _ => rfl) rfl hf (fun a_13 ha_13 hf => ?_)
      refine V_iload_n (pc' := 120) dX11_laysLoads_119 rfl 2 rfl rfl ?_
      refine V_aload_n (pc' := 121) dX11_laysLoads_120 rfl 0 rfl rfl ?_
      refine V_getL (pc' := 124) 11 10 dX11_laysLoads_121 rfl (by decide) (Nat.le_of_ble_eq_true rfl) bm_1234 hs0 (fun _ _ _ => rfl) ?_
      refine V_last (pc' := 125) dX11_laysLoads_124 rfl ha_13 hf (fun h_14 hf => ?_)
      refine V_aload_n (pc' := 126) dX11_laysLoads_125 rfl 0 rfl rfl ?_
      refine V_getR (pc' := 129) 11 33 dX11_laysLoads_126 rfl (by decide) (Nat.le_of_ble_eq_true rfl) bm_1257 hs0 (fun _ _ _ => rfl) rfl hf (fun a_15 ha_15 hf => ?_)
      refine V_iload_n (pc' := 130) dX11_laysLoads_129 rfl 2 rfl rfl ?_
      refine V_aload_n (pc' := 131) dX11_laysLoads_130 rfl 0 rfl rfl ?_
      refine V_getL (pc' := 134) 11 11 dX11_laysLoads_131 rfl (by decide) (Nat.le_of_ble_eq_true rfl) bm_1235 hs0 (fun _ _ _ => rfl) ?_
      refine V_last (pc' := 135) dX11_laysLoads_134 rfl ha_15 hf (fun h_16 hf => ?_)
      refine V_iinc (v := (p + 1)) (lv' := [(2, .int (p + 1)), (0, .ref a0), (1, .int x1)]) (pc' := 138) dX11_laysLoads_135 rfl 2 rfl rfl (Nat.le_of_ble_eq_true rfl) rfl ?_
      refine V_goto (tgt := 60) dX11_laysLoads_138 (by decide) ?_
      exact V_sub (lv' := [(0, .ref a0), (1, .int x1), (2, .int (p + 1))]) [1, 2, 0] rfl (hk60 (p + 1) h_16 hf)
    ·
      exact V_sub (lv' := [(0, .ref a0), (1, .int x1)]) [0, 1] rfl (v_X11_laysLoads_141 hk30 hs0 hf)
  ·
    exact V_sub (lv' := [(0, .ref a0), (1, .int x1)]) [0, 1] rfl (v_X11_laysLoads_141 hk30 hs0 hf)
theorem v_X11_laysLoads_60 {l : Launch} {G : GE} {B N : Nat} {S : List SHP} {o : MH} {a0 : Nat} {x1 : Int32}  {k30 : Int32 → MH → Option (MH)} (hk30 : ∀ (p : Int32) (h : MH), k30 p h = some o → V l G B N mX11_laysLoads (rmm 132 0 0) false 0 0 (QV S o) S 0 0 30 [(0, .ref a0), (1, .int p)] [] h) (hs0 : S[a0]? = some (.inl 11)) {n : Nat} {p : Int32} {h : MH} (hf : f_X11_laysLoads_60 k30 a0 x1 n p h = some o) : V l G B N mX11_laysLoads (rmm 132 0 0) false 0 0 (QV S o) S 0 0 60 [(0, .ref a0), (1, .int x1), (2, .int p)] [] h :=
  V_lp (VV := fun p h => V l G B N mX11_laysLoads (rmm 132 0 0) false 0 0 (QV S o) S 0 0 60 [(0, .ref a0), (1, .int x1), (2, .int p)] [] h) (fun _ hk _ _ hf => v_X11_laysLoads_60b hk30 hs0 hk hf) n p h hf
set_option maxRecDepth 100000 in
set_option maxHeartbeats 4000000 in
theorem v_X11_laysLoads_30b {l : Launch} {G : GE} {B N : Nat} {S : List SHP} {o : MH} {a0 : Nat}    (hs0 : S[a0]? = some (.inl 11)) {k30 : Int32 → MH → Option (MH)} (hk30 : ∀ (p : Int32) (h : MH), k30 p h = some o → V l G B N mX11_laysLoads (rmm 132 0 0) false 0 0 (QV S o) S 0 0 30 [(0, .ref a0), (1, .int p)] [] h) {p : Int32} {h : MH} (hf : f_X11_laysLoads_30b a0 k30 p h = some o) : V l G B N mX11_laysLoads (rmm 132 0 0) false 0 0 (QV S o) S 0 0 30 [(0, .ref a0), (1, .int p)] [] h := by
  unfold f_X11_laysLoads_30b at hf
  refine V_iload_n (pc' := 31) dX11_laysLoads_30 rfl 1 rfl rfl ?_
  refine V_bipush (v := 8) (pc' := 33) dX11_laysLoads_31 rfl (by decide) ?_
  refine V_icmp_ge (tgt := 147) (pc' := 36) dX11_laysLoads_33 (by decide) rfl hf (fun hf => ?_) (fun hf => ?_)
  ·
    refine V_aload_n (pc' := 37) dX11_laysLoads_36 rfl 0 rfl rfl ?_
    refine V_getR (pc' := 40) 11 1 dX11_laysLoads_37 rfl (by decide) (Nat.le_of_ble_eq_true rfl) bm_1225 hs0 (fun _ _ _ => rfl) rfl hf (fun a_1 ha_1 hf => ?_)
    refine V_sipush (v := 170) (pc' := 43) dX11_laysLoads_40 rfl (by decide) ?_
    refine V_iload_n (pc' := 44) dX11_laysLoads_43 rfl 1 rfl rfl ?_
    refine V_iadd (pc' := 45) dX11_laysLoads_44 rfl ?_
    refine V_iald (pc' := 46) dX11_laysLoads_45 rfl ha_1 hf (fun x_2 hf => ?_)
    refine V_if_ne (tgt := 52) (pc' := 49) dX11_laysLoads_46 (by decide) rfl hf (fun hf => ?_) (fun hf => ?_)
    ·
      refine V_goto (tgt := 141) dX11_laysLoads_49 (by decide) ?_
      exact V_sub (lv' := [(0, .ref a0), (1, .int p)]) [0, 1] rfl (v_X11_laysLoads_141 hk30 hs0 hf)
    ·
      refine V_aload_n (pc' := 53) dX11_laysLoads_52 rfl 0 rfl rfl ?_
      refine V_iload_n (pc' := 54) dX11_laysLoads_53 rfl 1 rfl rfl ?_
      refine V_iconst (v := 1) (pc' := 55) dX11_laysLoads_54 rfl (by decide) ?_
      refine V_cvV (pc' := 58) (As := [.int p, .int 1]) (rest := []) dX11_laysLoads_55 rfl mok_X11_runsDemand bm_1667 11 (by decide) rfl hs0 rfl rfl (Nat.le_of_ble_eq_true rfl) (by decide) hf (fun q e => ct_X11_runsDemand hs0 e) (fun q_3 hf => ?_)
      refine V_iconst (v := 0) (pc' := 59) dX11_laysLoads_58 rfl (by decide) ?_
      refine V_istore_n (lv' := [(2, .int 0), (0, .ref a0), (1, .int p)]) (pc' := 60) dX11_laysLoads_59 rfl rfl (Nat.le_of_ble_eq_true rfl) rfl ?_
      exact V_sub (lv' := [(0, .ref a0), (1, .int p), (2, .int 0)]) [1, 2, 0] rfl (v_X11_laysLoads_60 hk30 hs0 hf)
  ·
    obtain rfl := Option.some.inj hf
    exact V_vret dX11_laysLoads_147 rfl rfl rfl ⟨rfl, rfl, rfl⟩
theorem v_X11_laysLoads_30 {l : Launch} {G : GE} {B N : Nat} {S : List SHP} {o : MH} {a0 : Nat}    (hs0 : S[a0]? = some (.inl 11)) {n : Nat} {p : Int32} {h : MH} (hf : f_X11_laysLoads_30 a0 n p h = some o) : V l G B N mX11_laysLoads (rmm 132 0 0) false 0 0 (QV S o) S 0 0 30 [(0, .ref a0), (1, .int p)] [] h :=
  V_lp (VV := fun p h => V l G B N mX11_laysLoads (rmm 132 0 0) false 0 0 (QV S o) S 0 0 30 [(0, .ref a0), (1, .int p)] [] h) (fun _ hk _ _ hf => v_X11_laysLoads_30b hs0 hk hf) n p h hf
set_option maxRecDepth 100000 in
set_option maxHeartbeats 4000000 in
theorem v_X11_laysLoads_2b {l : Launch} {G : GE} {B N : Nat} {S : List SHP} {o : MH} {a0 : Nat}    (hs0 : S[a0]? = some (.inl 11)) {k2 : Int32 → MH → Option (MH)} (hk2 : ∀ (p : Int32) (h : MH), k2 p h = some o → V l G B N mX11_laysLoads (rmm 132 0 0) false 0 0 (QV S o) S 0 0 2 [(0, .ref a0), (1, .int p)] [] h) {p : Int32} {h : MH} (hf : f_X11_laysLoads_2b a0 k2 p h = some o) : V l G B N mX11_laysLoads (rmm 132 0 0) false 0 0 (QV S o) S 0 0 2 [(0, .ref a0), (1, .int p)] [] h := by
  unfold f_X11_laysLoads_2b at hf
  refine V_iload_n (pc' := 3) dX11_laysLoads_2 rfl 1 rfl rfl ?_
  refine V_bipush (v := 30) (pc' := 5) dX11_laysLoads_3 rfl (by decide) ?_
  refine V_icmp_ge (tgt := 28) (pc' := 8) dX11_laysLoads_5 (by decide) rfl hf (fun hf => ?_) (fun hf => ?_)
  ·
    refine V_aload_n (pc' := 9) dX11_laysLoads_8 rfl 0 rfl rfl ?_
    refine V_getR (pc' := 12) 11 32 dX11_laysLoads_9 rfl (by decide) (Nat.le_of_ble_eq_true rfl) bm_1256 hs0 (fun _ _ _ => rfl) rfl hf (fun a_1 ha_1 hf => ?_)
    refine V_iload_n (pc' := 13) dX11_laysLoads_12 rfl 1 rfl rfl ?_
    refine V_lconst (v := 0) (pc' := 14) dX11_laysLoads_13 rfl (by decide) ?_
    refine V_last (pc' := 15) dX11_laysLoads_14 rfl ha_1 hf (fun h_2 hf => ?_)
    refine V_aload_n (pc' := 16) dX11_laysLoads_15 rfl 0 rfl rfl ?_
    refine V_getR (pc' := 19) 11 33 dX11_laysLoads_16 rfl (by decide) (Nat.le_of_ble_eq_true rfl) bm_1257 hs0 (fun _ _ _ => rfl) rfl hf (fun a_3 ha_3 hf => ?_)
    refine V_iload_n (pc' := 20) dX11_laysLoads_19 rfl 1 rfl rfl ?_
    refine V_lconst (v := 1) (pc' := 21) dX11_laysLoads_20 rfl (by decide) ?_
    refine V_last (pc' := 22) dX11_laysLoads_21 rfl ha_3 hf (fun h_4 hf => ?_)
    refine V_iinc (v := (p + 1)) (lv' := [(1, .int (p + 1)), (0, .ref a0)]) (pc' := 25) dX11_laysLoads_22 rfl 1 rfl rfl (Nat.le_of_ble_eq_true rfl) rfl ?_
    refine V_goto (tgt := 2) dX11_laysLoads_25 (by decide) ?_
    exact V_sub (lv' := [(0, .ref a0), (1, .int (p + 1))]) [1, 0] rfl (hk2 (p + 1) h_4 hf)
  ·
    refine V_iconst (v := 0) (pc' := 29) dX11_laysLoads_28 rfl (by decide) ?_
    refine V_istore_n (lv' := [(1, .int 0), (0, .ref a0)]) (pc' := 30) dX11_laysLoads_29 rfl rfl (Nat.le_of_ble_eq_true rfl) rfl ?_
    exact V_sub (lv' := [(0, .ref a0), (1, .int 0)]) [1, 0] rfl (v_X11_laysLoads_30 hs0 hf)
theorem v_X11_laysLoads_2 {l : Launch} {G : GE} {B N : Nat} {S : List SHP} {o : MH} {a0 : Nat}    (hs0 : S[a0]? = some (.inl 11)) {n : Nat} {p : Int32} {h : MH} (hf : f_X11_laysLoads_2 a0 n p h = some o) : V l G B N mX11_laysLoads (rmm 132 0 0) false 0 0 (QV S o) S 0 0 2 [(0, .ref a0), (1, .int p)] [] h :=
  V_lp (VV := fun p h => V l G B N mX11_laysLoads (rmm 132 0 0) false 0 0 (QV S o) S 0 0 2 [(0, .ref a0), (1, .int p)] [] h) (fun _ hk _ _ hf => v_X11_laysLoads_2b hs0 hk hf) n p h hf
set_option maxRecDepth 100000 in
set_option maxHeartbeats 4000000 in
theorem v_X11_laysLoads {l : Launch} {G : GE} {B N : Nat} {S : List SHP} {o : MH} {a0 : Nat}    (hs0 : S[a0]? = some (.inl 11)) {h : MH} (hf : f_X11_laysLoads a0 h = some o) : V l G B N mX11_laysLoads (rmm 132 0 0) false 0 0 (QV S o) S 0 0 0 [(0, .ref a0)] [] h := by
  unfold f_X11_laysLoads at hf
  refine V_iconst (v := 0) (pc' := 1) dX11_laysLoads_0 rfl (by decide) ?_
  refine V_istore_n (lv' := [(1, .int 0), (0, .ref a0)]) (pc' := 2) dX11_laysLoads_1 rfl rfl (Nat.le_of_ble_eq_true rfl) rfl ?_
  exact V_sub (lv' := [(0, .ref a0), (1, .int 0)]) [1, 0] rfl (v_X11_laysLoads_2 hs0 hf)
theorem ct_X11_laysLoads {l : Launch} {S : List SHP} {h : MH} {a0 : Nat} (hs0 : S[a0]? = some (.inl 11)) {q : MH} (hf : f_X11_laysLoads a0 h = some q) : CT l mX11_laysLoads 132 false 0 0 S [.ref a0] h (QV S q) :=
  CT_ofV (by decide) rfl (Nat.le_of_ble_eq_true rfl) (fun G B hT => v_X11_laysLoads hs0 hf)
/-! LabelStacksModel.load(II)J -/
theorem dX11_load_0 : decode cX11_load 0 = .ok (.aload_n 0, 1) := by decide +kernel
theorem dX11_load_1 : decode cX11_load 1 = .ok (.iconst 0, 1) := by decide +kernel
theorem dX11_load_2 : decode cX11_load 2 = .ok (.putfield 84, 3) := by decide +kernel
theorem dX11_load_5 : decode cX11_load 5 = .ok (.aload_n 0, 1) := by decide +kernel
theorem dX11_load_6 : decode cX11_load 6 = .ok (.iload_n 1, 1) := by decide +kernel
theorem dX11_load_7 : decode cX11_load 7 = .ok (.invokevirtual 126, 3) := by decide +kernel
theorem dX11_load_10 : decode cX11_load 10 = .ok (.ifCond .eq 14, 3) := by decide +kernel
theorem dX11_load_13 : decode cX11_load 13 = .ok (.aload_n 0, 1) := by decide +kernel
theorem dX11_load_14 : decode cX11_load 14 = .ok (.iload_n 2, 1) := by decide +kernel
theorem dX11_load_15 : decode cX11_load 15 = .ok (.i2l, 1) := by decide +kernel
theorem dX11_load_16 : decode cX11_load 16 = .ok (.lconst 0, 1) := by decide +kernel
theorem dX11_load_17 : decode cX11_load 17 = .ok (.lconst 1, 1) := by decide +kernel
theorem dX11_load_18 : decode cX11_load 18 = .ok (.invokevirtual 91, 3) := by decide +kernel
theorem dX11_load_21 : decode cX11_load 21 = .ok (.ifCond .ne 7, 3) := by decide +kernel
theorem dX11_load_24 : decode cX11_load 24 = .ok (.ldc2_w 192, 3) := by decide +kernel
theorem dX11_load_27 : decode cX11_load 27 = .ok (.lreturn, 1) := by decide +kernel
theorem dX11_load_28 : decode cX11_load 28 = .ok (.aload_n 0, 1) := by decide +kernel
theorem dX11_load_29 : decode cX11_load 29 = .ok (.invokevirtual 320, 3) := by decide +kernel
theorem dX11_load_32 : decode cX11_load 32 = .ok (.iload_n 2, 1) := by decide +kernel
theorem dX11_load_33 : decode cX11_load 33 = .ok (.ifCond .ne 12, 3) := by decide +kernel
theorem dX11_load_36 : decode cX11_load 36 = .ok (.aload_n 0, 1) := by decide +kernel
theorem dX11_load_37 : decode cX11_load 37 = .ok (.getfield 63, 3) := by decide +kernel
theorem dX11_load_40 : decode cX11_load 40 = .ok (.iload_n 1, 1) := by decide +kernel
theorem dX11_load_41 : decode cX11_load 41 = .ok (.laload, 1) := by decide +kernel
theorem dX11_load_42 : decode cX11_load 42 = .ok (.goto 9, 3) := by decide +kernel
theorem dX11_load_45 : decode cX11_load 45 = .ok (.aload_n 0, 1) := by decide +kernel
theorem dX11_load_46 : decode cX11_load 46 = .ok (.getfield 66, 3) := by decide +kernel
theorem dX11_load_49 : decode cX11_load 49 = .ok (.iload_n 1, 1) := by decide +kernel
theorem dX11_load_50 : decode cX11_load 50 = .ok (.laload, 1) := by decide +kernel
theorem dX11_load_51 : decode cX11_load 51 = .ok (.lreturn, 1) := by decide +kernel
abbrev mX11_load : MI := (RX11, yX11_load, cX11_load, 3, (some .long))
theorem mok_X11_load : MOKv mX11_load 2 := ⟨⟨bm_1662, bm_127, ⟨by decide, by decide⟩, by decide +kernel⟩, bm_1660, bm_1661⟩
def f_X11_load_24    (h : MH) : Option (Int64 × MH) :=
  some ((-1 : Int64), h)
def f_X11_load   (a0 : Nat) (x1 : Int32) (x2 : Int32) (h : MH) : Option (Int64 × MH) :=
  lt (sI h a0 0 0) fun h_1 =>
  (f_X11_isLink a0 x1 h_1).bind fun q_2 =>
  if q_2.1 = 0 then
    f_X11_load_24  q_2.2
  else
    (f_X11_isIn a0 (Int32.toInt64 x2) 0 1 q_2.2).bind fun q_3 =>
    if q_3.1 = 0 then
      f_X11_load_24  q_3.2
    else
      (f_X11_laysLoads a0 q_3.2).bind fun q_4 =>
      if x2 = 0 then
        (gR q_4 a0 32).bind fun a_5 =>
        (ldL q_4 a_5 x1).bind fun l_6 =>
        some (l_6, q_4)
      else
        (gR q_4 a0 33).bind fun a_7 =>
        (ldL q_4 a_7 x1).bind fun l_8 =>
        some (l_8, q_4)
set_option maxRecDepth 100000 in
set_option maxHeartbeats 4000000 in
theorem v_X11_load_24 {l : Launch} {G : GE} {B N : Nat} {S : List SHP} {o : Int64 × MH}      {h : MH} (hf : f_X11_load_24  h = some o) : V l G B N mX11_load (rmm 133 0 0) false 0 0 (QL S o) S 0 0 24 [] [] h := by
  unfold f_X11_load_24 at hf
  refine V_ldc2 (v := (-1)) (pc' := 27) dX11_load_24 rfl bm_1515 ?_
  obtain rfl := Option.some.inj hf
  exact V_lret dX11_load_27 rfl rfl rfl ⟨rfl, rfl, rfl⟩
set_option maxRecDepth 100000 in
set_option maxHeartbeats 4000000 in
theorem v_X11_load {l : Launch} {G : GE} {B N : Nat} {S : List SHP} {o : Int64 × MH} {a0 : Nat} {x1 : Int32} {x2 : Int32}    (hs0 : S[a0]? = some (.inl 11)) {h : MH} (hf : f_X11_load a0 x1 x2 h = some o) : V l G B N mX11_load (rmm 133 0 0) false 0 0 (QL S o) S 0 0 0 [(0, .ref a0), (1, .int x1), (2, .int x2)] [] h := by
  unfold f_X11_load at hf
  refine V_aload_n (pc' := 1) dX11_load_0 rfl 0 rfl rfl ?_
  refine V_iconst (v := 0) (pc' := 2) dX11_load_1 rfl (by decide) ?_
  refine V_putI (pc' := 5) 11 0 dX11_load_2 rfl (by decide) (Nat.le_of_ble_eq_true rfl) bm_1224 hs0 (Or.inl rfl) rfl ?_
  refine V_nmH hf (fun h_1 hf => ?_)
  refine V_aload_n (pc' := 6) dX11_load_5 rfl 0 rfl rfl ?_
  refine V_iload_n (pc' := 7) dX11_load_6 rfl 1 rfl rfl ?_
  refine V_cvI (pc' := 10) (As := [.int x1]) (rest := []) dX11_load_7 rfl mok_X11_isLink bm_1410 11 (by decide) rfl hs0 rfl rfl (Nat.le_of_ble_eq_true rfl) (by decide) hf (fun q e => ct_X11_isLink hs0 e) (fun q_2 hf => ?_)
  refine V_if_eq (tgt := 24) (pc' := 13) dX11_load_10 (by decide) rfl hf (fun hf => ?_) (fun hf => ?_)
  ·
    exact V_sub (lv' := []) [] rfl (v_X11_load_24  hf)
  ·
    refine V_aload_n (pc' := 14) dX11_load_13 rfl 0 rfl rfl ?_
    refine V_iload_n (pc' := 15) dX11_load_14 rfl 2 rfl rfl ?_
    refine V_i2l (pc' := 16) dX11_load_15 rfl ?_
    refine V_lconst (v := 0) (pc' := 17) dX11_load_16 rfl (by decide) ?_
    refine V_lconst (v := 1) (pc' := 18) dX11_load_17 rfl (by decide) ?_
    refine V_cvI (pc' := 21) (As := [.long (Int32.toInt64 x2), .long 0, .long 1]) (rest := []) dX11_load_18 rfl mok_X11_isIn bm_1373 11 (by decide) rfl hs0 rfl rfl (Nat.le_of_ble_eq_true rfl) (by decide) hf (fun q e => ct_X11_isIn hs0 e) (fun q_3 hf => ?_)
    refine V_if_ne (tgt := 28) (pc' := 24) dX11_load_21 (by decide) rfl hf (fun hf => ?_) (fun hf => ?_)
    ·
      exact V_sub (lv' := []) [] rfl (v_X11_load_24  hf)
    ·
      refine V_aload_n (pc' := 29) dX11_load_28 rfl 0 rfl rfl ?_
      refine V_cvV (pc' := 32) (As := []) (rest := []) dX11_load_29 rfl mok_X11_laysLoads bm_1663 11 (by decide) rfl hs0 rfl rfl (Nat.le_of_ble_eq_true rfl) (by decide) hf (fun q e => ct_X11_laysLoads hs0 e) (fun q_4 hf => ?_)
      refine V_iload_n (pc' := 33) dX11_load_32 rfl 2 rfl rfl ?_
      refine V_if_ne (tgt := 45) (pc' := 36) dX11_load_33 (by decide) rfl hf (fun hf => ?_) (fun hf => ?_)
      ·
        refine V_aload_n (pc' := 37) dX11_load_36 rfl 0 rfl rfl ?_
        refine V_getR (pc' := 40) 11 32 dX11_load_37 rfl (by decide) (Nat.le_of_ble_eq_true rfl) bm_1256 hs0 (fun _ _ _ => rfl) rfl hf (fun a_5 ha_5 hf => ?_)
        refine V_iload_n (pc' := 41) dX11_load_40 rfl 1 rfl rfl ?_
        refine V_lald (pc' := 42) dX11_load_41 rfl ha_5 hf (fun l_6 hf => ?_)
        refine V_goto (tgt := 51) dX11_load_42 (by decide) ?_
        obtain rfl := Option.some.inj hf
        exact V_lret dX11_load_51 rfl rfl rfl ⟨rfl, rfl, rfl⟩
      ·
        refine V_aload_n (pc' := 46) dX11_load_45 rfl 0 rfl rfl ?_
        refine V_getR (pc' := 49) 11 33 dX11_load_46 rfl (by decide) (Nat.le_of_ble_eq_true rfl) bm_1257 hs0 (fun _ _ _ => rfl) rfl hf (fun a_7 ha_7 hf => ?_)
        refine V_iload_n (pc' := 50) dX11_load_49 rfl 1 rfl rfl ?_
        refine V_lald (pc' := 51) dX11_load_50 rfl ha_7 hf (fun l_8 hf => ?_)
        obtain rfl := Option.some.inj hf
        exact V_lret dX11_load_51 rfl rfl rfl ⟨rfl, rfl, rfl⟩
theorem ct_X11_load {l : Launch} {S : List SHP} {h : MH} {a0 : Nat} {x1 : Int32} {x2 : Int32} (hs0 : S[a0]? = some (.inl 11)) {q : Int64 × MH} (hf : f_X11_load a0 x1 x2 h = some q) : CT l mX11_load 133 false 0 0 S [.ref a0, .int x1, .int x2] h (QL S q) :=
  CT_ofV (by decide) rfl (Nat.le_of_ble_eq_true rfl) (fun G B hT => v_X11_load hs0 hf)
/-! LabelStacksModel.isMore(JJJJ)Z -/
theorem dX11_isMore_0 : decode cX11_isMore 0 = .ok (.lload_n 1, 1) := by decide +kernel
theorem dX11_isMore_1 : decode cX11_isMore 1 = .ok (.lload_n 3, 1) := by decide +kernel
theorem dX11_isMore_2 : decode cX11_isMore 2 = .ok (.ldiv, 1) := by decide +kernel
theorem dX11_isMore_3 : decode cX11_isMore 3 = .ok (.lload 5, 2) := by decide +kernel
theorem dX11_isMore_5 : decode cX11_isMore 5 = .ok (.lload 7, 2) := by decide +kernel
theorem dX11_isMore_7 : decode cX11_isMore 7 = .ok (.ldiv, 1) := by decide +kernel
theorem dX11_isMore_8 : decode cX11_isMore 8 = .ok (.lcmp, 1) := by decide +kernel
theorem dX11_isMore_9 : decode cX11_isMore 9 = .ok (.ifCond .eq 21, 3) := by decide +kernel
theorem dX11_isMore_12 : decode cX11_isMore 12 = .ok (.lload_n 1, 1) := by decide +kernel
theorem dX11_isMore_13 : decode cX11_isMore 13 = .ok (.lload_n 3, 1) := by decide +kernel
theorem dX11_isMore_14 : decode cX11_isMore 14 = .ok (.ldiv, 1) := by decide +kernel
theorem dX11_isMore_15 : decode cX11_isMore 15 = .ok (.lload 5, 2) := by decide +kernel
theorem dX11_isMore_17 : decode cX11_isMore 17 = .ok (.lload 7, 2) := by decide +kernel
theorem dX11_isMore_19 : decode cX11_isMore 19 = .ok (.ldiv, 1) := by decide +kernel
theorem dX11_isMore_20 : decode cX11_isMore 20 = .ok (.lcmp, 1) := by decide +kernel
theorem dX11_isMore_21 : decode cX11_isMore 21 = .ok (.ifCond .le 7, 3) := by decide +kernel
theorem dX11_isMore_24 : decode cX11_isMore 24 = .ok (.iconst 1, 1) := by decide +kernel
theorem dX11_isMore_25 : decode cX11_isMore 25 = .ok (.goto 4, 3) := by decide +kernel
theorem dX11_isMore_28 : decode cX11_isMore 28 = .ok (.iconst 0, 1) := by decide +kernel
theorem dX11_isMore_29 : decode cX11_isMore 29 = .ok (.ireturn, 1) := by decide +kernel
theorem dX11_isMore_30 : decode cX11_isMore 30 = .ok (.lload_n 1, 1) := by decide +kernel
theorem dX11_isMore_31 : decode cX11_isMore 31 = .ok (.lload_n 3, 1) := by decide +kernel
theorem dX11_isMore_32 : decode cX11_isMore 32 = .ok (.lrem, 1) := by decide +kernel
theorem dX11_isMore_33 : decode cX11_isMore 33 = .ok (.lstore 9, 2) := by decide +kernel
theorem dX11_isMore_35 : decode cX11_isMore 35 = .ok (.lload 5, 2) := by decide +kernel
theorem dX11_isMore_37 : decode cX11_isMore 37 = .ok (.lload 7, 2) := by decide +kernel
theorem dX11_isMore_39 : decode cX11_isMore 39 = .ok (.lrem, 1) := by decide +kernel
theorem dX11_isMore_40 : decode cX11_isMore 40 = .ok (.lstore 11, 2) := by decide +kernel
theorem dX11_isMore_42 : decode cX11_isMore 42 = .ok (.lload 11, 2) := by decide +kernel
theorem dX11_isMore_44 : decode cX11_isMore 44 = .ok (.lconst 0, 1) := by decide +kernel
theorem dX11_isMore_45 : decode cX11_isMore 45 = .ok (.lcmp, 1) := by decide +kernel
theorem dX11_isMore_46 : decode cX11_isMore 46 = .ok (.ifCond .ne 16, 3) := by decide +kernel
theorem dX11_isMore_49 : decode cX11_isMore 49 = .ok (.lload 9, 2) := by decide +kernel
theorem dX11_isMore_51 : decode cX11_isMore 51 = .ok (.lconst 0, 1) := by decide +kernel
theorem dX11_isMore_52 : decode cX11_isMore 52 = .ok (.lcmp, 1) := by decide +kernel
theorem dX11_isMore_53 : decode cX11_isMore 53 = .ok (.ifCond .le 7, 3) := by decide +kernel
theorem dX11_isMore_56 : decode cX11_isMore 56 = .ok (.iconst 1, 1) := by decide +kernel
theorem dX11_isMore_57 : decode cX11_isMore 57 = .ok (.goto 4, 3) := by decide +kernel
theorem dX11_isMore_60 : decode cX11_isMore 60 = .ok (.iconst 0, 1) := by decide +kernel
theorem dX11_isMore_61 : decode cX11_isMore 61 = .ok (.ireturn, 1) := by decide +kernel
theorem dX11_isMore_62 : decode cX11_isMore 62 = .ok (.lload 9, 2) := by decide +kernel
theorem dX11_isMore_64 : decode cX11_isMore 64 = .ok (.lconst 0, 1) := by decide +kernel
theorem dX11_isMore_65 : decode cX11_isMore 65 = .ok (.lcmp, 1) := by decide +kernel
theorem dX11_isMore_66 : decode cX11_isMore 66 = .ok (.ifCond .eq 21, 3) := by decide +kernel
theorem dX11_isMore_69 : decode cX11_isMore 69 = .ok (.aload_n 0, 1) := by decide +kernel
theorem dX11_isMore_70 : decode cX11_isMore 70 = .ok (.lload 7, 2) := by decide +kernel
theorem dX11_isMore_72 : decode cX11_isMore 72 = .ok (.lload 11, 2) := by decide +kernel
theorem dX11_isMore_74 : decode cX11_isMore 74 = .ok (.lload_n 3, 1) := by decide +kernel
theorem dX11_isMore_75 : decode cX11_isMore 75 = .ok (.lload 9, 2) := by decide +kernel
theorem dX11_isMore_77 : decode cX11_isMore 77 = .ok (.invokevirtual 323, 3) := by decide +kernel
theorem dX11_isMore_80 : decode cX11_isMore 80 = .ok (.ifCond .eq 7, 3) := by decide +kernel
theorem dX11_isMore_83 : decode cX11_isMore 83 = .ok (.iconst 1, 1) := by decide +kernel
theorem dX11_isMore_84 : decode cX11_isMore 84 = .ok (.goto 4, 3) := by decide +kernel
theorem dX11_isMore_87 : decode cX11_isMore 87 = .ok (.iconst 0, 1) := by decide +kernel
theorem dX11_isMore_88 : decode cX11_isMore 88 = .ok (.ireturn, 1) := by decide +kernel
abbrev mX11_isMore : MI := (RX11, yX11_isMore, cX11_isMore, 13, (some .boolean))
theorem mok_X11_isMore : MOKv mX11_isMore 4 := ⟨⟨bm_1678, bm_127, ⟨by decide, by decide⟩, by decide +kernel⟩, bm_1677, bm_90⟩
def f_X11_isMoreb (kr : Int64 × Int64 × Int64 × Int64 → MH → Option (Int32 × MH))  (a0 : Nat) (l1 : Int64) (l3 : Int64) (l5 : Int64) (l7 : Int64) (h : MH) : Option (Int32 × MH) :=
  if l3 = (0 : Int64) then none else
  if l7 = (0 : Int64) then none else
  if (l1 / l3) = (l5 / l7) then
    if l3 = (0 : Int64) then none else
    lt (l1 - l1 / l3 * l3) fun l_1 =>
    if l7 = (0 : Int64) then none else
    lt (l5 - l5 / l7 * l7) fun l_2 =>
    if l_2 = 0 then
      if 0 < l_1 then
        some (1, h)
      else
        some (0, h)
    else
      if l_1 = 0 then
        some (0, h)
      else
        (kr (l7, l_2, l3, l_1) h).bind fun q_3 =>
        if q_3.1 = 0 then
          some (0, q_3.2)
        else
          some (1, q_3.2)
  else
    if l3 = (0 : Int64) then none else
    if l7 = (0 : Int64) then none else
    if (l5 / l7) < (l1 / l3) then
      some (1, h)
    else
      some (0, h)
def f_X11_isMore (a0 : Nat) : Nat → Int64 × Int64 × Int64 × Int64 → MH → Option (Int32 × MH) := lp (fun kr p h => f_X11_isMoreb kr a0 p.1 p.2.1 p.2.2.1 p.2.2.2 h)
set_option maxRecDepth 100000 in
set_option maxHeartbeats 4000000 in
theorem v_X11_isMore {l : Launch} {G : GE} {B N : Nat} {S : List SHP} {o : Int32 × MH} {a0 : Nat} {l1 : Int64} {l3 : Int64} {l5 : Int64} {l7 : Int64} {kr : Int64 × Int64 × Int64 × Int64 → MH → Option (Int32 × MH)} {dk : Nat} (hdk : 3 ≤ dk) (hkr : ∀ (p : Int64 × Int64 × Int64 × Int64) (h : MH) (q : Int32 × MH), kr p h = some q → CT l mX11_isMore dk false 0 0 S [.ref a0, .long p.1, .long p.2.1, .long p.2.2.1, .long p.2.2.2] h (QI S q)) (hs0 : S[a0]? = some (.inl 11)) {h : MH} (hf : f_X11_isMoreb kr a0 l1 l3 l5 l7 h = some o) : V l G B N mX11_isMore (rmm (dk + 1) 0 0) false 0 0 (QI S o) S 0 0 0 [(0, .ref a0), (1, .long l1), (3, .long l3), (5, .long l5), (7, .long l7)] [] h := by
  unfold f_X11_isMoreb at hf
  refine V_lload_n (pc' := 1) dX11_isMore_0 rfl 1 rfl rfl ?_
  refine V_lload_n (pc' := 2) dX11_isMore_1 rfl 2 rfl rfl ?_
  refine V_ldivF (pc' := 3) dX11_isMore_2 rfl hf (fun hf => ?_)
  refine V_lload (pc' := 5) dX11_isMore_3 rfl 3 rfl ?_
  refine V_lload (pc' := 7) dX11_isMore_5 rfl 4 rfl ?_
  refine V_ldivF (pc' := 8) dX11_isMore_7 rfl hf (fun hf => ?_)
  refine V_lcmp_eq (pc1 := 9) (tgt := 30) (pc' := 12) dX11_isMore_8 rfl dX11_isMore_9 (by decide) rfl hf (fun hf => ?_) (fun hf => ?_)
  ·
    refine V_lload_n (pc' := 31) dX11_isMore_30 rfl 1 rfl rfl ?_
    refine V_lload_n (pc' := 32) dX11_isMore_31 rfl 2 rfl rfl ?_
    refine V_lremF (pc' := 33) dX11_isMore_32 rfl hf (fun hf => ?_)
    refine V_nmJ hf (fun l_1 hf => ?_)
    refine V_lstore (lv' := [(9, .long l_1), (0, .ref a0), (1, .long l1), (3, .long l3), (5, .long l5), (7, .long l7)]) (pc' := 35) dX11_isMore_33 rfl (Nat.le_of_ble_eq_true rfl) rfl ?_
    refine V_lload (pc' := 37) dX11_isMore_35 rfl 4 rfl ?_
    refine V_lload (pc' := 39) dX11_isMore_37 rfl 5 rfl ?_
    refine V_lremF (pc' := 40) dX11_isMore_39 rfl hf (fun hf => ?_)
    refine V_nmJ hf (fun l_2 hf => ?_)
    refine V_lstore (lv' := [(11, .long l_2), (9, .long l_1), (0, .ref a0), (1, .long l1), (3, .long l3), (5, .long l5), (7, .long l7)]) (pc' := 42) dX11_isMore_40 rfl (Nat.le_of_ble_eq_true rfl) rfl ?_
    refine V_lload (pc' := 44) dX11_isMore_42 rfl 0 rfl ?_
    refine V_lconst (v := 0) (pc' := 45) dX11_isMore_44 rfl (by decide) ?_
    refine V_lcmp_ne (pc1 := 46) (tgt := 62) (pc' := 49) dX11_isMore_45 rfl dX11_isMore_46 (by decide) rfl hf (fun hf => ?_) (fun hf => ?_)
    ·
      refine V_lload (pc' := 51) dX11_isMore_49 rfl 1 rfl ?_
      refine V_lconst (v := 0) (pc' := 52) dX11_isMore_51 rfl (by decide) ?_
      refine V_lcmp_le (pc1 := 53) (tgt := 60) (pc' := 56) dX11_isMore_52 rfl dX11_isMore_53 (by decide) rfl hf (fun hf => ?_) (fun hf => ?_)
      ·
        refine V_iconst (v := 1) (pc' := 57) dX11_isMore_56 rfl (by decide) ?_
        refine V_goto (tgt := 61) dX11_isMore_57 (by decide) ?_
        obtain rfl := Option.some.inj hf
        exact V_zretL dX11_isMore_61 rfl rfl rfl (by decide) ⟨rfl, rfl, rfl⟩
      ·
        refine V_iconst (v := 0) (pc' := 61) dX11_isMore_60 rfl (by decide) ?_
        obtain rfl := Option.some.inj hf
        exact V_zretL dX11_isMore_61 rfl rfl rfl (by decide) ⟨rfl, rfl, rfl⟩
    ·
      refine V_lload (pc' := 64) dX11_isMore_62 rfl 1 rfl ?_
      refine V_lconst (v := 0) (pc' := 65) dX11_isMore_64 rfl (by decide) ?_
      refine V_lcmp_eq (pc1 := 66) (tgt := 87) (pc' := 69) dX11_isMore_65 rfl dX11_isMore_66 (by decide) rfl hf (fun hf => ?_) (fun hf => ?_)
      ·
        refine V_iconst (v := 0) (pc' := 88) dX11_isMore_87 rfl (by decide) ?_
        obtain rfl := Option.some.inj hf
        exact V_zretL dX11_isMore_88 rfl rfl rfl (by decide) ⟨rfl, rfl, rfl⟩
      ·
        refine V_aload_n (pc' := 70) dX11_isMore_69 rfl 2 rfl rfl ?_
        refine V_lload (pc' := 72) dX11_isMore_70 rfl 6 rfl ?_
        refine V_lload (pc' := 74) dX11_isMore_72 rfl 0 rfl ?_
        refine V_lload_n (pc' := 75) dX11_isMore_74 rfl 4 rfl rfl ?_
        refine V_lload (pc' := 77) dX11_isMore_75 rfl 1 rfl ?_
        refine V_cvI (pc' := 80) (As := [.long l7, .long l_2, .long l3, .long l_1]) (rest := []) dX11_isMore_77 rfl mok_X11_isMore bm_1675 11 (by decide) rfl hs0 rfl rfl (Nat.le_of_ble_eq_true rfl) (by simp only [rmm]; omega) hf (fun q e => hkr (l7, l_2, l3, l_1) h q e) (fun q_3 hf => ?_)
        refine V_if_eq (tgt := 87) (pc' := 83) dX11_isMore_80 (by decide) rfl hf (fun hf => ?_) (fun hf => ?_)
        ·
          refine V_iconst (v := 0) (pc' := 88) dX11_isMore_87 rfl (by decide) ?_
          obtain rfl := Option.some.inj hf
          exact V_zretL dX11_isMore_88 rfl rfl rfl (by decide) ⟨rfl, rfl, rfl⟩
        ·
          refine V_iconst (v := 1) (pc' := 84) dX11_isMore_83 rfl (by decide) ?_
          refine V_goto (tgt := 88) dX11_isMore_84 (by decide) ?_
          obtain rfl := Option.some.inj hf
          exact V_zretL dX11_isMore_88 rfl rfl rfl (by decide) ⟨rfl, rfl, rfl⟩
  ·
    refine V_lload_n (pc' := 13) dX11_isMore_12 rfl 1 rfl rfl ?_
    refine V_lload_n (pc' := 14) dX11_isMore_13 rfl 2 rfl rfl ?_
    refine V_ldivF (pc' := 15) dX11_isMore_14 rfl hf (fun hf => ?_)
    refine V_lload (pc' := 17) dX11_isMore_15 rfl 3 rfl ?_
    refine V_lload (pc' := 19) dX11_isMore_17 rfl 4 rfl ?_
    refine V_ldivF (pc' := 20) dX11_isMore_19 rfl hf (fun hf => ?_)
    refine V_lcmp_le (pc1 := 21) (tgt := 28) (pc' := 24) dX11_isMore_20 rfl dX11_isMore_21 (by decide) rfl hf (fun hf => ?_) (fun hf => ?_)
    ·
      refine V_iconst (v := 1) (pc' := 25) dX11_isMore_24 rfl (by decide) ?_
      refine V_goto (tgt := 29) dX11_isMore_25 (by decide) ?_
      obtain rfl := Option.some.inj hf
      exact V_zretL dX11_isMore_29 rfl rfl rfl (by decide) ⟨rfl, rfl, rfl⟩
    ·
      refine V_iconst (v := 0) (pc' := 29) dX11_isMore_28 rfl (by decide) ?_
      obtain rfl := Option.some.inj hf
      exact V_zretL dX11_isMore_29 rfl rfl rfl (by decide) ⟨rfl, rfl, rfl⟩
theorem ctd_X11_isMore {l : Launch} {S : List SHP} {a0 : Nat} (hs0 : S[a0]? = some (.inl 11)) : ∀ (D : Nat) (p : Int64 × Int64 × Int64 × Int64) (h : MH) (q : Int32 × MH), f_X11_isMore a0 D p h = some q → CT l mX11_isMore (D + 3) false 0 0 S [.ref a0, .long p.1, .long p.2.1, .long p.2.2.1, .long p.2.2.2] h (QI S q)
  | 0, _, _, _, hf => by cases hf
  | D + 1, p, h, q, hf => by
    have e : D + 1 + 3 = (D + 3) + 1 := by omega
    rw [e]
    exact CT_ofV (by decide) rfl (Nat.le_of_ble_eq_true rfl) (fun G B hT => v_X11_isMore (kr := f_X11_isMore a0 D) (dk := D + 3) (by omega) (fun p h q hq => ctd_X11_isMore hs0 D p h q hq) hs0 hf)
theorem ct_X11_isMore {l : Launch} {S : List SHP} {h : MH} {a0 : Nat} (hs0 : S[a0]? = some (.inl 11)) {p : Int64 × Int64 × Int64 × Int64} {q : Int32 × MH} (hf : f_X11_isMore a0 DG p h = some q) : CT l mX11_isMore 123 false 0 0 S [.ref a0, .long p.1, .long p.2.1, .long p.2.2.1, .long p.2.2.2] h (QI S q) := ctd_X11_isMore hs0 DG p h q hf
/-! LabelStacksModel.heaviest()I -/
theorem dX11_heaviest_0 : decode cX11_heaviest 0 = .ok (.aload_n 0, 1) := by decide +kernel
theorem dX11_heaviest_1 : decode cX11_heaviest 1 = .ok (.iconst 0, 1) := by decide +kernel
theorem dX11_heaviest_2 : decode cX11_heaviest 2 = .ok (.putfield 84, 3) := by decide +kernel
theorem dX11_heaviest_5 : decode cX11_heaviest 5 = .ok (.aload_n 0, 1) := by decide +kernel
theorem dX11_heaviest_6 : decode cX11_heaviest 6 = .ok (.invokevirtual 320, 3) := by decide +kernel
theorem dX11_heaviest_9 : decode cX11_heaviest 9 = .ok (.iconst (-1), 1) := by decide +kernel
theorem dX11_heaviest_10 : decode cX11_heaviest 10 = .ok (.istore_n 1, 1) := by decide +kernel
theorem dX11_heaviest_11 : decode cX11_heaviest 11 = .ok (.iconst 0, 1) := by decide +kernel
theorem dX11_heaviest_12 : decode cX11_heaviest 12 = .ok (.istore_n 2, 1) := by decide +kernel
theorem dX11_heaviest_13 : decode cX11_heaviest 13 = .ok (.iload_n 2, 1) := by decide +kernel
theorem dX11_heaviest_14 : decode cX11_heaviest 14 = .ok (.aload_n 0, 1) := by decide +kernel
theorem dX11_heaviest_15 : decode cX11_heaviest 15 = .ok (.invokevirtual 95, 3) := by decide +kernel
theorem dX11_heaviest_18 : decode cX11_heaviest 18 = .ok (.if_icmp .ge 58, 3) := by decide +kernel
theorem dX11_heaviest_21 : decode cX11_heaviest 21 = .ok (.aload_n 0, 1) := by decide +kernel
theorem dX11_heaviest_22 : decode cX11_heaviest 22 = .ok (.getfield 63, 3) := by decide +kernel
theorem dX11_heaviest_25 : decode cX11_heaviest 25 = .ok (.iload_n 2, 1) := by decide +kernel
theorem dX11_heaviest_26 : decode cX11_heaviest 26 = .ok (.laload, 1) := by decide +kernel
theorem dX11_heaviest_27 : decode cX11_heaviest 27 = .ok (.lconst 0, 1) := by decide +kernel
theorem dX11_heaviest_28 : decode cX11_heaviest 28 = .ok (.lcmp, 1) := by decide +kernel
theorem dX11_heaviest_29 : decode cX11_heaviest 29 = .ok (.ifCond .le 41, 3) := by decide +kernel
theorem dX11_heaviest_32 : decode cX11_heaviest 32 = .ok (.iload_n 1, 1) := by decide +kernel
theorem dX11_heaviest_33 : decode cX11_heaviest 33 = .ok (.iconst (-1), 1) := by decide +kernel
theorem dX11_heaviest_34 : decode cX11_heaviest 34 = .ok (.if_icmp .eq 34, 3) := by decide +kernel
theorem dX11_heaviest_37 : decode cX11_heaviest 37 = .ok (.aload_n 0, 1) := by decide +kernel
theorem dX11_heaviest_38 : decode cX11_heaviest 38 = .ok (.aload_n 0, 1) := by decide +kernel
theorem dX11_heaviest_39 : decode cX11_heaviest 39 = .ok (.getfield 63, 3) := by decide +kernel
theorem dX11_heaviest_42 : decode cX11_heaviest 42 = .ok (.iload_n 2, 1) := by decide +kernel
theorem dX11_heaviest_43 : decode cX11_heaviest 43 = .ok (.laload, 1) := by decide +kernel
theorem dX11_heaviest_44 : decode cX11_heaviest 44 = .ok (.aload_n 0, 1) := by decide +kernel
theorem dX11_heaviest_45 : decode cX11_heaviest 45 = .ok (.getfield 66, 3) := by decide +kernel
theorem dX11_heaviest_48 : decode cX11_heaviest 48 = .ok (.iload_n 2, 1) := by decide +kernel
theorem dX11_heaviest_49 : decode cX11_heaviest 49 = .ok (.laload, 1) := by decide +kernel
theorem dX11_heaviest_50 : decode cX11_heaviest 50 = .ok (.aload_n 0, 1) := by decide +kernel
theorem dX11_heaviest_51 : decode cX11_heaviest 51 = .ok (.getfield 63, 3) := by decide +kernel
theorem dX11_heaviest_54 : decode cX11_heaviest 54 = .ok (.iload_n 1, 1) := by decide +kernel
theorem dX11_heaviest_55 : decode cX11_heaviest 55 = .ok (.laload, 1) := by decide +kernel
theorem dX11_heaviest_56 : decode cX11_heaviest 56 = .ok (.aload_n 0, 1) := by decide +kernel
theorem dX11_heaviest_57 : decode cX11_heaviest 57 = .ok (.getfield 66, 3) := by decide +kernel
theorem dX11_heaviest_60 : decode cX11_heaviest 60 = .ok (.iload_n 1, 1) := by decide +kernel
theorem dX11_heaviest_61 : decode cX11_heaviest 61 = .ok (.laload, 1) := by decide +kernel
theorem dX11_heaviest_62 : decode cX11_heaviest 62 = .ok (.invokevirtual 323, 3) := by decide +kernel
theorem dX11_heaviest_65 : decode cX11_heaviest 65 = .ok (.ifCond .eq 5, 3) := by decide +kernel
theorem dX11_heaviest_68 : decode cX11_heaviest 68 = .ok (.iload_n 2, 1) := by decide +kernel
theorem dX11_heaviest_69 : decode cX11_heaviest 69 = .ok (.istore_n 1, 1) := by decide +kernel
theorem dX11_heaviest_70 : decode cX11_heaviest 70 = .ok (.iinc 2 1, 3) := by decide +kernel
theorem dX11_heaviest_73 : decode cX11_heaviest 73 = .ok (.goto (-60), 3) := by decide +kernel
theorem dX11_heaviest_76 : decode cX11_heaviest 76 = .ok (.iload_n 1, 1) := by decide +kernel
theorem dX11_heaviest_77 : decode cX11_heaviest 77 = .ok (.ireturn, 1) := by decide +kernel
abbrev mX11_heaviest : MI := (RX11, yX11_heaviest, cX11_heaviest, 3, (some .int))
theorem mok_X11_heaviest : MOKv mX11_heaviest 0 := ⟨⟨bm_1674, bm_127, ⟨by decide, by decide⟩, by decide +kernel⟩, bm_1672, bm_1673⟩
def f_X11_heaviest_70  (k13 : Int32 × Int32 → MH → Option (Int32 × MH)) (a0 : Nat) (x1 : Int32) (x2 : Int32) (h : MH) : Option (Int32 × MH) :=
  k13 (x1, (x2 + 1)) h
def f_X11_heaviest_68  (k13 : Int32 × Int32 → MH → Option (Int32 × MH)) (a0 : Nat) (x2 : Int32) (h : MH) : Option (Int32 × MH) :=
  f_X11_heaviest_70 k13 a0 x2 x2 h
def f_X11_heaviest_13b   (a0 : Nat) (k13 : Int32 × Int32 → MH → Option (Int32 × MH)) (p : Int32 × Int32) (h : MH) : Option (Int32 × MH) :=
  (f_X11_links a0 h).bind fun q_1 =>
  if p.2 < q_1.1 then
    (gR q_1.2 a0 32).bind fun a_2 =>
    (ldL q_1.2 a_2 p.2).bind fun l_3 =>
    if 0 < l_3 then
      if p.1 = (-1 : Int32) then
        f_X11_heaviest_68 k13 a0 p.2 q_1.2
      else
        (gR q_1.2 a0 32).bind fun a_4 =>
        (ldL q_1.2 a_4 p.2).bind fun l_5 =>
        (gR q_1.2 a0 33).bind fun a_6 =>
        (ldL q_1.2 a_6 p.2).bind fun l_7 =>
        (gR q_1.2 a0 32).bind fun a_8 =>
        (ldL q_1.2 a_8 p.1).bind fun l_9 =>
        (gR q_1.2 a0 33).bind fun a_10 =>
        (ldL q_1.2 a_10 p.1).bind fun l_11 =>
        (f_X11_isMore a0 DG (l_5, l_7, l_9, l_11) q_1.2).bind fun q_12 =>
        if q_12.1 = 0 then
          f_X11_heaviest_70 k13 a0 p.1 p.2 q_12.2
        else
          f_X11_heaviest_68 k13 a0 p.2 q_12.2
    else
      f_X11_heaviest_70 k13 a0 p.1 p.2 q_1.2
  else
    some (p.1, q_1.2)
def f_X11_heaviest_13   (a0 : Nat) : Nat → Int32 × Int32 → MH → Option (Int32 × MH) := lp (f_X11_heaviest_13b a0)
def f_X11_heaviest   (a0 : Nat) (h : MH) : Option (Int32 × MH) :=
  lt (sI h a0 0 0) fun h_1 =>
  (f_X11_laysLoads a0 h_1).bind fun q_2 =>
  f_X11_heaviest_13 a0 FU ((-1 : Int32), 0) q_2
set_option maxRecDepth 100000 in
set_option maxHeartbeats 4000000 in
theorem v_X11_heaviest_70 {l : Launch} {G : GE} {B N : Nat} {S : List SHP} {o : Int32 × MH} {a0 : Nat} {x1 : Int32} {x2 : Int32}  {k13 : Int32 × Int32 → MH → Option (Int32 × MH)} (hk13 : ∀ (p : Int32 × Int32) (h : MH), k13 p h = some o → V l G B N mX11_heaviest (rmm 133 0 0) false 0 0 (QI S o) S 0 0 13 [(0, .ref a0), (1, .int p.1), (2, .int p.2)] [] h) (hs0 : S[a0]? = some (.inl 11)) {h : MH} (hf : f_X11_heaviest_70 k13 a0 x1 x2 h = some o) : V l G B N mX11_heaviest (rmm 133 0 0) false 0 0 (QI S o) S 0 0 70 [(0, .ref a0), (1, .int x1), (2, .int x2)] [] h := by
  unfold f_X11_heaviest_70 at hf
  refine V_iinc (v := (x2 + 1)) (lv' := [(2, .int (x2 + 1)), (0, .ref a0), (1, .int x1)]) (pc' := 73) dX11_heaviest_70 rfl 2 rfl rfl (Nat.le_of_ble_eq_true rfl) rfl ?_
  refine V_goto (tgt := 13) dX11_heaviest_73 (by decide) ?_
  exact V_sub (lv' := [(0, .ref a0), (1, .int x1), (2, .int (x2 + 1))]) [1, 2, 0] rfl (hk13 (x1, (x2 + 1)) h hf)
set_option maxRecDepth 100000 in
set_option maxHeartbeats 4000000 in
theorem v_X11_heaviest_68 {l : Launch} {G : GE} {B N : Nat} {S : List SHP} {o : Int32 × MH} {a0 : Nat} {x2 : Int32}  {k13 : Int32 × Int32 → MH → Option (Int32 × MH)} (hk13 : ∀ (p : Int32 × Int32) (h : MH), k13 p h = some o → V l G B N mX11_heaviest (rmm 133 0 0) false 0 0 (QI S o) S 0 0 13 [(0, .ref a0), (1, .int p.1), (2, .int p.2)] [] h) (hs0 : S[a0]? = some (.inl 11)) {h : MH} (hf : f_X11_heaviest_68 k13 a0 x2 h = some o) : V l G B N mX11_heaviest (rmm 133 0 0) false 0 0 (QI S o) S 0 0 68 [(0, .ref a0), (2, .int x2)] [] h := by
  unfold f_X11_heaviest_68 at hf
  refine V_iload_n (pc' := 69) dX11_heaviest_68 rfl 1 rfl rfl ?_
  refine V_istore_n (lv' := [(1, .int x2), (0, .ref a0), (2, .int x2)]) (pc' := 70) dX11_heaviest_69 rfl rfl (Nat.le_of_ble_eq_true rfl) rfl ?_
  exact V_sub (lv' := [(0, .ref a0), (1, .int x2), (2, .int x2)]) [1, 0, 2] rfl (v_X11_heaviest_70 hk13 hs0 hf)
set_option maxRecDepth 100000 in
set_option maxHeartbeats 4000000 in
theorem v_X11_heaviest_13b {l : Launch} {G : GE} {B N : Nat} {S : List SHP} {o : Int32 × MH} {a0 : Nat}    (hs0 : S[a0]? = some (.inl 11)) {k13 : Int32 × Int32 → MH → Option (Int32 × MH)} (hk13 : ∀ (p : Int32 × Int32) (h : MH), k13 p h = some o → V l G B N mX11_heaviest (rmm 133 0 0) false 0 0 (QI S o) S 0 0 13 [(0, .ref a0), (1, .int p.1), (2, .int p.2)] [] h) {p : Int32 × Int32} {h : MH} (hf : f_X11_heaviest_13b a0 k13 p h = some o) : V l G B N mX11_heaviest (rmm 133 0 0) false 0 0 (QI S o) S 0 0 13 [(0, .ref a0), (1, .int p.1), (2, .int p.2)] [] h := by
  unfold f_X11_heaviest_13b at hf
  refine V_iload_n (pc' := 14) dX11_heaviest_13 rfl 2 rfl rfl ?_
  refine V_aload_n (pc' := 15) dX11_heaviest_14 rfl 0 rfl rfl ?_
  refine V_cvI (pc' := 18) (As := []) (rest := [.int p.2]) dX11_heaviest_15 rfl mok_X11_links bm_1398 11 (by decide) rfl hs0 rfl rfl (Nat.le_of_ble_eq_true rfl) (by decide) hf (fun q e => ct_X11_links hs0 e) (fun q_1 hf => ?_)
  refine V_icmp_ge (tgt := 76) (pc' := 21) dX11_heaviest_18 (by decide) rfl hf (fun hf => ?_) (fun hf => ?_)
  ·
    refine V_aload_n (pc' := 22) dX11_heaviest_21 rfl 0 rfl rfl ?_
    refine V_getR (pc' := 25) 11 32 dX11_heaviest_22 rfl (by decide) (Nat.le_of_ble_eq_true rfl) bm_1256 hs0 (fun _ _ _ => rfl) rfl hf (fun a_2 ha_2 hf => ?_)
    refine V_iload_n (pc' := 26) dX11_heaviest_25 rfl 2 rfl rfl ?_
    refine V_lald (pc' := 27) dX11_heaviest_26 rfl ha_2 hf (fun l_3 hf => ?_)
    refine V_lconst (v := 0) (pc' := 28) dX11_heaviest_27 rfl (by decide) ?_
    refine V_lcmp_le (pc1 := 29) (tgt := 70) (pc' := 32) dX11_heaviest_28 rfl dX11_heaviest_29 (by decide) rfl hf (fun hf => ?_) (fun hf => ?_)
    ·
      refine V_iload_n (pc' := 33) dX11_heaviest_32 rfl 1 rfl rfl ?_
      refine V_iconst (v := (-1)) (pc' := 34) dX11_heaviest_33 rfl (by decide) ?_
      refine V_icmp_eq (tgt := 68) (pc' := 37) dX11_heaviest_34 (by decide) rfl hf (fun hf => ?_) (fun hf => ?_)
      ·
        exact V_sub (lv' := [(0, .ref a0), (2, .int p.2)]) [0, 2] rfl (v_X11_heaviest_68 hk13 hs0 hf)
      ·
        refine V_aload_n (pc' := 38) dX11_heaviest_37 rfl 0 rfl rfl ?_
        refine V_aload_n (pc' := 39) dX11_heaviest_38 rfl 0 rfl rfl ?_
        refine V_getR (pc' := 42) 11 32 dX11_heaviest_39 rfl (by decide) (Nat.le_of_ble_eq_true rfl) bm_1256 hs0 (fun _ _ _ => rfl) rfl hf (fun a_4 ha_4 hf => ?_)
        refine V_iload_n (pc' := 43) dX11_heaviest_42 rfl 2 rfl rfl ?_
        refine V_lald (pc' := 44) dX11_heaviest_43 rfl ha_4 hf (fun l_5 hf => ?_)
        refine V_aload_n (pc' := 45) dX11_heaviest_44 rfl 0 rfl rfl ?_
        refine V_getR (pc' := 48) 11 33 dX11_heaviest_45 rfl (by decide) (Nat.le_of_ble_eq_true rfl) bm_1257 hs0 (fun _ _ _ => rfl) rfl hf (fun a_6 ha_6 hf => ?_)
        refine V_iload_n (pc' := 49) dX11_heaviest_48 rfl 2 rfl rfl ?_
        refine V_lald (pc' := 50) dX11_heaviest_49 rfl ha_6 hf (fun l_7 hf => ?_)
        refine V_aload_n (pc' := 51) dX11_heaviest_50 rfl 0 rfl rfl ?_
        refine V_getR (pc' := 54) 11 32 dX11_heaviest_51 rfl (by decide) (Nat.le_of_ble_eq_true rfl) bm_1256 hs0 (fun _ _ _ => rfl) rfl hf (fun a_8 ha_8 hf => ?_)
        refine V_iload_n (pc' := 55) dX11_heaviest_54 rfl 1 rfl rfl ?_
        refine V_lald (pc' := 56) dX11_heaviest_55 rfl ha_8 hf (fun l_9 hf => ?_)
        refine V_aload_n (pc' := 57) dX11_heaviest_56 rfl 0 rfl rfl ?_
        refine V_getR (pc' := 60) 11 33 dX11_heaviest_57 rfl (by decide) (Nat.le_of_ble_eq_true rfl) bm_1257 hs0 (fun _ _ _ => rfl) rfl hf (fun a_10 ha_10 hf => ?_)
        refine V_iload_n (pc' := 61) dX11_heaviest_60 rfl 1 rfl rfl ?_
        refine V_lald (pc' := 62) dX11_heaviest_61 rfl ha_10 hf (fun l_11 hf => ?_)
        refine V_cvI (pc' := 65) (As := [.long l_5, .long l_7, .long l_9, .long l_11]) (rest := []) dX11_heaviest_62 rfl mok_X11_isMore bm_1675 11 (by decide) rfl hs0 rfl rfl (Nat.le_of_ble_eq_true rfl) (by decide) hf (fun q e => ct_X11_isMore hs0 e) (fun q_12 hf => ?_)
        refine V_if_eq (tgt := 70) (pc' := 68) dX11_heaviest_65 (by decide) rfl hf (fun hf => ?_) (fun hf => ?_)
        ·
          exact V_sub (lv' := [(0, .ref a0), (1, .int p.1), (2, .int p.2)]) [0, 1, 2] rfl (v_X11_heaviest_70 hk13 hs0 hf)
        ·
          exact V_sub (lv' := [(0, .ref a0), (2, .int p.2)]) [0, 2] rfl (v_X11_heaviest_68 hk13 hs0 hf)
    ·
      exact V_sub (lv' := [(0, .ref a0), (1, .int p.1), (2, .int p.2)]) [0, 1, 2] rfl (v_X11_heaviest_70 hk13 hs0 hf)
  ·
    refine V_iload_n (pc' := 77) dX11_heaviest_76 rfl 1 rfl rfl ?_
    obtain rfl := Option.some.inj hf
    exact V_iret dX11_heaviest_77 rfl rfl rfl ⟨rfl, rfl, rfl⟩
theorem v_X11_heaviest_13 {l : Launch} {G : GE} {B N : Nat} {S : List SHP} {o : Int32 × MH} {a0 : Nat}    (hs0 : S[a0]? = some (.inl 11)) {n : Nat} {p : Int32 × Int32} {h : MH} (hf : f_X11_heaviest_13 a0 n p h = some o) : V l G B N mX11_heaviest (rmm 133 0 0) false 0 0 (QI S o) S 0 0 13 [(0, .ref a0), (1, .int p.1), (2, .int p.2)] [] h :=
  V_lp (VV := fun p h => V l G B N mX11_heaviest (rmm 133 0 0) false 0 0 (QI S o) S 0 0 13 [(0, .ref a0), (1, .int p.1), (2, .int p.2)] [] h) (fun _ hk _ _ hf => v_X11_heaviest_13b hs0 hk hf) n p h hf
set_option maxRecDepth 100000 in
set_option maxHeartbeats 4000000 in
theorem v_X11_heaviest {l : Launch} {G : GE} {B N : Nat} {S : List SHP} {o : Int32 × MH} {a0 : Nat}    (hs0 : S[a0]? = some (.inl 11)) {h : MH} (hf : f_X11_heaviest a0 h = some o) : V l G B N mX11_heaviest (rmm 133 0 0) false 0 0 (QI S o) S 0 0 0 [(0, .ref a0)] [] h := by
  unfold f_X11_heaviest at hf
  refine V_aload_n (pc' := 1) dX11_heaviest_0 rfl 0 rfl rfl ?_
  refine V_iconst (v := 0) (pc' := 2) dX11_heaviest_1 rfl (by decide) ?_
  refine V_putI (pc' := 5) 11 0 dX11_heaviest_2 rfl (by decide) (Nat.le_of_ble_eq_true rfl) bm_1224 hs0 (Or.inl rfl) rfl ?_
  refine V_nmH hf (fun h_1 hf => ?_)
  refine V_aload_n (pc' := 6) dX11_heaviest_5 rfl 0 rfl rfl ?_
  refine V_cvV (pc' := 9) (As := []) (rest := []) dX11_heaviest_6 rfl mok_X11_laysLoads bm_1663 11 (by decide) rfl hs0 rfl rfl (Nat.le_of_ble_eq_true rfl) (by decide) hf (fun q e => ct_X11_laysLoads hs0 e) (fun q_2 hf => ?_)
  refine V_iconst (v := (-1)) (pc' := 10) dX11_heaviest_9 rfl (by decide) ?_
  refine V_istore_n (lv' := [(1, .int (-1 : Int32)), (0, .ref a0)]) (pc' := 11) dX11_heaviest_10 rfl rfl (Nat.le_of_ble_eq_true rfl) rfl ?_
  refine V_iconst (v := 0) (pc' := 12) dX11_heaviest_11 rfl (by decide) ?_
  refine V_istore_n (lv' := [(2, .int 0), (1, .int (-1 : Int32)), (0, .ref a0)]) (pc' := 13) dX11_heaviest_12 rfl rfl (Nat.le_of_ble_eq_true rfl) rfl ?_
  exact V_sub (lv' := [(0, .ref a0), (1, .int (-1 : Int32)), (2, .int 0)]) [2, 1, 0] rfl (v_X11_heaviest_13 hs0 hf)
theorem ct_X11_heaviest {l : Launch} {S : List SHP} {h : MH} {a0 : Nat} (hs0 : S[a0]? = some (.inl 11)) {q : Int32 × MH} (hf : f_X11_heaviest a0 h = some q) : CT l mX11_heaviest 133 false 0 0 S [.ref a0] h (QI S q) :=
  CT_ofV (by decide) rfl (Nat.le_of_ble_eq_true rfl) (fun G B hT => v_X11_heaviest hs0 hf)
/-! LabelStacksModel.laysWithout(II)V -/
theorem dX11_laysWithout_0 : decode cX11_laysWithout 0 = .ok (.iconst 0, 1) := by decide +kernel
theorem dX11_laysWithout_1 : decode cX11_laysWithout 1 = .ok (.istore_n 3, 1) := by decide +kernel
theorem dX11_laysWithout_2 : decode cX11_laysWithout 2 = .ok (.iload_n 3, 1) := by decide +kernel
theorem dX11_laysWithout_3 : decode cX11_laysWithout 3 = .ok (.bipush 10, 2) := by decide +kernel
theorem dX11_laysWithout_5 : decode cX11_laysWithout 5 = .ok (.if_icmp .ge 26, 3) := by decide +kernel
theorem dX11_laysWithout_8 : decode cX11_laysWithout 8 = .ok (.aload_n 0, 1) := by decide +kernel
theorem dX11_laysWithout_9 : decode cX11_laysWithout 9 = .ok (.getfield 69, 3) := by decide +kernel
theorem dX11_laysWithout_12 : decode cX11_laysWithout 12 = .ok (.iload_n 3, 1) := by decide +kernel
theorem dX11_laysWithout_13 : decode cX11_laysWithout 13 = .ok (.iload_n 3, 1) := by decide +kernel
theorem dX11_laysWithout_14 : decode cX11_laysWithout 14 = .ok (.iload_n 2, 1) := by decide +kernel
theorem dX11_laysWithout_15 : decode cX11_laysWithout 15 = .ok (.if_icmp .ne 7, 3) := by decide +kernel
theorem dX11_laysWithout_18 : decode cX11_laysWithout 18 = .ok (.iconst 0, 1) := by decide +kernel
theorem dX11_laysWithout_19 : decode cX11_laysWithout 19 = .ok (.goto 5, 3) := by decide +kernel
theorem dX11_laysWithout_22 : decode cX11_laysWithout 22 = .ok (.ldc 181, 2) := by decide +kernel
theorem dX11_laysWithout_24 : decode cX11_laysWithout 24 = .ok (.iastore, 1) := by decide +kernel
theorem dX11_laysWithout_25 : decode cX11_laysWithout 25 = .ok (.iinc 3 1, 3) := by decide +kernel
theorem dX11_laysWithout_28 : decode cX11_laysWithout 28 = .ok (.goto (-26), 3) := by decide +kernel
theorem dX11_laysWithout_31 : decode cX11_laysWithout 31 = .ok (.iconst 0, 1) := by decide +kernel
theorem dX11_laysWithout_32 : decode cX11_laysWithout 32 = .ok (.istore_n 3, 1) := by decide +kernel
theorem dX11_laysWithout_33 : decode cX11_laysWithout 33 = .ok (.iload_n 3, 1) := by decide +kernel
theorem dX11_laysWithout_34 : decode cX11_laysWithout 34 = .ok (.aload_n 0, 1) := by decide +kernel
theorem dX11_laysWithout_35 : decode cX11_laysWithout 35 = .ok (.invokevirtual 87, 3) := by decide +kernel
theorem dX11_laysWithout_38 : decode cX11_laysWithout 38 = .ok (.if_icmp .ge 94, 3) := by decide +kernel
theorem dX11_laysWithout_41 : decode cX11_laysWithout 41 = .ok (.iconst 0, 1) := by decide +kernel
theorem dX11_laysWithout_42 : decode cX11_laysWithout 42 = .ok (.istore 4, 2) := by decide +kernel
theorem dX11_laysWithout_44 : decode cX11_laysWithout 44 = .ok (.iload 4, 2) := by decide +kernel
theorem dX11_laysWithout_46 : decode cX11_laysWithout 46 = .ok (.aload_n 0, 1) := by decide +kernel
theorem dX11_laysWithout_47 : decode cX11_laysWithout 47 = .ok (.invokevirtual 95, 3) := by decide +kernel
theorem dX11_laysWithout_50 : decode cX11_laysWithout 50 = .ok (.if_icmp .ge 76, 3) := by decide +kernel
theorem dX11_laysWithout_53 : decode cX11_laysWithout 53 = .ok (.iload 4, 2) := by decide +kernel
theorem dX11_laysWithout_55 : decode cX11_laysWithout 55 = .ok (.iload_n 1, 1) := by decide +kernel
theorem dX11_laysWithout_56 : decode cX11_laysWithout 56 = .ok (.if_icmp .eq 64, 3) := by decide +kernel
theorem dX11_laysWithout_59 : decode cX11_laysWithout 59 = .ok (.aload_n 0, 1) := by decide +kernel
theorem dX11_laysWithout_60 : decode cX11_laysWithout 60 = .ok (.iload 4, 2) := by decide +kernel
theorem dX11_laysWithout_62 : decode cX11_laysWithout 62 = .ok (.invokevirtual 129, 3) := by decide +kernel
theorem dX11_laysWithout_65 : decode cX11_laysWithout 65 = .ok (.ifCond .ne 6, 3) := by decide +kernel
theorem dX11_laysWithout_68 : decode cX11_laysWithout 68 = .ok (.goto 52, 3) := by decide +kernel
theorem dX11_laysWithout_71 : decode cX11_laysWithout 71 = .ok (.aload_n 0, 1) := by decide +kernel
theorem dX11_laysWithout_72 : decode cX11_laysWithout 72 = .ok (.iload 4, 2) := by decide +kernel
theorem dX11_laysWithout_74 : decode cX11_laysWithout 74 = .ok (.invokevirtual 132, 3) := by decide +kernel
theorem dX11_laysWithout_77 : decode cX11_laysWithout 77 = .ok (.aload_n 0, 1) := by decide +kernel
theorem dX11_laysWithout_78 : decode cX11_laysWithout 78 = .ok (.getfield 69, 3) := by decide +kernel
theorem dX11_laysWithout_81 : decode cX11_laysWithout 81 = .ok (.aload_n 0, 1) := by decide +kernel
theorem dX11_laysWithout_82 : decode cX11_laysWithout 82 = .ok (.iload 4, 2) := by decide +kernel
theorem dX11_laysWithout_84 : decode cX11_laysWithout 84 = .ok (.invokevirtual 158, 3) := by decide +kernel
theorem dX11_laysWithout_87 : decode cX11_laysWithout 87 = .ok (.iaload, 1) := by decide +kernel
theorem dX11_laysWithout_88 : decode cX11_laysWithout 88 = .ok (.iadd, 1) := by decide +kernel
theorem dX11_laysWithout_89 : decode cX11_laysWithout 89 = .ok (.istore 5, 2) := by decide +kernel
theorem dX11_laysWithout_91 : decode cX11_laysWithout 91 = .ok (.iload 5, 2) := by decide +kernel
theorem dX11_laysWithout_93 : decode cX11_laysWithout 93 = .ok (.aload_n 0, 1) := by decide +kernel
theorem dX11_laysWithout_94 : decode cX11_laysWithout 94 = .ok (.getfield 69, 3) := by decide +kernel
theorem dX11_laysWithout_97 : decode cX11_laysWithout 97 = .ok (.aload_n 0, 1) := by decide +kernel
theorem dX11_laysWithout_98 : decode cX11_laysWithout 98 = .ok (.iload 4, 2) := by decide +kernel
theorem dX11_laysWithout_100 : decode cX11_laysWithout 100 = .ok (.invokevirtual 161, 3) := by decide +kernel
theorem dX11_laysWithout_103 : decode cX11_laysWithout 103 = .ok (.iaload, 1) := by decide +kernel
theorem dX11_laysWithout_104 : decode cX11_laysWithout 104 = .ok (.if_icmp .ge 16, 3) := by decide +kernel
theorem dX11_laysWithout_107 : decode cX11_laysWithout 107 = .ok (.aload_n 0, 1) := by decide +kernel
theorem dX11_laysWithout_108 : decode cX11_laysWithout 108 = .ok (.getfield 69, 3) := by decide +kernel
theorem dX11_laysWithout_111 : decode cX11_laysWithout 111 = .ok (.aload_n 0, 1) := by decide +kernel
theorem dX11_laysWithout_112 : decode cX11_laysWithout 112 = .ok (.iload 4, 2) := by decide +kernel
theorem dX11_laysWithout_114 : decode cX11_laysWithout 114 = .ok (.invokevirtual 161, 3) := by decide +kernel
theorem dX11_laysWithout_117 : decode cX11_laysWithout 117 = .ok (.iload 5, 2) := by decide +kernel
theorem dX11_laysWithout_119 : decode cX11_laysWithout 119 = .ok (.iastore, 1) := by decide +kernel
theorem dX11_laysWithout_120 : decode cX11_laysWithout 120 = .ok (.iinc 4 1, 3) := by decide +kernel
theorem dX11_laysWithout_123 : decode cX11_laysWithout 123 = .ok (.goto (-79), 3) := by decide +kernel
theorem dX11_laysWithout_126 : decode cX11_laysWithout 126 = .ok (.iinc 3 1, 3) := by decide +kernel
theorem dX11_laysWithout_129 : decode cX11_laysWithout 129 = .ok (.goto (-96), 3) := by decide +kernel
theorem dX11_laysWithout_132 : decode cX11_laysWithout 132 = .ok (.return_, 1) := by decide +kernel
abbrev mX11_laysWithout : MI := (RX11, yX11_laysWithout, cX11_laysWithout, 6, none)
theorem mok_X11_laysWithout : MOKv mX11_laysWithout 2 := ⟨⟨bm_1690, bm_127, ⟨by decide, by decide⟩, by decide +kernel⟩, bm_1689, bm_92⟩
def f_X11_laysWithout_120  (k33 : Int32 → MH → Option (MH)) (k44 : Int32 → MH → Option (MH)) (a0 : Nat) (x1 : Int32) (x3 : Int32) (x4 : Int32) (h : MH) : Option (MH) :=
  k44 (x4 + 1) h
def f_X11_laysWithout_44b  (k33 : Int32 → MH → Option (MH)) (a0 : Nat) (x1 : Int32) (x3 : Int32) (k44 : Int32 → MH → Option (MH)) (p : Int32) (h : MH) : Option (MH) :=
  (f_X11_links a0 h).bind fun q_1 =>
  if p < q_1.1 then
    if p = x1 then
      f_X11_laysWithout_120 k33 k44 a0 x1 x3 p q_1.2
    else
      (f_X11_isUp a0 p q_1.2).bind fun q_2 =>
      if q_2.1 = 0 then
        f_X11_laysWithout_120 k33 k44 a0 x1 x3 p q_2.2
      else
        (f_X11_costOf a0 p q_2.2).bind fun q_3 =>
        (gR q_3.2 a0 34).bind fun a_4 =>
        (f_X11_to a0 p q_3.2).bind fun q_5 =>
        (ldI q_5.2 a_4 q_5.1).bind fun x_6 =>
        lt (q_3.1 + x_6) fun x_7 =>
        (gR q_5.2 a0 34).bind fun a_8 =>
        (f_X11_from a0 p q_5.2).bind fun q_9 =>
        (ldI q_9.2 a_8 q_9.1).bind fun x_10 =>
        if x_7 < x_10 then
          (gR q_9.2 a0 34).bind fun a_11 =>
          (f_X11_from a0 p q_9.2).bind fun q_12 =>
          (stI q_12.2 a_11 q_12.1 x_7).bind fun h_13 =>
          f_X11_laysWithout_120 k33 k44 a0 x1 x3 p h_13
        else
          f_X11_laysWithout_120 k33 k44 a0 x1 x3 p q_9.2
  else
    k33 (x3 + 1) q_1.2
def f_X11_laysWithout_44  (k33 : Int32 → MH → Option (MH)) (a0 : Nat) (x1 : Int32) (x3 : Int32) : Nat → Int32 → MH → Option (MH) := lp (f_X11_laysWithout_44b k33 a0 x1 x3)
def f_X11_laysWithout_33b   (a0 : Nat) (x1 : Int32) (k33 : Int32 → MH → Option (MH)) (p : Int32) (h : MH) : Option (MH) :=
  (f_X11_n a0 h).bind fun q_1 =>
  if p < q_1.1 then
    f_X11_laysWithout_44 k33 a0 x1 p FU 0 q_1.2
  else
    some q_1.2
def f_X11_laysWithout_33   (a0 : Nat) (x1 : Int32) : Nat → Int32 → MH → Option (MH) := lp (f_X11_laysWithout_33b a0 x1)
def f_X11_laysWithout_24  (k2 : Int32 → MH → Option (MH)) (a0 : Nat) (x1 : Int32) (x2 : Int32) (x3 : Int32) (t0 : Nat) (t1 : Int32) (t2 : Int32) (h : MH) : Option (MH) :=
  (stI h t0 t1 t2).bind fun h_1 =>
  k2 (x3 + 1) h_1
def f_X11_laysWithout_2b   (a0 : Nat) (x1 : Int32) (x2 : Int32) (k2 : Int32 → MH → Option (MH)) (p : Int32) (h : MH) : Option (MH) :=
  if p < 10 then
    (gR h a0 34).bind fun a_1 =>
    if p = x2 then
      f_X11_laysWithout_24 k2 a0 x1 x2 p a_1 p 0 h
    else
      f_X11_laysWithout_24 k2 a0 x1 x2 p a_1 p 1000000 h
  else
    f_X11_laysWithout_33 a0 x1 FU 0 h
def f_X11_laysWithout_2   (a0 : Nat) (x1 : Int32) (x2 : Int32) : Nat → Int32 → MH → Option (MH) := lp (f_X11_laysWithout_2b a0 x1 x2)
def f_X11_laysWithout   (a0 : Nat) (x1 : Int32) (x2 : Int32) (h : MH) : Option (MH) :=
  f_X11_laysWithout_2 a0 x1 x2 FU 0 h
set_option maxRecDepth 100000 in
set_option maxHeartbeats 4000000 in
theorem v_X11_laysWithout_120 {l : Launch} {G : GE} {B N : Nat} {S : List SHP} {o : MH} {a0 : Nat} {x1 : Int32} {x3 : Int32} {x4 : Int32}  {k33 : Int32 → MH → Option (MH)} {k44 : Int32 → MH → Option (MH)} (hk33 : ∀ (p : Int32) (h : MH), k33 p h = some o → V l G B N mX11_laysWithout (rmm 4 0 0) false 0 0 (QV S o) S 0 0 33 [(0, .ref a0), (1, .int x1), (3, .int p)] [] h) (hk44 : ∀ (p : Int32) (h : MH), k44 p h = some o → V l G B N mX11_laysWithout (rmm 4 0 0) false 0 0 (QV S o) S 0 0 44 [(0, .ref a0), (1, .int x1), (3, .int x3), (4, .int p)] [] h) (hs0 : S[a0]? = some (.inl 11)) {h : MH} (hf : f_X11_laysWithout_120 k33 k44 a0 x1 x3 x4 h = some o) : V l G B N mX11_laysWithout (rmm 4 0 0) false 0 0 (QV S o) S 0 0 120 [(0, .ref a0), (1, .int x1), (3, .int x3), (4, .int x4)] [] h := by
  unfold f_X11_laysWithout_120 at hf
  refine V_iinc (v := (x4 + 1)) (lv' := [(4, .int (x4 + 1)), (0, .ref a0), (1, .int x1), (3, .int x3)]) (pc' := 123) dX11_laysWithout_120 rfl 3 rfl rfl (Nat.le_of_ble_eq_true rfl) rfl ?_
  refine V_goto (tgt := 44) dX11_laysWithout_123 (by decide) ?_
  exact V_sub (lv' := [(0, .ref a0), (1, .int x1), (3, .int x3), (4, .int (x4 + 1))]) [1, 2, 3, 0] rfl (hk44 (x4 + 1) h hf)
set_option maxRecDepth 100000 in
set_option maxHeartbeats 4000000 in
theorem v_X11_laysWithout_44b {l : Launch} {G : GE} {B N : Nat} {S : List SHP} {o : MH} {a0 : Nat} {x1 : Int32} {x3 : Int32}  {k33 : Int32 → MH → Option (MH)} (hk33 : ∀ (p : Int32) (h : MH), k33 p h = some o → V l G B N mX11_laysWithout (rmm 4 0 0) false 0 0 (QV S o) S 0 0 33 [(0, .ref a0), (1, .int x1), (3, .int p)] [] h) (hs0 : S[a0]? = some (.inl 11)) {k44 : Int32 → MH → Option (MH)} (hk44 : ∀ (p : Int32) (h : MH), k44 p h = some o → V l G B N mX11_laysWithout (rmm 4 0 0) false 0 0 (QV S o) S 0 0 44 [(0, .ref a0), (1, .int x1), (3, .int x3), (4, .int p)] [] h) {p : Int32} {h : MH} (hf : f_X11_laysWithout_44b k33 a0 x1 x3 k44 p h = some o) : V l G B N mX11_laysWithout (rmm 4 0 0) false 0 0 (QV S o) S 0 0 44 [(0, .ref a0), (1, .int x1), (3, .int x3), (4, .int p)] [] h := by
  unfold f_X11_laysWithout_44b at hf
  refine V_iload (pc' := 46) dX11_laysWithout_44 rfl 3 rfl ?_
  refine V_aload_n (pc' := 47) dX11_laysWithout_46 rfl 0 rfl rfl ?_
  refine V_cvI (pc' := 50) (As := []) (rest := [.int p]) dX11_laysWithout_47 rfl mok_X11_links bm_1398 11 (by decide) rfl hs0 rfl rfl (Nat.le_of_ble_eq_true rfl) (by decide) hf (fun q e => ct_X11_links hs0 e) (fun q_1 hf => ?_)
  refine V_icmp_ge (tgt := 126) (pc' := 53) dX11_laysWithout_50 (by decide) rfl hf (fun hf => ?_) (fun hf => ?_)
  ·
    refine V_iload (pc' := 55) dX11_laysWithout_53 rfl 3 rfl ?_
    refine V_iload_n (pc' := 56) dX11_laysWithout_55 rfl 1 rfl rfl ?_
    refine V_icmp_eq (tgt := 120) (pc' := 59) dX11_laysWithout_56 (by decide) rfl hf (fun hf => ?_) (fun hf => ?_)
    ·
      exact V_sub (lv' := [(0, .ref a0), (1, .int x1), (3, .int x3), (4, .int p)]) [0, 1, 2, 3] rfl (v_X11_laysWithout_120 hk33 hk44 hs0 hf)
    ·
      refine V_aload_n (pc' := 60) dX11_laysWithout_59 rfl 0 rfl rfl ?_
      refine V_iload (pc' := 62) dX11_laysWithout_60 rfl 3 rfl ?_
      refine V_cvI (pc' := 65) (As := [.int p]) (rest := []) dX11_laysWithout_62 rfl mok_X11_isUp bm_1414 11 (by decide) rfl hs0 rfl rfl (Nat.le_of_ble_eq_true rfl) (by decide) hf (fun q e => ct_X11_isUp hs0 e) (fun q_2 hf => ?_)
      refine V_if_ne (tgt := 71) (pc' := 68) dX11_laysWithout_65 (by decide) rfl hf (fun hf => ?_) (fun hf => ?_)
      ·
        refine V_goto (tgt := 120) dX11_laysWithout_68 (by decide) ?_
        exact V_sub (lv' := [(0, .ref a0), (1, .int x1), (3, .int x3), (4, .int p)]) [0, 1, 2, 3] rfl (v_X11_laysWithout_120 hk33 hk44 hs0 hf)
      ·
        refine V_aload_n (pc' := 72) dX11_laysWithout_71 rfl 0 rfl rfl ?_
        refine V_iload (pc' := 74) dX11_laysWithout_72 rfl 3 rfl ?_
        refine V_cvI (pc' := 77) (As := [.int p]) (rest := []) dX11_laysWithout_74 rfl mok_X11_costOf bm_1422 11 (by decide) rfl hs0 rfl rfl (Nat.le_of_ble_eq_true rfl) (by decide) hf (fun q e => ct_X11_costOf hs0 e) (fun q_3 hf => ?_)
        refine V_aload_n (pc' := 78) dX11_laysWithout_77 rfl 0 rfl rfl ?_
        refine V_getR (pc' := 81) 11 34 dX11_laysWithout_78 rfl (by decide) (Nat.le_of_ble_eq_true rfl) bm_1258 hs0 (fun _ _ _ => rfl) rfl hf (fun a_4 ha_4 hf => ?_)
        refine V_aload_n (pc' := 82) dX11_laysWithout_81 rfl 0 rfl rfl ?_
        refine V_iload (pc' := 84) dX11_laysWithout_82 rfl 3 rfl ?_
        refine V_cvI (pc' := 87) (As := [.int p]) (rest := [.ref a_4, .int q_3.1]) dX11_laysWithout_84 rfl mok_X11_to bm_1461 11 (by decide) rfl hs0 rfl rfl (Nat.le_of_ble_eq_true rfl) (by decide) hf (fun q e => ct_X11_to hs0 e) (fun q_5 hf => ?_)
        refine V_iald (pc' := 88) dX11_laysWithout_87 rfl ha_4 hf (fun x_6 hf => ?_)
        refine V_iadd (pc' := 89) dX11_laysWithout_88 rfl ?_
        refine V_nmI hf (fun x_7 hf => ?_)
        refine V_istore (lv' := [(5, .int x_7), (0, .ref a0), (1, .int x1), (3, .int x3), (4, .int p)]) (pc' := 91) dX11_laysWithout_89 rfl (Nat.le_of_ble_eq_true rfl) rfl ?_
        refine V_iload (pc' := 93) dX11_laysWithout_91 rfl 0 rfl ?_
        refine V_aload_n (pc' := 94) dX11_laysWithout_93 rfl 1 rfl rfl ?_
        refine V_getR (pc' := 97) 11 34 dX11_laysWithout_94 rfl (by decide) (Nat.le_of_ble_eq_true rfl) bm_1258 hs0 (fun _ _ _ => rfl) rfl hf (fun a_8 ha_8 hf => ?_)
        refine V_aload_n (pc' := 98) dX11_laysWithout_97 rfl 1 rfl rfl ?_
        refine V_iload (pc' := 100) dX11_laysWithout_98 rfl 4 rfl ?_
        refine V_cvI (pc' := 103) (As := [.int p]) (rest := [.ref a_8, .int x_7]) dX11_laysWithout_100 rfl mok_X11_from bm_1465 11 (by decide) rfl hs0 rfl rfl (Nat.le_of_ble_eq_true rfl) (by decide) hf (fun q e => ct_X11_from hs0 e) (fun q_9 hf => ?_)
        refine V_iald (pc' := 104) dX11_laysWithout_103 rfl ha_8 hf (fun x_10 hf => ?_)
        refine V_icmp_ge (tgt := 120) (pc' := 107) dX11_laysWithout_104 (by decide) rfl hf (fun hf => ?_) (fun hf => ?_)
        ·
          refine V_aload_n (pc' := 108) dX11_laysWithout_107 rfl 1 rfl rfl ?_
          refine V_getR (pc' := 111) 11 34 dX11_laysWithout_108 rfl (by decide) (Nat.le_of_ble_eq_true rfl) bm_1258 hs0 (fun _ _ _ => rfl) rfl hf (fun a_11 ha_11 hf => ?_)
          refine V_aload_n (pc' := 112) dX11_laysWithout_111 rfl 1 rfl rfl ?_
          refine V_iload (pc' := 114) dX11_laysWithout_112 rfl 4 rfl ?_
          refine V_cvI (pc' := 117) (As := [.int p]) (rest := [.ref a_11]) dX11_laysWithout_114 rfl mok_X11_from bm_1465 11 (by decide) rfl hs0 rfl rfl (Nat.le_of_ble_eq_true rfl) (by decide) hf (fun q e => ct_X11_from hs0 e) (fun q_12 hf => ?_)
          refine V_iload (pc' := 119) dX11_laysWithout_117 rfl 0 rfl ?_
          refine V_iast (pc' := 120) dX11_laysWithout_119 rfl ha_11 hf (fun h_13 hf => ?_)
          exact V_sub (lv' := [(0, .ref a0), (1, .int x1), (3, .int x3), (4, .int p)]) [1, 2, 3, 4] rfl (v_X11_laysWithout_120 hk33 hk44 hs0 hf)
        ·
          exact V_sub (lv' := [(0, .ref a0), (1, .int x1), (3, .int x3), (4, .int p)]) [1, 2, 3, 4] rfl (v_X11_laysWithout_120 hk33 hk44 hs0 hf)
  ·
    refine V_iinc (v := (x3 + 1)) (lv' := [(3, .int (x3 + 1)), (0, .ref a0), (1, .int x1), (4, .int p)]) (pc' := 129) dX11_laysWithout_126 rfl 2 rfl rfl (Nat.le_of_ble_eq_true rfl) rfl ?_
    refine V_goto (tgt := 33) dX11_laysWithout_129 (by decide) ?_
    exact V_sub (lv' := [(0, .ref a0), (1, .int x1), (3, .int (x3 + 1))]) [1, 2, 0] rfl (hk33 (x3 + 1) q_1.2 hf)
theorem v_X11_laysWithout_44 {l : Launch} {G : GE} {B N : Nat} {S : List SHP} {o : MH} {a0 : Nat} {x1 : Int32} {x3 : Int32}  {k33 : Int32 → MH → Option (MH)} (hk33 : ∀ (p : Int32) (h : MH), k33 p h = some o → V l G B N mX11_laysWithout (rmm 4 0 0) false 0 0 (QV S o) S 0 0 33 [(0, .ref a0), (1, .int x1), (3, .int p)] [] h) (hs0 : S[a0]? = some (.inl 11)) {n : Nat} {p : Int32} {h : MH} (hf : f_X11_laysWithout_44 k33 a0 x1 x3 n p h = some o) : V l G B N mX11_laysWithout (rmm 4 0 0) false 0 0 (QV S o) S 0 0 44 [(0, .ref a0), (1, .int x1), (3, .int x3), (4, .int p)] [] h :=
  V_lp (VV := fun p h => V l G B N mX11_laysWithout (rmm 4 0 0) false 0 0 (QV S o) S 0 0 44 [(0, .ref a0), (1, .int x1), (3, .int x3), (4, .int p)] [] h) (fun _ hk _ _ hf => v_X11_laysWithout_44b hk33 hs0 hk hf) n p h hf
set_option maxRecDepth 100000 in
set_option maxHeartbeats 4000000 in
theorem v_X11_laysWithout_33b {l : Launch} {G : GE} {B N : Nat} {S : List SHP} {o : MH} {a0 : Nat} {x1 : Int32}    (hs0 : S[a0]? = some (.inl 11)) {k33 : Int32 → MH → Option (MH)} (hk33 : ∀ (p : Int32) (h : MH), k33 p h = some o → V l G B N mX11_laysWithout (rmm 4 0 0) false 0 0 (QV S o) S 0 0 33 [(0, .ref a0), (1, .int x1), (3, .int p)] [] h) {p : Int32} {h : MH} (hf : f_X11_laysWithout_33b a0 x1 k33 p h = some o) : V l G B N mX11_laysWithout (rmm 4 0 0) false 0 0 (QV S o) S 0 0 33 [(0, .ref a0), (1, .int x1), (3, .int p)] [] h := by
  unfold f_X11_laysWithout_33b at hf
  refine V_iload_n (pc' := 34) dX11_laysWithout_33 rfl 2 rfl rfl ?_
  refine V_aload_n (pc' := 35) dX11_laysWithout_34 rfl 0 rfl rfl ?_
  refine V_cvI (pc' := 38) (As := []) (rest := [.int p]) dX11_laysWithout_35 rfl mok_X11_n bm_1393 11 (by decide) rfl hs0 rfl rfl (Nat.le_of_ble_eq_true rfl) (by decide) hf (fun q e => ct_X11_n hs0 e) (fun q_1 hf => ?_)
  refine V_icmp_ge (tgt := 132) (pc' := 41) dX11_laysWithout_38 (by decide) rfl hf (fun hf => ?_) (fun hf => ?_)
  ·
    refine V_iconst (v := 0) (pc' := 42) dX11_laysWithout_41 rfl (by decide) ?_
    refine V_istore (lv' := [(4, .int 0), (0, .ref a0), (1, .int x1), (3, .int p)]) (pc' := 44) dX11_laysWithout_42 rfl (Nat.le_of_ble_eq_true rfl) rfl ?_
    exact V_sub (lv' := [(0, .ref a0), (1, .int x1), (3, .int p), (4, .int 0)]) [1, 2, 3, 0] rfl (v_X11_laysWithout_44 hk33 hs0 hf)
  ·
    obtain rfl := Option.some.inj hf
    exact V_vret dX11_laysWithout_132 rfl rfl rfl ⟨rfl, rfl, rfl⟩
theorem v_X11_laysWithout_33 {l : Launch} {G : GE} {B N : Nat} {S : List SHP} {o : MH} {a0 : Nat} {x1 : Int32}    (hs0 : S[a0]? = some (.inl 11)) {n : Nat} {p : Int32} {h : MH} (hf : f_X11_laysWithout_33 a0 x1 n p h = some o) : V l G B N mX11_laysWithout (rmm 4 0 0) false 0 0 (QV S o) S 0 0 33 [(0, .ref a0), (1, .int x1), (3, .int p)] [] h :=
  V_lp (VV := fun p h => V l G B N mX11_laysWithout (rmm 4 0 0) false 0 0 (QV S o) S 0 0 33 [(0, .ref a0), (1, .int x1), (3, .int p)] [] h) (fun _ hk _ _ hf => v_X11_laysWithout_33b hs0 hk hf) n p h hf
set_option maxRecDepth 100000 in
set_option maxHeartbeats 4000000 in
theorem v_X11_laysWithout_24 {l : Launch} {G : GE} {B N : Nat} {S : List SHP} {o : MH} {a0 : Nat} {x1 : Int32} {x2 : Int32} {x3 : Int32} {t0 : Nat} {t1 : Int32} {t2 : Int32}  {k2 : Int32 → MH → Option (MH)} (hk2 : ∀ (p : Int32) (h : MH), k2 p h = some o → V l G B N mX11_laysWithout (rmm 4 0 0) false 0 0 (QV S o) S 0 0 2 [(0, .ref a0), (1, .int x1), (2, .int x2), (3, .int p)] [] h) (hs0 : S[a0]? = some (.inl 11)) (ht0 : S[t0]? = some (.inr 0)) {h : MH} (hf : f_X11_laysWithout_24 k2 a0 x1 x2 x3 t0 t1 t2 h = some o) : V l G B N mX11_laysWithout (rmm 4 0 0) false 0 0 (QV S o) S 0 0 24 [(0, .ref a0), (1, .int x1), (2, .int x2), (3, .int x3)] [.int t2, .int t1, .ref t0] h := by
  unfold f_X11_laysWithout_24 at hf
  refine V_iast (pc' := 25) dX11_laysWithout_24 rfl ht0 hf (fun h_1 hf => ?_)
  refine V_iinc (v := (x3 + 1)) (lv' := [(3, .int (x3 + 1)), (0, .ref a0), (1, .int x1), (2, .int x2)]) (pc' := 28) dX11_laysWithout_25 rfl 3 rfl rfl (Nat.le_of_ble_eq_true rfl) rfl ?_
  refine V_goto (tgt := 2) dX11_laysWithout_28 (by decide) ?_
  exact V_sub (lv' := [(0, .ref a0), (1, .int x1), (2, .int x2), (3, .int (x3 + 1))]) [1, 2, 3, 0] rfl (hk2 (x3 + 1) h_1 hf)
set_option maxRecDepth 100000 in
set_option maxHeartbeats 4000000 in
theorem v_X11_laysWithout_2b {l : Launch} {G : GE} {B N : Nat} {S : List SHP} {o : MH} {a0 : Nat} {x1 : Int32} {x2 : Int32}    (hs0 : S[a0]? = some (.inl 11)) {k2 : Int32 → MH → Option (MH)} (hk2 : ∀ (p : Int32) (h : MH), k2 p h = some o → V l G B N mX11_laysWithout (rmm 4 0 0) false 0 0 (QV S o) S 0 0 2 [(0, .ref a0), (1, .int x1), (2, .int x2), (3, .int p)] [] h) {p : Int32} {h : MH} (hf : f_X11_laysWithout_2b a0 x1 x2 k2 p h = some o) : V l G B N mX11_laysWithout (rmm 4 0 0) false 0 0 (QV S o) S 0 0 2 [(0, .ref a0), (1, .int x1), (2, .int x2), (3, .int p)] [] h := by
  unfold f_X11_laysWithout_2b at hf
  refine V_iload_n (pc' := 3) dX11_laysWithout_2 rfl 3 rfl rfl ?_
  refine V_bipush (v := 10) (pc' := 5) dX11_laysWithout_3 rfl (by decide) ?_
  refine V_icmp_ge (tgt := 31) (pc' := 8) dX11_laysWithout_5 (by decide) rfl hf (fun hf => ?_) (fun hf => ?_)
  ·
    refine V_aload_n (pc' := 9) dX11_laysWithout_8 rfl 0 rfl rfl ?_
    refine V_getR (pc' := 12) 11 34 dX11_laysWithout_9 rfl (by decide) (Nat.le_of_ble_eq_true rfl) bm_1258 hs0 (fun _ _ _ => rfl) rfl hf (fun a_1 ha_1 hf => ?_)
    refine V_iload_n (pc' := 13) dX11_laysWithout_12 rfl 3 rfl rfl ?_
    refine V_iload_n (pc' := 14) dX11_laysWithout_13 rfl 3 rfl rfl ?_
    refine V_iload_n (pc' := 15) dX11_laysWithout_14 rfl 2 rfl rfl ?_
    refine V_icmp_ne (tgt := 22) (pc' := 18) dX11_laysWithout_15 (by decide) rfl hf (fun hf => ?_) (fun hf => ?_)
    ·
      refine V_iconst (v := 0) (pc' := 19) dX11_laysWithout_18 rfl (by decide) ?_
      refine V_goto (tgt := 24) dX11_laysWithout_19 (by decide) ?_
      exact V_sub (lv' := [(0, .ref a0), (1, .int x1), (2, .int x2), (3, .int p)]) [0, 1, 2, 3] rfl (v_X11_laysWithout_24 hk2 hs0 ha_1 hf)
    ·
      refine V_ldc (v := 1000000) (pc' := 24) dX11_laysWithout_22 rfl bm_1498 ?_
      exact V_sub (lv' := [(0, .ref a0), (1, .int x1), (2, .int x2), (3, .int p)]) [0, 1, 2, 3] rfl (v_X11_laysWithout_24 hk2 hs0 ha_1 hf)
  ·
    refine V_iconst (v := 0) (pc' := 32) dX11_laysWithout_31 rfl (by decide) ?_
    refine V_istore_n (lv' := [(3, .int 0), (0, .ref a0), (1, .int x1), (2, .int x2)]) (pc' := 33) dX11_laysWithout_32 rfl rfl (Nat.le_of_ble_eq_true rfl) rfl ?_
    exact V_sub (lv' := [(0, .ref a0), (1, .int x1), (3, .int 0)]) [1, 2, 0] rfl (v_X11_laysWithout_33 hs0 hf)
theorem v_X11_laysWithout_2 {l : Launch} {G : GE} {B N : Nat} {S : List SHP} {o : MH} {a0 : Nat} {x1 : Int32} {x2 : Int32}    (hs0 : S[a0]? = some (.inl 11)) {n : Nat} {p : Int32} {h : MH} (hf : f_X11_laysWithout_2 a0 x1 x2 n p h = some o) : V l G B N mX11_laysWithout (rmm 4 0 0) false 0 0 (QV S o) S 0 0 2 [(0, .ref a0), (1, .int x1), (2, .int x2), (3, .int p)] [] h :=
  V_lp (VV := fun p h => V l G B N mX11_laysWithout (rmm 4 0 0) false 0 0 (QV S o) S 0 0 2 [(0, .ref a0), (1, .int x1), (2, .int x2), (3, .int p)] [] h) (fun _ hk _ _ hf => v_X11_laysWithout_2b hs0 hk hf) n p h hf
set_option maxRecDepth 100000 in
set_option maxHeartbeats 4000000 in
theorem v_X11_laysWithout {l : Launch} {G : GE} {B N : Nat} {S : List SHP} {o : MH} {a0 : Nat} {x1 : Int32} {x2 : Int32}    (hs0 : S[a0]? = some (.inl 11)) {h : MH} (hf : f_X11_laysWithout a0 x1 x2 h = some o) : V l G B N mX11_laysWithout (rmm 4 0 0) false 0 0 (QV S o) S 0 0 0 [(0, .ref a0), (1, .int x1), (2, .int x2)] [] h := by
  unfold f_X11_laysWithout at hf
  refine V_iconst (v := 0) (pc' := 1) dX11_laysWithout_0 rfl (by decide) ?_
  refine V_istore_n (lv' := [(3, .int 0), (0, .ref a0), (1, .int x1), (2, .int x2)]) (pc' := 2) dX11_laysWithout_1 rfl rfl (Nat.le_of_ble_eq_true rfl) rfl ?_
  exact V_sub (lv' := [(0, .ref a0), (1, .int x1), (2, .int x2), (3, .int 0)]) [1, 2, 3, 0] rfl (v_X11_laysWithout_2 hs0 hf)
theorem ct_X11_laysWithout {l : Launch} {S : List SHP} {h : MH} {a0 : Nat} {x1 : Int32} {x2 : Int32} (hs0 : S[a0]? = some (.inl 11)) {q : MH} (hf : f_X11_laysWithout a0 x1 x2 h = some q) : CT l mX11_laysWithout 4 false 0 0 S [.ref a0, .int x1, .int x2] h (QV S q) :=
  CT_ofV (by decide) rfl (Nat.le_of_ble_eq_true rfl) (fun G B hT => v_X11_laysWithout hs0 hf)
/-! LabelStacksModel.laysRepair(II)Z -/
theorem dX11_laysRepair_0 : decode cX11_laysRepair 0 = .ok (.aload_n 0, 1) := by decide +kernel
theorem dX11_laysRepair_1 : decode cX11_laysRepair 1 = .ok (.iload_n 1, 1) := by decide +kernel
theorem dX11_laysRepair_2 : decode cX11_laysRepair 2 = .ok (.iload_n 2, 1) := by decide +kernel
theorem dX11_laysRepair_3 : decode cX11_laysRepair 3 = .ok (.invokevirtual 327, 3) := by decide +kernel
theorem dX11_laysRepair_6 : decode cX11_laysRepair 6 = .ok (.aload_n 0, 1) := by decide +kernel
theorem dX11_laysRepair_7 : decode cX11_laysRepair 7 = .ok (.iload_n 1, 1) := by decide +kernel
theorem dX11_laysRepair_8 : decode cX11_laysRepair 8 = .ok (.invokevirtual 161, 3) := by decide +kernel
theorem dX11_laysRepair_11 : decode cX11_laysRepair 11 = .ok (.istore_n 3, 1) := by decide +kernel
theorem dX11_laysRepair_12 : decode cX11_laysRepair 12 = .ok (.aload_n 0, 1) := by decide +kernel
theorem dX11_laysRepair_13 : decode cX11_laysRepair 13 = .ok (.getfield 69, 3) := by decide +kernel
theorem dX11_laysRepair_16 : decode cX11_laysRepair 16 = .ok (.iload_n 3, 1) := by decide +kernel
theorem dX11_laysRepair_17 : decode cX11_laysRepair 17 = .ok (.iaload, 1) := by decide +kernel
theorem dX11_laysRepair_18 : decode cX11_laysRepair 18 = .ok (.ldc 181, 2) := by decide +kernel
theorem dX11_laysRepair_20 : decode cX11_laysRepair 20 = .ok (.if_icmp .ge 8, 3) := by decide +kernel
theorem dX11_laysRepair_23 : decode cX11_laysRepair 23 = .ok (.iload_n 3, 1) := by decide +kernel
theorem dX11_laysRepair_24 : decode cX11_laysRepair 24 = .ok (.iload_n 2, 1) := by decide +kernel
theorem dX11_laysRepair_25 : decode cX11_laysRepair 25 = .ok (.if_icmp .ne 5, 3) := by decide +kernel
theorem dX11_laysRepair_28 : decode cX11_laysRepair 28 = .ok (.iconst 0, 1) := by decide +kernel
theorem dX11_laysRepair_29 : decode cX11_laysRepair 29 = .ok (.ireturn, 1) := by decide +kernel
theorem dX11_laysRepair_30 : decode cX11_laysRepair 30 = .ok (.aload_n 0, 1) := by decide +kernel
theorem dX11_laysRepair_31 : decode cX11_laysRepair 31 = .ok (.iconst 0, 1) := by decide +kernel
theorem dX11_laysRepair_32 : decode cX11_laysRepair 32 = .ok (.putfield 275, 3) := by decide +kernel
theorem dX11_laysRepair_35 : decode cX11_laysRepair 35 = .ok (.iload_n 3, 1) := by decide +kernel
theorem dX11_laysRepair_36 : decode cX11_laysRepair 36 = .ok (.iload_n 2, 1) := by decide +kernel
theorem dX11_laysRepair_37 : decode cX11_laysRepair 37 = .ok (.if_icmp .eq 98, 3) := by decide +kernel
theorem dX11_laysRepair_40 : decode cX11_laysRepair 40 = .ok (.iconst 0, 1) := by decide +kernel
theorem dX11_laysRepair_41 : decode cX11_laysRepair 41 = .ok (.istore 4, 2) := by decide +kernel
theorem dX11_laysRepair_43 : decode cX11_laysRepair 43 = .ok (.iload 4, 2) := by decide +kernel
theorem dX11_laysRepair_45 : decode cX11_laysRepair 45 = .ok (.iload_n 1, 1) := by decide +kernel
theorem dX11_laysRepair_46 : decode cX11_laysRepair 46 = .ok (.if_icmp .eq 49, 3) := by decide +kernel
theorem dX11_laysRepair_49 : decode cX11_laysRepair 49 = .ok (.aload_n 0, 1) := by decide +kernel
theorem dX11_laysRepair_50 : decode cX11_laysRepair 50 = .ok (.iload 4, 2) := by decide +kernel
theorem dX11_laysRepair_52 : decode cX11_laysRepair 52 = .ok (.invokevirtual 129, 3) := by decide +kernel
theorem dX11_laysRepair_55 : decode cX11_laysRepair 55 = .ok (.ifCond .eq 40, 3) := by decide +kernel
theorem dX11_laysRepair_58 : decode cX11_laysRepair 58 = .ok (.aload_n 0, 1) := by decide +kernel
theorem dX11_laysRepair_59 : decode cX11_laysRepair 59 = .ok (.iload 4, 2) := by decide +kernel
theorem dX11_laysRepair_61 : decode cX11_laysRepair 61 = .ok (.invokevirtual 161, 3) := by decide +kernel
theorem dX11_laysRepair_64 : decode cX11_laysRepair 64 = .ok (.iload_n 3, 1) := by decide +kernel
theorem dX11_laysRepair_65 : decode cX11_laysRepair 65 = .ok (.if_icmp .ne 30, 3) := by decide +kernel
theorem dX11_laysRepair_68 : decode cX11_laysRepair 68 = .ok (.aload_n 0, 1) := by decide +kernel
theorem dX11_laysRepair_69 : decode cX11_laysRepair 69 = .ok (.iload 4, 2) := by decide +kernel
theorem dX11_laysRepair_71 : decode cX11_laysRepair 71 = .ok (.invokevirtual 132, 3) := by decide +kernel
theorem dX11_laysRepair_74 : decode cX11_laysRepair 74 = .ok (.aload_n 0, 1) := by decide +kernel
theorem dX11_laysRepair_75 : decode cX11_laysRepair 75 = .ok (.getfield 69, 3) := by decide +kernel
theorem dX11_laysRepair_78 : decode cX11_laysRepair 78 = .ok (.aload_n 0, 1) := by decide +kernel
theorem dX11_laysRepair_79 : decode cX11_laysRepair 79 = .ok (.iload 4, 2) := by decide +kernel
theorem dX11_laysRepair_81 : decode cX11_laysRepair 81 = .ok (.invokevirtual 158, 3) := by decide +kernel
theorem dX11_laysRepair_84 : decode cX11_laysRepair 84 = .ok (.iaload, 1) := by decide +kernel
theorem dX11_laysRepair_85 : decode cX11_laysRepair 85 = .ok (.iadd, 1) := by decide +kernel
theorem dX11_laysRepair_86 : decode cX11_laysRepair 86 = .ok (.aload_n 0, 1) := by decide +kernel
theorem dX11_laysRepair_87 : decode cX11_laysRepair 87 = .ok (.getfield 69, 3) := by decide +kernel
theorem dX11_laysRepair_90 : decode cX11_laysRepair 90 = .ok (.iload_n 3, 1) := by decide +kernel
theorem dX11_laysRepair_91 : decode cX11_laysRepair 91 = .ok (.iaload, 1) := by decide +kernel
theorem dX11_laysRepair_92 : decode cX11_laysRepair 92 = .ok (.if_icmp .eq 12, 3) := by decide +kernel
theorem dX11_laysRepair_95 : decode cX11_laysRepair 95 = .ok (.iload 4, 2) := by decide +kernel
theorem dX11_laysRepair_97 : decode cX11_laysRepair 97 = .ok (.iconst 1, 1) := by decide +kernel
theorem dX11_laysRepair_98 : decode cX11_laysRepair 98 = .ok (.iadd, 1) := by decide +kernel
theorem dX11_laysRepair_99 : decode cX11_laysRepair 99 = .ok (.istore 4, 2) := by decide +kernel
theorem dX11_laysRepair_101 : decode cX11_laysRepair 101 = .ok (.goto (-58), 3) := by decide +kernel
theorem dX11_laysRepair_104 : decode cX11_laysRepair 104 = .ok (.aload_n 0, 1) := by decide +kernel
theorem dX11_laysRepair_105 : decode cX11_laysRepair 105 = .ok (.getfield 48, 3) := by decide +kernel
theorem dX11_laysRepair_108 : decode cX11_laysRepair 108 = .ok (.aload_n 0, 1) := by decide +kernel
theorem dX11_laysRepair_109 : decode cX11_laysRepair 109 = .ok (.getfield 275, 3) := by decide +kernel
theorem dX11_laysRepair_112 : decode cX11_laysRepair 112 = .ok (.iload 4, 2) := by decide +kernel
theorem dX11_laysRepair_114 : decode cX11_laysRepair 114 = .ok (.iastore, 1) := by decide +kernel
theorem dX11_laysRepair_115 : decode cX11_laysRepair 115 = .ok (.aload_n 0, 1) := by decide +kernel
theorem dX11_laysRepair_116 : decode cX11_laysRepair 116 = .ok (.aload_n 0, 1) := by decide +kernel
theorem dX11_laysRepair_117 : decode cX11_laysRepair 117 = .ok (.getfield 275, 3) := by decide +kernel
theorem dX11_laysRepair_120 : decode cX11_laysRepair 120 = .ok (.iconst 1, 1) := by decide +kernel
theorem dX11_laysRepair_121 : decode cX11_laysRepair 121 = .ok (.iadd, 1) := by decide +kernel
theorem dX11_laysRepair_122 : decode cX11_laysRepair 122 = .ok (.putfield 275, 3) := by decide +kernel
theorem dX11_laysRepair_125 : decode cX11_laysRepair 125 = .ok (.aload_n 0, 1) := by decide +kernel
theorem dX11_laysRepair_126 : decode cX11_laysRepair 126 = .ok (.iload 4, 2) := by decide +kernel
theorem dX11_laysRepair_128 : decode cX11_laysRepair 128 = .ok (.invokevirtual 158, 3) := by decide +kernel
theorem dX11_laysRepair_131 : decode cX11_laysRepair 131 = .ok (.istore_n 3, 1) := by decide +kernel
theorem dX11_laysRepair_132 : decode cX11_laysRepair 132 = .ok (.goto (-97), 3) := by decide +kernel
theorem dX11_laysRepair_135 : decode cX11_laysRepair 135 = .ok (.aload_n 0, 1) := by decide +kernel
theorem dX11_laysRepair_136 : decode cX11_laysRepair 136 = .ok (.invokevirtual 297, 3) := by decide +kernel
theorem dX11_laysRepair_139 : decode cX11_laysRepair 139 = .ok (.aload_n 0, 1) := by decide +kernel
theorem dX11_laysRepair_140 : decode cX11_laysRepair 140 = .ok (.getfield 51, 3) := by decide +kernel
theorem dX11_laysRepair_143 : decode cX11_laysRepair 143 = .ok (.iconst 0, 1) := by decide +kernel
theorem dX11_laysRepair_144 : decode cX11_laysRepair 144 = .ok (.iaload, 1) := by decide +kernel
theorem dX11_laysRepair_145 : decode cX11_laysRepair 145 = .ok (.iconst (-1), 1) := by decide +kernel
theorem dX11_laysRepair_146 : decode cX11_laysRepair 146 = .ok (.if_icmp .eq 7, 3) := by decide +kernel
theorem dX11_laysRepair_149 : decode cX11_laysRepair 149 = .ok (.iconst 1, 1) := by decide +kernel
theorem dX11_laysRepair_150 : decode cX11_laysRepair 150 = .ok (.goto 4, 3) := by decide +kernel
theorem dX11_laysRepair_153 : decode cX11_laysRepair 153 = .ok (.iconst 0, 1) := by decide +kernel
theorem dX11_laysRepair_154 : decode cX11_laysRepair 154 = .ok (.ireturn, 1) := by decide +kernel
abbrev mX11_laysRepair : MI := (RX11, yX11_laysRepair, cX11_laysRepair, 5, (some .boolean))
theorem mok_X11_laysRepair : MOKv mX11_laysRepair 2 := ⟨⟨bm_1686, bm_127, ⟨by decide, by decide⟩, by decide +kernel⟩, bm_1685, bm_91⟩
def f_X11_laysRepair_95  (k35 : Int32 → MH → Option (Int32 × MH)) (k43 : Int32 → MH → Option (Int32 × MH)) (a0 : Nat) (x1 : Int32) (x2 : Int32) (x3 : Int32) (x4 : Int32) (h : MH) : Option (Int32 × MH) :=
  lt (x4 + 1) fun x_1 =>
  k43 x_1 h
def f_X11_laysRepair_43b  (k35 : Int32 → MH → Option (Int32 × MH)) (a0 : Nat) (x1 : Int32) (x2 : Int32) (x3 : Int32) (k43 : Int32 → MH → Option (Int32 × MH)) (p : Int32) (h : MH) : Option (Int32 × MH) :=
  if p = x1 then
    f_X11_laysRepair_95 k35 k43 a0 x1 x2 x3 p h
  else
    (f_X11_isUp a0 p h).bind fun q_1 =>
    if q_1.1 = 0 then
      f_X11_laysRepair_95 k35 k43 a0 x1 x2 x3 p q_1.2
    else
      (f_X11_from a0 p q_1.2).bind fun q_2 =>
      if q_2.1 = x3 then
        (f_X11_costOf a0 p q_2.2).bind fun q_3 =>
        (gR q_3.2 a0 34).bind fun a_4 =>
        (f_X11_to a0 p q_3.2).bind fun q_5 =>
        (ldI q_5.2 a_4 q_5.1).bind fun x_6 =>
        (gR q_5.2 a0 34).bind fun a_7 =>
        (ldI q_5.2 a_7 x3).bind fun x_8 =>
        if (q_3.1 + x_6) = x_8 then
          (gR q_5.2 a0 26).bind fun a_9 =>
          (stI q_5.2 a_9 (gI q_5.2 a0 27) p).bind fun h_10 =>
          lt (sI h_10 a0 27 ((gI h_10 a0 27) + 1)) fun h_11 =>
          (f_X11_to a0 p h_11).bind fun q_12 =>
          k35 q_12.1 q_12.2
        else
          f_X11_laysRepair_95 k35 k43 a0 x1 x2 x3 p q_5.2
      else
        f_X11_laysRepair_95 k35 k43 a0 x1 x2 x3 p q_2.2
def f_X11_laysRepair_43  (k35 : Int32 → MH → Option (Int32 × MH)) (a0 : Nat) (x1 : Int32) (x2 : Int32) (x3 : Int32) : Nat → Int32 → MH → Option (Int32 × MH) := lp (f_X11_laysRepair_43b k35 a0 x1 x2 x3)
def f_X11_laysRepair_35b   (a0 : Nat) (x1 : Int32) (x2 : Int32) (k35 : Int32 → MH → Option (Int32 × MH)) (p : Int32) (h : MH) : Option (Int32 × MH) :=
  if p = x2 then
    (f_X11_laysFewest a0 h).bind fun q_1 =>
    (gR q_1 a0 28).bind fun a_2 =>
    (ldI q_1 a_2 0).bind fun x_3 =>
    if x_3 = (-1 : Int32) then
      some (0, q_1)
    else
      some (1, q_1)
  else
    f_X11_laysRepair_43 k35 a0 x1 x2 p FU 0 h
def f_X11_laysRepair_35   (a0 : Nat) (x1 : Int32) (x2 : Int32) : Nat → Int32 → MH → Option (Int32 × MH) := lp (f_X11_laysRepair_35b a0 x1 x2)
def f_X11_laysRepair   (a0 : Nat) (x1 : Int32) (x2 : Int32) (h : MH) : Option (Int32 × MH) :=
  (f_X11_laysWithout a0 x1 x2 h).bind fun q_1 =>
  (f_X11_from a0 x1 q_1).bind fun q_2 =>
  (gR q_2.2 a0 34).bind fun a_3 =>
  (ldI q_2.2 a_3 q_2.1).bind fun x_4 =>
  if x_4 < 1000000 then
    if q_2.1 = x2 then
      some (0, q_2.2)
    else
      lt (sI q_2.2 a0 27 0) fun h_5 =>
      f_X11_laysRepair_35 a0 x1 x2 FU q_2.1 h_5
  else
    some (0, q_2.2)
set_option maxRecDepth 100000 in
set_option maxHeartbeats 4000000 in
theorem v_X11_laysRepair_95 {l : Launch} {G : GE} {B N : Nat} {S : List SHP} {o : Int32 × MH} {a0 : Nat} {x1 : Int32} {x2 : Int32} {x3 : Int32} {x4 : Int32}  {k35 : Int32 → MH → Option (Int32 × MH)} {k43 : Int32 → MH → Option (Int32 × MH)} (hk35 : ∀ (p : Int32) (h : MH), k35 p h = some o → V l G B N mX11_laysRepair (rmm 133 0 0) false 0 0 (QI S o) S 0 0 35 [(0, .ref a0), (1, .int x1), (2, .int x2), (3, .int p)] [] h) (hk43 : ∀ (p : Int32) (h : MH), k43 p h = some o → V l G B N mX11_laysRepair (rmm 133 0 0) false 0 0 (QI S o) S 0 0 43 [(0, .ref a0), (1, .int x1), (2, .int x2), (3, .int x3), (4, .int p)] [] h) (hs0 : S[a0]? = some (.inl 11)) {h : MH} (hf : f_X11_laysRepair_95 k35 k43 a0 x1 x2 x3 x4 h = some o) : V l G B N mX11_laysRepair (rmm 133 0 0) false 0 0 (QI S o) S 0 0 95 [(0, .ref a0), (1, .int x1), (2, .int x2), (3, .int x3), (4, .int x4)] [] h := by
  unfold f_X11_laysRepair_95 at hf
  refine V_iload (pc' := 97) dX11_laysRepair_95 rfl 4 rfl ?_
  refine V_iconst (v := 1) (pc' := 98) dX11_laysRepair_97 rfl (by decide) ?_
  refine V_iadd (pc' := 99) dX11_laysRepair_98 rfl ?_
  refine V_nmI hf (fun x_1 hf => ?_)
  refine V_istore (lv' := [(4, .int x_1), (0, .ref a0), (1, .int x1), (2, .int x2), (3, .int x3)]) (pc' := 101) dX11_laysRepair_99 rfl (Nat.le_of_ble_eq_true rfl) rfl ?_
  refine V_goto (tgt := 43) dX11_laysRepair_101 (by decide) ?_
  exact V_sub (lv' := [(0, .ref a0), (1, .int x1), (2, .int x2), (3, .int x3), (4, .int x_1)]) [1, 2, 3, 4, 0] rfl (hk43 x_1 h hf)
set_option maxRecDepth 100000 in
set_option maxHeartbeats 4000000 in
theorem v_X11_laysRepair_43b {l : Launch} {G : GE} {B N : Nat} {S : List SHP} {o : Int32 × MH} {a0 : Nat} {x1 : Int32} {x2 : Int32} {x3 : Int32}  {k35 : Int32 → MH → Option (Int32 × MH)} (hk35 : ∀ (p : Int32) (h : MH), k35 p h = some o → V l G B N mX11_laysRepair (rmm 133 0 0) false 0 0 (QI S o) S 0 0 35 [(0, .ref a0), (1, .int x1), (2, .int x2), (3, .int p)] [] h) (hs0 : S[a0]? = some (.inl 11)) {k43 : Int32 → MH → Option (Int32 × MH)} (hk43 : ∀ (p : Int32) (h : MH), k43 p h = some o → V l G B N mX11_laysRepair (rmm 133 0 0) false 0 0 (QI S o) S 0 0 43 [(0, .ref a0), (1, .int x1), (2, .int x2), (3, .int x3), (4, .int p)] [] h) {p : Int32} {h : MH} (hf : f_X11_laysRepair_43b k35 a0 x1 x2 x3 k43 p h = some o) : V l G B N mX11_laysRepair (rmm 133 0 0) false 0 0 (QI S o) S 0 0 43 [(0, .ref a0), (1, .int x1), (2, .int x2), (3, .int x3), (4, .int p)] [] h := by
  unfold f_X11_laysRepair_43b at hf
  refine V_iload (pc' := 45) dX11_laysRepair_43 rfl 4 rfl ?_
  refine V_iload_n (pc' := 46) dX11_laysRepair_45 rfl 1 rfl rfl ?_
  refine V_icmp_eq (tgt := 95) (pc' := 49) dX11_laysRepair_46 (by decide) rfl hf (fun hf => ?_) (fun hf => ?_)
  ·
    exact V_sub (lv' := [(0, .ref a0), (1, .int x1), (2, .int x2), (3, .int x3), (4, .int p)]) [0, 1, 2, 3, 4] rfl (v_X11_laysRepair_95 hk35 hk43 hs0 hf)
  ·
    refine V_aload_n (pc' := 50) dX11_laysRepair_49 rfl 0 rfl rfl ?_
    refine V_iload (pc' := 52) dX11_laysRepair_50 rfl 4 rfl ?_
    refine V_cvI (pc' := 55) (As := [.int p]) (rest := []) dX11_laysRepair_52 rfl mok_X11_isUp bm_1414 11 (by decide) rfl hs0 rfl rfl (Nat.le_of_ble_eq_true rfl) (by decide) hf (fun q e => ct_X11_isUp hs0 e) (fun q_1 hf => ?_)
    refine V_if_eq (tgt := 95) (pc' := 58) dX11_laysRepair_55 (by decide) rfl hf (fun hf => ?_) (fun hf => ?_)
    ·
      exact V_sub (lv' := [(0, .ref a0), (1, .int x1), (2, .int x2), (3, .int x3), (4, .int p)]) [0, 1, 2, 3, 4] rfl (v_X11_laysRepair_95 hk35 hk43 hs0 hf)
    ·
      refine V_aload_n (pc' := 59) dX11_laysRepair_58 rfl 0 rfl rfl ?_
      refine V_iload (pc' := 61) dX11_laysRepair_59 rfl 4 rfl ?_
      refine V_cvI (pc' := 64) (As := [.int p]) (rest := []) dX11_laysRepair_61 rfl mok_X11_from bm_1465 11 (by decide) rfl hs0 rfl rfl (Nat.le_of_ble_eq_true rfl) (by decide) hf (fun q e => ct_X11_from hs0 e) (fun q_2 hf => ?_)
      refine V_iload_n (pc' := 65) dX11_laysRepair_64 rfl 3 rfl rfl ?_
      refine V_icmp_ne (tgt := 95) (pc' := 68) dX11_laysRepair_65 (by decide) rfl hf (fun hf => ?_) (fun hf => ?_)
      ·
        refine V_aload_n (pc' := 69) dX11_laysRepair_68 rfl 0 rfl rfl ?_
        refine V_iload (pc' := 71) dX11_laysRepair_69 rfl 4 rfl ?_
        refine V_cvI (pc' := 74) (As := [.int p]) (rest := []) dX11_laysRepair_71 rfl mok_X11_costOf bm_1422 11 (by decide) rfl hs0 rfl rfl (Nat.le_of_ble_eq_true rfl) (by decide) hf (fun q e => ct_X11_costOf hs0 e) (fun q_3 hf => ?_)
        refine V_aload_n (pc' := 75) dX11_laysRepair_74 rfl 0 rfl rfl ?_
        refine V_getR (pc' := 78) 11 34 dX11_laysRepair_75 rfl (by decide) (Nat.le_of_ble_eq_true rfl) bm_1258 hs0 (fun _ _ _ => rfl) rfl hf (fun a_4 ha_4 hf => ?_)
        refine V_aload_n (pc' := 79) dX11_laysRepair_78 rfl 0 rfl rfl ?_
        refine V_iload (pc' := 81) dX11_laysRepair_79 rfl 4 rfl ?_
        refine V_cvI (pc' := 84) (As := [.int p]) (rest := [.ref a_4, .int q_3.1]) dX11_laysRepair_81 rfl mok_X11_to bm_1461 11 (by decide) rfl hs0 rfl rfl (Nat.le_of_ble_eq_true rfl) (by decide) hf (fun q e => ct_X11_to hs0 e) (fun q_5 hf => ?_)
        refine V_iald (pc' := 85) dX11_laysRepair_84 rfl ha_4 hf (fun x_6 hf => ?_)
        refine V_iadd (pc' := 86) dX11_laysRepair_85 rfl ?_
        refine V_aload_n (pc' := 87) dX11_laysRepair_86 rfl 0 rfl rfl ?_
        refine V_getR (pc' := 90) 11 34 dX11_laysRepair_87 rfl (by decide) (Nat.le_of_ble_eq_true rfl) bm_1258 hs0 (fun _ _ _ => rfl) rfl hf (fun a_7 ha_7 hf => ?_)
        refine V_iload_n (pc' := 91) dX11_laysRepair_90 rfl 3 rfl rfl ?_
        refine V_iald (pc' := 92) dX11_laysRepair_91 rfl ha_7 hf (fun x_8 hf => ?_)
        refine V_icmp_eq (tgt := 104) (pc' := 95) dX11_laysRepair_92 (by decide) rfl hf (fun hf => ?_) (fun hf => ?_)
        ·
          refine V_aload_n (pc' := 105) dX11_laysRepair_104 rfl 0 rfl rfl ?_
          refine V_getR (pc' := 108) 11 26 dX11_laysRepair_105 rfl (by decide) (Nat.le_of_ble_eq_true rfl) bm_1250 hs0 (fun _ _ _ => rfl) rfl hf (fun a_9 ha_9 hf => ?_)
          refine V_aload_n (pc' := 109) dX11_laysRepair_108 rfl 0 rfl rfl ?_
          refine V_getI (pc' := 112) 11 27 dX11_laysRepair_109 rfl (by decide) (Nat.le_of_ble_eq_true rfl) bm_1251 hs0 (fun _ _ _ => rfl) ?_
          refine V_iload (pc' := 114) dX11_laysRepair_112 rfl 4 rfl ?_
          refine V_iast (pc' := 115) dX11_laysRepair_114 rfl ha_9 hf (fun h_10 hf => ?_)
          refine V_aload_n (pc' := 116) dX11_laysRepair_115 rfl 0 rfl rfl ?_
          refine V_aload_n (pc' := 117) dX11_laysRepair_116 rfl 0 rfl rfl ?_
          refine V_getI (pc' := 120) 11 27 dX11_laysRepair_117 rfl (by decide) (Nat.le_of_ble_eq_true rfl) bm_1251 hs0 (fun _ _ _ => rfl) ?_
          refine V_iconst (v := 1) (pc' := 121) dX11_laysRepair_120 rfl (by decide) ?_
          refine V_iadd (pc' := 122) dX11_laysRepair_121 rfl ?_
          refine V_putI (pc' := 125) 11 27 dX11_laysRepair_122 rfl (by decide) (Nat.le_of_ble_eq_true rfl) bm_1251 hs0 (Or.inl rfl) rfl ?_
          refine V_nmH hf (fun h_11 hf => ?_)
          refine V_aload_n (pc' := 126) dX11_laysRepair_125 rfl 0 rfl rfl ?_
          refine V_iload (pc' := 128) dX11_laysRepair_126 rfl 4 rfl ?_
          refine V_cvI (pc' := 131) (As := [.int p]) (rest := []) dX11_laysRepair_128 rfl mok_X11_to bm_1461 11 (by decide) rfl hs0 rfl rfl (Nat.le_of_ble_eq_true rfl) (by decide) hf (fun q e => ct_X11_to hs0 e) (fun q_12 hf => ?_)
          refine V_istore_n (lv' := [(3, .int q_12.1), (0, .ref a0), (1, .int x1), (2, .int x2), (4, .int p)]) (pc' := 132) dX11_laysRepair_131 rfl rfl (Nat.le_of_ble_eq_true rfl) rfl ?_
          refine V_goto (tgt := 35) dX11_laysRepair_132 (by decide) ?_
          exact V_sub (lv' := [(0, .ref a0), (1, .int x1), (2, .int x2), (3, .int q_12.1)]) [1, 2, 3, 0] rfl (hk35 q_12.1 q_12.2 hf)
        ·
          exact V_sub (lv' := [(0, .ref a0), (1, .int x1), (2, .int x2), (3, .int x3), (4, .int p)]) [0, 1, 2, 3, 4] rfl (v_X11_laysRepair_95 hk35 hk43 hs0 hf)
      ·
        exact V_sub (lv' := [(0, .ref a0), (1, .int x1), (2, .int x2), (3, .int x3), (4, .int p)]) [0, 1, 2, 3, 4] rfl (v_X11_laysRepair_95 hk35 hk43 hs0 hf)
theorem v_X11_laysRepair_43 {l : Launch} {G : GE} {B N : Nat} {S : List SHP} {o : Int32 × MH} {a0 : Nat} {x1 : Int32} {x2 : Int32} {x3 : Int32}  {k35 : Int32 → MH → Option (Int32 × MH)} (hk35 : ∀ (p : Int32) (h : MH), k35 p h = some o → V l G B N mX11_laysRepair (rmm 133 0 0) false 0 0 (QI S o) S 0 0 35 [(0, .ref a0), (1, .int x1), (2, .int x2), (3, .int p)] [] h) (hs0 : S[a0]? = some (.inl 11)) {n : Nat} {p : Int32} {h : MH} (hf : f_X11_laysRepair_43 k35 a0 x1 x2 x3 n p h = some o) : V l G B N mX11_laysRepair (rmm 133 0 0) false 0 0 (QI S o) S 0 0 43 [(0, .ref a0), (1, .int x1), (2, .int x2), (3, .int x3), (4, .int p)] [] h :=
  V_lp (VV := fun p h => V l G B N mX11_laysRepair (rmm 133 0 0) false 0 0 (QI S o) S 0 0 43 [(0, .ref a0), (1, .int x1), (2, .int x2), (3, .int x3), (4, .int p)] [] h) (fun _ hk _ _ hf => v_X11_laysRepair_43b hk35 hs0 hk hf) n p h hf
set_option maxRecDepth 100000 in
set_option maxHeartbeats 4000000 in
theorem v_X11_laysRepair_35b {l : Launch} {G : GE} {B N : Nat} {S : List SHP} {o : Int32 × MH} {a0 : Nat} {x1 : Int32} {x2 : Int32}    (hs0 : S[a0]? = some (.inl 11)) {k35 : Int32 → MH → Option (Int32 × MH)} (hk35 : ∀ (p : Int32) (h : MH), k35 p h = some o → V l G B N mX11_laysRepair (rmm 133 0 0) false 0 0 (QI S o) S 0 0 35 [(0, .ref a0), (1, .int x1), (2, .int x2), (3, .int p)] [] h) {p : Int32} {h : MH} (hf : f_X11_laysRepair_35b a0 x1 x2 k35 p h = some o) : V l G B N mX11_laysRepair (rmm 133 0 0) false 0 0 (QI S o) S 0 0 35 [(0, .ref a0), (1, .int x1), (2, .int x2), (3, .int p)] [] h := by
  unfold f_X11_laysRepair_35b at hf
  refine V_iload_n (pc' := 36) dX11_laysRepair_35 rfl 3 rfl rfl ?_
  refine V_iload_n (pc' := 37) dX11_laysRepair_36 rfl 2 rfl rfl ?_
  refine V_icmp_eq (tgt := 135) (pc' := 40) dX11_laysRepair_37 (by decide) rfl hf (fun hf => ?_) (fun hf => ?_)
  ·
    refine V_aload_n (pc' := 136) dX11_laysRepair_135 rfl 0 rfl rfl ?_
    refine V_cvV (pc' := 139) (As := []) (rest := []) dX11_laysRepair_136 rfl mok_X11_laysFewest bm_1605 11 (by decide) rfl hs0 rfl rfl (Nat.le_of_ble_eq_true rfl) (by decide) hf (fun q e => ct_X11_laysFewest hs0 e) (fun q_1 hf => ?_)
    refine V_aload_n (pc' := 140) dX11_laysRepair_139 rfl 0 rfl rfl ?_
    refine V_getR (pc' := 143) 11 28 dX11_laysRepair_140 rfl (by decide) (Nat.le_of_ble_eq_true rfl) bm_1252 hs0 (fun _ _ _ => rfl) rfl hf (fun a_2 ha_2 hf => ?_)
    refine V_iconst (v := 0) (pc' := 144) dX11_laysRepair_143 rfl (by decide) ?_
    refine V_iald (pc' := 145) dX11_laysRepair_144 rfl ha_2 hf (fun x_3 hf => ?_)
    refine V_iconst (v := (-1)) (pc' := 146) dX11_laysRepair_145 rfl (by decide) ?_
    refine V_icmp_eq (tgt := 153) (pc' := 149) dX11_laysRepair_146 (by decide) rfl hf (fun hf => ?_) (fun hf => ?_)
    ·
      refine V_iconst (v := 0) (pc' := 154) dX11_laysRepair_153 rfl (by decide) ?_
      obtain rfl := Option.some.inj hf
      exact V_zretL dX11_laysRepair_154 rfl rfl rfl (by decide) ⟨rfl, rfl, rfl⟩
    ·
      refine V_iconst (v := 1) (pc' := 150) dX11_laysRepair_149 rfl (by decide) ?_
      refine V_goto (tgt := 154) dX11_laysRepair_150 (by decide) ?_
      obtain rfl := Option.some.inj hf
      exact V_zretL dX11_laysRepair_154 rfl rfl rfl (by decide) ⟨rfl, rfl, rfl⟩
  ·
    refine V_iconst (v := 0) (pc' := 41) dX11_laysRepair_40 rfl (by decide) ?_
    refine V_istore (lv' := [(4, .int 0), (0, .ref a0), (1, .int x1), (2, .int x2), (3, .int p)]) (pc' := 43) dX11_laysRepair_41 rfl (Nat.le_of_ble_eq_true rfl) rfl ?_
    exact V_sub (lv' := [(0, .ref a0), (1, .int x1), (2, .int x2), (3, .int p), (4, .int 0)]) [1, 2, 3, 4, 0] rfl (v_X11_laysRepair_43 hk35 hs0 hf)
theorem v_X11_laysRepair_35 {l : Launch} {G : GE} {B N : Nat} {S : List SHP} {o : Int32 × MH} {a0 : Nat} {x1 : Int32} {x2 : Int32}    (hs0 : S[a0]? = some (.inl 11)) {n : Nat} {p : Int32} {h : MH} (hf : f_X11_laysRepair_35 a0 x1 x2 n p h = some o) : V l G B N mX11_laysRepair (rmm 133 0 0) false 0 0 (QI S o) S 0 0 35 [(0, .ref a0), (1, .int x1), (2, .int x2), (3, .int p)] [] h :=
  V_lp (VV := fun p h => V l G B N mX11_laysRepair (rmm 133 0 0) false 0 0 (QI S o) S 0 0 35 [(0, .ref a0), (1, .int x1), (2, .int x2), (3, .int p)] [] h) (fun _ hk _ _ hf => v_X11_laysRepair_35b hs0 hk hf) n p h hf
set_option maxRecDepth 100000 in
set_option maxHeartbeats 4000000 in
theorem v_X11_laysRepair {l : Launch} {G : GE} {B N : Nat} {S : List SHP} {o : Int32 × MH} {a0 : Nat} {x1 : Int32} {x2 : Int32}    (hs0 : S[a0]? = some (.inl 11)) {h : MH} (hf : f_X11_laysRepair a0 x1 x2 h = some o) : V l G B N mX11_laysRepair (rmm 133 0 0) false 0 0 (QI S o) S 0 0 0 [(0, .ref a0), (1, .int x1), (2, .int x2)] [] h := by
  unfold f_X11_laysRepair at hf
  refine V_aload_n (pc' := 1) dX11_laysRepair_0 rfl 0 rfl rfl ?_
  refine V_iload_n (pc' := 2) dX11_laysRepair_1 rfl 1 rfl rfl ?_
  refine V_iload_n (pc' := 3) dX11_laysRepair_2 rfl 2 rfl rfl ?_
  refine V_cvV (pc' := 6) (As := [.int x1, .int x2]) (rest := []) dX11_laysRepair_3 rfl mok_X11_laysWithout bm_1687 11 (by decide) rfl hs0 rfl rfl (Nat.le_of_ble_eq_true rfl) (by decide) hf (fun q e => ct_X11_laysWithout hs0 e) (fun q_1 hf => ?_)
  refine V_aload_n (pc' := 7) dX11_laysRepair_6 rfl 0 rfl rfl ?_
  refine V_iload_n (pc' := 8) dX11_laysRepair_7 rfl 1 rfl rfl ?_
  refine V_cvI (pc' := 11) (As := [.int x1]) (rest := []) dX11_laysRepair_8 rfl mok_X11_from bm_1465 11 (by decide) rfl hs0 rfl rfl (Nat.le_of_ble_eq_true rfl) (by decide) hf (fun q e => ct_X11_from hs0 e) (fun q_2 hf => ?_)
  refine V_istore_n (lv' := [(3, .int q_2.1), (0, .ref a0), (1, .int x1), (2, .int x2)]) (pc' := 12) dX11_laysRepair_11 rfl rfl (Nat.le_of_ble_eq_true rfl) rfl ?_
  refine V_aload_n (pc' := 13) dX11_laysRepair_12 rfl 1 rfl rfl ?_
  refine V_getR (pc' := 16) 11 34 dX11_laysRepair_13 rfl (by decide) (Nat.le_of_ble_eq_true rfl) bm_1258 hs0 (fun _ _ _ => rfl) rfl hf (fun a_3 ha_3 hf => ?_)
  refine V_iload_n (pc' := 17) dX11_laysRepair_16 rfl 0 rfl rfl ?_
  refine V_iald (pc' := 18) dX11_laysRepair_17 rfl ha_3 hf (fun x_4 hf => ?_)
  refine V_ldc (v := 1000000) (pc' := 20) dX11_laysRepair_18 rfl bm_1498 ?_
  refine V_icmp_ge (tgt := 28) (pc' := 23) dX11_laysRepair_20 (by decide) rfl hf (fun hf => ?_) (fun hf => ?_)
  ·
    refine V_iload_n (pc' := 24) dX11_laysRepair_23 rfl 0 rfl rfl ?_
    refine V_iload_n (pc' := 25) dX11_laysRepair_24 rfl 3 rfl rfl ?_
    refine V_icmp_ne (tgt := 30) (pc' := 28) dX11_laysRepair_25 (by decide) rfl hf (fun hf => ?_) (fun hf => ?_)
    ·
      refine V_iconst (v := 0) (pc' := 29) dX11_laysRepair_28 rfl (by decide) ?_
      obtain rfl := Option.some.inj hf
      exact V_zretL dX11_laysRepair_29 rfl rfl rfl (by decide) ⟨rfl, rfl, rfl⟩
    ·
      refine V_aload_n (pc' := 31) dX11_laysRepair_30 rfl 1 rfl rfl ?_
      refine V_iconst (v := 0) (pc' := 32) dX11_laysRepair_31 rfl (by decide) ?_
      refine V_putI (pc' := 35) 11 27 dX11_laysRepair_32 rfl (by decide) (Nat.le_of_ble_eq_true rfl) bm_1251 hs0 (Or.inl rfl) rfl ?_
      refine V_nmH hf (fun h_5 hf => ?_)
      exact V_sub (lv' := [(0, .ref a0), (1, .int x1), (2, .int x2), (3, .int q_2.1)]) [1, 2, 3, 0] rfl (v_X11_laysRepair_35 hs0 hf)
  ·
    refine V_iconst (v := 0) (pc' := 29) dX11_laysRepair_28 rfl (by decide) ?_
    obtain rfl := Option.some.inj hf
    exact V_zretL dX11_laysRepair_29 rfl rfl rfl (by decide) ⟨rfl, rfl, rfl⟩
theorem ct_X11_laysRepair {l : Launch} {S : List SHP} {h : MH} {a0 : Nat} {x1 : Int32} {x2 : Int32} (hs0 : S[a0]? = some (.inl 11)) {q : Int32 × MH} (hf : f_X11_laysRepair a0 x1 x2 h = some q) : CT l mX11_laysRepair 133 false 0 0 S [.ref a0, .int x1, .int x2] h (QI S q) :=
  CT_ofV (by decide) rfl (Nat.le_of_ble_eq_true rfl) (fun G B hT => v_X11_laysRepair hs0 hf)
