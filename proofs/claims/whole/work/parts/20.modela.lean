/-! LabelStacksModel.isIn(JJJ)Z -/
theorem dX11_isIn_0 : decode cX11_isIn 0 = .ok (.lload_n 1, 1) := by decide +kernel
theorem dX11_isIn_1 : decode cX11_isIn 1 = .ok (.lload_n 3, 1) := by decide +kernel
theorem dX11_isIn_2 : decode cX11_isIn 2 = .ok (.lcmp, 1) := by decide +kernel
theorem dX11_isIn_3 : decode cX11_isIn 3 = .ok (.ifCond .lt 14, 3) := by decide +kernel
theorem dX11_isIn_6 : decode cX11_isIn 6 = .ok (.lload_n 1, 1) := by decide +kernel
theorem dX11_isIn_7 : decode cX11_isIn 7 = .ok (.lload 5, 2) := by decide +kernel
theorem dX11_isIn_9 : decode cX11_isIn 9 = .ok (.lcmp, 1) := by decide +kernel
theorem dX11_isIn_10 : decode cX11_isIn 10 = .ok (.ifCond .gt 7, 3) := by decide +kernel
theorem dX11_isIn_13 : decode cX11_isIn 13 = .ok (.iconst 1, 1) := by decide +kernel
theorem dX11_isIn_14 : decode cX11_isIn 14 = .ok (.goto 4, 3) := by decide +kernel
theorem dX11_isIn_17 : decode cX11_isIn 17 = .ok (.iconst 0, 1) := by decide +kernel
theorem dX11_isIn_18 : decode cX11_isIn 18 = .ok (.ireturn, 1) := by decide +kernel
abbrev mX11_isIn : MI := (RX11, yX11_isIn, cX11_isIn, 7, (some .boolean))
theorem mok_X11_isIn : MOKv mX11_isIn 3 := ⟨⟨bm_1376, bm_127, ⟨by decide, by decide⟩, by decide +kernel⟩, bm_1375, bm_43⟩
def f_X11_isIn   (a0 : Nat) (l1 : Int64) (l3 : Int64) (l5 : Int64) (h : MH) : Option (Int32 × MH) :=
  if l1 < l3 then
    some (0, h)
  else
    if l5 < l1 then
      some (0, h)
    else
      some (1, h)
set_option maxRecDepth 100000 in
set_option maxHeartbeats 4000000 in
theorem v_X11_isIn {l : Launch} {G : GE} {B N : Nat} {S : List SHP} {o : Int32 × MH} {a0 : Nat} {l1 : Int64} {l3 : Int64} {l5 : Int64}    (hs0 : S[a0]? = some (.inl 11)) {h : MH} (hf : f_X11_isIn a0 l1 l3 l5 h = some o) : V l G B N mX11_isIn (rmm 3 0 0) false 0 0 (QI S o) S 0 0 0 [(0, .ref a0), (1, .long l1), (3, .long l3), (5, .long l5)] [] h := by
  unfold f_X11_isIn at hf
  refine V_lload_n (pc' := 1) dX11_isIn_0 rfl 1 rfl rfl ?_
  refine V_lload_n (pc' := 2) dX11_isIn_1 rfl 2 rfl rfl ?_
  refine V_lcmp_lt (pc1 := 3) (tgt := 17) (pc' := 6) dX11_isIn_2 rfl dX11_isIn_3 (by decide) rfl hf (fun hf => ?_) (fun hf => ?_)
  ·
    refine V_iconst (v := 0) (pc' := 18) dX11_isIn_17 rfl (by decide) ?_
    obtain rfl := Option.some.inj hf
    exact V_zretL dX11_isIn_18 rfl rfl rfl (by decide) ⟨rfl, rfl, rfl⟩
  ·
    refine V_lload_n (pc' := 7) dX11_isIn_6 rfl 1 rfl rfl ?_
    refine V_lload (pc' := 9) dX11_isIn_7 rfl 3 rfl ?_
    refine V_lcmp_gt (pc1 := 10) (tgt := 17) (pc' := 13) dX11_isIn_9 rfl dX11_isIn_10 (by decide) rfl hf (fun hf => ?_) (fun hf => ?_)
    ·
      refine V_iconst (v := 0) (pc' := 18) dX11_isIn_17 rfl (by decide) ?_
      obtain rfl := Option.some.inj hf
      exact V_zretL dX11_isIn_18 rfl rfl rfl (by decide) ⟨rfl, rfl, rfl⟩
    ·
      refine V_iconst (v := 1) (pc' := 14) dX11_isIn_13 rfl (by decide) ?_
      refine V_goto (tgt := 18) dX11_isIn_14 (by decide) ?_
      obtain rfl := Option.some.inj hf
      exact V_zretL dX11_isIn_18 rfl rfl rfl (by decide) ⟨rfl, rfl, rfl⟩
theorem ct_X11_isIn {l : Launch} {S : List SHP} {h : MH} {a0 : Nat} {l1 : Int64} {l3 : Int64} {l5 : Int64} (hs0 : S[a0]? = some (.inl 11)) {q : Int32 × MH} (hf : f_X11_isIn a0 l1 l3 l5 h = some q) : CT l mX11_isIn 3 false 0 0 S [.ref a0, .long l1, .long l3, .long l5] h (QI S q) :=
  CT_ofV (by decide) rfl (Nat.le_of_ble_eq_true rfl) (fun G B hT => v_X11_isIn hs0 hf)
/-! LabelStacksModel.n()I -/
theorem dX11_n_0 : decode cX11_n 0 = .ok (.aload_n 0, 1) := by decide +kernel
theorem dX11_n_1 : decode cX11_n 1 = .ok (.getfield 7, 3) := by decide +kernel
theorem dX11_n_4 : decode cX11_n 4 = .ok (.iconst 0, 1) := by decide +kernel
theorem dX11_n_5 : decode cX11_n 5 = .ok (.iaload, 1) := by decide +kernel
theorem dX11_n_6 : decode cX11_n 6 = .ok (.iconst 2, 1) := by decide +kernel
theorem dX11_n_7 : decode cX11_n 7 = .ok (.iadd, 1) := by decide +kernel
theorem dX11_n_8 : decode cX11_n 8 = .ok (.ireturn, 1) := by decide +kernel
abbrev mX11_n : MI := (RX11, yX11_n, cX11_n, 1, (some .int))
theorem mok_X11_n : MOKv mX11_n 0 := ⟨⟨bm_1396, bm_127, ⟨by decide, by decide⟩, by decide +kernel⟩, bm_1395, bm_47⟩
def f_X11_n   (a0 : Nat) (h : MH) : Option (Int32 × MH) :=
  (gR h a0 1).bind fun a_1 =>
  (ldI h a_1 0).bind fun x_2 =>
  some ((x_2 + 2), h)
set_option maxRecDepth 100000 in
set_option maxHeartbeats 4000000 in
theorem v_X11_n {l : Launch} {G : GE} {B N : Nat} {S : List SHP} {o : Int32 × MH} {a0 : Nat}    (hs0 : S[a0]? = some (.inl 11)) {h : MH} (hf : f_X11_n a0 h = some o) : V l G B N mX11_n (rmm 3 0 0) false 0 0 (QI S o) S 0 0 0 [(0, .ref a0)] [] h := by
  unfold f_X11_n at hf
  refine V_aload_n (pc' := 1) dX11_n_0 rfl 0 rfl rfl ?_
  refine V_getR (pc' := 4) 11 1 dX11_n_1 rfl (by decide) (Nat.le_of_ble_eq_true rfl) bm_1225 hs0 (fun _ _ _ => rfl) rfl hf (fun a_1 ha_1 hf => ?_)
  refine V_iconst (v := 0) (pc' := 5) dX11_n_4 rfl (by decide) ?_
  refine V_iald (pc' := 6) dX11_n_5 rfl ha_1 hf (fun x_2 hf => ?_)
  refine V_iconst (v := 2) (pc' := 7) dX11_n_6 rfl (by decide) ?_
  refine V_iadd (pc' := 8) dX11_n_7 rfl ?_
  obtain rfl := Option.some.inj hf
  exact V_iret dX11_n_8 rfl rfl rfl ⟨rfl, rfl, rfl⟩
theorem ct_X11_n {l : Launch} {S : List SHP} {h : MH} {a0 : Nat} (hs0 : S[a0]? = some (.inl 11)) {q : Int32 × MH} (hf : f_X11_n a0 h = some q) : CT l mX11_n 3 false 0 0 S [.ref a0] h (QI S q) :=
  CT_ofV (by decide) rfl (Nat.le_of_ble_eq_true rfl) (fun G B hT => v_X11_n hs0 hf)
/-! LabelStacksModel.links()I -/
theorem dX11_links_0 : decode cX11_links 0 = .ok (.aload_n 0, 1) := by decide +kernel
theorem dX11_links_1 : decode cX11_links 1 = .ok (.getfield 7, 3) := by decide +kernel
theorem dX11_links_4 : decode cX11_links 4 = .ok (.iconst 1, 1) := by decide +kernel
theorem dX11_links_5 : decode cX11_links 5 = .ok (.iaload, 1) := by decide +kernel
theorem dX11_links_6 : decode cX11_links 6 = .ok (.ireturn, 1) := by decide +kernel
abbrev mX11_links : MI := (RX11, yX11_links, cX11_links, 1, (some .int))
theorem mok_X11_links : MOKv mX11_links 0 := ⟨⟨bm_1401, bm_127, ⟨by decide, by decide⟩, by decide +kernel⟩, bm_1400, bm_48⟩
def f_X11_links   (a0 : Nat) (h : MH) : Option (Int32 × MH) :=
  (gR h a0 1).bind fun a_1 =>
  (ldI h a_1 1).bind fun x_2 =>
  some (x_2, h)
set_option maxRecDepth 100000 in
set_option maxHeartbeats 4000000 in
theorem v_X11_links {l : Launch} {G : GE} {B N : Nat} {S : List SHP} {o : Int32 × MH} {a0 : Nat}    (hs0 : S[a0]? = some (.inl 11)) {h : MH} (hf : f_X11_links a0 h = some o) : V l G B N mX11_links (rmm 3 0 0) false 0 0 (QI S o) S 0 0 0 [(0, .ref a0)] [] h := by
  unfold f_X11_links at hf
  refine V_aload_n (pc' := 1) dX11_links_0 rfl 0 rfl rfl ?_
  refine V_getR (pc' := 4) 11 1 dX11_links_1 rfl (by decide) (Nat.le_of_ble_eq_true rfl) bm_1225 hs0 (fun _ _ _ => rfl) rfl hf (fun a_1 ha_1 hf => ?_)
  refine V_iconst (v := 1) (pc' := 5) dX11_links_4 rfl (by decide) ?_
  refine V_iald (pc' := 6) dX11_links_5 rfl ha_1 hf (fun x_2 hf => ?_)
  obtain rfl := Option.some.inj hf
  exact V_iret dX11_links_6 rfl rfl rfl ⟨rfl, rfl, rfl⟩
theorem ct_X11_links {l : Launch} {S : List SHP} {h : MH} {a0 : Nat} (hs0 : S[a0]? = some (.inl 11)) {q : Int32 × MH} (hf : f_X11_links a0 h = some q) : CT l mX11_links 3 false 0 0 S [.ref a0] h (QI S q) :=
  CT_ofV (by decide) rfl (Nat.le_of_ble_eq_true rfl) (fun G B hT => v_X11_links hs0 hf)
/-! LabelStacksModel.from(I)I -/
theorem dX11_from_0 : decode cX11_from 0 = .ok (.aload_n 0, 1) := by decide +kernel
theorem dX11_from_1 : decode cX11_from 1 = .ok (.getfield 7, 3) := by decide +kernel
theorem dX11_from_4 : decode cX11_from 4 = .ok (.iconst 2, 1) := by decide +kernel
theorem dX11_from_5 : decode cX11_from 5 = .ok (.iload_n 1, 1) := by decide +kernel
theorem dX11_from_6 : decode cX11_from 6 = .ok (.iadd, 1) := by decide +kernel
theorem dX11_from_7 : decode cX11_from 7 = .ok (.iaload, 1) := by decide +kernel
theorem dX11_from_8 : decode cX11_from 8 = .ok (.ireturn, 1) := by decide +kernel
abbrev mX11_from : MI := (RX11, yX11_from, cX11_from, 2, (some .int))
theorem mok_X11_from : MOKv mX11_from 1 := ⟨⟨bm_1468, bm_127, ⟨by decide, by decide⟩, by decide +kernel⟩, bm_1467, bm_58⟩
def f_X11_from   (a0 : Nat) (x1 : Int32) (h : MH) : Option (Int32 × MH) :=
  (gR h a0 1).bind fun a_1 =>
  (ldI h a_1 (2 + x1)).bind fun x_2 =>
  some (x_2, h)
set_option maxRecDepth 100000 in
set_option maxHeartbeats 4000000 in
theorem v_X11_from {l : Launch} {G : GE} {B N : Nat} {S : List SHP} {o : Int32 × MH} {a0 : Nat} {x1 : Int32}    (hs0 : S[a0]? = some (.inl 11)) {h : MH} (hf : f_X11_from a0 x1 h = some o) : V l G B N mX11_from (rmm 3 0 0) false 0 0 (QI S o) S 0 0 0 [(0, .ref a0), (1, .int x1)] [] h := by
  unfold f_X11_from at hf
  refine V_aload_n (pc' := 1) dX11_from_0 rfl 0 rfl rfl ?_
  refine V_getR (pc' := 4) 11 1 dX11_from_1 rfl (by decide) (Nat.le_of_ble_eq_true rfl) bm_1225 hs0 (fun _ _ _ => rfl) rfl hf (fun a_1 ha_1 hf => ?_)
  refine V_iconst (v := 2) (pc' := 5) dX11_from_4 rfl (by decide) ?_
  refine V_iload_n (pc' := 6) dX11_from_5 rfl 1 rfl rfl ?_
  refine V_iadd (pc' := 7) dX11_from_6 rfl ?_
  refine V_iald (pc' := 8) dX11_from_7 rfl ha_1 hf (fun x_2 hf => ?_)
  obtain rfl := Option.some.inj hf
  exact V_iret dX11_from_8 rfl rfl rfl ⟨rfl, rfl, rfl⟩
theorem ct_X11_from {l : Launch} {S : List SHP} {h : MH} {a0 : Nat} {x1 : Int32} (hs0 : S[a0]? = some (.inl 11)) {q : Int32 × MH} (hf : f_X11_from a0 x1 h = some q) : CT l mX11_from 3 false 0 0 S [.ref a0, .int x1] h (QI S q) :=
  CT_ofV (by decide) rfl (Nat.le_of_ble_eq_true rfl) (fun G B hT => v_X11_from hs0 hf)
/-! LabelStacksModel.to(I)I -/
theorem dX11_to_0 : decode cX11_to 0 = .ok (.aload_n 0, 1) := by decide +kernel
theorem dX11_to_1 : decode cX11_to 1 = .ok (.getfield 7, 3) := by decide +kernel
theorem dX11_to_4 : decode cX11_to 4 = .ok (.bipush 32, 2) := by decide +kernel
theorem dX11_to_6 : decode cX11_to 6 = .ok (.iload_n 1, 1) := by decide +kernel
theorem dX11_to_7 : decode cX11_to 7 = .ok (.iadd, 1) := by decide +kernel
theorem dX11_to_8 : decode cX11_to 8 = .ok (.iaload, 1) := by decide +kernel
theorem dX11_to_9 : decode cX11_to 9 = .ok (.ireturn, 1) := by decide +kernel
abbrev mX11_to : MI := (RX11, yX11_to, cX11_to, 2, (some .int))
theorem mok_X11_to : MOKv mX11_to 1 := ⟨⟨bm_1464, bm_127, ⟨by decide, by decide⟩, by decide +kernel⟩, bm_1463, bm_57⟩
def f_X11_to   (a0 : Nat) (x1 : Int32) (h : MH) : Option (Int32 × MH) :=
  (gR h a0 1).bind fun a_1 =>
  (ldI h a_1 (32 + x1)).bind fun x_2 =>
  some (x_2, h)
set_option maxRecDepth 100000 in
set_option maxHeartbeats 4000000 in
theorem v_X11_to {l : Launch} {G : GE} {B N : Nat} {S : List SHP} {o : Int32 × MH} {a0 : Nat} {x1 : Int32}    (hs0 : S[a0]? = some (.inl 11)) {h : MH} (hf : f_X11_to a0 x1 h = some o) : V l G B N mX11_to (rmm 3 0 0) false 0 0 (QI S o) S 0 0 0 [(0, .ref a0), (1, .int x1)] [] h := by
  unfold f_X11_to at hf
  refine V_aload_n (pc' := 1) dX11_to_0 rfl 0 rfl rfl ?_
  refine V_getR (pc' := 4) 11 1 dX11_to_1 rfl (by decide) (Nat.le_of_ble_eq_true rfl) bm_1225 hs0 (fun _ _ _ => rfl) rfl hf (fun a_1 ha_1 hf => ?_)
  refine V_bipush (v := 32) (pc' := 6) dX11_to_4 rfl (by decide) ?_
  refine V_iload_n (pc' := 7) dX11_to_6 rfl 1 rfl rfl ?_
  refine V_iadd (pc' := 8) dX11_to_7 rfl ?_
  refine V_iald (pc' := 9) dX11_to_8 rfl ha_1 hf (fun x_2 hf => ?_)
  obtain rfl := Option.some.inj hf
  exact V_iret dX11_to_9 rfl rfl rfl ⟨rfl, rfl, rfl⟩
theorem ct_X11_to {l : Launch} {S : List SHP} {h : MH} {a0 : Nat} {x1 : Int32} (hs0 : S[a0]? = some (.inl 11)) {q : Int32 × MH} (hf : f_X11_to a0 x1 h = some q) : CT l mX11_to 3 false 0 0 S [.ref a0, .int x1] h (QI S q) :=
  CT_ofV (by decide) rfl (Nat.le_of_ble_eq_true rfl) (fun G B hT => v_X11_to hs0 hf)
/-! LabelStacksModel.costOf(I)I -/
theorem dX11_costOf_0 : decode cX11_costOf 0 = .ok (.aload_n 0, 1) := by decide +kernel
theorem dX11_costOf_1 : decode cX11_costOf 1 = .ok (.getfield 7, 3) := by decide +kernel
theorem dX11_costOf_4 : decode cX11_costOf 4 = .ok (.bipush 62, 2) := by decide +kernel
theorem dX11_costOf_6 : decode cX11_costOf 6 = .ok (.iload_n 1, 1) := by decide +kernel
theorem dX11_costOf_7 : decode cX11_costOf 7 = .ok (.iadd, 1) := by decide +kernel
theorem dX11_costOf_8 : decode cX11_costOf 8 = .ok (.iaload, 1) := by decide +kernel
theorem dX11_costOf_9 : decode cX11_costOf 9 = .ok (.ireturn, 1) := by decide +kernel
abbrev mX11_costOf : MI := (RX11, yX11_costOf, cX11_costOf, 2, (some .int))
theorem mok_X11_costOf : MOKv mX11_costOf 1 := ⟨⟨bm_1425, bm_127, ⟨by decide, by decide⟩, by decide +kernel⟩, bm_1424, bm_52⟩
def f_X11_costOf   (a0 : Nat) (x1 : Int32) (h : MH) : Option (Int32 × MH) :=
  (gR h a0 1).bind fun a_1 =>
  (ldI h a_1 (62 + x1)).bind fun x_2 =>
  some (x_2, h)
set_option maxRecDepth 100000 in
set_option maxHeartbeats 4000000 in
theorem v_X11_costOf {l : Launch} {G : GE} {B N : Nat} {S : List SHP} {o : Int32 × MH} {a0 : Nat} {x1 : Int32}    (hs0 : S[a0]? = some (.inl 11)) {h : MH} (hf : f_X11_costOf a0 x1 h = some o) : V l G B N mX11_costOf (rmm 3 0 0) false 0 0 (QI S o) S 0 0 0 [(0, .ref a0), (1, .int x1)] [] h := by
  unfold f_X11_costOf at hf
  refine V_aload_n (pc' := 1) dX11_costOf_0 rfl 0 rfl rfl ?_
  refine V_getR (pc' := 4) 11 1 dX11_costOf_1 rfl (by decide) (Nat.le_of_ble_eq_true rfl) bm_1225 hs0 (fun _ _ _ => rfl) rfl hf (fun a_1 ha_1 hf => ?_)
  refine V_bipush (v := 62) (pc' := 6) dX11_costOf_4 rfl (by decide) ?_
  refine V_iload_n (pc' := 7) dX11_costOf_6 rfl 1 rfl rfl ?_
  refine V_iadd (pc' := 8) dX11_costOf_7 rfl ?_
  refine V_iald (pc' := 9) dX11_costOf_8 rfl ha_1 hf (fun x_2 hf => ?_)
  obtain rfl := Option.some.inj hf
  exact V_iret dX11_costOf_9 rfl rfl rfl ⟨rfl, rfl, rfl⟩
theorem ct_X11_costOf {l : Launch} {S : List SHP} {h : MH} {a0 : Nat} {x1 : Int32} (hs0 : S[a0]? = some (.inl 11)) {q : Int32 × MH} (hf : f_X11_costOf a0 x1 h = some q) : CT l mX11_costOf 3 false 0 0 S [.ref a0, .int x1] h (QI S q) :=
  CT_ofV (by decide) rfl (Nat.le_of_ble_eq_true rfl) (fun G B hT => v_X11_costOf hs0 hf)
/-! LabelStacksModel.isUp(I)Z -/
theorem dX11_isUp_0 : decode cX11_isUp 0 = .ok (.aload_n 0, 1) := by decide +kernel
theorem dX11_isUp_1 : decode cX11_isUp 1 = .ok (.getfield 7, 3) := by decide +kernel
theorem dX11_isUp_4 : decode cX11_isUp 4 = .ok (.bipush 92, 2) := by decide +kernel
theorem dX11_isUp_6 : decode cX11_isUp 6 = .ok (.iload_n 1, 1) := by decide +kernel
theorem dX11_isUp_7 : decode cX11_isUp 7 = .ok (.iadd, 1) := by decide +kernel
theorem dX11_isUp_8 : decode cX11_isUp 8 = .ok (.iaload, 1) := by decide +kernel
theorem dX11_isUp_9 : decode cX11_isUp 9 = .ok (.ifCond .ne 7, 3) := by decide +kernel
theorem dX11_isUp_12 : decode cX11_isUp 12 = .ok (.iconst 1, 1) := by decide +kernel
theorem dX11_isUp_13 : decode cX11_isUp 13 = .ok (.goto 4, 3) := by decide +kernel
theorem dX11_isUp_16 : decode cX11_isUp 16 = .ok (.iconst 0, 1) := by decide +kernel
theorem dX11_isUp_17 : decode cX11_isUp 17 = .ok (.ireturn, 1) := by decide +kernel
abbrev mX11_isUp : MI := (RX11, yX11_isUp, cX11_isUp, 2, (some .boolean))
theorem mok_X11_isUp : MOKv mX11_isUp 1 := ⟨⟨bm_1417, bm_127, ⟨by decide, by decide⟩, by decide +kernel⟩, bm_1416, bm_51⟩
def f_X11_isUp   (a0 : Nat) (x1 : Int32) (h : MH) : Option (Int32 × MH) :=
  (gR h a0 1).bind fun a_1 =>
  (ldI h a_1 (92 + x1)).bind fun x_2 =>
  if x_2 = 0 then
    some (1, h)
  else
    some (0, h)
set_option maxRecDepth 100000 in
set_option maxHeartbeats 4000000 in
theorem v_X11_isUp {l : Launch} {G : GE} {B N : Nat} {S : List SHP} {o : Int32 × MH} {a0 : Nat} {x1 : Int32}    (hs0 : S[a0]? = some (.inl 11)) {h : MH} (hf : f_X11_isUp a0 x1 h = some o) : V l G B N mX11_isUp (rmm 3 0 0) false 0 0 (QI S o) S 0 0 0 [(0, .ref a0), (1, .int x1)] [] h := by
  unfold f_X11_isUp at hf
  refine V_aload_n (pc' := 1) dX11_isUp_0 rfl 0 rfl rfl ?_
  refine V_getR (pc' := 4) 11 1 dX11_isUp_1 rfl (by decide) (Nat.le_of_ble_eq_true rfl) bm_1225 hs0 (fun _ _ _ => rfl) rfl hf (fun a_1 ha_1 hf => ?_)
  refine V_bipush (v := 92) (pc' := 6) dX11_isUp_4 rfl (by decide) ?_
  refine V_iload_n (pc' := 7) dX11_isUp_6 rfl 1 rfl rfl ?_
  refine V_iadd (pc' := 8) dX11_isUp_7 rfl ?_
  refine V_iald (pc' := 9) dX11_isUp_8 rfl ha_1 hf (fun x_2 hf => ?_)
  refine V_if_ne (tgt := 16) (pc' := 12) dX11_isUp_9 (by decide) rfl hf (fun hf => ?_) (fun hf => ?_)
  ·
    refine V_iconst (v := 1) (pc' := 13) dX11_isUp_12 rfl (by decide) ?_
    refine V_goto (tgt := 17) dX11_isUp_13 (by decide) ?_
    obtain rfl := Option.some.inj hf
    exact V_zretL dX11_isUp_17 rfl rfl rfl (by decide) ⟨rfl, rfl, rfl⟩
  ·
    refine V_iconst (v := 0) (pc' := 17) dX11_isUp_16 rfl (by decide) ?_
    obtain rfl := Option.some.inj hf
    exact V_zretL dX11_isUp_17 rfl rfl rfl (by decide) ⟨rfl, rfl, rfl⟩
theorem ct_X11_isUp {l : Launch} {S : List SHP} {h : MH} {a0 : Nat} {x1 : Int32} (hs0 : S[a0]? = some (.inl 11)) {q : Int32 × MH} (hf : f_X11_isUp a0 x1 h = some q) : CT l mX11_isUp 3 false 0 0 S [.ref a0, .int x1] h (QI S q) :=
  CT_ofV (by decide) rfl (Nat.le_of_ble_eq_true rfl) (fun G B hT => v_X11_isUp hs0 hf)
/-! LabelStacksModel.isNode(I)Z -/
theorem dX11_isNode_0 : decode cX11_isNode 0 = .ok (.aload_n 0, 1) := by decide +kernel
theorem dX11_isNode_1 : decode cX11_isNode 1 = .ok (.iload_n 1, 1) := by decide +kernel
theorem dX11_isNode_2 : decode cX11_isNode 2 = .ok (.i2l, 1) := by decide +kernel
theorem dX11_isNode_3 : decode cX11_isNode 3 = .ok (.lconst 0, 1) := by decide +kernel
theorem dX11_isNode_4 : decode cX11_isNode 4 = .ok (.aload_n 0, 1) := by decide +kernel
theorem dX11_isNode_5 : decode cX11_isNode 5 = .ok (.invokevirtual 87, 3) := by decide +kernel
theorem dX11_isNode_8 : decode cX11_isNode 8 = .ok (.i2l, 1) := by decide +kernel
theorem dX11_isNode_9 : decode cX11_isNode 9 = .ok (.lconst 1, 1) := by decide +kernel
theorem dX11_isNode_10 : decode cX11_isNode 10 = .ok (.lsub, 1) := by decide +kernel
theorem dX11_isNode_11 : decode cX11_isNode 11 = .ok (.invokevirtual 91, 3) := by decide +kernel
theorem dX11_isNode_14 : decode cX11_isNode 14 = .ok (.ireturn, 1) := by decide +kernel
abbrev mX11_isNode : MI := (RX11, yX11_isNode, cX11_isNode, 2, (some .boolean))
theorem mok_X11_isNode : MOKv mX11_isNode 1 := ⟨⟨bm_1392, bm_127, ⟨by decide, by decide⟩, by decide +kernel⟩, bm_1391, bm_46⟩
def f_X11_isNode   (a0 : Nat) (x1 : Int32) (h : MH) : Option (Int32 × MH) :=
  (f_X11_n a0 h).bind fun q_1 =>
  (f_X11_isIn a0 (Int32.toInt64 x1) 0 ((Int32.toInt64 q_1.1) - 1) q_1.2).bind fun q_2 =>
  if q_2.1 = 0 ∨ q_2.1 = 1 then some (q_2.1, q_2.2) else none
set_option maxRecDepth 100000 in
set_option maxHeartbeats 4000000 in
theorem v_X11_isNode {l : Launch} {G : GE} {B N : Nat} {S : List SHP} {o : Int32 × MH} {a0 : Nat} {x1 : Int32}    (hs0 : S[a0]? = some (.inl 11)) {h : MH} (hf : f_X11_isNode a0 x1 h = some o) : V l G B N mX11_isNode (rmm 4 0 0) false 0 0 (QI S o) S 0 0 0 [(0, .ref a0), (1, .int x1)] [] h := by
  unfold f_X11_isNode at hf
  refine V_aload_n (pc' := 1) dX11_isNode_0 rfl 0 rfl rfl ?_
  refine V_iload_n (pc' := 2) dX11_isNode_1 rfl 1 rfl rfl ?_
  refine V_i2l (pc' := 3) dX11_isNode_2 rfl ?_
  refine V_lconst (v := 0) (pc' := 4) dX11_isNode_3 rfl (by decide) ?_
  refine V_aload_n (pc' := 5) dX11_isNode_4 rfl 0 rfl rfl ?_
  refine V_cvI (pc' := 8) (As := []) (rest := [.long 0, .long (Int32.toInt64 x1), .ref a0]) dX11_isNode_5 rfl mok_X11_n bm_1393 11 (by decide) rfl hs0 rfl rfl (Nat.le_of_ble_eq_true rfl) (by decide) hf (fun q e => ct_X11_n hs0 e) (fun q_1 hf => ?_)
  refine V_i2l (pc' := 9) dX11_isNode_8 rfl ?_
  refine V_lconst (v := 1) (pc' := 10) dX11_isNode_9 rfl (by decide) ?_
  refine V_lsub (pc' := 11) dX11_isNode_10 rfl ?_
  refine V_cvI (pc' := 14) (As := [.long (Int32.toInt64 x1), .long 0, .long ((Int32.toInt64 q_1.1) - 1)]) (rest := []) dX11_isNode_11 rfl mok_X11_isIn bm_1373 11 (by decide) rfl hs0 rfl rfl (Nat.le_of_ble_eq_true rfl) (by decide) hf (fun q e => ct_X11_isIn hs0 e) (fun q_2 hf => ?_)
  refine V_zret dX11_isNode_14 rfl rfl rfl hf (fun hf => ?_)
  obtain rfl := Option.some.inj hf
  exact ⟨rfl, rfl, rfl⟩
theorem ct_X11_isNode {l : Launch} {S : List SHP} {h : MH} {a0 : Nat} {x1 : Int32} (hs0 : S[a0]? = some (.inl 11)) {q : Int32 × MH} (hf : f_X11_isNode a0 x1 h = some q) : CT l mX11_isNode 4 false 0 0 S [.ref a0, .int x1] h (QI S q) :=
  CT_ofV (by decide) rfl (Nat.le_of_ble_eq_true rfl) (fun G B hT => v_X11_isNode hs0 hf)
/-! LabelStacksModel.isLink(I)Z -/
theorem dX11_isLink_0 : decode cX11_isLink 0 = .ok (.aload_n 0, 1) := by decide +kernel
theorem dX11_isLink_1 : decode cX11_isLink 1 = .ok (.iload_n 1, 1) := by decide +kernel
theorem dX11_isLink_2 : decode cX11_isLink 2 = .ok (.i2l, 1) := by decide +kernel
theorem dX11_isLink_3 : decode cX11_isLink 3 = .ok (.lconst 0, 1) := by decide +kernel
theorem dX11_isLink_4 : decode cX11_isLink 4 = .ok (.aload_n 0, 1) := by decide +kernel
theorem dX11_isLink_5 : decode cX11_isLink 5 = .ok (.invokevirtual 95, 3) := by decide +kernel
theorem dX11_isLink_8 : decode cX11_isLink 8 = .ok (.i2l, 1) := by decide +kernel
theorem dX11_isLink_9 : decode cX11_isLink 9 = .ok (.lconst 1, 1) := by decide +kernel
theorem dX11_isLink_10 : decode cX11_isLink 10 = .ok (.lsub, 1) := by decide +kernel
theorem dX11_isLink_11 : decode cX11_isLink 11 = .ok (.invokevirtual 91, 3) := by decide +kernel
theorem dX11_isLink_14 : decode cX11_isLink 14 = .ok (.ireturn, 1) := by decide +kernel
abbrev mX11_isLink : MI := (RX11, yX11_isLink, cX11_isLink, 2, (some .boolean))
theorem mok_X11_isLink : MOKv mX11_isLink 1 := ⟨⟨bm_1413, bm_127, ⟨by decide, by decide⟩, by decide +kernel⟩, bm_1412, bm_50⟩
def f_X11_isLink   (a0 : Nat) (x1 : Int32) (h : MH) : Option (Int32 × MH) :=
  (f_X11_links a0 h).bind fun q_1 =>
  (f_X11_isIn a0 (Int32.toInt64 x1) 0 ((Int32.toInt64 q_1.1) - 1) q_1.2).bind fun q_2 =>
  if q_2.1 = 0 ∨ q_2.1 = 1 then some (q_2.1, q_2.2) else none
set_option maxRecDepth 100000 in
set_option maxHeartbeats 4000000 in
theorem v_X11_isLink {l : Launch} {G : GE} {B N : Nat} {S : List SHP} {o : Int32 × MH} {a0 : Nat} {x1 : Int32}    (hs0 : S[a0]? = some (.inl 11)) {h : MH} (hf : f_X11_isLink a0 x1 h = some o) : V l G B N mX11_isLink (rmm 4 0 0) false 0 0 (QI S o) S 0 0 0 [(0, .ref a0), (1, .int x1)] [] h := by
  unfold f_X11_isLink at hf
  refine V_aload_n (pc' := 1) dX11_isLink_0 rfl 0 rfl rfl ?_
  refine V_iload_n (pc' := 2) dX11_isLink_1 rfl 1 rfl rfl ?_
  refine V_i2l (pc' := 3) dX11_isLink_2 rfl ?_
  refine V_lconst (v := 0) (pc' := 4) dX11_isLink_3 rfl (by decide) ?_
  refine V_aload_n (pc' := 5) dX11_isLink_4 rfl 0 rfl rfl ?_
  refine V_cvI (pc' := 8) (As := []) (rest := [.long 0, .long (Int32.toInt64 x1), .ref a0]) dX11_isLink_5 rfl mok_X11_links bm_1398 11 (by decide) rfl hs0 rfl rfl (Nat.le_of_ble_eq_true rfl) (by decide) hf (fun q e => ct_X11_links hs0 e) (fun q_1 hf => ?_)
  refine V_i2l (pc' := 9) dX11_isLink_8 rfl ?_
  refine V_lconst (v := 1) (pc' := 10) dX11_isLink_9 rfl (by decide) ?_
  refine V_lsub (pc' := 11) dX11_isLink_10 rfl ?_
  refine V_cvI (pc' := 14) (As := [.long (Int32.toInt64 x1), .long 0, .long ((Int32.toInt64 q_1.1) - 1)]) (rest := []) dX11_isLink_11 rfl mok_X11_isIn bm_1373 11 (by decide) rfl hs0 rfl rfl (Nat.le_of_ble_eq_true rfl) (by decide) hf (fun q e => ct_X11_isIn hs0 e) (fun q_2 hf => ?_)
  refine V_zret dX11_isLink_14 rfl rfl rfl hf (fun hf => ?_)
  obtain rfl := Option.some.inj hf
  exact ⟨rfl, rfl, rfl⟩
theorem ct_X11_isLink {l : Launch} {S : List SHP} {h : MH} {a0 : Nat} {x1 : Int32} (hs0 : S[a0]? = some (.inl 11)) {q : Int32 × MH} (hf : f_X11_isLink a0 x1 h = some q) : CT l mX11_isLink 4 false 0 0 S [.ref a0, .int x1] h (QI S q) :=
  CT_ofV (by decide) rfl (Nat.le_of_ble_eq_true rfl) (fun G B hT => v_X11_isLink hs0 hf)
/-! LabelStacksModel.keepsAct()V -/
theorem dX11_keepsAct_0 : decode cX11_keepsAct 0 = .ok (.aload_n 0, 1) := by decide +kernel
theorem dX11_keepsAct_1 : decode cX11_keepsAct 1 = .ok (.getfield 98, 3) := by decide +kernel
theorem dX11_keepsAct_4 : decode cX11_keepsAct 4 = .ok (.bipush 6, 2) := by decide +kernel
theorem dX11_keepsAct_6 : decode cX11_keepsAct 6 = .ok (.if_icmp .ne 39, 3) := by decide +kernel
theorem dX11_keepsAct_9 : decode cX11_keepsAct 9 = .ok (.iconst 0, 1) := by decide +kernel
theorem dX11_keepsAct_10 : decode cX11_keepsAct 10 = .ok (.istore_n 1, 1) := by decide +kernel
theorem dX11_keepsAct_11 : decode cX11_keepsAct 11 = .ok (.iload_n 1, 1) := by decide +kernel
theorem dX11_keepsAct_12 : decode cX11_keepsAct 12 = .ok (.sipush 2560, 3) := by decide +kernel
theorem dX11_keepsAct_15 : decode cX11_keepsAct 15 = .ok (.if_icmp .ge 25, 3) := by decide +kernel
theorem dX11_keepsAct_18 : decode cX11_keepsAct 18 = .ok (.aload_n 0, 1) := by decide +kernel
theorem dX11_keepsAct_19 : decode cX11_keepsAct 19 = .ok (.getfield 13, 3) := by decide +kernel
theorem dX11_keepsAct_22 : decode cX11_keepsAct 22 = .ok (.iload_n 1, 1) := by decide +kernel
theorem dX11_keepsAct_23 : decode cX11_keepsAct 23 = .ok (.aload_n 0, 1) := by decide +kernel
theorem dX11_keepsAct_24 : decode cX11_keepsAct 24 = .ok (.getfield 13, 3) := by decide +kernel
theorem dX11_keepsAct_27 : decode cX11_keepsAct 27 = .ok (.iload_n 1, 1) := by decide +kernel
theorem dX11_keepsAct_28 : decode cX11_keepsAct 28 = .ok (.sipush 512, 3) := by decide +kernel
theorem dX11_keepsAct_31 : decode cX11_keepsAct 31 = .ok (.iadd, 1) := by decide +kernel
theorem dX11_keepsAct_32 : decode cX11_keepsAct 32 = .ok (.iaload, 1) := by decide +kernel
theorem dX11_keepsAct_33 : decode cX11_keepsAct 33 = .ok (.iastore, 1) := by decide +kernel
theorem dX11_keepsAct_34 : decode cX11_keepsAct 34 = .ok (.iinc 1 1, 3) := by decide +kernel
theorem dX11_keepsAct_37 : decode cX11_keepsAct 37 = .ok (.goto (-26), 3) := by decide +kernel
theorem dX11_keepsAct_40 : decode cX11_keepsAct 40 = .ok (.aload_n 0, 1) := by decide +kernel
theorem dX11_keepsAct_41 : decode cX11_keepsAct 41 = .ok (.iconst 5, 1) := by decide +kernel
theorem dX11_keepsAct_42 : decode cX11_keepsAct 42 = .ok (.putfield 98, 3) := by decide +kernel
theorem dX11_keepsAct_45 : decode cX11_keepsAct 45 = .ok (.iconst 0, 1) := by decide +kernel
theorem dX11_keepsAct_46 : decode cX11_keepsAct 46 = .ok (.istore_n 1, 1) := by decide +kernel
theorem dX11_keepsAct_47 : decode cX11_keepsAct 47 = .ok (.iload_n 1, 1) := by decide +kernel
theorem dX11_keepsAct_48 : decode cX11_keepsAct 48 = .ok (.sipush 512, 3) := by decide +kernel
theorem dX11_keepsAct_51 : decode cX11_keepsAct 51 = .ok (.if_icmp .ge 30, 3) := by decide +kernel
theorem dX11_keepsAct_54 : decode cX11_keepsAct 54 = .ok (.aload_n 0, 1) := by decide +kernel
theorem dX11_keepsAct_55 : decode cX11_keepsAct 55 = .ok (.getfield 13, 3) := by decide +kernel
theorem dX11_keepsAct_58 : decode cX11_keepsAct 58 = .ok (.aload_n 0, 1) := by decide +kernel
theorem dX11_keepsAct_59 : decode cX11_keepsAct 59 = .ok (.getfield 98, 3) := by decide +kernel
theorem dX11_keepsAct_62 : decode cX11_keepsAct 62 = .ok (.sipush 512, 3) := by decide +kernel
theorem dX11_keepsAct_65 : decode cX11_keepsAct 65 = .ok (.imul, 1) := by decide +kernel
theorem dX11_keepsAct_66 : decode cX11_keepsAct 66 = .ok (.iload_n 1, 1) := by decide +kernel
theorem dX11_keepsAct_67 : decode cX11_keepsAct 67 = .ok (.iadd, 1) := by decide +kernel
theorem dX11_keepsAct_68 : decode cX11_keepsAct 68 = .ok (.aload_n 0, 1) := by decide +kernel
theorem dX11_keepsAct_69 : decode cX11_keepsAct 69 = .ok (.getfield 7, 3) := by decide +kernel
theorem dX11_keepsAct_72 : decode cX11_keepsAct 72 = .ok (.iload_n 1, 1) := by decide +kernel
theorem dX11_keepsAct_73 : decode cX11_keepsAct 73 = .ok (.iaload, 1) := by decide +kernel
theorem dX11_keepsAct_74 : decode cX11_keepsAct 74 = .ok (.iastore, 1) := by decide +kernel
theorem dX11_keepsAct_75 : decode cX11_keepsAct 75 = .ok (.iinc 1 1, 3) := by decide +kernel
theorem dX11_keepsAct_78 : decode cX11_keepsAct 78 = .ok (.goto (-31), 3) := by decide +kernel
theorem dX11_keepsAct_81 : decode cX11_keepsAct 81 = .ok (.aload_n 0, 1) := by decide +kernel
theorem dX11_keepsAct_82 : decode cX11_keepsAct 82 = .ok (.aload_n 0, 1) := by decide +kernel
theorem dX11_keepsAct_83 : decode cX11_keepsAct 83 = .ok (.getfield 98, 3) := by decide +kernel
theorem dX11_keepsAct_86 : decode cX11_keepsAct 86 = .ok (.iconst 1, 1) := by decide +kernel
theorem dX11_keepsAct_87 : decode cX11_keepsAct 87 = .ok (.iadd, 1) := by decide +kernel
theorem dX11_keepsAct_88 : decode cX11_keepsAct 88 = .ok (.putfield 98, 3) := by decide +kernel
theorem dX11_keepsAct_91 : decode cX11_keepsAct 91 = .ok (.aload_n 0, 1) := by decide +kernel
theorem dX11_keepsAct_92 : decode cX11_keepsAct 92 = .ok (.iconst 0, 1) := by decide +kernel
theorem dX11_keepsAct_93 : decode cX11_keepsAct 93 = .ok (.putfield 101, 3) := by decide +kernel
theorem dX11_keepsAct_96 : decode cX11_keepsAct 96 = .ok (.return_, 1) := by decide +kernel
abbrev mX11_keepsAct : MI := (RX11, yX11_keepsAct, cX11_keepsAct, 2, none)
theorem mok_X11_keepsAct : MOKv mX11_keepsAct 0 := ⟨⟨bm_1380, bm_127, ⟨by decide, by decide⟩, by decide +kernel⟩, bm_1379, bm_44⟩
def f_X11_keepsAct_47b   (a0 : Nat) (k47 : Int32 → MH → Option (MH)) (p : Int32) (h : MH) : Option (MH) :=
  if p < 512 then
    (gR h a0 2).bind fun a_1 =>
    (gR h a0 1).bind fun a_2 =>
    (ldI h a_2 p).bind fun x_3 =>
    (stI h a_1 (((gI h a0 3) * 512) + p) x_3).bind fun h_4 =>
    k47 (p + 1) h_4
  else
    lt (sI h a0 3 ((gI h a0 3) + 1)) fun h_5 =>
    lt (sI h_5 a0 7 0) fun h_6 =>
    some h_6
def f_X11_keepsAct_47   (a0 : Nat) : Nat → Int32 → MH → Option (MH) := lp (f_X11_keepsAct_47b a0)
def f_X11_keepsAct_45   (a0 : Nat) (h : MH) : Option (MH) :=
  f_X11_keepsAct_47 a0 FU 0 h
def f_X11_keepsAct_11b   (a0 : Nat) (k11 : Int32 → MH → Option (MH)) (p : Int32) (h : MH) : Option (MH) :=
  if p < 2560 then
    (gR h a0 2).bind fun a_1 =>
    (gR h a0 2).bind fun a_2 =>
    (ldI h a_2 (p + 512)).bind fun x_3 =>
    (stI h a_1 p x_3).bind fun h_4 =>
    k11 (p + 1) h_4
  else
    lt (sI h a0 3 5) fun h_5 =>
    f_X11_keepsAct_45 a0 h_5
def f_X11_keepsAct_11   (a0 : Nat) : Nat → Int32 → MH → Option (MH) := lp (f_X11_keepsAct_11b a0)
def f_X11_keepsAct   (a0 : Nat) (h : MH) : Option (MH) :=
  if (gI h a0 3) = 6 then
    f_X11_keepsAct_11 a0 FU 0 h
  else
    f_X11_keepsAct_45 a0 h
set_option maxRecDepth 100000 in
set_option maxHeartbeats 4000000 in
theorem v_X11_keepsAct_47b {l : Launch} {G : GE} {B N : Nat} {S : List SHP} {o : MH} {a0 : Nat}    (hs0 : S[a0]? = some (.inl 11)) {k47 : Int32 → MH → Option (MH)} (hk47 : ∀ (p : Int32) (h : MH), k47 p h = some o → V l G B N mX11_keepsAct (rmm 3 0 0) false 0 0 (QV S o) S 0 0 47 [(0, .ref a0), (1, .int p)] [] h) {p : Int32} {h : MH} (hf : f_X11_keepsAct_47b a0 k47 p h = some o) : V l G B N mX11_keepsAct (rmm 3 0 0) false 0 0 (QV S o) S 0 0 47 [(0, .ref a0), (1, .int p)] [] h := by
  unfold f_X11_keepsAct_47b at hf
  refine V_iload_n (pc' := 48) dX11_keepsAct_47 rfl 1 rfl rfl ?_
  refine V_sipush (v := 512) (pc' := 51) dX11_keepsAct_48 rfl (by decide) ?_
  refine V_icmp_ge (tgt := 81) (pc' := 54) dX11_keepsAct_51 (by decide) rfl hf (fun hf => ?_) (fun hf => ?_)
  ·
    refine V_aload_n (pc' := 55) dX11_keepsAct_54 rfl 0 rfl rfl ?_
    refine V_getR (pc' := 58) 11 2 dX11_keepsAct_55 rfl (by decide) (Nat.le_of_ble_eq_true rfl) bm_1226 hs0 (fun _ _ _ => rfl) rfl hf (fun a_1 ha_1 hf => ?_)
    refine V_aload_n (pc' := 59) dX11_keepsAct_58 rfl 0 rfl rfl ?_
    refine V_getI (pc' := 62) 11 3 dX11_keepsAct_59 rfl (by decide) (Nat.le_of_ble_eq_true rfl) bm_1227 hs0 (fun _ _ _ => rfl) ?_
    refine V_sipush (v := 512) (pc' := 65) dX11_keepsAct_62 rfl (by decide) ?_
    refine V_imul (pc' := 66) dX11_keepsAct_65 rfl ?_
    refine V_iload_n (pc' := 67) dX11_keepsAct_66 rfl 1 rfl rfl ?_
    refine V_iadd (pc' := 68) dX11_keepsAct_67 rfl ?_
    refine V_aload_n (pc' := 69) dX11_keepsAct_68 rfl 0 rfl rfl ?_
    refine V_getR (pc' := 72) 11 1 dX11_keepsAct_69 rfl (by decide) (Nat.le_of_ble_eq_true rfl) bm_1225 hs0 (fun _ _ _ => rfl) rfl hf (fun a_2 ha_2 hf => ?_)
    refine V_iload_n (pc' := 73) dX11_keepsAct_72 rfl 1 rfl rfl ?_
    refine V_iald (pc' := 74) dX11_keepsAct_73 rfl ha_2 hf (fun x_3 hf => ?_)
    refine V_iast (pc' := 75) dX11_keepsAct_74 rfl ha_1 hf (fun h_4 hf => ?_)
    refine V_iinc (v := (p + 1)) (lv' := [(1, .int (p + 1)), (0, .ref a0)]) (pc' := 78) dX11_keepsAct_75 rfl 1 rfl rfl (Nat.le_of_ble_eq_true rfl) rfl ?_
    refine V_goto (tgt := 47) dX11_keepsAct_78 (by decide) ?_
    exact V_sub (lv' := [(0, .ref a0), (1, .int (p + 1))]) [1, 0] rfl (hk47 (p + 1) h_4 hf)
  ·
    refine V_aload_n (pc' := 82) dX11_keepsAct_81 rfl 0 rfl rfl ?_
    refine V_aload_n (pc' := 83) dX11_keepsAct_82 rfl 0 rfl rfl ?_
    refine V_getI (pc' := 86) 11 3 dX11_keepsAct_83 rfl (by decide) (Nat.le_of_ble_eq_true rfl) bm_1227 hs0 (fun _ _ _ => rfl) ?_
    refine V_iconst (v := 1) (pc' := 87) dX11_keepsAct_86 rfl (by decide) ?_
    refine V_iadd (pc' := 88) dX11_keepsAct_87 rfl ?_
    refine V_putI (pc' := 91) 11 3 dX11_keepsAct_88 rfl (by decide) (Nat.le_of_ble_eq_true rfl) bm_1227 hs0 (Or.inl rfl) rfl ?_
    refine V_nmH hf (fun h_5 hf => ?_)
    refine V_aload_n (pc' := 92) dX11_keepsAct_91 rfl 0 rfl rfl ?_
    refine V_iconst (v := 0) (pc' := 93) dX11_keepsAct_92 rfl (by decide) ?_
    refine V_putZL (pc' := 96) 11 7 dX11_keepsAct_93 rfl (by decide) (Nat.le_of_ble_eq_true rfl) bm_1231 hs0 rfl rfl (by decide) ?_
    refine V_nmH hf (fun h_6 hf => ?_)
    obtain rfl := Option.some.inj hf
    exact V_vret dX11_keepsAct_96 rfl rfl rfl ⟨rfl, rfl, rfl⟩
theorem v_X11_keepsAct_47 {l : Launch} {G : GE} {B N : Nat} {S : List SHP} {o : MH} {a0 : Nat}    (hs0 : S[a0]? = some (.inl 11)) {n : Nat} {p : Int32} {h : MH} (hf : f_X11_keepsAct_47 a0 n p h = some o) : V l G B N mX11_keepsAct (rmm 3 0 0) false 0 0 (QV S o) S 0 0 47 [(0, .ref a0), (1, .int p)] [] h :=
  V_lp (VV := fun p h => V l G B N mX11_keepsAct (rmm 3 0 0) false 0 0 (QV S o) S 0 0 47 [(0, .ref a0), (1, .int p)] [] h) (fun _ hk _ _ hf => v_X11_keepsAct_47b hs0 hk hf) n p h hf
set_option maxRecDepth 100000 in
set_option maxHeartbeats 4000000 in
theorem v_X11_keepsAct_45 {l : Launch} {G : GE} {B N : Nat} {S : List SHP} {o : MH} {a0 : Nat}    (hs0 : S[a0]? = some (.inl 11)) {h : MH} (hf : f_X11_keepsAct_45 a0 h = some o) : V l G B N mX11_keepsAct (rmm 3 0 0) false 0 0 (QV S o) S 0 0 45 [(0, .ref a0)] [] h := by
  unfold f_X11_keepsAct_45 at hf
  refine V_iconst (v := 0) (pc' := 46) dX11_keepsAct_45 rfl (by decide) ?_
  refine V_istore_n (lv' := [(1, .int 0), (0, .ref a0)]) (pc' := 47) dX11_keepsAct_46 rfl rfl (Nat.le_of_ble_eq_true rfl) rfl ?_
  exact V_sub (lv' := [(0, .ref a0), (1, .int 0)]) [1, 0] rfl (v_X11_keepsAct_47 hs0 hf)
set_option maxRecDepth 100000 in
set_option maxHeartbeats 4000000 in
theorem v_X11_keepsAct_11b {l : Launch} {G : GE} {B N : Nat} {S : List SHP} {o : MH} {a0 : Nat}    (hs0 : S[a0]? = some (.inl 11)) {k11 : Int32 → MH → Option (MH)} (hk11 : ∀ (p : Int32) (h : MH), k11 p h = some o → V l G B N mX11_keepsAct (rmm 3 0 0) false 0 0 (QV S o) S 0 0 11 [(0, .ref a0), (1, .int p)] [] h) {p : Int32} {h : MH} (hf : f_X11_keepsAct_11b a0 k11 p h = some o) : V l G B N mX11_keepsAct (rmm 3 0 0) false 0 0 (QV S o) S 0 0 11 [(0, .ref a0), (1, .int p)] [] h := by
  unfold f_X11_keepsAct_11b at hf
  refine V_iload_n (pc' := 12) dX11_keepsAct_11 rfl 1 rfl rfl ?_
  refine V_sipush (v := 2560) (pc' := 15) dX11_keepsAct_12 rfl (by decide) ?_
  refine V_icmp_ge (tgt := 40) (pc' := 18) dX11_keepsAct_15 (by decide) rfl hf (fun hf => ?_) (fun hf => ?_)
  ·
    refine V_aload_n (pc' := 19) dX11_keepsAct_18 rfl 0 rfl rfl ?_
    refine V_getR (pc' := 22) 11 2 dX11_keepsAct_19 rfl (by decide) (Nat.le_of_ble_eq_true rfl) bm_1226 hs0 (fun _ _ _ => rfl) rfl hf (fun a_1 ha_1 hf => ?_)
    refine V_iload_n (pc' := 23) dX11_keepsAct_22 rfl 1 rfl rfl ?_
    refine V_aload_n (pc' := 24) dX11_keepsAct_23 rfl 0 rfl rfl ?_
    refine V_getR (pc' := 27) 11 2 dX11_keepsAct_24 rfl (by decide) (Nat.le_of_ble_eq_true rfl) bm_1226 hs0 (fun _ _ _ => rfl) rfl hf (fun a_2 ha_2 hf => ?_)
    refine V_iload_n (pc' := 28) dX11_keepsAct_27 rfl 1 rfl rfl ?_
    refine V_sipush (v := 512) (pc' := 31) dX11_keepsAct_28 rfl (by decide) ?_
    refine V_iadd (pc' := 32) dX11_keepsAct_31 rfl ?_
    refine V_iald (pc' := 33) dX11_keepsAct_32 rfl ha_2 hf (fun x_3 hf => ?_)
    refine V_iast (pc' := 34) dX11_keepsAct_33 rfl ha_1 hf (fun h_4 hf => ?_)
    refine V_iinc (v := (p + 1)) (lv' := [(1, .int (p + 1)), (0, .ref a0)]) (pc' := 37) dX11_keepsAct_34 rfl 1 rfl rfl (Nat.le_of_ble_eq_true rfl) rfl ?_
    refine V_goto (tgt := 11) dX11_keepsAct_37 (by decide) ?_
    exact V_sub (lv' := [(0, .ref a0), (1, .int (p + 1))]) [1, 0] rfl (hk11 (p + 1) h_4 hf)
  ·
    refine V_aload_n (pc' := 41) dX11_keepsAct_40 rfl 0 rfl rfl ?_
    refine V_iconst (v := 5) (pc' := 42) dX11_keepsAct_41 rfl (by decide) ?_
    refine V_putI (pc' := 45) 11 3 dX11_keepsAct_42 rfl (by decide) (Nat.le_of_ble_eq_true rfl) bm_1227 hs0 (Or.inl rfl) rfl ?_
    refine V_nmH hf (fun h_5 hf => ?_)
    exact V_sub (lv' := [(0, .ref a0)]) [0] rfl (v_X11_keepsAct_45 hs0 hf)
theorem v_X11_keepsAct_11 {l : Launch} {G : GE} {B N : Nat} {S : List SHP} {o : MH} {a0 : Nat}    (hs0 : S[a0]? = some (.inl 11)) {n : Nat} {p : Int32} {h : MH} (hf : f_X11_keepsAct_11 a0 n p h = some o) : V l G B N mX11_keepsAct (rmm 3 0 0) false 0 0 (QV S o) S 0 0 11 [(0, .ref a0), (1, .int p)] [] h :=
  V_lp (VV := fun p h => V l G B N mX11_keepsAct (rmm 3 0 0) false 0 0 (QV S o) S 0 0 11 [(0, .ref a0), (1, .int p)] [] h) (fun _ hk _ _ hf => v_X11_keepsAct_11b hs0 hk hf) n p h hf
set_option maxRecDepth 100000 in
set_option maxHeartbeats 4000000 in
theorem v_X11_keepsAct {l : Launch} {G : GE} {B N : Nat} {S : List SHP} {o : MH} {a0 : Nat}    (hs0 : S[a0]? = some (.inl 11)) {h : MH} (hf : f_X11_keepsAct a0 h = some o) : V l G B N mX11_keepsAct (rmm 3 0 0) false 0 0 (QV S o) S 0 0 0 [(0, .ref a0)] [] h := by
  unfold f_X11_keepsAct at hf
  refine V_aload_n (pc' := 1) dX11_keepsAct_0 rfl 0 rfl rfl ?_
  refine V_getI (pc' := 4) 11 3 dX11_keepsAct_1 rfl (by decide) (Nat.le_of_ble_eq_true rfl) bm_1227 hs0 (fun _ _ _ => rfl) ?_
  refine V_bipush (v := 6) (pc' := 6) dX11_keepsAct_4 rfl (by decide) ?_
  refine V_icmp_ne (tgt := 45) (pc' := 9) dX11_keepsAct_6 (by decide) rfl hf (fun hf => ?_) (fun hf => ?_)
  ·
    refine V_iconst (v := 0) (pc' := 10) dX11_keepsAct_9 rfl (by decide) ?_
    refine V_istore_n (lv' := [(1, .int 0), (0, .ref a0)]) (pc' := 11) dX11_keepsAct_10 rfl rfl (Nat.le_of_ble_eq_true rfl) rfl ?_
    exact V_sub (lv' := [(0, .ref a0), (1, .int 0)]) [1, 0] rfl (v_X11_keepsAct_11 hs0 hf)
  ·
    exact V_sub (lv' := [(0, .ref a0)]) [0] rfl (v_X11_keepsAct_45 hs0 hf)
theorem ct_X11_keepsAct {l : Launch} {S : List SHP} {h : MH} {a0 : Nat} (hs0 : S[a0]? = some (.inl 11)) {q : MH} (hf : f_X11_keepsAct a0 h = some q) : CT l mX11_keepsAct 3 false 0 0 S [.ref a0] h (QV S q) :=
  CT_ofV (by decide) rfl (Nat.le_of_ble_eq_true rfl) (fun G B hT => v_X11_keepsAct hs0 hf)
/-! LabelStacksModel.undo()I -/
theorem dX11_undo_0 : decode cX11_undo 0 = .ok (.aload_n 0, 1) := by decide +kernel
theorem dX11_undo_1 : decode cX11_undo 1 = .ok (.iconst 0, 1) := by decide +kernel
theorem dX11_undo_2 : decode cX11_undo 2 = .ok (.putfield 84, 3) := by decide +kernel
theorem dX11_undo_5 : decode cX11_undo 5 = .ok (.aload_n 0, 1) := by decide +kernel
theorem dX11_undo_6 : decode cX11_undo 6 = .ok (.getfield 98, 3) := by decide +kernel
theorem dX11_undo_9 : decode cX11_undo 9 = .ok (.ifCond .ne 5, 3) := by decide +kernel
theorem dX11_undo_12 : decode cX11_undo 12 = .ok (.iconst (-1), 1) := by decide +kernel
theorem dX11_undo_13 : decode cX11_undo 13 = .ok (.ireturn, 1) := by decide +kernel
theorem dX11_undo_14 : decode cX11_undo 14 = .ok (.aload_n 0, 1) := by decide +kernel
theorem dX11_undo_15 : decode cX11_undo 15 = .ok (.aload_n 0, 1) := by decide +kernel
theorem dX11_undo_16 : decode cX11_undo 16 = .ok (.getfield 98, 3) := by decide +kernel
theorem dX11_undo_19 : decode cX11_undo 19 = .ok (.iconst 1, 1) := by decide +kernel
theorem dX11_undo_20 : decode cX11_undo 20 = .ok (.isub, 1) := by decide +kernel
theorem dX11_undo_21 : decode cX11_undo 21 = .ok (.putfield 98, 3) := by decide +kernel
theorem dX11_undo_24 : decode cX11_undo 24 = .ok (.iconst 0, 1) := by decide +kernel
theorem dX11_undo_25 : decode cX11_undo 25 = .ok (.istore_n 1, 1) := by decide +kernel
theorem dX11_undo_26 : decode cX11_undo 26 = .ok (.iload_n 1, 1) := by decide +kernel
theorem dX11_undo_27 : decode cX11_undo 27 = .ok (.sipush 512, 3) := by decide +kernel
theorem dX11_undo_30 : decode cX11_undo 30 = .ok (.if_icmp .ge 30, 3) := by decide +kernel
theorem dX11_undo_33 : decode cX11_undo 33 = .ok (.aload_n 0, 1) := by decide +kernel
theorem dX11_undo_34 : decode cX11_undo 34 = .ok (.getfield 7, 3) := by decide +kernel
theorem dX11_undo_37 : decode cX11_undo 37 = .ok (.iload_n 1, 1) := by decide +kernel
theorem dX11_undo_38 : decode cX11_undo 38 = .ok (.aload_n 0, 1) := by decide +kernel
theorem dX11_undo_39 : decode cX11_undo 39 = .ok (.getfield 13, 3) := by decide +kernel
theorem dX11_undo_42 : decode cX11_undo 42 = .ok (.aload_n 0, 1) := by decide +kernel
theorem dX11_undo_43 : decode cX11_undo 43 = .ok (.getfield 98, 3) := by decide +kernel
theorem dX11_undo_46 : decode cX11_undo 46 = .ok (.sipush 512, 3) := by decide +kernel
theorem dX11_undo_49 : decode cX11_undo 49 = .ok (.imul, 1) := by decide +kernel
theorem dX11_undo_50 : decode cX11_undo 50 = .ok (.iload_n 1, 1) := by decide +kernel
theorem dX11_undo_51 : decode cX11_undo 51 = .ok (.iadd, 1) := by decide +kernel
theorem dX11_undo_52 : decode cX11_undo 52 = .ok (.iaload, 1) := by decide +kernel
theorem dX11_undo_53 : decode cX11_undo 53 = .ok (.iastore, 1) := by decide +kernel
theorem dX11_undo_54 : decode cX11_undo 54 = .ok (.iinc 1 1, 3) := by decide +kernel
theorem dX11_undo_57 : decode cX11_undo 57 = .ok (.goto (-31), 3) := by decide +kernel
theorem dX11_undo_60 : decode cX11_undo 60 = .ok (.aload_n 0, 1) := by decide +kernel
theorem dX11_undo_61 : decode cX11_undo 61 = .ok (.iconst 0, 1) := by decide +kernel
theorem dX11_undo_62 : decode cX11_undo 62 = .ok (.putfield 101, 3) := by decide +kernel
theorem dX11_undo_65 : decode cX11_undo 65 = .ok (.aload_n 0, 1) := by decide +kernel
theorem dX11_undo_66 : decode cX11_undo 66 = .ok (.getfield 98, 3) := by decide +kernel
theorem dX11_undo_69 : decode cX11_undo 69 = .ok (.ireturn, 1) := by decide +kernel
abbrev mX11_undo : MI := (RX11, yX11_undo, cX11_undo, 2, (some .int))
theorem mok_X11_undo : MOKv mX11_undo 0 := ⟨⟨bm_1366, bm_127, ⟨by decide, by decide⟩, by decide +kernel⟩, bm_1364, bm_1365⟩
def f_X11_undo_26b   (a0 : Nat) (k26 : Int32 → MH → Option (Int32 × MH)) (p : Int32) (h : MH) : Option (Int32 × MH) :=
  if p < 512 then
    (gR h a0 1).bind fun a_1 =>
    (gR h a0 2).bind fun a_2 =>
    (ldI h a_2 (((gI h a0 3) * 512) + p)).bind fun x_3 =>
    (stI h a_1 p x_3).bind fun h_4 =>
    k26 (p + 1) h_4
  else
    lt (sI h a0 7 0) fun h_5 =>
    some ((gI h_5 a0 3), h_5)
def f_X11_undo_26   (a0 : Nat) : Nat → Int32 → MH → Option (Int32 × MH) := lp (f_X11_undo_26b a0)
def f_X11_undo   (a0 : Nat) (h : MH) : Option (Int32 × MH) :=
  lt (sI h a0 0 0) fun h_1 =>
  if (gI h_1 a0 3) = 0 then
    some ((-1 : Int32), h_1)
  else
    lt (sI h_1 a0 3 ((gI h_1 a0 3) - 1)) fun h_2 =>
    f_X11_undo_26 a0 FU 0 h_2
set_option maxRecDepth 100000 in
set_option maxHeartbeats 4000000 in
theorem v_X11_undo_26b {l : Launch} {G : GE} {B N : Nat} {S : List SHP} {o : Int32 × MH} {a0 : Nat}    (hs0 : S[a0]? = some (.inl 11)) {k26 : Int32 → MH → Option (Int32 × MH)} (hk26 : ∀ (p : Int32) (h : MH), k26 p h = some o → V l G B N mX11_undo (rmm 3 0 0) false 0 0 (QI S o) S 0 0 26 [(0, .ref a0), (1, .int p)] [] h) {p : Int32} {h : MH} (hf : f_X11_undo_26b a0 k26 p h = some o) : V l G B N mX11_undo (rmm 3 0 0) false 0 0 (QI S o) S 0 0 26 [(0, .ref a0), (1, .int p)] [] h := by
  unfold f_X11_undo_26b at hf
  refine V_iload_n (pc' := 27) dX11_undo_26 rfl 1 rfl rfl ?_
  refine V_sipush (v := 512) (pc' := 30) dX11_undo_27 rfl (by decide) ?_
  refine V_icmp_ge (tgt := 60) (pc' := 33) dX11_undo_30 (by decide) rfl hf (fun hf => ?_) (fun hf => ?_)
  ·
    refine V_aload_n (pc' := 34) dX11_undo_33 rfl 0 rfl rfl ?_
    refine V_getR (pc' := 37) 11 1 dX11_undo_34 rfl (by decide) (Nat.le_of_ble_eq_true rfl) bm_1225 hs0 (fun _ _ _ => rfl) rfl hf (fun a_1 ha_1 hf => ?_)
    refine V_iload_n (pc' := 38) dX11_undo_37 rfl 1 rfl rfl ?_
    refine V_aload_n (pc' := 39) dX11_undo_38 rfl 0 rfl rfl ?_
    refine V_getR (pc' := 42) 11 2 dX11_undo_39 rfl (by decide) (Nat.le_of_ble_eq_true rfl) bm_1226 hs0 (fun _ _ _ => rfl) rfl hf (fun a_2 ha_2 hf => ?_)
    refine V_aload_n (pc' := 43) dX11_undo_42 rfl 0 rfl rfl ?_
    refine V_getI (pc' := 46) 11 3 dX11_undo_43 rfl (by decide) (Nat.le_of_ble_eq_true rfl) bm_1227 hs0 (fun _ _ _ => rfl) ?_
    refine V_sipush (v := 512) (pc' := 49) dX11_undo_46 rfl (by decide) ?_
    refine V_imul (pc' := 50) dX11_undo_49 rfl ?_
    refine V_iload_n (pc' := 51) dX11_undo_50 rfl 1 rfl rfl ?_
    refine V_iadd (pc' := 52) dX11_undo_51 rfl ?_
    refine V_iald (pc' := 53) dX11_undo_52 rfl ha_2 hf (fun x_3 hf => ?_)
    refine V_iast (pc' := 54) dX11_undo_53 rfl ha_1 hf (fun h_4 hf => ?_)
    refine V_iinc (v := (p + 1)) (lv' := [(1, .int (p + 1)), (0, .ref a0)]) (pc' := 57) dX11_undo_54 rfl 1 rfl rfl (Nat.le_of_ble_eq_true rfl) rfl ?_
    refine V_goto (tgt := 26) dX11_undo_57 (by decide) ?_
    exact V_sub (lv' := [(0, .ref a0), (1, .int (p + 1))]) [1, 0] rfl (hk26 (p + 1) h_4 hf)
  ·
    refine V_aload_n (pc' := 61) dX11_undo_60 rfl 0 rfl rfl ?_
    refine V_iconst (v := 0) (pc' := 62) dX11_undo_61 rfl (by decide) ?_
    refine V_putZL (pc' := 65) 11 7 dX11_undo_62 rfl (by decide) (Nat.le_of_ble_eq_true rfl) bm_1231 hs0 rfl rfl (by decide) ?_
    refine V_nmH hf (fun h_5 hf => ?_)
    refine V_aload_n (pc' := 66) dX11_undo_65 rfl 0 rfl rfl ?_
    refine V_getI (pc' := 69) 11 3 dX11_undo_66 rfl (by decide) (Nat.le_of_ble_eq_true rfl) bm_1227 hs0 (fun _ _ _ => rfl) ?_
    obtain rfl := Option.some.inj hf
    exact V_iret dX11_undo_69 rfl rfl rfl ⟨rfl, rfl, rfl⟩
theorem v_X11_undo_26 {l : Launch} {G : GE} {B N : Nat} {S : List SHP} {o : Int32 × MH} {a0 : Nat}    (hs0 : S[a0]? = some (.inl 11)) {n : Nat} {p : Int32} {h : MH} (hf : f_X11_undo_26 a0 n p h = some o) : V l G B N mX11_undo (rmm 3 0 0) false 0 0 (QI S o) S 0 0 26 [(0, .ref a0), (1, .int p)] [] h :=
  V_lp (VV := fun p h => V l G B N mX11_undo (rmm 3 0 0) false 0 0 (QI S o) S 0 0 26 [(0, .ref a0), (1, .int p)] [] h) (fun _ hk _ _ hf => v_X11_undo_26b hs0 hk hf) n p h hf
set_option maxRecDepth 100000 in
set_option maxHeartbeats 4000000 in
theorem v_X11_undo {l : Launch} {G : GE} {B N : Nat} {S : List SHP} {o : Int32 × MH} {a0 : Nat}    (hs0 : S[a0]? = some (.inl 11)) {h : MH} (hf : f_X11_undo a0 h = some o) : V l G B N mX11_undo (rmm 3 0 0) false 0 0 (QI S o) S 0 0 0 [(0, .ref a0)] [] h := by
  unfold f_X11_undo at hf
  refine V_aload_n (pc' := 1) dX11_undo_0 rfl 0 rfl rfl ?_
  refine V_iconst (v := 0) (pc' := 2) dX11_undo_1 rfl (by decide) ?_
  refine V_putI (pc' := 5) 11 0 dX11_undo_2 rfl (by decide) (Nat.le_of_ble_eq_true rfl) bm_1224 hs0 (Or.inl rfl) rfl ?_
  refine V_nmH hf (fun h_1 hf => ?_)
  refine V_aload_n (pc' := 6) dX11_undo_5 rfl 0 rfl rfl ?_
  refine V_getI (pc' := 9) 11 3 dX11_undo_6 rfl (by decide) (Nat.le_of_ble_eq_true rfl) bm_1227 hs0 (fun _ _ _ => rfl) ?_
  refine V_if_ne (tgt := 14) (pc' := 12) dX11_undo_9 (by decide) rfl hf (fun hf => ?_) (fun hf => ?_)
  ·
    refine V_iconst (v := (-1)) (pc' := 13) dX11_undo_12 rfl (by decide) ?_
    obtain rfl := Option.some.inj hf
    exact V_iret dX11_undo_13 rfl rfl rfl ⟨rfl, rfl, rfl⟩
  ·
    refine V_aload_n (pc' := 15) dX11_undo_14 rfl 0 rfl rfl ?_
    refine V_aload_n (pc' := 16) dX11_undo_15 rfl 0 rfl rfl ?_
    refine V_getI (pc' := 19) 11 3 dX11_undo_16 rfl (by decide) (Nat.le_of_ble_eq_true rfl) bm_1227 hs0 (fun _ _ _ => rfl) ?_
    refine V_iconst (v := 1) (pc' := 20) dX11_undo_19 rfl (by decide) ?_
    refine V_isub (pc' := 21) dX11_undo_20 rfl ?_
    refine V_putI (pc' := 24) 11 3 dX11_undo_21 rfl (by decide) (Nat.le_of_ble_eq_true rfl) bm_1227 hs0 (Or.inl rfl) rfl ?_
    refine V_nmH hf (fun h_2 hf => ?_)
    refine V_iconst (v := 0) (pc' := 25) dX11_undo_24 rfl (by decide) ?_
    refine V_istore_n (lv' := [(1, .int 0), (0, .ref a0)]) (pc' := 26) dX11_undo_25 rfl rfl (Nat.le_of_ble_eq_true rfl) rfl ?_
    exact V_sub (lv' := [(0, .ref a0), (1, .int 0)]) [1, 0] rfl (v_X11_undo_26 hs0 hf)
theorem ct_X11_undo {l : Launch} {S : List SHP} {h : MH} {a0 : Nat} (hs0 : S[a0]? = some (.inl 11)) {q : Int32 × MH} (hf : f_X11_undo a0 h = some q) : CT l mX11_undo 3 false 0 0 S [.ref a0] h (QI S q) :=
  CT_ofV (by decide) rfl (Nat.le_of_ble_eq_true rfl) (fun G B hT => v_X11_undo hs0 hf)
/-! LabelStacksModel.clears(I)V -/
theorem dX11_clears_0 : decode cX11_clears 0 = .ok (.iconst 0, 1) := by decide +kernel
theorem dX11_clears_1 : decode cX11_clears 1 = .ok (.istore_n 2, 1) := by decide +kernel
theorem dX11_clears_2 : decode cX11_clears 2 = .ok (.iload_n 2, 1) := by decide +kernel
theorem dX11_clears_3 : decode cX11_clears 3 = .ok (.sipush 512, 3) := by decide +kernel
theorem dX11_clears_6 : decode cX11_clears 6 = .ok (.if_icmp .ge 16, 3) := by decide +kernel
theorem dX11_clears_9 : decode cX11_clears 9 = .ok (.aload_n 0, 1) := by decide +kernel
theorem dX11_clears_10 : decode cX11_clears 10 = .ok (.getfield 7, 3) := by decide +kernel
theorem dX11_clears_13 : decode cX11_clears 13 = .ok (.iload_n 2, 1) := by decide +kernel
theorem dX11_clears_14 : decode cX11_clears 14 = .ok (.iconst 0, 1) := by decide +kernel
theorem dX11_clears_15 : decode cX11_clears 15 = .ok (.iastore, 1) := by decide +kernel
theorem dX11_clears_16 : decode cX11_clears 16 = .ok (.iinc 2 1, 3) := by decide +kernel
theorem dX11_clears_19 : decode cX11_clears 19 = .ok (.goto (-17), 3) := by decide +kernel
theorem dX11_clears_22 : decode cX11_clears 22 = .ok (.aload_n 0, 1) := by decide +kernel
theorem dX11_clears_23 : decode cX11_clears 23 = .ok (.getfield 7, 3) := by decide +kernel
theorem dX11_clears_26 : decode cX11_clears 26 = .ok (.iconst 0, 1) := by decide +kernel
theorem dX11_clears_27 : decode cX11_clears 27 = .ok (.iload_n 1, 1) := by decide +kernel
theorem dX11_clears_28 : decode cX11_clears 28 = .ok (.iconst 2, 1) := by decide +kernel
theorem dX11_clears_29 : decode cX11_clears 29 = .ok (.isub, 1) := by decide +kernel
theorem dX11_clears_30 : decode cX11_clears 30 = .ok (.iastore, 1) := by decide +kernel
theorem dX11_clears_31 : decode cX11_clears 31 = .ok (.return_, 1) := by decide +kernel
abbrev mX11_clears : MI := (RX11, yX11_clears, cX11_clears, 3, none)
theorem mok_X11_clears : MOKv mX11_clears 1 := ⟨⟨bm_1384, bm_127, ⟨by decide, by decide⟩, by decide +kernel⟩, bm_1383, bm_45⟩
def f_X11_clears_2b   (a0 : Nat) (x1 : Int32) (k2 : Int32 → MH → Option (MH)) (p : Int32) (h : MH) : Option (MH) :=
  if p < 512 then
    (gR h a0 1).bind fun a_1 =>
    (stI h a_1 p 0).bind fun h_2 =>
    k2 (p + 1) h_2
  else
    (gR h a0 1).bind fun a_3 =>
    (stI h a_3 0 (x1 - 2)).bind fun h_4 =>
    some h_4
def f_X11_clears_2   (a0 : Nat) (x1 : Int32) : Nat → Int32 → MH → Option (MH) := lp (f_X11_clears_2b a0 x1)
def f_X11_clears   (a0 : Nat) (x1 : Int32) (h : MH) : Option (MH) :=
  f_X11_clears_2 a0 x1 FU 0 h
set_option maxRecDepth 100000 in
set_option maxHeartbeats 4000000 in
theorem v_X11_clears_2b {l : Launch} {G : GE} {B N : Nat} {S : List SHP} {o : MH} {a0 : Nat} {x1 : Int32}    (hs0 : S[a0]? = some (.inl 11)) {k2 : Int32 → MH → Option (MH)} (hk2 : ∀ (p : Int32) (h : MH), k2 p h = some o → V l G B N mX11_clears (rmm 3 0 0) false 0 0 (QV S o) S 0 0 2 [(0, .ref a0), (1, .int x1), (2, .int p)] [] h) {p : Int32} {h : MH} (hf : f_X11_clears_2b a0 x1 k2 p h = some o) : V l G B N mX11_clears (rmm 3 0 0) false 0 0 (QV S o) S 0 0 2 [(0, .ref a0), (1, .int x1), (2, .int p)] [] h := by
  unfold f_X11_clears_2b at hf
  refine V_iload_n (pc' := 3) dX11_clears_2 rfl 2 rfl rfl ?_
  refine V_sipush (v := 512) (pc' := 6) dX11_clears_3 rfl (by decide) ?_
  refine V_icmp_ge (tgt := 22) (pc' := 9) dX11_clears_6 (by decide) rfl hf (fun hf => ?_) (fun hf => ?_)
  ·
    refine V_aload_n (pc' := 10) dX11_clears_9 rfl 0 rfl rfl ?_
    refine V_getR (pc' := 13) 11 1 dX11_clears_10 rfl (by decide) (Nat.le_of_ble_eq_true rfl) bm_1225 hs0 (fun _ _ _ => rfl) rfl hf (fun a_1 ha_1 hf => ?_)
    refine V_iload_n (pc' := 14) dX11_clears_13 rfl 2 rfl rfl ?_
    refine V_iconst (v := 0) (pc' := 15) dX11_clears_14 rfl (by decide) ?_
    refine V_iast (pc' := 16) dX11_clears_15 rfl ha_1 hf (fun h_2 hf => ?_)
    refine V_iinc (v := (p + 1)) (lv' := [(2, .int (p + 1)), (0, .ref a0), (1, .int x1)]) (pc' := 19) dX11_clears_16 rfl 2 rfl rfl (Nat.le_of_ble_eq_true rfl) rfl ?_
    refine V_goto (tgt := 2) dX11_clears_19 (by decide) ?_
    exact V_sub (lv' := [(0, .ref a0), (1, .int x1), (2, .int (p + 1))]) [1, 2, 0] rfl (hk2 (p + 1) h_2 hf)
  ·
    refine V_aload_n (pc' := 23) dX11_clears_22 rfl 0 rfl rfl ?_
    refine V_getR (pc' := 26) 11 1 dX11_clears_23 rfl (by decide) (Nat.le_of_ble_eq_true rfl) bm_1225 hs0 (fun _ _ _ => rfl) rfl hf (fun a_3 ha_3 hf => ?_)
    refine V_iconst (v := 0) (pc' := 27) dX11_clears_26 rfl (by decide) ?_
    refine V_iload_n (pc' := 28) dX11_clears_27 rfl 1 rfl rfl ?_
    refine V_iconst (v := 2) (pc' := 29) dX11_clears_28 rfl (by decide) ?_
    refine V_isub (pc' := 30) dX11_clears_29 rfl ?_
    refine V_iast (pc' := 31) dX11_clears_30 rfl ha_3 hf (fun h_4 hf => ?_)
    obtain rfl := Option.some.inj hf
    exact V_vret dX11_clears_31 rfl rfl rfl ⟨rfl, rfl, rfl⟩
theorem v_X11_clears_2 {l : Launch} {G : GE} {B N : Nat} {S : List SHP} {o : MH} {a0 : Nat} {x1 : Int32}    (hs0 : S[a0]? = some (.inl 11)) {n : Nat} {p : Int32} {h : MH} (hf : f_X11_clears_2 a0 x1 n p h = some o) : V l G B N mX11_clears (rmm 3 0 0) false 0 0 (QV S o) S 0 0 2 [(0, .ref a0), (1, .int x1), (2, .int p)] [] h :=
  V_lp (VV := fun p h => V l G B N mX11_clears (rmm 3 0 0) false 0 0 (QV S o) S 0 0 2 [(0, .ref a0), (1, .int x1), (2, .int p)] [] h) (fun _ hk _ _ hf => v_X11_clears_2b hs0 hk hf) n p h hf
set_option maxRecDepth 100000 in
set_option maxHeartbeats 4000000 in
theorem v_X11_clears {l : Launch} {G : GE} {B N : Nat} {S : List SHP} {o : MH} {a0 : Nat} {x1 : Int32}    (hs0 : S[a0]? = some (.inl 11)) {h : MH} (hf : f_X11_clears a0 x1 h = some o) : V l G B N mX11_clears (rmm 3 0 0) false 0 0 (QV S o) S 0 0 0 [(0, .ref a0), (1, .int x1)] [] h := by
  unfold f_X11_clears at hf
  refine V_iconst (v := 0) (pc' := 1) dX11_clears_0 rfl (by decide) ?_
  refine V_istore_n (lv' := [(2, .int 0), (0, .ref a0), (1, .int x1)]) (pc' := 2) dX11_clears_1 rfl rfl (Nat.le_of_ble_eq_true rfl) rfl ?_
  exact V_sub (lv' := [(0, .ref a0), (1, .int x1), (2, .int 0)]) [1, 2, 0] rfl (v_X11_clears_2 hs0 hf)
theorem ct_X11_clears {l : Launch} {S : List SHP} {h : MH} {a0 : Nat} {x1 : Int32} (hs0 : S[a0]? = some (.inl 11)) {q : MH} (hf : f_X11_clears a0 x1 h = some q) : CT l mX11_clears 3 false 0 0 S [.ref a0, .int x1] h (QV S q) :=
  CT_ofV (by decide) rfl (Nat.le_of_ble_eq_true rfl) (fun G B hT => v_X11_clears hs0 hf)
/-! LabelStacksModel.nodes(I)Z -/
theorem dX11_nodes_0 : decode cX11_nodes 0 = .ok (.aload_n 0, 1) := by decide +kernel
theorem dX11_nodes_1 : decode cX11_nodes 1 = .ok (.iconst 0, 1) := by decide +kernel
theorem dX11_nodes_2 : decode cX11_nodes 2 = .ok (.putfield 84, 3) := by decide +kernel
theorem dX11_nodes_5 : decode cX11_nodes 5 = .ok (.aload_n 0, 1) := by decide +kernel
theorem dX11_nodes_6 : decode cX11_nodes 6 = .ok (.iload_n 1, 1) := by decide +kernel
theorem dX11_nodes_7 : decode cX11_nodes 7 = .ok (.i2l, 1) := by decide +kernel
theorem dX11_nodes_8 : decode cX11_nodes 8 = .ok (.ldc2_w 105, 3) := by decide +kernel
theorem dX11_nodes_11 : decode cX11_nodes 11 = .ok (.ldc2_w 107, 3) := by decide +kernel
theorem dX11_nodes_14 : decode cX11_nodes 14 = .ok (.invokevirtual 91, 3) := by decide +kernel
theorem dX11_nodes_17 : decode cX11_nodes 17 = .ok (.ifCond .ne 5, 3) := by decide +kernel
theorem dX11_nodes_20 : decode cX11_nodes 20 = .ok (.iconst 0, 1) := by decide +kernel
theorem dX11_nodes_21 : decode cX11_nodes 21 = .ok (.ireturn, 1) := by decide +kernel
theorem dX11_nodes_22 : decode cX11_nodes 22 = .ok (.aload_n 0, 1) := by decide +kernel
theorem dX11_nodes_23 : decode cX11_nodes 23 = .ok (.invokevirtual 109, 3) := by decide +kernel
theorem dX11_nodes_26 : decode cX11_nodes 26 = .ok (.aload_n 0, 1) := by decide +kernel
theorem dX11_nodes_27 : decode cX11_nodes 27 = .ok (.iload_n 1, 1) := by decide +kernel
theorem dX11_nodes_28 : decode cX11_nodes 28 = .ok (.invokevirtual 112, 3) := by decide +kernel
theorem dX11_nodes_31 : decode cX11_nodes 31 = .ok (.iconst 1, 1) := by decide +kernel
theorem dX11_nodes_32 : decode cX11_nodes 32 = .ok (.ireturn, 1) := by decide +kernel
abbrev mX11_nodes : MI := (RX11, yX11_nodes, cX11_nodes, 2, (some .boolean))
theorem mok_X11_nodes : MOKv mX11_nodes 1 := ⟨⟨bm_1370, bm_127, ⟨by decide, by decide⟩, by decide +kernel⟩, bm_1368, bm_1369⟩
def f_X11_nodes   (a0 : Nat) (x1 : Int32) (h : MH) : Option (Int32 × MH) :=
  lt (sI h a0 0 0) fun h_1 =>
  (f_X11_isIn a0 (Int32.toInt64 x1) 2 10 h_1).bind fun q_2 =>
  if q_2.1 = 0 then
    some (0, q_2.2)
  else
    (f_X11_keepsAct a0 q_2.2).bind fun q_3 =>
    (f_X11_clears a0 x1 q_3).bind fun q_4 =>
    some (1, q_4)
set_option maxRecDepth 100000 in
set_option maxHeartbeats 4000000 in
theorem v_X11_nodes {l : Launch} {G : GE} {B N : Nat} {S : List SHP} {o : Int32 × MH} {a0 : Nat} {x1 : Int32}    (hs0 : S[a0]? = some (.inl 11)) {h : MH} (hf : f_X11_nodes a0 x1 h = some o) : V l G B N mX11_nodes (rmm 4 0 0) false 0 0 (QI S o) S 0 0 0 [(0, .ref a0), (1, .int x1)] [] h := by
  unfold f_X11_nodes at hf
  refine V_aload_n (pc' := 1) dX11_nodes_0 rfl 0 rfl rfl ?_
  refine V_iconst (v := 0) (pc' := 2) dX11_nodes_1 rfl (by decide) ?_
  refine V_putI (pc' := 5) 11 0 dX11_nodes_2 rfl (by decide) (Nat.le_of_ble_eq_true rfl) bm_1224 hs0 (Or.inl rfl) rfl ?_
  refine V_nmH hf (fun h_1 hf => ?_)
  refine V_aload_n (pc' := 6) dX11_nodes_5 rfl 0 rfl rfl ?_
  refine V_iload_n (pc' := 7) dX11_nodes_6 rfl 1 rfl rfl ?_
  refine V_i2l (pc' := 8) dX11_nodes_7 rfl ?_
  refine V_ldc2 (v := 2) (pc' := 11) dX11_nodes_8 rfl bm_1371 ?_
  refine V_ldc2 (v := 10) (pc' := 14) dX11_nodes_11 rfl bm_1372 ?_
  refine V_cvI (pc' := 17) (As := [.long (Int32.toInt64 x1), .long 2, .long 10]) (rest := []) dX11_nodes_14 rfl mok_X11_isIn bm_1373 11 (by decide) rfl hs0 rfl rfl (Nat.le_of_ble_eq_true rfl) (by decide) hf (fun q e => ct_X11_isIn hs0 e) (fun q_2 hf => ?_)
  refine V_if_ne (tgt := 22) (pc' := 20) dX11_nodes_17 (by decide) rfl hf (fun hf => ?_) (fun hf => ?_)
  ·
    refine V_iconst (v := 0) (pc' := 21) dX11_nodes_20 rfl (by decide) ?_
    obtain rfl := Option.some.inj hf
    exact V_zretL dX11_nodes_21 rfl rfl rfl (by decide) ⟨rfl, rfl, rfl⟩
  ·
    refine V_aload_n (pc' := 23) dX11_nodes_22 rfl 0 rfl rfl ?_
    refine V_cvV (pc' := 26) (As := []) (rest := []) dX11_nodes_23 rfl mok_X11_keepsAct bm_1377 11 (by decide) rfl hs0 rfl rfl (Nat.le_of_ble_eq_true rfl) (by decide) hf (fun q e => ct_X11_keepsAct hs0 e) (fun q_3 hf => ?_)
    refine V_aload_n (pc' := 27) dX11_nodes_26 rfl 0 rfl rfl ?_
    refine V_iload_n (pc' := 28) dX11_nodes_27 rfl 1 rfl rfl ?_
    refine V_cvV (pc' := 31) (As := [.int x1]) (rest := []) dX11_nodes_28 rfl mok_X11_clears bm_1381 11 (by decide) rfl hs0 rfl rfl (Nat.le_of_ble_eq_true rfl) (by decide) hf (fun q e => ct_X11_clears hs0 e) (fun q_4 hf => ?_)
    refine V_iconst (v := 1) (pc' := 32) dX11_nodes_31 rfl (by decide) ?_
    obtain rfl := Option.some.inj hf
    exact V_zretL dX11_nodes_32 rfl rfl rfl (by decide) ⟨rfl, rfl, rfl⟩
theorem ct_X11_nodes {l : Launch} {S : List SHP} {h : MH} {a0 : Nat} {x1 : Int32} (hs0 : S[a0]? = some (.inl 11)) {q : Int32 × MH} (hf : f_X11_nodes a0 x1 h = some q) : CT l mX11_nodes 4 false 0 0 S [.ref a0, .int x1] h (QI S q) :=
  CT_ofV (by decide) rfl (Nat.le_of_ble_eq_true rfl) (fun G B hT => v_X11_nodes hs0 hf)
/-! LabelStacksModel.lays(IIIZ)V -/
theorem dX11_lays_0 : decode cX11_lays 0 = .ok (.aload_n 0, 1) := by decide +kernel
theorem dX11_lays_1 : decode cX11_lays 1 = .ok (.invokevirtual 95, 3) := by decide +kernel
theorem dX11_lays_4 : decode cX11_lays 4 = .ok (.istore 5, 2) := by decide +kernel
theorem dX11_lays_6 : decode cX11_lays 6 = .ok (.aload_n 0, 1) := by decide +kernel
theorem dX11_lays_7 : decode cX11_lays 7 = .ok (.getfield 7, 3) := by decide +kernel
theorem dX11_lays_10 : decode cX11_lays 10 = .ok (.iconst 2, 1) := by decide +kernel
theorem dX11_lays_11 : decode cX11_lays 11 = .ok (.iload 5, 2) := by decide +kernel
theorem dX11_lays_13 : decode cX11_lays 13 = .ok (.iadd, 1) := by decide +kernel
theorem dX11_lays_14 : decode cX11_lays 14 = .ok (.iload_n 1, 1) := by decide +kernel
theorem dX11_lays_15 : decode cX11_lays 15 = .ok (.iastore, 1) := by decide +kernel
theorem dX11_lays_16 : decode cX11_lays 16 = .ok (.aload_n 0, 1) := by decide +kernel
theorem dX11_lays_17 : decode cX11_lays 17 = .ok (.getfield 7, 3) := by decide +kernel
theorem dX11_lays_20 : decode cX11_lays 20 = .ok (.bipush 32, 2) := by decide +kernel
theorem dX11_lays_22 : decode cX11_lays 22 = .ok (.iload 5, 2) := by decide +kernel
theorem dX11_lays_24 : decode cX11_lays 24 = .ok (.iadd, 1) := by decide +kernel
theorem dX11_lays_25 : decode cX11_lays 25 = .ok (.iload_n 2, 1) := by decide +kernel
theorem dX11_lays_26 : decode cX11_lays 26 = .ok (.iastore, 1) := by decide +kernel
theorem dX11_lays_27 : decode cX11_lays 27 = .ok (.aload_n 0, 1) := by decide +kernel
theorem dX11_lays_28 : decode cX11_lays 28 = .ok (.getfield 7, 3) := by decide +kernel
theorem dX11_lays_31 : decode cX11_lays 31 = .ok (.bipush 62, 2) := by decide +kernel
theorem dX11_lays_33 : decode cX11_lays 33 = .ok (.iload 5, 2) := by decide +kernel
theorem dX11_lays_35 : decode cX11_lays 35 = .ok (.iadd, 1) := by decide +kernel
theorem dX11_lays_36 : decode cX11_lays 36 = .ok (.iload_n 3, 1) := by decide +kernel
theorem dX11_lays_37 : decode cX11_lays 37 = .ok (.iastore, 1) := by decide +kernel
theorem dX11_lays_38 : decode cX11_lays 38 = .ok (.aload_n 0, 1) := by decide +kernel
theorem dX11_lays_39 : decode cX11_lays 39 = .ok (.getfield 7, 3) := by decide +kernel
theorem dX11_lays_42 : decode cX11_lays 42 = .ok (.bipush 92, 2) := by decide +kernel
theorem dX11_lays_44 : decode cX11_lays 44 = .ok (.iload 5, 2) := by decide +kernel
theorem dX11_lays_46 : decode cX11_lays 46 = .ok (.iadd, 1) := by decide +kernel
theorem dX11_lays_47 : decode cX11_lays 47 = .ok (.iload 4, 2) := by decide +kernel
theorem dX11_lays_49 : decode cX11_lays 49 = .ok (.ifCond .eq 7, 3) := by decide +kernel
theorem dX11_lays_52 : decode cX11_lays 52 = .ok (.iconst 1, 1) := by decide +kernel
theorem dX11_lays_53 : decode cX11_lays 53 = .ok (.goto 4, 3) := by decide +kernel
theorem dX11_lays_56 : decode cX11_lays 56 = .ok (.iconst 0, 1) := by decide +kernel
theorem dX11_lays_57 : decode cX11_lays 57 = .ok (.iastore, 1) := by decide +kernel
theorem dX11_lays_58 : decode cX11_lays 58 = .ok (.aload_n 0, 1) := by decide +kernel
theorem dX11_lays_59 : decode cX11_lays 59 = .ok (.getfield 7, 3) := by decide +kernel
theorem dX11_lays_62 : decode cX11_lays 62 = .ok (.iconst 1, 1) := by decide +kernel
theorem dX11_lays_63 : decode cX11_lays 63 = .ok (.iload 5, 2) := by decide +kernel
theorem dX11_lays_65 : decode cX11_lays 65 = .ok (.iconst 1, 1) := by decide +kernel
theorem dX11_lays_66 : decode cX11_lays 66 = .ok (.iadd, 1) := by decide +kernel
theorem dX11_lays_67 : decode cX11_lays 67 = .ok (.iastore, 1) := by decide +kernel
theorem dX11_lays_68 : decode cX11_lays 68 = .ok (.return_, 1) := by decide +kernel
abbrev mX11_lays : MI := (RX11, yX11_lays, cX11_lays, 6, none)
theorem mok_X11_lays : MOKv mX11_lays 4 := ⟨⟨bm_1405, bm_127, ⟨by decide, by decide⟩, by decide +kernel⟩, bm_1404, bm_49⟩
def f_X11_lays_57   (a0 : Nat) (x5 : Int32) (t0 : Nat) (t1 : Int32) (t2 : Int32) (h : MH) : Option (MH) :=
  (stI h t0 t1 t2).bind fun h_1 =>
  (gR h_1 a0 1).bind fun a_2 =>
  (stI h_1 a_2 1 (x5 + 1)).bind fun h_3 =>
  some h_3
def f_X11_lays   (a0 : Nat) (x1 : Int32) (x2 : Int32) (x3 : Int32) (x4 : Int32) (h : MH) : Option (MH) :=
  (f_X11_links a0 h).bind fun q_1 =>
  (gR q_1.2 a0 1).bind fun a_2 =>
  (stI q_1.2 a_2 (2 + q_1.1) x1).bind fun h_3 =>
  (gR h_3 a0 1).bind fun a_4 =>
  (stI h_3 a_4 (32 + q_1.1) x2).bind fun h_5 =>
  (gR h_5 a0 1).bind fun a_6 =>
  (stI h_5 a_6 (62 + q_1.1) x3).bind fun h_7 =>
  (gR h_7 a0 1).bind fun a_8 =>
  if x4 = 0 then
    f_X11_lays_57 a0 q_1.1 a_8 (92 + q_1.1) 0 h_7
  else
    f_X11_lays_57 a0 q_1.1 a_8 (92 + q_1.1) 1 h_7
set_option maxRecDepth 100000 in
set_option maxHeartbeats 4000000 in
theorem v_X11_lays_57 {l : Launch} {G : GE} {B N : Nat} {S : List SHP} {o : MH} {a0 : Nat} {x5 : Int32} {t0 : Nat} {t1 : Int32} {t2 : Int32}    (hs0 : S[a0]? = some (.inl 11)) (ht0 : S[t0]? = some (.inr 0)) {h : MH} (hf : f_X11_lays_57 a0 x5 t0 t1 t2 h = some o) : V l G B N mX11_lays (rmm 4 0 0) false 0 0 (QV S o) S 0 0 57 [(0, .ref a0), (5, .int x5)] [.int t2, .int t1, .ref t0] h := by
  unfold f_X11_lays_57 at hf
  refine V_iast (pc' := 58) dX11_lays_57 rfl ht0 hf (fun h_1 hf => ?_)
  refine V_aload_n (pc' := 59) dX11_lays_58 rfl 0 rfl rfl ?_
  refine V_getR (pc' := 62) 11 1 dX11_lays_59 rfl (by decide) (Nat.le_of_ble_eq_true rfl) bm_1225 hs0 (fun _ _ _ => rfl) rfl hf (fun a_2 ha_2 hf => ?_)
  refine V_iconst (v := 1) (pc' := 63) dX11_lays_62 rfl (by decide) ?_
  refine V_iload (pc' := 65) dX11_lays_63 rfl 1 rfl ?_
  refine V_iconst (v := 1) (pc' := 66) dX11_lays_65 rfl (by decide) ?_
  refine V_iadd (pc' := 67) dX11_lays_66 rfl ?_
  refine V_iast (pc' := 68) dX11_lays_67 rfl ha_2 hf (fun h_3 hf => ?_)
  obtain rfl := Option.some.inj hf
  exact V_vret dX11_lays_68 rfl rfl rfl ⟨rfl, rfl, rfl⟩
set_option maxRecDepth 100000 in
set_option maxHeartbeats 4000000 in
theorem v_X11_lays {l : Launch} {G : GE} {B N : Nat} {S : List SHP} {o : MH} {a0 : Nat} {x1 : Int32} {x2 : Int32} {x3 : Int32} {x4 : Int32}    (hs0 : S[a0]? = some (.inl 11)) {h : MH} (hf : f_X11_lays a0 x1 x2 x3 x4 h = some o) : V l G B N mX11_lays (rmm 4 0 0) false 0 0 (QV S o) S 0 0 0 [(0, .ref a0), (1, .int x1), (2, .int x2), (3, .int x3), (4, .int x4)] [] h := by
  unfold f_X11_lays at hf
  refine V_aload_n (pc' := 1) dX11_lays_0 rfl 0 rfl rfl ?_
  refine V_cvI (pc' := 4) (As := []) (rest := []) dX11_lays_1 rfl mok_X11_links bm_1398 11 (by decide) rfl hs0 rfl rfl (Nat.le_of_ble_eq_true rfl) (by decide) hf (fun q e => ct_X11_links hs0 e) (fun q_1 hf => ?_)
  refine V_istore (lv' := [(5, .int q_1.1), (0, .ref a0), (1, .int x1), (2, .int x2), (3, .int x3), (4, .int x4)]) (pc' := 6) dX11_lays_4 rfl (Nat.le_of_ble_eq_true rfl) rfl ?_
  refine V_aload_n (pc' := 7) dX11_lays_6 rfl 1 rfl rfl ?_
  refine V_getR (pc' := 10) 11 1 dX11_lays_7 rfl (by decide) (Nat.le_of_ble_eq_true rfl) bm_1225 hs0 (fun _ _ _ => rfl) rfl hf (fun a_2 ha_2 hf => ?_)
  refine V_iconst (v := 2) (pc' := 11) dX11_lays_10 rfl (by decide) ?_
  refine V_iload (pc' := 13) dX11_lays_11 rfl 0 rfl ?_
  refine V_iadd (pc' := 14) dX11_lays_13 rfl ?_
  refine V_iload_n (pc' := 15) dX11_lays_14 rfl 2 rfl rfl ?_
  refine V_iast (pc' := 16) dX11_lays_15 rfl ha_2 hf (fun h_3 hf => ?_)
  refine V_aload_n (pc' := 17) dX11_lays_16 rfl 1 rfl rfl ?_
  refine V_getR (pc' := 20) 11 1 dX11_lays_17 rfl (by decide) (Nat.le_of_ble_eq_true rfl) bm_1225 hs0 (fun _ _ _ => rfl) rfl hf (fun a_4 ha_4 hf => ?_)
  refine V_bipush (v := 32) (pc' := 22) dX11_lays_20 rfl (by decide) ?_
  refine V_iload (pc' := 24) dX11_lays_22 rfl 0 rfl ?_
  refine V_iadd (pc' := 25) dX11_lays_24 rfl ?_
  refine V_iload_n (pc' := 26) dX11_lays_25 rfl 3 rfl rfl ?_
  refine V_iast (pc' := 27) dX11_lays_26 rfl ha_4 hf (fun h_5 hf => ?_)
  refine V_aload_n (pc' := 28) dX11_lays_27 rfl 1 rfl rfl ?_
  refine V_getR (pc' := 31) 11 1 dX11_lays_28 rfl (by decide) (Nat.le_of_ble_eq_true rfl) bm_1225 hs0 (fun _ _ _ => rfl) rfl hf (fun a_6 ha_6 hf => ?_)
  refine V_bipush (v := 62) (pc' := 33) dX11_lays_31 rfl (by decide) ?_
  refine V_iload (pc' := 35) dX11_lays_33 rfl 0 rfl ?_
  refine V_iadd (pc' := 36) dX11_lays_35 rfl ?_
  refine V_iload_n (pc' := 37) dX11_lays_36 rfl 4 rfl rfl ?_
  refine V_iast (pc' := 38) dX11_lays_37 rfl ha_6 hf (fun h_7 hf => ?_)
  refine V_aload_n (pc' := 39) dX11_lays_38 rfl 1 rfl rfl ?_
  refine V_getR (pc' := 42) 11 1 dX11_lays_39 rfl (by decide) (Nat.le_of_ble_eq_true rfl) bm_1225 hs0 (fun _ _ _ => rfl) rfl hf (fun a_8 ha_8 hf => ?_)
  refine V_bipush (v := 92) (pc' := 44) dX11_lays_42 rfl (by decide) ?_
  refine V_iload (pc' := 46) dX11_lays_44 rfl 0 rfl ?_
  refine V_iadd (pc' := 47) dX11_lays_46 rfl ?_
  refine V_iload (pc' := 49) dX11_lays_47 rfl 5 rfl ?_
  refine V_if_eq (tgt := 56) (pc' := 52) dX11_lays_49 (by decide) rfl hf (fun hf => ?_) (fun hf => ?_)
  ·
    refine V_iconst (v := 0) (pc' := 57) dX11_lays_56 rfl (by decide) ?_
    exact V_sub (lv' := [(0, .ref a0), (5, .int q_1.1)]) [1, 0] rfl (v_X11_lays_57 hs0 ha_8 hf)
  ·
    refine V_iconst (v := 1) (pc' := 53) dX11_lays_52 rfl (by decide) ?_
    refine V_goto (tgt := 57) dX11_lays_53 (by decide) ?_
    exact V_sub (lv' := [(0, .ref a0), (5, .int q_1.1)]) [1, 0] rfl (v_X11_lays_57 hs0 ha_8 hf)
theorem ct_X11_lays {l : Launch} {S : List SHP} {h : MH} {a0 : Nat} {x1 : Int32} {x2 : Int32} {x3 : Int32} {x4 : Int32} (hs0 : S[a0]? = some (.inl 11)) {q : MH} (hf : f_X11_lays a0 x1 x2 x3 x4 h = some q) : CT l mX11_lays 4 false 0 0 S [.ref a0, .int x1, .int x2, .int x3, .int x4] h (QV S q) :=
  CT_ofV (by decide) rfl (Nat.le_of_ble_eq_true rfl) (fun G B hT => v_X11_lays hs0 hf)
/-! LabelStacksModel.link(III)I -/
theorem dX11_link_0 : decode cX11_link 0 = .ok (.aload_n 0, 1) := by decide +kernel
theorem dX11_link_1 : decode cX11_link 1 = .ok (.iconst 0, 1) := by decide +kernel
theorem dX11_link_2 : decode cX11_link 2 = .ok (.putfield 84, 3) := by decide +kernel
theorem dX11_link_5 : decode cX11_link 5 = .ok (.aload_n 0, 1) := by decide +kernel
theorem dX11_link_6 : decode cX11_link 6 = .ok (.iload_n 1, 1) := by decide +kernel
theorem dX11_link_7 : decode cX11_link 7 = .ok (.invokevirtual 116, 3) := by decide +kernel
theorem dX11_link_10 : decode cX11_link 10 = .ok (.ifCond .eq 38, 3) := by decide +kernel
theorem dX11_link_13 : decode cX11_link 13 = .ok (.aload_n 0, 1) := by decide +kernel
theorem dX11_link_14 : decode cX11_link 14 = .ok (.iload_n 2, 1) := by decide +kernel
theorem dX11_link_15 : decode cX11_link 15 = .ok (.invokevirtual 116, 3) := by decide +kernel
theorem dX11_link_18 : decode cX11_link 18 = .ok (.ifCond .eq 30, 3) := by decide +kernel
theorem dX11_link_21 : decode cX11_link 21 = .ok (.iload_n 1, 1) := by decide +kernel
theorem dX11_link_22 : decode cX11_link 22 = .ok (.iload_n 2, 1) := by decide +kernel
theorem dX11_link_23 : decode cX11_link 23 = .ok (.if_icmp .eq 25, 3) := by decide +kernel
theorem dX11_link_26 : decode cX11_link 26 = .ok (.aload_n 0, 1) := by decide +kernel
theorem dX11_link_27 : decode cX11_link 27 = .ok (.iload_n 3, 1) := by decide +kernel
theorem dX11_link_28 : decode cX11_link 28 = .ok (.i2l, 1) := by decide +kernel
theorem dX11_link_29 : decode cX11_link 29 = .ok (.lconst 1, 1) := by decide +kernel
theorem dX11_link_30 : decode cX11_link 30 = .ok (.ldc2_w 120, 3) := by decide +kernel
theorem dX11_link_33 : decode cX11_link 33 = .ok (.invokevirtual 91, 3) := by decide +kernel
theorem dX11_link_36 : decode cX11_link 36 = .ok (.ifCond .eq 12, 3) := by decide +kernel
theorem dX11_link_39 : decode cX11_link 39 = .ok (.aload_n 0, 1) := by decide +kernel
theorem dX11_link_40 : decode cX11_link 40 = .ok (.invokevirtual 95, 3) := by decide +kernel
theorem dX11_link_43 : decode cX11_link 43 = .ok (.bipush 30, 2) := by decide +kernel
theorem dX11_link_45 : decode cX11_link 45 = .ok (.if_icmp .ne 5, 3) := by decide +kernel
theorem dX11_link_48 : decode cX11_link 48 = .ok (.iconst (-1), 1) := by decide +kernel
theorem dX11_link_49 : decode cX11_link 49 = .ok (.ireturn, 1) := by decide +kernel
theorem dX11_link_50 : decode cX11_link 50 = .ok (.aload_n 0, 1) := by decide +kernel
theorem dX11_link_51 : decode cX11_link 51 = .ok (.invokevirtual 109, 3) := by decide +kernel
theorem dX11_link_54 : decode cX11_link 54 = .ok (.aload_n 0, 1) := by decide +kernel
theorem dX11_link_55 : decode cX11_link 55 = .ok (.iload_n 1, 1) := by decide +kernel
theorem dX11_link_56 : decode cX11_link 56 = .ok (.iload_n 2, 1) := by decide +kernel
theorem dX11_link_57 : decode cX11_link 57 = .ok (.iload_n 3, 1) := by decide +kernel
theorem dX11_link_58 : decode cX11_link 58 = .ok (.iconst 0, 1) := by decide +kernel
theorem dX11_link_59 : decode cX11_link 59 = .ok (.invokevirtual 122, 3) := by decide +kernel
theorem dX11_link_62 : decode cX11_link 62 = .ok (.aload_n 0, 1) := by decide +kernel
theorem dX11_link_63 : decode cX11_link 63 = .ok (.invokevirtual 95, 3) := by decide +kernel
theorem dX11_link_66 : decode cX11_link 66 = .ok (.iconst 1, 1) := by decide +kernel
theorem dX11_link_67 : decode cX11_link 67 = .ok (.isub, 1) := by decide +kernel
theorem dX11_link_68 : decode cX11_link 68 = .ok (.ireturn, 1) := by decide +kernel
abbrev mX11_link : MI := (RX11, yX11_link, cX11_link, 4, (some .int))
theorem mok_X11_link : MOKv mX11_link 3 := ⟨⟨bm_1388, bm_127, ⟨by decide, by decide⟩, by decide +kernel⟩, bm_1386, bm_1387⟩
def f_X11_link   (a0 : Nat) (x1 : Int32) (x2 : Int32) (x3 : Int32) (h : MH) : Option (Int32 × MH) :=
  lt (sI h a0 0 0) fun h_1 =>
  (f_X11_isNode a0 x1 h_1).bind fun q_2 =>
  if q_2.1 = 0 then
    some ((-1 : Int32), q_2.2)
  else
    (f_X11_isNode a0 x2 q_2.2).bind fun q_3 =>
    if q_3.1 = 0 then
      some ((-1 : Int32), q_3.2)
    else
      if x1 = x2 then
        some ((-1 : Int32), q_3.2)
      else
        (f_X11_isIn a0 (Int32.toInt64 x3) 1 99 q_3.2).bind fun q_4 =>
        if q_4.1 = 0 then
          some ((-1 : Int32), q_4.2)
        else
          (f_X11_links a0 q_4.2).bind fun q_5 =>
          if q_5.1 = 30 then
            some ((-1 : Int32), q_5.2)
          else
            (f_X11_keepsAct a0 q_5.2).bind fun q_6 =>
            (f_X11_lays a0 x1 x2 x3 0 q_6).bind fun q_7 =>
            (f_X11_links a0 q_7).bind fun q_8 =>
            some ((q_8.1 - 1), q_8.2)
set_option maxRecDepth 100000 in
set_option maxHeartbeats 4000000 in
theorem v_X11_link {l : Launch} {G : GE} {B N : Nat} {S : List SHP} {o : Int32 × MH} {a0 : Nat} {x1 : Int32} {x2 : Int32} {x3 : Int32}    (hs0 : S[a0]? = some (.inl 11)) {h : MH} (hf : f_X11_link a0 x1 x2 x3 h = some o) : V l G B N mX11_link (rmm 5 0 0) false 0 0 (QI S o) S 0 0 0 [(0, .ref a0), (1, .int x1), (2, .int x2), (3, .int x3)] [] h := by
  unfold f_X11_link at hf
  refine V_aload_n (pc' := 1) dX11_link_0 rfl 0 rfl rfl ?_
  refine V_iconst (v := 0) (pc' := 2) dX11_link_1 rfl (by decide) ?_
  refine V_putI (pc' := 5) 11 0 dX11_link_2 rfl (by decide) (Nat.le_of_ble_eq_true rfl) bm_1224 hs0 (Or.inl rfl) rfl ?_
  refine V_nmH hf (fun h_1 hf => ?_)
  refine V_aload_n (pc' := 6) dX11_link_5 rfl 0 rfl rfl ?_
  refine V_iload_n (pc' := 7) dX11_link_6 rfl 1 rfl rfl ?_
  refine V_cvI (pc' := 10) (As := [.int x1]) (rest := []) dX11_link_7 rfl mok_X11_isNode bm_1389 11 (by decide) rfl hs0 rfl rfl (Nat.le_of_ble_eq_true rfl) (by decide) hf (fun q e => ct_X11_isNode hs0 e) (fun q_2 hf => ?_)
  refine V_if_eq (tgt := 48) (pc' := 13) dX11_link_10 (by decide) rfl hf (fun hf => ?_) (fun hf => ?_)
  ·
    refine V_iconst (v := (-1)) (pc' := 49) dX11_link_48 rfl (by decide) ?_
    obtain rfl := Option.some.inj hf
    exact V_iret dX11_link_49 rfl rfl rfl ⟨rfl, rfl, rfl⟩
  ·
    refine V_aload_n (pc' := 14) dX11_link_13 rfl 0 rfl rfl ?_
    refine V_iload_n (pc' := 15) dX11_link_14 rfl 2 rfl rfl ?_
    refine V_cvI (pc' := 18) (As := [.int x2]) (rest := []) dX11_link_15 rfl mok_X11_isNode bm_1389 11 (by decide) rfl hs0 rfl rfl (Nat.le_of_ble_eq_true rfl) (by decide) hf (fun q e => ct_X11_isNode hs0 e) (fun q_3 hf => ?_)
    refine V_if_eq (tgt := 48) (pc' := 21) dX11_link_18 (by decide) rfl hf (fun hf => ?_) (fun hf => ?_)
    ·
      refine V_iconst (v := (-1)) (pc' := 49) dX11_link_48 rfl (by decide) ?_
      obtain rfl := Option.some.inj hf
      exact V_iret dX11_link_49 rfl rfl rfl ⟨rfl, rfl, rfl⟩
    ·
      refine V_iload_n (pc' := 22) dX11_link_21 rfl 1 rfl rfl ?_
      refine V_iload_n (pc' := 23) dX11_link_22 rfl 2 rfl rfl ?_
      refine V_icmp_eq (tgt := 48) (pc' := 26) dX11_link_23 (by decide) rfl hf (fun hf => ?_) (fun hf => ?_)
      ·
        refine V_iconst (v := (-1)) (pc' := 49) dX11_link_48 rfl (by decide) ?_
        obtain rfl := Option.some.inj hf
        exact V_iret dX11_link_49 rfl rfl rfl ⟨rfl, rfl, rfl⟩
      ·
        refine V_aload_n (pc' := 27) dX11_link_26 rfl 0 rfl rfl ?_
        refine V_iload_n (pc' := 28) dX11_link_27 rfl 3 rfl rfl ?_
        refine V_i2l (pc' := 29) dX11_link_28 rfl ?_
        refine V_lconst (v := 1) (pc' := 30) dX11_link_29 rfl (by decide) ?_
        refine V_ldc2 (v := 99) (pc' := 33) dX11_link_30 rfl bm_1397 ?_
        refine V_cvI (pc' := 36) (As := [.long (Int32.toInt64 x3), .long 1, .long 99]) (rest := []) dX11_link_33 rfl mok_X11_isIn bm_1373 11 (by decide) rfl hs0 rfl rfl (Nat.le_of_ble_eq_true rfl) (by decide) hf (fun q e => ct_X11_isIn hs0 e) (fun q_4 hf => ?_)
        refine V_if_eq (tgt := 48) (pc' := 39) dX11_link_36 (by decide) rfl hf (fun hf => ?_) (fun hf => ?_)
        ·
          refine V_iconst (v := (-1)) (pc' := 49) dX11_link_48 rfl (by decide) ?_
          obtain rfl := Option.some.inj hf
          exact V_iret dX11_link_49 rfl rfl rfl ⟨rfl, rfl, rfl⟩
        ·
          refine V_aload_n (pc' := 40) dX11_link_39 rfl 0 rfl rfl ?_
          refine V_cvI (pc' := 43) (As := []) (rest := []) dX11_link_40 rfl mok_X11_links bm_1398 11 (by decide) rfl hs0 rfl rfl (Nat.le_of_ble_eq_true rfl) (by decide) hf (fun q e => ct_X11_links hs0 e) (fun q_5 hf => ?_)
          refine V_bipush (v := 30) (pc' := 45) dX11_link_43 rfl (by decide) ?_
          refine V_icmp_ne (tgt := 50) (pc' := 48) dX11_link_45 (by decide) rfl hf (fun hf => ?_) (fun hf => ?_)
          ·
            refine V_iconst (v := (-1)) (pc' := 49) dX11_link_48 rfl (by decide) ?_
            obtain rfl := Option.some.inj hf
            exact V_iret dX11_link_49 rfl rfl rfl ⟨rfl, rfl, rfl⟩
          ·
            refine V_aload_n (pc' := 51) dX11_link_50 rfl 0 rfl rfl ?_
            refine V_cvV (pc' := 54) (As := []) (rest := []) dX11_link_51 rfl mok_X11_keepsAct bm_1377 11 (by decide) rfl hs0 rfl rfl (Nat.le_of_ble_eq_true rfl) (by decide) hf (fun q e => ct_X11_keepsAct hs0 e) (fun q_6 hf => ?_)
            refine V_aload_n (pc' := 55) dX11_link_54 rfl 0 rfl rfl ?_
            refine V_iload_n (pc' := 56) dX11_link_55 rfl 1 rfl rfl ?_
            refine V_iload_n (pc' := 57) dX11_link_56 rfl 2 rfl rfl ?_
            refine V_iload_n (pc' := 58) dX11_link_57 rfl 3 rfl rfl ?_
            refine V_iconst (v := 0) (pc' := 59) dX11_link_58 rfl (by decide) ?_
            refine V_cvV (pc' := 62) (As := [.int x1, .int x2, .int x3, .int 0]) (rest := []) dX11_link_59 rfl mok_X11_lays bm_1402 11 (by decide) rfl hs0 rfl rfl (Nat.le_of_ble_eq_true rfl) (by decide) hf (fun q e => ct_X11_lays hs0 e) (fun q_7 hf => ?_)
            refine V_aload_n (pc' := 63) dX11_link_62 rfl 0 rfl rfl ?_
            refine V_cvI (pc' := 66) (As := []) (rest := []) dX11_link_63 rfl mok_X11_links bm_1398 11 (by decide) rfl hs0 rfl rfl (Nat.le_of_ble_eq_true rfl) (by decide) hf (fun q e => ct_X11_links hs0 e) (fun q_8 hf => ?_)
            refine V_iconst (v := 1) (pc' := 67) dX11_link_66 rfl (by decide) ?_
            refine V_isub (pc' := 68) dX11_link_67 rfl ?_
            obtain rfl := Option.some.inj hf
            exact V_iret dX11_link_68 rfl rfl rfl ⟨rfl, rfl, rfl⟩
theorem ct_X11_link {l : Launch} {S : List SHP} {h : MH} {a0 : Nat} {x1 : Int32} {x2 : Int32} {x3 : Int32} (hs0 : S[a0]? = some (.inl 11)) {q : Int32 × MH} (hf : f_X11_link a0 x1 x2 x3 h = some q) : CT l mX11_link 5 false 0 0 S [.ref a0, .int x1, .int x2, .int x3] h (QI S q) :=
  CT_ofV (by decide) rfl (Nat.le_of_ble_eq_true rfl) (fun G B hT => v_X11_link hs0 hf)
/-! LabelStacksModel.state(IZ)I -/
theorem dX11_state_0 : decode cX11_state 0 = .ok (.aload_n 0, 1) := by decide +kernel
theorem dX11_state_1 : decode cX11_state 1 = .ok (.iconst 0, 1) := by decide +kernel
theorem dX11_state_2 : decode cX11_state 2 = .ok (.putfield 84, 3) := by decide +kernel
theorem dX11_state_5 : decode cX11_state 5 = .ok (.aload_n 0, 1) := by decide +kernel
theorem dX11_state_6 : decode cX11_state 6 = .ok (.iload_n 1, 1) := by decide +kernel
theorem dX11_state_7 : decode cX11_state 7 = .ok (.invokevirtual 126, 3) := by decide +kernel
theorem dX11_state_10 : decode cX11_state 10 = .ok (.ifCond .ne 5, 3) := by decide +kernel
theorem dX11_state_13 : decode cX11_state 13 = .ok (.iconst (-1), 1) := by decide +kernel
theorem dX11_state_14 : decode cX11_state 14 = .ok (.ireturn, 1) := by decide +kernel
theorem dX11_state_15 : decode cX11_state 15 = .ok (.aload_n 0, 1) := by decide +kernel
theorem dX11_state_16 : decode cX11_state 16 = .ok (.invokevirtual 109, 3) := by decide +kernel
theorem dX11_state_19 : decode cX11_state 19 = .ok (.aload_n 0, 1) := by decide +kernel
theorem dX11_state_20 : decode cX11_state 20 = .ok (.iload_n 1, 1) := by decide +kernel
theorem dX11_state_21 : decode cX11_state 21 = .ok (.invokevirtual 129, 3) := by decide +kernel
theorem dX11_state_24 : decode cX11_state 24 = .ok (.ifCond .eq 7, 3) := by decide +kernel
theorem dX11_state_27 : decode cX11_state 27 = .ok (.iconst 1, 1) := by decide +kernel
theorem dX11_state_28 : decode cX11_state 28 = .ok (.goto 4, 3) := by decide +kernel
theorem dX11_state_31 : decode cX11_state 31 = .ok (.iconst 0, 1) := by decide +kernel
theorem dX11_state_32 : decode cX11_state 32 = .ok (.istore_n 3, 1) := by decide +kernel
theorem dX11_state_33 : decode cX11_state 33 = .ok (.aload_n 0, 1) := by decide +kernel
theorem dX11_state_34 : decode cX11_state 34 = .ok (.getfield 7, 3) := by decide +kernel
theorem dX11_state_37 : decode cX11_state 37 = .ok (.bipush 92, 2) := by decide +kernel
theorem dX11_state_39 : decode cX11_state 39 = .ok (.iload_n 1, 1) := by decide +kernel
theorem dX11_state_40 : decode cX11_state 40 = .ok (.iadd, 1) := by decide +kernel
theorem dX11_state_41 : decode cX11_state 41 = .ok (.iload_n 2, 1) := by decide +kernel
theorem dX11_state_42 : decode cX11_state 42 = .ok (.ifCond .eq 7, 3) := by decide +kernel
theorem dX11_state_45 : decode cX11_state 45 = .ok (.iconst 0, 1) := by decide +kernel
theorem dX11_state_46 : decode cX11_state 46 = .ok (.goto 4, 3) := by decide +kernel
theorem dX11_state_49 : decode cX11_state 49 = .ok (.iconst 1, 1) := by decide +kernel
theorem dX11_state_50 : decode cX11_state 50 = .ok (.iastore, 1) := by decide +kernel
theorem dX11_state_51 : decode cX11_state 51 = .ok (.iload_n 3, 1) := by decide +kernel
theorem dX11_state_52 : decode cX11_state 52 = .ok (.ireturn, 1) := by decide +kernel
abbrev mX11_state : MI := (RX11, yX11_state, cX11_state, 4, (some .int))
theorem mok_X11_state : MOKv mX11_state 2 := ⟨⟨bm_1409, bm_127, ⟨by decide, by decide⟩, by decide +kernel⟩, bm_1407, bm_1408⟩
def f_X11_state_50   (x3 : Int32) (t0 : Nat) (t1 : Int32) (t2 : Int32) (h : MH) : Option (Int32 × MH) :=
  (stI h t0 t1 t2).bind fun h_1 =>
  some (x3, h_1)
def f_X11_state_32   (a0 : Nat) (x1 : Int32) (x2 : Int32) (t0 : Int32) (h : MH) : Option (Int32 × MH) :=
  (gR h a0 1).bind fun a_1 =>
  if x2 = 0 then
    f_X11_state_50 t0 a_1 (92 + x1) 1 h
  else
    f_X11_state_50 t0 a_1 (92 + x1) 0 h
def f_X11_state   (a0 : Nat) (x1 : Int32) (x2 : Int32) (h : MH) : Option (Int32 × MH) :=
  lt (sI h a0 0 0) fun h_1 =>
  (f_X11_isLink a0 x1 h_1).bind fun q_2 =>
  if q_2.1 = 0 then
    some ((-1 : Int32), q_2.2)
  else
    (f_X11_keepsAct a0 q_2.2).bind fun q_3 =>
    (f_X11_isUp a0 x1 q_3).bind fun q_4 =>
    if q_4.1 = 0 then
      f_X11_state_32 a0 x1 x2 0 q_4.2
    else
      f_X11_state_32 a0 x1 x2 1 q_4.2
set_option maxRecDepth 100000 in
set_option maxHeartbeats 4000000 in
theorem v_X11_state_50 {l : Launch} {G : GE} {B N : Nat} {S : List SHP} {o : Int32 × MH} {x3 : Int32} {t0 : Nat} {t1 : Int32} {t2 : Int32}    (ht0 : S[t0]? = some (.inr 0)) {h : MH} (hf : f_X11_state_50 x3 t0 t1 t2 h = some o) : V l G B N mX11_state (rmm 5 0 0) false 0 0 (QI S o) S 0 0 50 [(3, .int x3)] [.int t2, .int t1, .ref t0] h := by
  unfold f_X11_state_50 at hf
  refine V_iast (pc' := 51) dX11_state_50 rfl ht0 hf (fun h_1 hf => ?_)
  refine V_iload_n (pc' := 52) dX11_state_51 rfl 0 rfl rfl ?_
  obtain rfl := Option.some.inj hf
  exact V_iret dX11_state_52 rfl rfl rfl ⟨rfl, rfl, rfl⟩
set_option maxRecDepth 100000 in
set_option maxHeartbeats 4000000 in
theorem v_X11_state_32 {l : Launch} {G : GE} {B N : Nat} {S : List SHP} {o : Int32 × MH} {a0 : Nat} {x1 : Int32} {x2 : Int32} {t0 : Int32}    (hs0 : S[a0]? = some (.inl 11)) {h : MH} (hf : f_X11_state_32 a0 x1 x2 t0 h = some o) : V l G B N mX11_state (rmm 5 0 0) false 0 0 (QI S o) S 0 0 32 [(0, .ref a0), (1, .int x1), (2, .int x2)] [.int t0] h := by
  unfold f_X11_state_32 at hf
  refine V_istore_n (lv' := [(3, .int t0), (0, .ref a0), (1, .int x1), (2, .int x2)]) (pc' := 33) dX11_state_32 rfl rfl (Nat.le_of_ble_eq_true rfl) rfl ?_
  refine V_aload_n (pc' := 34) dX11_state_33 rfl 1 rfl rfl ?_
  refine V_getR (pc' := 37) 11 1 dX11_state_34 rfl (by decide) (Nat.le_of_ble_eq_true rfl) bm_1225 hs0 (fun _ _ _ => rfl) rfl hf (fun a_1 ha_1 hf => ?_)
  refine V_bipush (v := 92) (pc' := 39) dX11_state_37 rfl (by decide) ?_
  refine V_iload_n (pc' := 40) dX11_state_39 rfl 2 rfl rfl ?_
  refine V_iadd (pc' := 41) dX11_state_40 rfl ?_
  refine V_iload_n (pc' := 42) dX11_state_41 rfl 3 rfl rfl ?_
  refine V_if_eq (tgt := 49) (pc' := 45) dX11_state_42 (by decide) rfl hf (fun hf => ?_) (fun hf => ?_)
  ·
    refine V_iconst (v := 1) (pc' := 50) dX11_state_49 rfl (by decide) ?_
    exact V_sub (lv' := [(3, .int t0)]) [0] rfl (v_X11_state_50 ha_1 hf)
  ·
    refine V_iconst (v := 0) (pc' := 46) dX11_state_45 rfl (by decide) ?_
    refine V_goto (tgt := 50) dX11_state_46 (by decide) ?_
    exact V_sub (lv' := [(3, .int t0)]) [0] rfl (v_X11_state_50 ha_1 hf)
set_option maxRecDepth 100000 in
set_option maxHeartbeats 4000000 in
theorem v_X11_state {l : Launch} {G : GE} {B N : Nat} {S : List SHP} {o : Int32 × MH} {a0 : Nat} {x1 : Int32} {x2 : Int32}    (hs0 : S[a0]? = some (.inl 11)) {h : MH} (hf : f_X11_state a0 x1 x2 h = some o) : V l G B N mX11_state (rmm 5 0 0) false 0 0 (QI S o) S 0 0 0 [(0, .ref a0), (1, .int x1), (2, .int x2)] [] h := by
  unfold f_X11_state at hf
  refine V_aload_n (pc' := 1) dX11_state_0 rfl 0 rfl rfl ?_
  refine V_iconst (v := 0) (pc' := 2) dX11_state_1 rfl (by decide) ?_
  refine V_putI (pc' := 5) 11 0 dX11_state_2 rfl (by decide) (Nat.le_of_ble_eq_true rfl) bm_1224 hs0 (Or.inl rfl) rfl ?_
  refine V_nmH hf (fun h_1 hf => ?_)
  refine V_aload_n (pc' := 6) dX11_state_5 rfl 0 rfl rfl ?_
  refine V_iload_n (pc' := 7) dX11_state_6 rfl 1 rfl rfl ?_
  refine V_cvI (pc' := 10) (As := [.int x1]) (rest := []) dX11_state_7 rfl mok_X11_isLink bm_1410 11 (by decide) rfl hs0 rfl rfl (Nat.le_of_ble_eq_true rfl) (by decide) hf (fun q e => ct_X11_isLink hs0 e) (fun q_2 hf => ?_)
  refine V_if_ne (tgt := 15) (pc' := 13) dX11_state_10 (by decide) rfl hf (fun hf => ?_) (fun hf => ?_)
  ·
    refine V_iconst (v := (-1)) (pc' := 14) dX11_state_13 rfl (by decide) ?_
    obtain rfl := Option.some.inj hf
    exact V_iret dX11_state_14 rfl rfl rfl ⟨rfl, rfl, rfl⟩
  ·
    refine V_aload_n (pc' := 16) dX11_state_15 rfl 0 rfl rfl ?_
    refine V_cvV (pc' := 19) (As := []) (rest := []) dX11_state_16 rfl mok_X11_keepsAct bm_1377 11 (by decide) rfl hs0 rfl rfl (Nat.le_of_ble_eq_true rfl) (by decide) hf (fun q e => ct_X11_keepsAct hs0 e) (fun q_3 hf => ?_)
    refine V_aload_n (pc' := 20) dX11_state_19 rfl 0 rfl rfl ?_
    refine V_iload_n (pc' := 21) dX11_state_20 rfl 1 rfl rfl ?_
    refine V_cvI (pc' := 24) (As := [.int x1]) (rest := []) dX11_state_21 rfl mok_X11_isUp bm_1414 11 (by decide) rfl hs0 rfl rfl (Nat.le_of_ble_eq_true rfl) (by decide) hf (fun q e => ct_X11_isUp hs0 e) (fun q_4 hf => ?_)
    refine V_if_eq (tgt := 31) (pc' := 27) dX11_state_24 (by decide) rfl hf (fun hf => ?_) (fun hf => ?_)
    ·
      refine V_iconst (v := 0) (pc' := 32) dX11_state_31 rfl (by decide) ?_
      exact V_sub (lv' := [(0, .ref a0), (1, .int x1), (2, .int x2)]) [0, 1, 2] rfl (v_X11_state_32 hs0 hf)
    ·
      refine V_iconst (v := 1) (pc' := 28) dX11_state_27 rfl (by decide) ?_
      refine V_goto (tgt := 32) dX11_state_28 (by decide) ?_
      exact V_sub (lv' := [(0, .ref a0), (1, .int x1), (2, .int x2)]) [0, 1, 2] rfl (v_X11_state_32 hs0 hf)
theorem ct_X11_state {l : Launch} {S : List SHP} {h : MH} {a0 : Nat} {x1 : Int32} {x2 : Int32} (hs0 : S[a0]? = some (.inl 11)) {q : Int32 × MH} (hf : f_X11_state a0 x1 x2 h = some q) : CT l mX11_state 5 false 0 0 S [.ref a0, .int x1, .int x2] h (QI S q) :=
  CT_ofV (by decide) rfl (Nat.le_of_ble_eq_true rfl) (fun G B hT => v_X11_state hs0 hf)
/-! LabelStacksModel.cost(II)I -/
theorem dX11_cost_0 : decode cX11_cost 0 = .ok (.aload_n 0, 1) := by decide +kernel
theorem dX11_cost_1 : decode cX11_cost 1 = .ok (.iconst 0, 1) := by decide +kernel
theorem dX11_cost_2 : decode cX11_cost 2 = .ok (.putfield 84, 3) := by decide +kernel
theorem dX11_cost_5 : decode cX11_cost 5 = .ok (.aload_n 0, 1) := by decide +kernel
theorem dX11_cost_6 : decode cX11_cost 6 = .ok (.iload_n 1, 1) := by decide +kernel
theorem dX11_cost_7 : decode cX11_cost 7 = .ok (.invokevirtual 126, 3) := by decide +kernel
theorem dX11_cost_10 : decode cX11_cost 10 = .ok (.ifCond .eq 16, 3) := by decide +kernel
theorem dX11_cost_13 : decode cX11_cost 13 = .ok (.aload_n 0, 1) := by decide +kernel
theorem dX11_cost_14 : decode cX11_cost 14 = .ok (.iload_n 2, 1) := by decide +kernel
theorem dX11_cost_15 : decode cX11_cost 15 = .ok (.i2l, 1) := by decide +kernel
theorem dX11_cost_16 : decode cX11_cost 16 = .ok (.lconst 1, 1) := by decide +kernel
theorem dX11_cost_17 : decode cX11_cost 17 = .ok (.ldc2_w 120, 3) := by decide +kernel
theorem dX11_cost_20 : decode cX11_cost 20 = .ok (.invokevirtual 91, 3) := by decide +kernel
theorem dX11_cost_23 : decode cX11_cost 23 = .ok (.ifCond .ne 5, 3) := by decide +kernel
theorem dX11_cost_26 : decode cX11_cost 26 = .ok (.iconst (-1), 1) := by decide +kernel
theorem dX11_cost_27 : decode cX11_cost 27 = .ok (.ireturn, 1) := by decide +kernel
theorem dX11_cost_28 : decode cX11_cost 28 = .ok (.aload_n 0, 1) := by decide +kernel
theorem dX11_cost_29 : decode cX11_cost 29 = .ok (.invokevirtual 109, 3) := by decide +kernel
theorem dX11_cost_32 : decode cX11_cost 32 = .ok (.aload_n 0, 1) := by decide +kernel
theorem dX11_cost_33 : decode cX11_cost 33 = .ok (.iload_n 1, 1) := by decide +kernel
theorem dX11_cost_34 : decode cX11_cost 34 = .ok (.invokevirtual 132, 3) := by decide +kernel
theorem dX11_cost_37 : decode cX11_cost 37 = .ok (.istore_n 3, 1) := by decide +kernel
theorem dX11_cost_38 : decode cX11_cost 38 = .ok (.aload_n 0, 1) := by decide +kernel
theorem dX11_cost_39 : decode cX11_cost 39 = .ok (.getfield 7, 3) := by decide +kernel
theorem dX11_cost_42 : decode cX11_cost 42 = .ok (.bipush 62, 2) := by decide +kernel
theorem dX11_cost_44 : decode cX11_cost 44 = .ok (.iload_n 1, 1) := by decide +kernel
theorem dX11_cost_45 : decode cX11_cost 45 = .ok (.iadd, 1) := by decide +kernel
theorem dX11_cost_46 : decode cX11_cost 46 = .ok (.iload_n 2, 1) := by decide +kernel
theorem dX11_cost_47 : decode cX11_cost 47 = .ok (.iastore, 1) := by decide +kernel
theorem dX11_cost_48 : decode cX11_cost 48 = .ok (.iload_n 3, 1) := by decide +kernel
theorem dX11_cost_49 : decode cX11_cost 49 = .ok (.ireturn, 1) := by decide +kernel
abbrev mX11_cost : MI := (RX11, yX11_cost, cX11_cost, 4, (some .int))
theorem mok_X11_cost : MOKv mX11_cost 2 := ⟨⟨bm_1421, bm_127, ⟨by decide, by decide⟩, by decide +kernel⟩, bm_1419, bm_1420⟩
def f_X11_cost   (a0 : Nat) (x1 : Int32) (x2 : Int32) (h : MH) : Option (Int32 × MH) :=
  lt (sI h a0 0 0) fun h_1 =>
  (f_X11_isLink a0 x1 h_1).bind fun q_2 =>
  if q_2.1 = 0 then
    some ((-1 : Int32), q_2.2)
  else
    (f_X11_isIn a0 (Int32.toInt64 x2) 1 99 q_2.2).bind fun q_3 =>
    if q_3.1 = 0 then
      some ((-1 : Int32), q_3.2)
    else
      (f_X11_keepsAct a0 q_3.2).bind fun q_4 =>
      (f_X11_costOf a0 x1 q_4).bind fun q_5 =>
      (gR q_5.2 a0 1).bind fun a_6 =>
      (stI q_5.2 a_6 (62 + x1) x2).bind fun h_7 =>
      some (q_5.1, h_7)
set_option maxRecDepth 100000 in
set_option maxHeartbeats 4000000 in
theorem v_X11_cost {l : Launch} {G : GE} {B N : Nat} {S : List SHP} {o : Int32 × MH} {a0 : Nat} {x1 : Int32} {x2 : Int32}    (hs0 : S[a0]? = some (.inl 11)) {h : MH} (hf : f_X11_cost a0 x1 x2 h = some o) : V l G B N mX11_cost (rmm 5 0 0) false 0 0 (QI S o) S 0 0 0 [(0, .ref a0), (1, .int x1), (2, .int x2)] [] h := by
  unfold f_X11_cost at hf
  refine V_aload_n (pc' := 1) dX11_cost_0 rfl 0 rfl rfl ?_
  refine V_iconst (v := 0) (pc' := 2) dX11_cost_1 rfl (by decide) ?_
  refine V_putI (pc' := 5) 11 0 dX11_cost_2 rfl (by decide) (Nat.le_of_ble_eq_true rfl) bm_1224 hs0 (Or.inl rfl) rfl ?_
  refine V_nmH hf (fun h_1 hf => ?_)
  refine V_aload_n (pc' := 6) dX11_cost_5 rfl 0 rfl rfl ?_
  refine V_iload_n (pc' := 7) dX11_cost_6 rfl 1 rfl rfl ?_
  refine V_cvI (pc' := 10) (As := [.int x1]) (rest := []) dX11_cost_7 rfl mok_X11_isLink bm_1410 11 (by decide) rfl hs0 rfl rfl (Nat.le_of_ble_eq_true rfl) (by decide) hf (fun q e => ct_X11_isLink hs0 e) (fun q_2 hf => ?_)
  refine V_if_eq (tgt := 26) (pc' := 13) dX11_cost_10 (by decide) rfl hf (fun hf => ?_) (fun hf => ?_)
  ·
    refine V_iconst (v := (-1)) (pc' := 27) dX11_cost_26 rfl (by decide) ?_
    obtain rfl := Option.some.inj hf
    exact V_iret dX11_cost_27 rfl rfl rfl ⟨rfl, rfl, rfl⟩
  ·
    refine V_aload_n (pc' := 14) dX11_cost_13 rfl 0 rfl rfl ?_
    refine V_iload_n (pc' := 15) dX11_cost_14 rfl 2 rfl rfl ?_
    refine V_i2l (pc' := 16) dX11_cost_15 rfl ?_
    refine V_lconst (v := 1) (pc' := 17) dX11_cost_16 rfl (by decide) ?_
    refine V_ldc2 (v := 99) (pc' := 20) dX11_cost_17 rfl bm_1397 ?_
    refine V_cvI (pc' := 23) (As := [.long (Int32.toInt64 x2), .long 1, .long 99]) (rest := []) dX11_cost_20 rfl mok_X11_isIn bm_1373 11 (by decide) rfl hs0 rfl rfl (Nat.le_of_ble_eq_true rfl) (by decide) hf (fun q e => ct_X11_isIn hs0 e) (fun q_3 hf => ?_)
    refine V_if_ne (tgt := 28) (pc' := 26) dX11_cost_23 (by decide) rfl hf (fun hf => ?_) (fun hf => ?_)
    ·
      refine V_iconst (v := (-1)) (pc' := 27) dX11_cost_26 rfl (by decide) ?_
      obtain rfl := Option.some.inj hf
      exact V_iret dX11_cost_27 rfl rfl rfl ⟨rfl, rfl, rfl⟩
    ·
      refine V_aload_n (pc' := 29) dX11_cost_28 rfl 0 rfl rfl ?_
      refine V_cvV (pc' := 32) (As := []) (rest := []) dX11_cost_29 rfl mok_X11_keepsAct bm_1377 11 (by decide) rfl hs0 rfl rfl (Nat.le_of_ble_eq_true rfl) (by decide) hf (fun q e => ct_X11_keepsAct hs0 e) (fun q_4 hf => ?_)
      refine V_aload_n (pc' := 33) dX11_cost_32 rfl 0 rfl rfl ?_
      refine V_iload_n (pc' := 34) dX11_cost_33 rfl 1 rfl rfl ?_
      refine V_cvI (pc' := 37) (As := [.int x1]) (rest := []) dX11_cost_34 rfl mok_X11_costOf bm_1422 11 (by decide) rfl hs0 rfl rfl (Nat.le_of_ble_eq_true rfl) (by decide) hf (fun q e => ct_X11_costOf hs0 e) (fun q_5 hf => ?_)
      refine V_istore_n (lv' := [(3, .int q_5.1), (0, .ref a0), (1, .int x1), (2, .int x2)]) (pc' := 38) dX11_cost_37 rfl rfl (Nat.le_of_ble_eq_true rfl) rfl ?_
      refine V_aload_n (pc' := 39) dX11_cost_38 rfl 1 rfl rfl ?_
      refine V_getR (pc' := 42) 11 1 dX11_cost_39 rfl (by decide) (Nat.le_of_ble_eq_true rfl) bm_1225 hs0 (fun _ _ _ => rfl) rfl hf (fun a_6 ha_6 hf => ?_)
      refine V_bipush (v := 62) (pc' := 44) dX11_cost_42 rfl (by decide) ?_
      refine V_iload_n (pc' := 45) dX11_cost_44 rfl 2 rfl rfl ?_
      refine V_iadd (pc' := 46) dX11_cost_45 rfl ?_
      refine V_iload_n (pc' := 47) dX11_cost_46 rfl 3 rfl rfl ?_
      refine V_iast (pc' := 48) dX11_cost_47 rfl ha_6 hf (fun h_7 hf => ?_)
      refine V_iload_n (pc' := 49) dX11_cost_48 rfl 0 rfl rfl ?_
      obtain rfl := Option.some.inj hf
      exact V_iret dX11_cost_49 rfl rfl rfl ⟨rfl, rfl, rfl⟩
theorem ct_X11_cost {l : Launch} {S : List SHP} {h : MH} {a0 : Nat} {x1 : Int32} {x2 : Int32} (hs0 : S[a0]? = some (.inl 11)) {q : Int32 × MH} (hf : f_X11_cost a0 x1 x2 h = some q) : CT l mX11_cost 5 false 0 0 S [.ref a0, .int x1, .int x2] h (QI S q) :=
  CT_ofV (by decide) rfl (Nat.le_of_ble_eq_true rfl) (fun G B hT => v_X11_cost hs0 hf)
/-! LabelStacksModel.isBinding(I)Z -/
theorem dX11_isBinding_0 : decode cX11_isBinding 0 = .ok (.aload_n 0, 1) := by decide +kernel
theorem dX11_isBinding_1 : decode cX11_isBinding 1 = .ok (.iload_n 1, 1) := by decide +kernel
theorem dX11_isBinding_2 : decode cX11_isBinding 2 = .ok (.i2l, 1) := by decide +kernel
theorem dX11_isBinding_3 : decode cX11_isBinding 3 = .ok (.lconst 0, 1) := by decide +kernel
theorem dX11_isBinding_4 : decode cX11_isBinding 4 = .ok (.ldc2_w 136, 3) := by decide +kernel
theorem dX11_isBinding_7 : decode cX11_isBinding 7 = .ok (.invokevirtual 91, 3) := by decide +kernel
theorem dX11_isBinding_10 : decode cX11_isBinding 10 = .ok (.ireturn, 1) := by decide +kernel
abbrev mX11_isBinding : MI := (RX11, yX11_isBinding, cX11_isBinding, 2, (some .boolean))
theorem mok_X11_isBinding : MOKv mX11_isBinding 1 := ⟨⟨bm_1433, bm_127, ⟨by decide, by decide⟩, by decide +kernel⟩, bm_1432, bm_53⟩
def f_X11_isBinding   (a0 : Nat) (x1 : Int32) (h : MH) : Option (Int32 × MH) :=
  (f_X11_isIn a0 (Int32.toInt64 x1) 0 5 h).bind fun q_1 =>
  if q_1.1 = 0 ∨ q_1.1 = 1 then some (q_1.1, q_1.2) else none
set_option maxRecDepth 100000 in
set_option maxHeartbeats 4000000 in
theorem v_X11_isBinding {l : Launch} {G : GE} {B N : Nat} {S : List SHP} {o : Int32 × MH} {a0 : Nat} {x1 : Int32}    (hs0 : S[a0]? = some (.inl 11)) {h : MH} (hf : f_X11_isBinding a0 x1 h = some o) : V l G B N mX11_isBinding (rmm 4 0 0) false 0 0 (QI S o) S 0 0 0 [(0, .ref a0), (1, .int x1)] [] h := by
  unfold f_X11_isBinding at hf
  refine V_aload_n (pc' := 1) dX11_isBinding_0 rfl 0 rfl rfl ?_
  refine V_iload_n (pc' := 2) dX11_isBinding_1 rfl 1 rfl rfl ?_
  refine V_i2l (pc' := 3) dX11_isBinding_2 rfl ?_
  refine V_lconst (v := 0) (pc' := 4) dX11_isBinding_3 rfl (by decide) ?_
  refine V_ldc2 (v := 5) (pc' := 7) dX11_isBinding_4 rfl bm_1434 ?_
  refine V_cvI (pc' := 10) (As := [.long (Int32.toInt64 x1), .long 0, .long 5]) (rest := []) dX11_isBinding_7 rfl mok_X11_isIn bm_1373 11 (by decide) rfl hs0 rfl rfl (Nat.le_of_ble_eq_true rfl) (by decide) hf (fun q e => ct_X11_isIn hs0 e) (fun q_1 hf => ?_)
  refine V_zret dX11_isBinding_10 rfl rfl rfl hf (fun hf => ?_)
  obtain rfl := Option.some.inj hf
  exact ⟨rfl, rfl, rfl⟩
theorem ct_X11_isBinding {l : Launch} {S : List SHP} {h : MH} {a0 : Nat} {x1 : Int32} (hs0 : S[a0]? = some (.inl 11)) {q : Int32 × MH} (hf : f_X11_isBinding a0 x1 h = some q) : CT l mX11_isBinding 4 false 0 0 S [.ref a0, .int x1] h (QI S q) :=
  CT_ofV (by decide) rfl (Nat.le_of_ble_eq_true rfl) (fun G B hT => v_X11_isBinding hs0 hf)
/-! LabelStacksModel.isPlain()Z -/
theorem dX11_isPlain_0 : decode cX11_isPlain 0 = .ok (.iconst 0, 1) := by decide +kernel
theorem dX11_isPlain_1 : decode cX11_isPlain 1 = .ok (.istore_n 1, 1) := by decide +kernel
theorem dX11_isPlain_2 : decode cX11_isPlain 2 = .ok (.iload_n 1, 1) := by decide +kernel
theorem dX11_isPlain_3 : decode cX11_isPlain 3 = .ok (.aload_n 0, 1) := by decide +kernel
theorem dX11_isPlain_4 : decode cX11_isPlain 4 = .ok (.getfield 138, 3) := by decide +kernel
theorem dX11_isPlain_7 : decode cX11_isPlain 7 = .ok (.if_icmp .ge 23, 3) := by decide +kernel
theorem dX11_isPlain_10 : decode cX11_isPlain 10 = .ok (.aload_n 0, 1) := by decide +kernel
theorem dX11_isPlain_11 : decode cX11_isPlain 11 = .ok (.getfield 20, 3) := by decide +kernel
theorem dX11_isPlain_14 : decode cX11_isPlain 14 = .ok (.iload_n 1, 1) := by decide +kernel
theorem dX11_isPlain_15 : decode cX11_isPlain 15 = .ok (.iaload, 1) := by decide +kernel
theorem dX11_isPlain_16 : decode cX11_isPlain 16 = .ok (.sipush 200, 3) := by decide +kernel
theorem dX11_isPlain_19 : decode cX11_isPlain 19 = .ok (.if_icmp .lt 5, 3) := by decide +kernel
theorem dX11_isPlain_22 : decode cX11_isPlain 22 = .ok (.iconst 0, 1) := by decide +kernel
theorem dX11_isPlain_23 : decode cX11_isPlain 23 = .ok (.ireturn, 1) := by decide +kernel
theorem dX11_isPlain_24 : decode cX11_isPlain 24 = .ok (.iinc 1 1, 3) := by decide +kernel
theorem dX11_isPlain_27 : decode cX11_isPlain 27 = .ok (.goto (-25), 3) := by decide +kernel
theorem dX11_isPlain_30 : decode cX11_isPlain 30 = .ok (.iconst 1, 1) := by decide +kernel
theorem dX11_isPlain_31 : decode cX11_isPlain 31 = .ok (.ireturn, 1) := by decide +kernel
abbrev mX11_isPlain : MI := (RX11, yX11_isPlain, cX11_isPlain, 2, (some .boolean))
theorem mok_X11_isPlain : MOKv mX11_isPlain 0 := ⟨⟨bm_1439, bm_127, ⟨by decide, by decide⟩, by decide +kernel⟩, bm_1438, bm_54⟩
def f_X11_isPlain_2b   (a0 : Nat) (k2 : Int32 → MH → Option (Int32 × MH)) (p : Int32) (h : MH) : Option (Int32 × MH) :=
  if p < (gI h a0 6) then
    (gR h a0 5).bind fun a_1 =>
    (ldI h a_1 p).bind fun x_2 =>
    if x_2 < 200 then
      k2 (p + 1) h
    else
      some (0, h)
  else
    some (1, h)
def f_X11_isPlain_2   (a0 : Nat) : Nat → Int32 → MH → Option (Int32 × MH) := lp (f_X11_isPlain_2b a0)
def f_X11_isPlain   (a0 : Nat) (h : MH) : Option (Int32 × MH) :=
  f_X11_isPlain_2 a0 FU 0 h
set_option maxRecDepth 100000 in
set_option maxHeartbeats 4000000 in
theorem v_X11_isPlain_2b {l : Launch} {G : GE} {B N : Nat} {S : List SHP} {o : Int32 × MH} {a0 : Nat}    (hs0 : S[a0]? = some (.inl 11)) {k2 : Int32 → MH → Option (Int32 × MH)} (hk2 : ∀ (p : Int32) (h : MH), k2 p h = some o → V l G B N mX11_isPlain (rmm 3 0 0) false 0 0 (QI S o) S 0 0 2 [(0, .ref a0), (1, .int p)] [] h) {p : Int32} {h : MH} (hf : f_X11_isPlain_2b a0 k2 p h = some o) : V l G B N mX11_isPlain (rmm 3 0 0) false 0 0 (QI S o) S 0 0 2 [(0, .ref a0), (1, .int p)] [] h := by
  unfold f_X11_isPlain_2b at hf
  refine V_iload_n (pc' := 3) dX11_isPlain_2 rfl 1 rfl rfl ?_
  refine V_aload_n (pc' := 4) dX11_isPlain_3 rfl 0 rfl rfl ?_
  refine V_getI (pc' := 7) 11 6 dX11_isPlain_4 rfl (by decide) (Nat.le_of_ble_eq_true rfl) bm_1230 hs0 (fun _ _ _ => rfl) ?_
  refine V_icmp_ge (tgt := 30) (pc' := 10) dX11_isPlain_7 (by decide) rfl hf (fun hf => ?_) (fun hf => ?_)
  ·
    refine V_aload_n (pc' := 11) dX11_isPlain_10 rfl 0 rfl rfl ?_
    refine V_getR (pc' := 14) 11 5 dX11_isPlain_11 rfl (by decide) (Nat.le_of_ble_eq_true rfl) bm_1229 hs0 (fun _ _ _ => rfl) rfl hf (fun a_1 ha_1 hf => ?_)
    refine V_iload_n (pc' := 15) dX11_isPlain_14 rfl 1 rfl rfl ?_
    refine V_iald (pc' := 16) dX11_isPlain_15 rfl ha_1 hf (fun x_2 hf => ?_)
    refine V_sipush (v := 200) (pc' := 19) dX11_isPlain_16 rfl (by decide) ?_
    refine V_icmp_lt (tgt := 24) (pc' := 22) dX11_isPlain_19 (by decide) rfl hf (fun hf => ?_) (fun hf => ?_)
    ·
      refine V_iinc (v := (p + 1)) (lv' := [(1, .int (p + 1)), (0, .ref a0)]) (pc' := 27) dX11_isPlain_24 rfl 1 rfl rfl (Nat.le_of_ble_eq_true rfl) rfl ?_
      refine V_goto (tgt := 2) dX11_isPlain_27 (by decide) ?_
      exact V_sub (lv' := [(0, .ref a0), (1, .int (p + 1))]) [1, 0] rfl (hk2 (p + 1) h hf)
    ·
      refine V_iconst (v := 0) (pc' := 23) dX11_isPlain_22 rfl (by decide) ?_
      obtain rfl := Option.some.inj hf
      exact V_zretL dX11_isPlain_23 rfl rfl rfl (by decide) ⟨rfl, rfl, rfl⟩
  ·
    refine V_iconst (v := 1) (pc' := 31) dX11_isPlain_30 rfl (by decide) ?_
    obtain rfl := Option.some.inj hf
    exact V_zretL dX11_isPlain_31 rfl rfl rfl (by decide) ⟨rfl, rfl, rfl⟩
theorem v_X11_isPlain_2 {l : Launch} {G : GE} {B N : Nat} {S : List SHP} {o : Int32 × MH} {a0 : Nat}    (hs0 : S[a0]? = some (.inl 11)) {n : Nat} {p : Int32} {h : MH} (hf : f_X11_isPlain_2 a0 n p h = some o) : V l G B N mX11_isPlain (rmm 3 0 0) false 0 0 (QI S o) S 0 0 2 [(0, .ref a0), (1, .int p)] [] h :=
  V_lp (VV := fun p h => V l G B N mX11_isPlain (rmm 3 0 0) false 0 0 (QI S o) S 0 0 2 [(0, .ref a0), (1, .int p)] [] h) (fun _ hk _ _ hf => v_X11_isPlain_2b hs0 hk hf) n p h hf
set_option maxRecDepth 100000 in
set_option maxHeartbeats 4000000 in
theorem v_X11_isPlain {l : Launch} {G : GE} {B N : Nat} {S : List SHP} {o : Int32 × MH} {a0 : Nat}    (hs0 : S[a0]? = some (.inl 11)) {h : MH} (hf : f_X11_isPlain a0 h = some o) : V l G B N mX11_isPlain (rmm 3 0 0) false 0 0 (QI S o) S 0 0 0 [(0, .ref a0)] [] h := by
  unfold f_X11_isPlain at hf
  refine V_iconst (v := 0) (pc' := 1) dX11_isPlain_0 rfl (by decide) ?_
  refine V_istore_n (lv' := [(1, .int 0), (0, .ref a0)]) (pc' := 2) dX11_isPlain_1 rfl rfl (Nat.le_of_ble_eq_true rfl) rfl ?_
  exact V_sub (lv' := [(0, .ref a0), (1, .int 0)]) [1, 0] rfl (v_X11_isPlain_2 hs0 hf)
theorem ct_X11_isPlain {l : Launch} {S : List SHP} {h : MH} {a0 : Nat} (hs0 : S[a0]? = some (.inl 11)) {q : Int32 × MH} (hf : f_X11_isPlain a0 h = some q) : CT l mX11_isPlain 3 false 0 0 S [.ref a0] h (QI S q) :=
  CT_ofV (by decide) rfl (Nat.le_of_ble_eq_true rfl) (fun G B hT => v_X11_isPlain hs0 hf)
/-! LabelStacksModel.bind(II)Z -/
theorem dX11_bind_0 : decode cX11_bind 0 = .ok (.aload_n 0, 1) := by decide +kernel
theorem dX11_bind_1 : decode cX11_bind 1 = .ok (.iconst 0, 1) := by decide +kernel
theorem dX11_bind_2 : decode cX11_bind 2 = .ok (.putfield 84, 3) := by decide +kernel
theorem dX11_bind_5 : decode cX11_bind 5 = .ok (.aload_n 0, 1) := by decide +kernel
theorem dX11_bind_6 : decode cX11_bind 6 = .ok (.iload_n 1, 1) := by decide +kernel
theorem dX11_bind_7 : decode cX11_bind 7 = .ok (.invokevirtual 141, 3) := by decide +kernel
theorem dX11_bind_10 : decode cX11_bind 10 = .ok (.ifCond .eq 34, 3) := by decide +kernel
theorem dX11_bind_13 : decode cX11_bind 13 = .ok (.aload_n 0, 1) := by decide +kernel
theorem dX11_bind_14 : decode cX11_bind 14 = .ok (.iload_n 2, 1) := by decide +kernel
theorem dX11_bind_15 : decode cX11_bind 15 = .ok (.invokevirtual 116, 3) := by decide +kernel
theorem dX11_bind_18 : decode cX11_bind 18 = .ok (.ifCond .eq 26, 3) := by decide +kernel
theorem dX11_bind_21 : decode cX11_bind 21 = .ok (.aload_n 0, 1) := by decide +kernel
theorem dX11_bind_22 : decode cX11_bind 22 = .ok (.aload_n 0, 1) := by decide +kernel
theorem dX11_bind_23 : decode cX11_bind 23 = .ok (.getfield 138, 3) := by decide +kernel
theorem dX11_bind_26 : decode cX11_bind 26 = .ok (.i2l, 1) := by decide +kernel
theorem dX11_bind_27 : decode cX11_bind 27 = .ok (.lconst 1, 1) := by decide +kernel
theorem dX11_bind_28 : decode cX11_bind 28 = .ok (.ldc2_w 144, 3) := by decide +kernel
theorem dX11_bind_31 : decode cX11_bind 31 = .ok (.invokevirtual 91, 3) := by decide +kernel
theorem dX11_bind_34 : decode cX11_bind 34 = .ok (.ifCond .eq 10, 3) := by decide +kernel
theorem dX11_bind_37 : decode cX11_bind 37 = .ok (.aload_n 0, 1) := by decide +kernel
theorem dX11_bind_38 : decode cX11_bind 38 = .ok (.invokevirtual 146, 3) := by decide +kernel
theorem dX11_bind_41 : decode cX11_bind 41 = .ok (.ifCond .ne 5, 3) := by decide +kernel
theorem dX11_bind_44 : decode cX11_bind 44 = .ok (.iconst 0, 1) := by decide +kernel
theorem dX11_bind_45 : decode cX11_bind 45 = .ok (.ireturn, 1) := by decide +kernel
theorem dX11_bind_46 : decode cX11_bind 46 = .ok (.aload_n 0, 1) := by decide +kernel
theorem dX11_bind_47 : decode cX11_bind 47 = .ok (.invokevirtual 109, 3) := by decide +kernel
theorem dX11_bind_50 : decode cX11_bind 50 = .ok (.aload_n 0, 1) := by decide +kernel
theorem dX11_bind_51 : decode cX11_bind 51 = .ok (.getfield 7, 3) := by decide +kernel
theorem dX11_bind_54 : decode cX11_bind 54 = .ok (.bipush 122, 2) := by decide +kernel
theorem dX11_bind_56 : decode cX11_bind 56 = .ok (.iload_n 1, 1) := by decide +kernel
theorem dX11_bind_57 : decode cX11_bind 57 = .ok (.iadd, 1) := by decide +kernel
theorem dX11_bind_58 : decode cX11_bind 58 = .ok (.iload_n 2, 1) := by decide +kernel
theorem dX11_bind_59 : decode cX11_bind 59 = .ok (.iconst 1, 1) := by decide +kernel
theorem dX11_bind_60 : decode cX11_bind 60 = .ok (.iadd, 1) := by decide +kernel
theorem dX11_bind_61 : decode cX11_bind 61 = .ok (.iastore, 1) := by decide +kernel
theorem dX11_bind_62 : decode cX11_bind 62 = .ok (.aload_n 0, 1) := by decide +kernel
theorem dX11_bind_63 : decode cX11_bind 63 = .ok (.getfield 7, 3) := by decide +kernel
theorem dX11_bind_66 : decode cX11_bind 66 = .ok (.sipush 128, 3) := by decide +kernel
theorem dX11_bind_69 : decode cX11_bind 69 = .ok (.iload_n 1, 1) := by decide +kernel
theorem dX11_bind_70 : decode cX11_bind 70 = .ok (.iadd, 1) := by decide +kernel
theorem dX11_bind_71 : decode cX11_bind 71 = .ok (.aload_n 0, 1) := by decide +kernel
theorem dX11_bind_72 : decode cX11_bind 72 = .ok (.getfield 138, 3) := by decide +kernel
theorem dX11_bind_75 : decode cX11_bind 75 = .ok (.iastore, 1) := by decide +kernel
theorem dX11_bind_76 : decode cX11_bind 76 = .ok (.iconst 0, 1) := by decide +kernel
theorem dX11_bind_77 : decode cX11_bind 77 = .ok (.istore_n 3, 1) := by decide +kernel
theorem dX11_bind_78 : decode cX11_bind 78 = .ok (.iload_n 3, 1) := by decide +kernel
theorem dX11_bind_79 : decode cX11_bind 79 = .ok (.aload_n 0, 1) := by decide +kernel
theorem dX11_bind_80 : decode cX11_bind 80 = .ok (.getfield 138, 3) := by decide +kernel
theorem dX11_bind_83 : decode cX11_bind 83 = .ok (.if_icmp .ge 30, 3) := by decide +kernel
theorem dX11_bind_86 : decode cX11_bind 86 = .ok (.aload_n 0, 1) := by decide +kernel
theorem dX11_bind_87 : decode cX11_bind 87 = .ok (.getfield 7, 3) := by decide +kernel
theorem dX11_bind_90 : decode cX11_bind 90 = .ok (.sipush 134, 3) := by decide +kernel
theorem dX11_bind_93 : decode cX11_bind 93 = .ok (.bipush 6, 2) := by decide +kernel
theorem dX11_bind_95 : decode cX11_bind 95 = .ok (.iload_n 1, 1) := by decide +kernel
theorem dX11_bind_96 : decode cX11_bind 96 = .ok (.imul, 1) := by decide +kernel
theorem dX11_bind_97 : decode cX11_bind 97 = .ok (.iadd, 1) := by decide +kernel
theorem dX11_bind_98 : decode cX11_bind 98 = .ok (.iload_n 3, 1) := by decide +kernel
theorem dX11_bind_99 : decode cX11_bind 99 = .ok (.iadd, 1) := by decide +kernel
theorem dX11_bind_100 : decode cX11_bind 100 = .ok (.aload_n 0, 1) := by decide +kernel
theorem dX11_bind_101 : decode cX11_bind 101 = .ok (.getfield 20, 3) := by decide +kernel
theorem dX11_bind_104 : decode cX11_bind 104 = .ok (.iload_n 3, 1) := by decide +kernel
theorem dX11_bind_105 : decode cX11_bind 105 = .ok (.iaload, 1) := by decide +kernel
theorem dX11_bind_106 : decode cX11_bind 106 = .ok (.iastore, 1) := by decide +kernel
theorem dX11_bind_107 : decode cX11_bind 107 = .ok (.iinc 3 1, 3) := by decide +kernel
theorem dX11_bind_110 : decode cX11_bind 110 = .ok (.goto (-32), 3) := by decide +kernel
theorem dX11_bind_113 : decode cX11_bind 113 = .ok (.iconst 1, 1) := by decide +kernel
theorem dX11_bind_114 : decode cX11_bind 114 = .ok (.ireturn, 1) := by decide +kernel
abbrev mX11_bind : MI := (RX11, yX11_bind, cX11_bind, 4, (some .boolean))
theorem mok_X11_bind : MOKv mX11_bind 2 := ⟨⟨bm_1429, bm_127, ⟨by decide, by decide⟩, by decide +kernel⟩, bm_1427, bm_1428⟩
def f_X11_bind_78b   (a0 : Nat) (x1 : Int32) (k78 : Int32 → MH → Option (Int32 × MH)) (p : Int32) (h : MH) : Option (Int32 × MH) :=
  if p < (gI h a0 6) then
    (gR h a0 1).bind fun a_1 =>
    (gR h a0 5).bind fun a_2 =>
    (ldI h a_2 p).bind fun x_3 =>
    (stI h a_1 ((134 + (6 * x1)) + p) x_3).bind fun h_4 =>
    k78 (p + 1) h_4
  else
    some (1, h)
def f_X11_bind_78   (a0 : Nat) (x1 : Int32) : Nat → Int32 → MH → Option (Int32 × MH) := lp (f_X11_bind_78b a0 x1)
def f_X11_bind   (a0 : Nat) (x1 : Int32) (x2 : Int32) (h : MH) : Option (Int32 × MH) :=
  lt (sI h a0 0 0) fun h_1 =>
  (f_X11_isBinding a0 x1 h_1).bind fun q_2 =>
  if q_2.1 = 0 then
    some (0, q_2.2)
  else
    (f_X11_isNode a0 x2 q_2.2).bind fun q_3 =>
    if q_3.1 = 0 then
      some (0, q_3.2)
    else
      (f_X11_isIn a0 (Int32.toInt64 (gI q_3.2 a0 6)) 1 6 q_3.2).bind fun q_4 =>
      if q_4.1 = 0 then
        some (0, q_4.2)
      else
        (f_X11_isPlain a0 q_4.2).bind fun q_5 =>
        if q_5.1 = 0 then
          some (0, q_5.2)
        else
          (f_X11_keepsAct a0 q_5.2).bind fun q_6 =>
          (gR q_6 a0 1).bind fun a_7 =>
          (stI q_6 a_7 (122 + x1) (x2 + 1)).bind fun h_8 =>
          (gR h_8 a0 1).bind fun a_9 =>
          (stI h_8 a_9 (128 + x1) (gI h_8 a0 6)).bind fun h_10 =>
          f_X11_bind_78 a0 x1 FU 0 h_10
set_option maxRecDepth 100000 in
set_option maxHeartbeats 4000000 in
theorem v_X11_bind_78b {l : Launch} {G : GE} {B N : Nat} {S : List SHP} {o : Int32 × MH} {a0 : Nat} {x1 : Int32}    (hs0 : S[a0]? = some (.inl 11)) {k78 : Int32 → MH → Option (Int32 × MH)} (hk78 : ∀ (p : Int32) (h : MH), k78 p h = some o → V l G B N mX11_bind (rmm 5 0 0) false 0 0 (QI S o) S 0 0 78 [(0, .ref a0), (1, .int x1), (3, .int p)] [] h) {p : Int32} {h : MH} (hf : f_X11_bind_78b a0 x1 k78 p h = some o) : V l G B N mX11_bind (rmm 5 0 0) false 0 0 (QI S o) S 0 0 78 [(0, .ref a0), (1, .int x1), (3, .int p)] [] h := by
  unfold f_X11_bind_78b at hf
  refine V_iload_n (pc' := 79) dX11_bind_78 rfl 2 rfl rfl ?_
  refine V_aload_n (pc' := 80) dX11_bind_79 rfl 0 rfl rfl ?_
  refine V_getI (pc' := 83) 11 6 dX11_bind_80 rfl (by decide) (Nat.le_of_ble_eq_true rfl) bm_1230 hs0 (fun _ _ _ => rfl) ?_
  refine V_icmp_ge (tgt := 113) (pc' := 86) dX11_bind_83 (by decide) rfl hf (fun hf => ?_) (fun hf => ?_)
  ·
    refine V_aload_n (pc' := 87) dX11_bind_86 rfl 0 rfl rfl ?_
    refine V_getR (pc' := 90) 11 1 dX11_bind_87 rfl (by decide) (Nat.le_of_ble_eq_true rfl) bm_1225 hs0 (fun _ _ _ => rfl) rfl hf (fun a_1 ha_1 hf => ?_)
    refine V_sipush (v := 134) (pc' := 93) dX11_bind_90 rfl (by decide) ?_
    refine V_bipush (v := 6) (pc' := 95) dX11_bind_93 rfl (by decide) ?_
    refine V_iload_n (pc' := 96) dX11_bind_95 rfl 1 rfl rfl ?_
    refine V_imul (pc' := 97) dX11_bind_96 rfl ?_
    refine V_iadd (pc' := 98) dX11_bind_97 rfl ?_
    refine V_iload_n (pc' := 99) dX11_bind_98 rfl 2 rfl rfl ?_
    refine V_iadd (pc' := 100) dX11_bind_99 rfl ?_
    refine V_aload_n (pc' := 101) dX11_bind_100 rfl 0 rfl rfl ?_
    refine V_getR (pc' := 104) 11 5 dX11_bind_101 rfl (by decide) (Nat.le_of_ble_eq_true rfl) bm_1229 hs0 (fun _ _ _ => rfl) rfl hf (fun a_2 ha_2 hf => ?_)
    refine V_iload_n (pc' := 105) dX11_bind_104 rfl 2 rfl rfl ?_
    refine V_iald (pc' := 106) dX11_bind_105 rfl ha_2 hf (fun x_3 hf => ?_)
    refine V_iast (pc' := 107) dX11_bind_106 rfl ha_1 hf (fun h_4 hf => ?_)
    refine V_iinc (v := (p + 1)) (lv' := [(3, .int (p + 1)), (0, .ref a0), (1, .int x1)]) (pc' := 110) dX11_bind_107 rfl 2 rfl rfl (Nat.le_of_ble_eq_true rfl) rfl ?_
    refine V_goto (tgt := 78) dX11_bind_110 (by decide) ?_
    exact V_sub (lv' := [(0, .ref a0), (1, .int x1), (3, .int (p + 1))]) [1, 2, 0] rfl (hk78 (p + 1) h_4 hf)
  ·
    refine V_iconst (v := 1) (pc' := 114) dX11_bind_113 rfl (by decide) ?_
    obtain rfl := Option.some.inj hf
    exact V_zretL dX11_bind_114 rfl rfl rfl (by decide) ⟨rfl, rfl, rfl⟩
theorem v_X11_bind_78 {l : Launch} {G : GE} {B N : Nat} {S : List SHP} {o : Int32 × MH} {a0 : Nat} {x1 : Int32}    (hs0 : S[a0]? = some (.inl 11)) {n : Nat} {p : Int32} {h : MH} (hf : f_X11_bind_78 a0 x1 n p h = some o) : V l G B N mX11_bind (rmm 5 0 0) false 0 0 (QI S o) S 0 0 78 [(0, .ref a0), (1, .int x1), (3, .int p)] [] h :=
  V_lp (VV := fun p h => V l G B N mX11_bind (rmm 5 0 0) false 0 0 (QI S o) S 0 0 78 [(0, .ref a0), (1, .int x1), (3, .int p)] [] h) (fun _ hk _ _ hf => v_X11_bind_78b hs0 hk hf) n p h hf
set_option maxRecDepth 100000 in
set_option maxHeartbeats 4000000 in
theorem v_X11_bind {l : Launch} {G : GE} {B N : Nat} {S : List SHP} {o : Int32 × MH} {a0 : Nat} {x1 : Int32} {x2 : Int32}    (hs0 : S[a0]? = some (.inl 11)) {h : MH} (hf : f_X11_bind a0 x1 x2 h = some o) : V l G B N mX11_bind (rmm 5 0 0) false 0 0 (QI S o) S 0 0 0 [(0, .ref a0), (1, .int x1), (2, .int x2)] [] h := by
  unfold f_X11_bind at hf
  refine V_aload_n (pc' := 1) dX11_bind_0 rfl 0 rfl rfl ?_
  refine V_iconst (v := 0) (pc' := 2) dX11_bind_1 rfl (by decide) ?_
  refine V_putI (pc' := 5) 11 0 dX11_bind_2 rfl (by decide) (Nat.le_of_ble_eq_true rfl) bm_1224 hs0 (Or.inl rfl) rfl ?_
  refine V_nmH hf (fun h_1 hf => ?_)
  refine V_aload_n (pc' := 6) dX11_bind_5 rfl 0 rfl rfl ?_
  refine V_iload_n (pc' := 7) dX11_bind_6 rfl 1 rfl rfl ?_
  refine V_cvI (pc' := 10) (As := [.int x1]) (rest := []) dX11_bind_7 rfl mok_X11_isBinding bm_1430 11 (by decide) rfl hs0 rfl rfl (Nat.le_of_ble_eq_true rfl) (by decide) hf (fun q e => ct_X11_isBinding hs0 e) (fun q_2 hf => ?_)
  refine V_if_eq (tgt := 44) (pc' := 13) dX11_bind_10 (by decide) rfl hf (fun hf => ?_) (fun hf => ?_)
  ·
    refine V_iconst (v := 0) (pc' := 45) dX11_bind_44 rfl (by decide) ?_
    obtain rfl := Option.some.inj hf
    exact V_zretL dX11_bind_45 rfl rfl rfl (by decide) ⟨rfl, rfl, rfl⟩
  ·
    refine V_aload_n (pc' := 14) dX11_bind_13 rfl 0 rfl rfl ?_
    refine V_iload_n (pc' := 15) dX11_bind_14 rfl 2 rfl rfl ?_
    refine V_cvI (pc' := 18) (As := [.int x2]) (rest := []) dX11_bind_15 rfl mok_X11_isNode bm_1389 11 (by decide) rfl hs0 rfl rfl (Nat.le_of_ble_eq_true rfl) (by decide) hf (fun q e => ct_X11_isNode hs0 e) (fun q_3 hf => ?_)
    refine V_if_eq (tgt := 44) (pc' := 21) dX11_bind_18 (by decide) rfl hf (fun hf => ?_) (fun hf => ?_)
    ·
      refine V_iconst (v := 0) (pc' := 45) dX11_bind_44 rfl (by decide) ?_
      obtain rfl := Option.some.inj hf
      exact V_zretL dX11_bind_45 rfl rfl rfl (by decide) ⟨rfl, rfl, rfl⟩
    ·
      refine V_aload_n (pc' := 22) dX11_bind_21 rfl 0 rfl rfl ?_
      refine V_aload_n (pc' := 23) dX11_bind_22 rfl 0 rfl rfl ?_
      refine V_getI (pc' := 26) 11 6 dX11_bind_23 rfl (by decide) (Nat.le_of_ble_eq_true rfl) bm_1230 hs0 (fun _ _ _ => rfl) ?_
      refine V_i2l (pc' := 27) dX11_bind_26 rfl ?_
      refine V_lconst (v := 1) (pc' := 28) dX11_bind_27 rfl (by decide) ?_
      refine V_ldc2 (v := 6) (pc' := 31) dX11_bind_28 rfl bm_1435 ?_
      refine V_cvI (pc' := 34) (As := [.long (Int32.toInt64 (gI q_3.2 a0 6)), .long 1, .long 6]) (rest := []) dX11_bind_31 rfl mok_X11_isIn bm_1373 11 (by decide) rfl hs0 rfl rfl (Nat.le_of_ble_eq_true rfl) (by decide) hf (fun q e => ct_X11_isIn hs0 e) (fun q_4 hf => ?_)
      refine V_if_eq (tgt := 44) (pc' := 37) dX11_bind_34 (by decide) rfl hf (fun hf => ?_) (fun hf => ?_)
      ·
        refine V_iconst (v := 0) (pc' := 45) dX11_bind_44 rfl (by decide) ?_
        obtain rfl := Option.some.inj hf
        exact V_zretL dX11_bind_45 rfl rfl rfl (by decide) ⟨rfl, rfl, rfl⟩
      ·
        refine V_aload_n (pc' := 38) dX11_bind_37 rfl 0 rfl rfl ?_
        refine V_cvI (pc' := 41) (As := []) (rest := []) dX11_bind_38 rfl mok_X11_isPlain bm_1436 11 (by decide) rfl hs0 rfl rfl (Nat.le_of_ble_eq_true rfl) (by decide) hf (fun q e => ct_X11_isPlain hs0 e) (fun q_5 hf => ?_)
        refine V_if_ne (tgt := 46) (pc' := 44) dX11_bind_41 (by decide) rfl hf (fun hf => ?_) (fun hf => ?_)
        ·
          refine V_iconst (v := 0) (pc' := 45) dX11_bind_44 rfl (by decide) ?_
          obtain rfl := Option.some.inj hf
          exact V_zretL dX11_bind_45 rfl rfl rfl (by decide) ⟨rfl, rfl, rfl⟩
        ·
          refine V_aload_n (pc' := 47) dX11_bind_46 rfl 0 rfl rfl ?_
          refine V_cvV (pc' := 50) (As := []) (rest := []) dX11_bind_47 rfl mok_X11_keepsAct bm_1377 11 (by decide) rfl hs0 rfl rfl (Nat.le_of_ble_eq_true rfl) (by decide) hf (fun q e => ct_X11_keepsAct hs0 e) (fun q_6 hf => ?_)
          refine V_aload_n (pc' := 51) dX11_bind_50 rfl 0 rfl rfl ?_
          refine V_getR (pc' := 54) 11 1 dX11_bind_51 rfl (by decide) (Nat.le_of_ble_eq_true rfl) bm_1225 hs0 (fun _ _ _ => rfl) rfl hf (fun a_7 ha_7 hf => ?_)
          refine V_bipush (v := 122) (pc' := 56) dX11_bind_54 rfl (by decide) ?_
          refine V_iload_n (pc' := 57) dX11_bind_56 rfl 1 rfl rfl ?_
          refine V_iadd (pc' := 58) dX11_bind_57 rfl ?_
          refine V_iload_n (pc' := 59) dX11_bind_58 rfl 2 rfl rfl ?_
          refine V_iconst (v := 1) (pc' := 60) dX11_bind_59 rfl (by decide) ?_
          refine V_iadd (pc' := 61) dX11_bind_60 rfl ?_
          refine V_iast (pc' := 62) dX11_bind_61 rfl ha_7 hf (fun h_8 hf => ?_)
          refine V_aload_n (pc' := 63) dX11_bind_62 rfl 0 rfl rfl ?_
          refine V_getR (pc' := 66) 11 1 dX11_bind_63 rfl (by decide) (Nat.le_of_ble_eq_true rfl) bm_1225 hs0 (fun _ _ _ => rfl) rfl hf (fun a_9 ha_9 hf => ?_)
          refine V_sipush (v := 128) (pc' := 69) dX11_bind_66 rfl (by decide) ?_
          refine V_iload_n (pc' := 70) dX11_bind_69 rfl 1 rfl rfl ?_
          refine V_iadd (pc' := 71) dX11_bind_70 rfl ?_
          refine V_aload_n (pc' := 72) dX11_bind_71 rfl 0 rfl rfl ?_
          refine V_getI (pc' := 75) 11 6 dX11_bind_72 rfl (by decide) (Nat.le_of_ble_eq_true rfl) bm_1230 hs0 (fun _ _ _ => rfl) ?_
          refine V_iast (pc' := 76) dX11_bind_75 rfl ha_9 hf (fun h_10 hf => ?_)
          refine V_iconst (v := 0) (pc' := 77) dX11_bind_76 rfl (by decide) ?_
          refine V_istore_n (lv' := [(3, .int 0), (0, .ref a0), (1, .int x1), (2, .int x2)]) (pc' := 78) dX11_bind_77 rfl rfl (Nat.le_of_ble_eq_true rfl) rfl ?_
          exact V_sub (lv' := [(0, .ref a0), (1, .int x1), (3, .int 0)]) [1, 2, 0] rfl (v_X11_bind_78 hs0 hf)
theorem ct_X11_bind {l : Launch} {S : List SHP} {h : MH} {a0 : Nat} {x1 : Int32} {x2 : Int32} (hs0 : S[a0]? = some (.inl 11)) {q : Int32 × MH} (hf : f_X11_bind a0 x1 x2 h = some q) : CT l mX11_bind 5 false 0 0 S [.ref a0, .int x1, .int x2] h (QI S q) :=
  CT_ofV (by decide) rfl (Nat.le_of_ble_eq_true rfl) (fun G B hT => v_X11_bind hs0 hf)
/-! LabelStacksModel.unbind(I)Z -/
theorem dX11_unbind_0 : decode cX11_unbind 0 = .ok (.aload_n 0, 1) := by decide +kernel
theorem dX11_unbind_1 : decode cX11_unbind 1 = .ok (.iconst 0, 1) := by decide +kernel
theorem dX11_unbind_2 : decode cX11_unbind 2 = .ok (.putfield 84, 3) := by decide +kernel
theorem dX11_unbind_5 : decode cX11_unbind 5 = .ok (.aload_n 0, 1) := by decide +kernel
theorem dX11_unbind_6 : decode cX11_unbind 6 = .ok (.iload_n 1, 1) := by decide +kernel
theorem dX11_unbind_7 : decode cX11_unbind 7 = .ok (.invokevirtual 141, 3) := by decide +kernel
theorem dX11_unbind_10 : decode cX11_unbind 10 = .ok (.ifCond .eq 15, 3) := by decide +kernel
theorem dX11_unbind_13 : decode cX11_unbind 13 = .ok (.aload_n 0, 1) := by decide +kernel
theorem dX11_unbind_14 : decode cX11_unbind 14 = .ok (.getfield 7, 3) := by decide +kernel
theorem dX11_unbind_17 : decode cX11_unbind 17 = .ok (.bipush 122, 2) := by decide +kernel
theorem dX11_unbind_19 : decode cX11_unbind 19 = .ok (.iload_n 1, 1) := by decide +kernel
theorem dX11_unbind_20 : decode cX11_unbind 20 = .ok (.iadd, 1) := by decide +kernel
theorem dX11_unbind_21 : decode cX11_unbind 21 = .ok (.iaload, 1) := by decide +kernel
theorem dX11_unbind_22 : decode cX11_unbind 22 = .ok (.ifCond .ne 5, 3) := by decide +kernel
theorem dX11_unbind_25 : decode cX11_unbind 25 = .ok (.iconst 0, 1) := by decide +kernel
theorem dX11_unbind_26 : decode cX11_unbind 26 = .ok (.ireturn, 1) := by decide +kernel
theorem dX11_unbind_27 : decode cX11_unbind 27 = .ok (.aload_n 0, 1) := by decide +kernel
theorem dX11_unbind_28 : decode cX11_unbind 28 = .ok (.invokevirtual 109, 3) := by decide +kernel
theorem dX11_unbind_31 : decode cX11_unbind 31 = .ok (.aload_n 0, 1) := by decide +kernel
theorem dX11_unbind_32 : decode cX11_unbind 32 = .ok (.getfield 7, 3) := by decide +kernel
theorem dX11_unbind_35 : decode cX11_unbind 35 = .ok (.bipush 122, 2) := by decide +kernel
theorem dX11_unbind_37 : decode cX11_unbind 37 = .ok (.iload_n 1, 1) := by decide +kernel
theorem dX11_unbind_38 : decode cX11_unbind 38 = .ok (.iadd, 1) := by decide +kernel
theorem dX11_unbind_39 : decode cX11_unbind 39 = .ok (.iconst 0, 1) := by decide +kernel
theorem dX11_unbind_40 : decode cX11_unbind 40 = .ok (.iastore, 1) := by decide +kernel
theorem dX11_unbind_41 : decode cX11_unbind 41 = .ok (.iconst 1, 1) := by decide +kernel
theorem dX11_unbind_42 : decode cX11_unbind 42 = .ok (.ireturn, 1) := by decide +kernel
abbrev mX11_unbind : MI := (RX11, yX11_unbind, cX11_unbind, 2, (some .boolean))
theorem mok_X11_unbind : MOKv mX11_unbind 1 := ⟨⟨bm_1443, bm_127, ⟨by decide, by decide⟩, by decide +kernel⟩, bm_1441, bm_1442⟩
def f_X11_unbind   (a0 : Nat) (x1 : Int32) (h : MH) : Option (Int32 × MH) :=
  lt (sI h a0 0 0) fun h_1 =>
  (f_X11_isBinding a0 x1 h_1).bind fun q_2 =>
  if q_2.1 = 0 then
    some (0, q_2.2)
  else
    (gR q_2.2 a0 1).bind fun a_3 =>
    (ldI q_2.2 a_3 (122 + x1)).bind fun x_4 =>
    if x_4 = 0 then
      some (0, q_2.2)
    else
      (f_X11_keepsAct a0 q_2.2).bind fun q_5 =>
      (gR q_5 a0 1).bind fun a_6 =>
      (stI q_5 a_6 (122 + x1) 0).bind fun h_7 =>
      some (1, h_7)
set_option maxRecDepth 100000 in
set_option maxHeartbeats 4000000 in
theorem v_X11_unbind {l : Launch} {G : GE} {B N : Nat} {S : List SHP} {o : Int32 × MH} {a0 : Nat} {x1 : Int32}    (hs0 : S[a0]? = some (.inl 11)) {h : MH} (hf : f_X11_unbind a0 x1 h = some o) : V l G B N mX11_unbind (rmm 5 0 0) false 0 0 (QI S o) S 0 0 0 [(0, .ref a0), (1, .int x1)] [] h := by
  unfold f_X11_unbind at hf
  refine V_aload_n (pc' := 1) dX11_unbind_0 rfl 0 rfl rfl ?_
  refine V_iconst (v := 0) (pc' := 2) dX11_unbind_1 rfl (by decide) ?_
  refine V_putI (pc' := 5) 11 0 dX11_unbind_2 rfl (by decide) (Nat.le_of_ble_eq_true rfl) bm_1224 hs0 (Or.inl rfl) rfl ?_
  refine V_nmH hf (fun h_1 hf => ?_)
  refine V_aload_n (pc' := 6) dX11_unbind_5 rfl 0 rfl rfl ?_
  refine V_iload_n (pc' := 7) dX11_unbind_6 rfl 1 rfl rfl ?_
  refine V_cvI (pc' := 10) (As := [.int x1]) (rest := []) dX11_unbind_7 rfl mok_X11_isBinding bm_1430 11 (by decide) rfl hs0 rfl rfl (Nat.le_of_ble_eq_true rfl) (by decide) hf (fun q e => ct_X11_isBinding hs0 e) (fun q_2 hf => ?_)
  refine V_if_eq (tgt := 25) (pc' := 13) dX11_unbind_10 (by decide) rfl hf (fun hf => ?_) (fun hf => ?_)
  ·
    refine V_iconst (v := 0) (pc' := 26) dX11_unbind_25 rfl (by decide) ?_
    obtain rfl := Option.some.inj hf
    exact V_zretL dX11_unbind_26 rfl rfl rfl (by decide) ⟨rfl, rfl, rfl⟩
  ·
    refine V_aload_n (pc' := 14) dX11_unbind_13 rfl 0 rfl rfl ?_
    refine V_getR (pc' := 17) 11 1 dX11_unbind_14 rfl (by decide) (Nat.le_of_ble_eq_true rfl) bm_1225 hs0 (fun _ _ _ => rfl) rfl hf (fun a_3 ha_3 hf => ?_)
    refine V_bipush (v := 122) (pc' := 19) dX11_unbind_17 rfl (by decide) ?_
    refine V_iload_n (pc' := 20) dX11_unbind_19 rfl 1 rfl rfl ?_
    refine V_iadd (pc' := 21) dX11_unbind_20 rfl ?_
    refine V_iald (pc' := 22) dX11_unbind_21 rfl ha_3 hf (fun x_4 hf => ?_)
    refine V_if_ne (tgt := 27) (pc' := 25) dX11_unbind_22 (by decide) rfl hf (fun hf => ?_) (fun hf => ?_)
    ·
      refine V_iconst (v := 0) (pc' := 26) dX11_unbind_25 rfl (by decide) ?_
      obtain rfl := Option.some.inj hf
      exact V_zretL dX11_unbind_26 rfl rfl rfl (by decide) ⟨rfl, rfl, rfl⟩
    ·
      refine V_aload_n (pc' := 28) dX11_unbind_27 rfl 0 rfl rfl ?_
      refine V_cvV (pc' := 31) (As := []) (rest := []) dX11_unbind_28 rfl mok_X11_keepsAct bm_1377 11 (by decide) rfl hs0 rfl rfl (Nat.le_of_ble_eq_true rfl) (by decide) hf (fun q e => ct_X11_keepsAct hs0 e) (fun q_5 hf => ?_)
      refine V_aload_n (pc' := 32) dX11_unbind_31 rfl 0 rfl rfl ?_
      refine V_getR (pc' := 35) 11 1 dX11_unbind_32 rfl (by decide) (Nat.le_of_ble_eq_true rfl) bm_1225 hs0 (fun _ _ _ => rfl) rfl hf (fun a_6 ha_6 hf => ?_)
      refine V_bipush (v := 122) (pc' := 37) dX11_unbind_35 rfl (by decide) ?_
      refine V_iload_n (pc' := 38) dX11_unbind_37 rfl 1 rfl rfl ?_
      refine V_iadd (pc' := 39) dX11_unbind_38 rfl ?_
      refine V_iconst (v := 0) (pc' := 40) dX11_unbind_39 rfl (by decide) ?_
      refine V_iast (pc' := 41) dX11_unbind_40 rfl ha_6 hf (fun h_7 hf => ?_)
      refine V_iconst (v := 1) (pc' := 42) dX11_unbind_41 rfl (by decide) ?_
      obtain rfl := Option.some.inj hf
      exact V_zretL dX11_unbind_42 rfl rfl rfl (by decide) ⟨rfl, rfl, rfl⟩
theorem ct_X11_unbind {l : Launch} {S : List SHP} {h : MH} {a0 : Nat} {x1 : Int32} (hs0 : S[a0]? = some (.inl 11)) {q : Int32 × MH} (hf : f_X11_unbind a0 x1 h = some q) : CT l mX11_unbind 5 false 0 0 S [.ref a0, .int x1] h (QI S q) :=
  CT_ofV (by decide) rfl (Nat.le_of_ble_eq_true rfl) (fun G B hT => v_X11_unbind hs0 hf)
/-! LabelStacksModel.depth(I)Z -/
theorem dX11_depth_0 : decode cX11_depth 0 = .ok (.aload_n 0, 1) := by decide +kernel
theorem dX11_depth_1 : decode cX11_depth 1 = .ok (.iconst 0, 1) := by decide +kernel
theorem dX11_depth_2 : decode cX11_depth 2 = .ok (.putfield 84, 3) := by decide +kernel
theorem dX11_depth_5 : decode cX11_depth 5 = .ok (.aload_n 0, 1) := by decide +kernel
theorem dX11_depth_6 : decode cX11_depth 6 = .ok (.iload_n 1, 1) := by decide +kernel
theorem dX11_depth_7 : decode cX11_depth 7 = .ok (.i2l, 1) := by decide +kernel
theorem dX11_depth_8 : decode cX11_depth 8 = .ok (.lconst 1, 1) := by decide +kernel
theorem dX11_depth_9 : decode cX11_depth 9 = .ok (.ldc2_w 150, 3) := by decide +kernel
theorem dX11_depth_12 : decode cX11_depth 12 = .ok (.invokevirtual 91, 3) := by decide +kernel
theorem dX11_depth_15 : decode cX11_depth 15 = .ok (.ifCond .ne 5, 3) := by decide +kernel
theorem dX11_depth_18 : decode cX11_depth 18 = .ok (.iconst 0, 1) := by decide +kernel
theorem dX11_depth_19 : decode cX11_depth 19 = .ok (.ireturn, 1) := by decide +kernel
theorem dX11_depth_20 : decode cX11_depth 20 = .ok (.aload_n 0, 1) := by decide +kernel
theorem dX11_depth_21 : decode cX11_depth 21 = .ok (.iload_n 1, 1) := by decide +kernel
theorem dX11_depth_22 : decode cX11_depth 22 = .ok (.putfield 16, 3) := by decide +kernel
theorem dX11_depth_25 : decode cX11_depth 25 = .ok (.iconst 1, 1) := by decide +kernel
theorem dX11_depth_26 : decode cX11_depth 26 = .ok (.ireturn, 1) := by decide +kernel
abbrev mX11_depth : MI := (RX11, yX11_depth, cX11_depth, 2, (some .boolean))
theorem mok_X11_depth : MOKv mX11_depth 1 := ⟨⟨bm_1447, bm_127, ⟨by decide, by decide⟩, by decide +kernel⟩, bm_1445, bm_1446⟩
def f_X11_depth   (a0 : Nat) (x1 : Int32) (h : MH) : Option (Int32 × MH) :=
  lt (sI h a0 0 0) fun h_1 =>
  (f_X11_isIn a0 (Int32.toInt64 x1) 1 12 h_1).bind fun q_2 =>
  if q_2.1 = 0 then
    some (0, q_2.2)
  else
    lt (sI q_2.2 a0 4 x1) fun h_3 =>
    some (1, h_3)
set_option maxRecDepth 100000 in
set_option maxHeartbeats 4000000 in
theorem v_X11_depth {l : Launch} {G : GE} {B N : Nat} {S : List SHP} {o : Int32 × MH} {a0 : Nat} {x1 : Int32}    (hs0 : S[a0]? = some (.inl 11)) {h : MH} (hf : f_X11_depth a0 x1 h = some o) : V l G B N mX11_depth (rmm 4 0 0) false 0 0 (QI S o) S 0 0 0 [(0, .ref a0), (1, .int x1)] [] h := by
  unfold f_X11_depth at hf
  refine V_aload_n (pc' := 1) dX11_depth_0 rfl 0 rfl rfl ?_
  refine V_iconst (v := 0) (pc' := 2) dX11_depth_1 rfl (by decide) ?_
  refine V_putI (pc' := 5) 11 0 dX11_depth_2 rfl (by decide) (Nat.le_of_ble_eq_true rfl) bm_1224 hs0 (Or.inl rfl) rfl ?_
  refine V_nmH hf (fun h_1 hf => ?_)
  refine V_aload_n (pc' := 6) dX11_depth_5 rfl 0 rfl rfl ?_
  refine V_iload_n (pc' := 7) dX11_depth_6 rfl 1 rfl rfl ?_
  refine V_i2l (pc' := 8) dX11_depth_7 rfl ?_
  refine V_lconst (v := 1) (pc' := 9) dX11_depth_8 rfl (by decide) ?_
  refine V_ldc2 (v := 12) (pc' := 12) dX11_depth_9 rfl bm_1448 ?_
  refine V_cvI (pc' := 15) (As := [.long (Int32.toInt64 x1), .long 1, .long 12]) (rest := []) dX11_depth_12 rfl mok_X11_isIn bm_1373 11 (by decide) rfl hs0 rfl rfl (Nat.le_of_ble_eq_true rfl) (by decide) hf (fun q e => ct_X11_isIn hs0 e) (fun q_2 hf => ?_)
  refine V_if_ne (tgt := 20) (pc' := 18) dX11_depth_15 (by decide) rfl hf (fun hf => ?_) (fun hf => ?_)
  ·
    refine V_iconst (v := 0) (pc' := 19) dX11_depth_18 rfl (by decide) ?_
    obtain rfl := Option.some.inj hf
    exact V_zretL dX11_depth_19 rfl rfl rfl (by decide) ⟨rfl, rfl, rfl⟩
  ·
    refine V_aload_n (pc' := 21) dX11_depth_20 rfl 0 rfl rfl ?_
    refine V_iload_n (pc' := 22) dX11_depth_21 rfl 1 rfl rfl ?_
    refine V_putI (pc' := 25) 11 4 dX11_depth_22 rfl (by decide) (Nat.le_of_ble_eq_true rfl) bm_1228 hs0 (Or.inl rfl) rfl ?_
    refine V_nmH hf (fun h_3 hf => ?_)
    refine V_iconst (v := 1) (pc' := 26) dX11_depth_25 rfl (by decide) ?_
    obtain rfl := Option.some.inj hf
    exact V_zretL dX11_depth_26 rfl rfl rfl (by decide) ⟨rfl, rfl, rfl⟩
theorem ct_X11_depth {l : Launch} {S : List SHP} {h : MH} {a0 : Nat} {x1 : Int32} (hs0 : S[a0]? = some (.inl 11)) {q : Int32 × MH} (hf : f_X11_depth a0 x1 h = some q) : CT l mX11_depth 4 false 0 0 S [.ref a0, .int x1] h (QI S q) :=
  CT_ofV (by decide) rfl (Nat.le_of_ble_eq_true rfl) (fun G B hT => v_X11_depth hs0 hf)
/-! LabelStacksModel.wayLong()I -/
theorem dX11_wayLong_0 : decode cX11_wayLong 0 = .ok (.aload_n 0, 1) := by decide +kernel
theorem dX11_wayLong_1 : decode cX11_wayLong 1 = .ok (.getfield 7, 3) := by decide +kernel
theorem dX11_wayLong_4 : decode cX11_wayLong 4 = .ok (.sipush 495, 3) := by decide +kernel
theorem dX11_wayLong_7 : decode cX11_wayLong 7 = .ok (.iaload, 1) := by decide +kernel
theorem dX11_wayLong_8 : decode cX11_wayLong 8 = .ok (.ireturn, 1) := by decide +kernel
abbrev mX11_wayLong : MI := (RX11, yX11_wayLong, cX11_wayLong, 1, (some .int))
theorem mok_X11_wayLong : MOKv mX11_wayLong 0 := ⟨⟨bm_1456, bm_127, ⟨by decide, by decide⟩, by decide +kernel⟩, bm_1455, bm_55⟩
def f_X11_wayLong   (a0 : Nat) (h : MH) : Option (Int32 × MH) :=
  (gR h a0 1).bind fun a_1 =>
  (ldI h a_1 495).bind fun x_2 =>
  some (x_2, h)
set_option maxRecDepth 100000 in
set_option maxHeartbeats 4000000 in
theorem v_X11_wayLong {l : Launch} {G : GE} {B N : Nat} {S : List SHP} {o : Int32 × MH} {a0 : Nat}    (hs0 : S[a0]? = some (.inl 11)) {h : MH} (hf : f_X11_wayLong a0 h = some o) : V l G B N mX11_wayLong (rmm 3 0 0) false 0 0 (QI S o) S 0 0 0 [(0, .ref a0)] [] h := by
  unfold f_X11_wayLong at hf
  refine V_aload_n (pc' := 1) dX11_wayLong_0 rfl 0 rfl rfl ?_
  refine V_getR (pc' := 4) 11 1 dX11_wayLong_1 rfl (by decide) (Nat.le_of_ble_eq_true rfl) bm_1225 hs0 (fun _ _ _ => rfl) rfl hf (fun a_1 ha_1 hf => ?_)
  refine V_sipush (v := 495) (pc' := 7) dX11_wayLong_4 rfl (by decide) ?_
  refine V_iald (pc' := 8) dX11_wayLong_7 rfl ha_1 hf (fun x_2 hf => ?_)
  obtain rfl := Option.some.inj hf
  exact V_iret dX11_wayLong_8 rfl rfl rfl ⟨rfl, rfl, rfl⟩
theorem ct_X11_wayLong {l : Launch} {S : List SHP} {h : MH} {a0 : Nat} (hs0 : S[a0]? = some (.inl 11)) {q : Int32 × MH} (hf : f_X11_wayLong a0 h = some q) : CT l mX11_wayLong 3 false 0 0 S [.ref a0] h (QI S q) :=
  CT_ofV (by decide) rfl (Nat.le_of_ble_eq_true rfl) (fun G B hT => v_X11_wayLong hs0 hf)
/-! LabelStacksModel.wayLink(I)I -/
theorem dX11_wayLink_0 : decode cX11_wayLink 0 = .ok (.aload_n 0, 1) := by decide +kernel
theorem dX11_wayLink_1 : decode cX11_wayLink 1 = .ok (.getfield 7, 3) := by decide +kernel
theorem dX11_wayLink_4 : decode cX11_wayLink 4 = .ok (.sipush 496, 3) := by decide +kernel
theorem dX11_wayLink_7 : decode cX11_wayLink 7 = .ok (.iload_n 1, 1) := by decide +kernel
theorem dX11_wayLink_8 : decode cX11_wayLink 8 = .ok (.iadd, 1) := by decide +kernel
theorem dX11_wayLink_9 : decode cX11_wayLink 9 = .ok (.iaload, 1) := by decide +kernel
theorem dX11_wayLink_10 : decode cX11_wayLink 10 = .ok (.ireturn, 1) := by decide +kernel
abbrev mX11_wayLink : MI := (RX11, yX11_wayLink, cX11_wayLink, 2, (some .int))
theorem mok_X11_wayLink : MOKv mX11_wayLink 1 := ⟨⟨bm_1460, bm_127, ⟨by decide, by decide⟩, by decide +kernel⟩, bm_1459, bm_56⟩
def f_X11_wayLink   (a0 : Nat) (x1 : Int32) (h : MH) : Option (Int32 × MH) :=
  (gR h a0 1).bind fun a_1 =>
  (ldI h a_1 (496 + x1)).bind fun x_2 =>
  some (x_2, h)
set_option maxRecDepth 100000 in
set_option maxHeartbeats 4000000 in
theorem v_X11_wayLink {l : Launch} {G : GE} {B N : Nat} {S : List SHP} {o : Int32 × MH} {a0 : Nat} {x1 : Int32}    (hs0 : S[a0]? = some (.inl 11)) {h : MH} (hf : f_X11_wayLink a0 x1 h = some o) : V l G B N mX11_wayLink (rmm 3 0 0) false 0 0 (QI S o) S 0 0 0 [(0, .ref a0), (1, .int x1)] [] h := by
  unfold f_X11_wayLink at hf
  refine V_aload_n (pc' := 1) dX11_wayLink_0 rfl 0 rfl rfl ?_
  refine V_getR (pc' := 4) 11 1 dX11_wayLink_1 rfl (by decide) (Nat.le_of_ble_eq_true rfl) bm_1225 hs0 (fun _ _ _ => rfl) rfl hf (fun a_1 ha_1 hf => ?_)
  refine V_sipush (v := 496) (pc' := 7) dX11_wayLink_4 rfl (by decide) ?_
  refine V_iload_n (pc' := 8) dX11_wayLink_7 rfl 1 rfl rfl ?_
  refine V_iadd (pc' := 9) dX11_wayLink_8 rfl ?_
  refine V_iald (pc' := 10) dX11_wayLink_9 rfl ha_1 hf (fun x_2 hf => ?_)
  obtain rfl := Option.some.inj hf
  exact V_iret dX11_wayLink_10 rfl rfl rfl ⟨rfl, rfl, rfl⟩
theorem ct_X11_wayLink {l : Launch} {S : List SHP} {h : MH} {a0 : Nat} {x1 : Int32} (hs0 : S[a0]? = some (.inl 11)) {q : Int32 × MH} (hf : f_X11_wayLink a0 x1 h = some q) : CT l mX11_wayLink 3 false 0 0 S [.ref a0, .int x1] h (QI S q) :=
  CT_ofV (by decide) rfl (Nat.le_of_ble_eq_true rfl) (fun G B hT => v_X11_wayLink hs0 hf)
/-! LabelStacksModel.on(I)I -/
theorem dX11_on_0 : decode cX11_on 0 = .ok (.aload_n 0, 1) := by decide +kernel
theorem dX11_on_1 : decode cX11_on 1 = .ok (.iconst 0, 1) := by decide +kernel
theorem dX11_on_2 : decode cX11_on 2 = .ok (.putfield 84, 3) := by decide +kernel
theorem dX11_on_5 : decode cX11_on 5 = .ok (.aload_n 0, 1) := by decide +kernel
theorem dX11_on_6 : decode cX11_on 6 = .ok (.invokevirtual 152, 3) := by decide +kernel
theorem dX11_on_9 : decode cX11_on 9 = .ok (.istore_n 2, 1) := by decide +kernel
theorem dX11_on_10 : decode cX11_on 10 = .ok (.aload_n 0, 1) := by decide +kernel
theorem dX11_on_11 : decode cX11_on 11 = .ok (.iload_n 1, 1) := by decide +kernel
theorem dX11_on_12 : decode cX11_on 12 = .ok (.invokevirtual 126, 3) := by decide +kernel
theorem dX11_on_15 : decode cX11_on 15 = .ok (.ifCond .eq 32, 3) := by decide +kernel
theorem dX11_on_18 : decode cX11_on 18 = .ok (.iload_n 2, 1) := by decide +kernel
theorem dX11_on_19 : decode cX11_on 19 = .ok (.bipush 16, 2) := by decide +kernel
theorem dX11_on_21 : decode cX11_on 21 = .ok (.if_icmp .eq 26, 3) := by decide +kernel
theorem dX11_on_24 : decode cX11_on 24 = .ok (.iload_n 2, 1) := by decide +kernel
theorem dX11_on_25 : decode cX11_on 25 = .ok (.ifCond .le 24, 3) := by decide +kernel
theorem dX11_on_28 : decode cX11_on 28 = .ok (.aload_n 0, 1) := by decide +kernel
theorem dX11_on_29 : decode cX11_on 29 = .ok (.aload_n 0, 1) := by decide +kernel
theorem dX11_on_30 : decode cX11_on 30 = .ok (.iload_n 2, 1) := by decide +kernel
theorem dX11_on_31 : decode cX11_on 31 = .ok (.iconst 1, 1) := by decide +kernel
theorem dX11_on_32 : decode cX11_on 32 = .ok (.isub, 1) := by decide +kernel
theorem dX11_on_33 : decode cX11_on 33 = .ok (.invokevirtual 155, 3) := by decide +kernel
theorem dX11_on_36 : decode cX11_on 36 = .ok (.invokevirtual 158, 3) := by decide +kernel
theorem dX11_on_39 : decode cX11_on 39 = .ok (.aload_n 0, 1) := by decide +kernel
theorem dX11_on_40 : decode cX11_on 40 = .ok (.iload_n 1, 1) := by decide +kernel
theorem dX11_on_41 : decode cX11_on 41 = .ok (.invokevirtual 161, 3) := by decide +kernel
theorem dX11_on_44 : decode cX11_on 44 = .ok (.if_icmp .eq 5, 3) := by decide +kernel
theorem dX11_on_47 : decode cX11_on 47 = .ok (.iconst (-1), 1) := by decide +kernel
theorem dX11_on_48 : decode cX11_on 48 = .ok (.ireturn, 1) := by decide +kernel
theorem dX11_on_49 : decode cX11_on 49 = .ok (.aload_n 0, 1) := by decide +kernel
theorem dX11_on_50 : decode cX11_on 50 = .ok (.getfield 7, 3) := by decide +kernel
theorem dX11_on_53 : decode cX11_on 53 = .ok (.sipush 496, 3) := by decide +kernel
theorem dX11_on_56 : decode cX11_on 56 = .ok (.iload_n 2, 1) := by decide +kernel
theorem dX11_on_57 : decode cX11_on 57 = .ok (.iadd, 1) := by decide +kernel
theorem dX11_on_58 : decode cX11_on 58 = .ok (.iload_n 1, 1) := by decide +kernel
theorem dX11_on_59 : decode cX11_on 59 = .ok (.iastore, 1) := by decide +kernel
theorem dX11_on_60 : decode cX11_on 60 = .ok (.aload_n 0, 1) := by decide +kernel
theorem dX11_on_61 : decode cX11_on 61 = .ok (.getfield 7, 3) := by decide +kernel
theorem dX11_on_64 : decode cX11_on 64 = .ok (.sipush 495, 3) := by decide +kernel
theorem dX11_on_67 : decode cX11_on 67 = .ok (.iload_n 2, 1) := by decide +kernel
theorem dX11_on_68 : decode cX11_on 68 = .ok (.iconst 1, 1) := by decide +kernel
theorem dX11_on_69 : decode cX11_on 69 = .ok (.iadd, 1) := by decide +kernel
theorem dX11_on_70 : decode cX11_on 70 = .ok (.iastore, 1) := by decide +kernel
theorem dX11_on_71 : decode cX11_on 71 = .ok (.iload_n 2, 1) := by decide +kernel
theorem dX11_on_72 : decode cX11_on 72 = .ok (.iconst 1, 1) := by decide +kernel
theorem dX11_on_73 : decode cX11_on 73 = .ok (.iadd, 1) := by decide +kernel
theorem dX11_on_74 : decode cX11_on 74 = .ok (.ireturn, 1) := by decide +kernel
abbrev mX11_on : MI := (RX11, yX11_on, cX11_on, 3, (some .int))
theorem mok_X11_on : MOKv mX11_on 1 := ⟨⟨bm_1452, bm_127, ⟨by decide, by decide⟩, by decide +kernel⟩, bm_1450, bm_1451⟩
def f_X11_on_49   (a0 : Nat) (x1 : Int32) (x2 : Int32) (h : MH) : Option (Int32 × MH) :=
  (gR h a0 1).bind fun a_1 =>
  (stI h a_1 (496 + x2) x1).bind fun h_2 =>
  (gR h_2 a0 1).bind fun a_3 =>
  (stI h_2 a_3 495 (x2 + 1)).bind fun h_4 =>
  some ((x2 + 1), h_4)
def f_X11_on   (a0 : Nat) (x1 : Int32) (h : MH) : Option (Int32 × MH) :=
  lt (sI h a0 0 0) fun h_1 =>
  (f_X11_wayLong a0 h_1).bind fun q_2 =>
  (f_X11_isLink a0 x1 q_2.2).bind fun q_3 =>
  if q_3.1 = 0 then
    some ((-1 : Int32), q_3.2)
  else
    if q_2.1 = 16 then
      some ((-1 : Int32), q_3.2)
    else
      if 0 < q_2.1 then
        (f_X11_wayLink a0 (q_2.1 - 1) q_3.2).bind fun q_4 =>
        (f_X11_to a0 q_4.1 q_4.2).bind fun q_5 =>
        (f_X11_from a0 x1 q_5.2).bind fun q_6 =>
        if q_5.1 = q_6.1 then
          f_X11_on_49 a0 x1 q_2.1 q_6.2
        else
          some ((-1 : Int32), q_6.2)
      else
        f_X11_on_49 a0 x1 q_2.1 q_3.2
set_option maxRecDepth 100000 in
set_option maxHeartbeats 4000000 in
theorem v_X11_on_49 {l : Launch} {G : GE} {B N : Nat} {S : List SHP} {o : Int32 × MH} {a0 : Nat} {x1 : Int32} {x2 : Int32}    (hs0 : S[a0]? = some (.inl 11)) {h : MH} (hf : f_X11_on_49 a0 x1 x2 h = some o) : V l G B N mX11_on (rmm 5 0 0) false 0 0 (QI S o) S 0 0 49 [(0, .ref a0), (1, .int x1), (2, .int x2)] [] h := by
  unfold f_X11_on_49 at hf
  refine V_aload_n (pc' := 50) dX11_on_49 rfl 0 rfl rfl ?_
  refine V_getR (pc' := 53) 11 1 dX11_on_50 rfl (by decide) (Nat.le_of_ble_eq_true rfl) bm_1225 hs0 (fun _ _ _ => rfl) rfl hf (fun a_1 ha_1 hf => ?_)
  refine V_sipush (v := 496) (pc' := 56) dX11_on_53 rfl (by decide) ?_
  refine V_iload_n (pc' := 57) dX11_on_56 rfl 2 rfl rfl ?_
  refine V_iadd (pc' := 58) dX11_on_57 rfl ?_
  refine V_iload_n (pc' := 59) dX11_on_58 rfl 1 rfl rfl ?_
  refine V_iast (pc' := 60) dX11_on_59 rfl ha_1 hf (fun h_2 hf => ?_)
  refine V_aload_n (pc' := 61) dX11_on_60 rfl 0 rfl rfl ?_
  refine V_getR (pc' := 64) 11 1 dX11_on_61 rfl (by decide) (Nat.le_of_ble_eq_true rfl) bm_1225 hs0 (fun _ _ _ => rfl) rfl hf (fun a_3 ha_3 hf => ?_)
  refine V_sipush (v := 495) (pc' := 67) dX11_on_64 rfl (by decide) ?_
  refine V_iload_n (pc' := 68) dX11_on_67 rfl 2 rfl rfl ?_
  refine V_iconst (v := 1) (pc' := 69) dX11_on_68 rfl (by decide) ?_
  refine V_iadd (pc' := 70) dX11_on_69 rfl ?_
  refine V_iast (pc' := 71) dX11_on_70 rfl ha_3 hf (fun h_4 hf => ?_)
  refine V_iload_n (pc' := 72) dX11_on_71 rfl 2 rfl rfl ?_
  refine V_iconst (v := 1) (pc' := 73) dX11_on_72 rfl (by decide) ?_
  refine V_iadd (pc' := 74) dX11_on_73 rfl ?_
  obtain rfl := Option.some.inj hf
  exact V_iret dX11_on_74 rfl rfl rfl ⟨rfl, rfl, rfl⟩
set_option maxRecDepth 100000 in
set_option maxHeartbeats 4000000 in
theorem v_X11_on {l : Launch} {G : GE} {B N : Nat} {S : List SHP} {o : Int32 × MH} {a0 : Nat} {x1 : Int32}    (hs0 : S[a0]? = some (.inl 11)) {h : MH} (hf : f_X11_on a0 x1 h = some o) : V l G B N mX11_on (rmm 5 0 0) false 0 0 (QI S o) S 0 0 0 [(0, .ref a0), (1, .int x1)] [] h := by
  unfold f_X11_on at hf
  refine V_aload_n (pc' := 1) dX11_on_0 rfl 0 rfl rfl ?_
  refine V_iconst (v := 0) (pc' := 2) dX11_on_1 rfl (by decide) ?_
  refine V_putI (pc' := 5) 11 0 dX11_on_2 rfl (by decide) (Nat.le_of_ble_eq_true rfl) bm_1224 hs0 (Or.inl rfl) rfl ?_
  refine V_nmH hf (fun h_1 hf => ?_)
  refine V_aload_n (pc' := 6) dX11_on_5 rfl 0 rfl rfl ?_
  refine V_cvI (pc' := 9) (As := []) (rest := []) dX11_on_6 rfl mok_X11_wayLong bm_1453 11 (by decide) rfl hs0 rfl rfl (Nat.le_of_ble_eq_true rfl) (by decide) hf (fun q e => ct_X11_wayLong hs0 e) (fun q_2 hf => ?_)
  refine V_istore_n (lv' := [(2, .int q_2.1), (0, .ref a0), (1, .int x1)]) (pc' := 10) dX11_on_9 rfl rfl (Nat.le_of_ble_eq_true rfl) rfl ?_
  refine V_aload_n (pc' := 11) dX11_on_10 rfl 1 rfl rfl ?_
  refine V_iload_n (pc' := 12) dX11_on_11 rfl 2 rfl rfl ?_
  refine V_cvI (pc' := 15) (As := [.int x1]) (rest := []) dX11_on_12 rfl mok_X11_isLink bm_1410 11 (by decide) rfl hs0 rfl rfl (Nat.le_of_ble_eq_true rfl) (by decide) hf (fun q e => ct_X11_isLink hs0 e) (fun q_3 hf => ?_)
  refine V_if_eq (tgt := 47) (pc' := 18) dX11_on_15 (by decide) rfl hf (fun hf => ?_) (fun hf => ?_)
  ·
    refine V_iconst (v := (-1)) (pc' := 48) dX11_on_47 rfl (by decide) ?_
    obtain rfl := Option.some.inj hf
    exact V_iret dX11_on_48 rfl rfl rfl ⟨rfl, rfl, rfl⟩
  ·
    refine V_iload_n (pc' := 19) dX11_on_18 rfl 0 rfl rfl ?_
    refine V_bipush (v := 16) (pc' := 21) dX11_on_19 rfl (by decide) ?_
    refine V_icmp_eq (tgt := 47) (pc' := 24) dX11_on_21 (by decide) rfl hf (fun hf => ?_) (fun hf => ?_)
    ·
      refine V_iconst (v := (-1)) (pc' := 48) dX11_on_47 rfl (by decide) ?_
      obtain rfl := Option.some.inj hf
      exact V_iret dX11_on_48 rfl rfl rfl ⟨rfl, rfl, rfl⟩
    ·
      refine V_iload_n (pc' := 25) dX11_on_24 rfl 0 rfl rfl ?_
      refine V_if_le (tgt := 49) (pc' := 28) dX11_on_25 (by decide) rfl hf (fun hf => ?_) (fun hf => ?_)
      ·
        refine V_aload_n (pc' := 29) dX11_on_28 rfl 1 rfl rfl ?_
        refine V_aload_n (pc' := 30) dX11_on_29 rfl 1 rfl rfl ?_
        refine V_iload_n (pc' := 31) dX11_on_30 rfl 0 rfl rfl ?_
        refine V_iconst (v := 1) (pc' := 32) dX11_on_31 rfl (by decide) ?_
        refine V_isub (pc' := 33) dX11_on_32 rfl ?_
        refine V_cvI (pc' := 36) (As := [.int (q_2.1 - 1)]) (rest := [.ref a0]) dX11_on_33 rfl mok_X11_wayLink bm_1457 11 (by decide) rfl hs0 rfl rfl (Nat.le_of_ble_eq_true rfl) (by decide) hf (fun q e => ct_X11_wayLink hs0 e) (fun q_4 hf => ?_)
        refine V_cvI (pc' := 39) (As := [.int q_4.1]) (rest := []) dX11_on_36 rfl mok_X11_to bm_1461 11 (by decide) rfl hs0 rfl rfl (Nat.le_of_ble_eq_true rfl) (by decide) hf (fun q e => ct_X11_to hs0 e) (fun q_5 hf => ?_)
        refine V_aload_n (pc' := 40) dX11_on_39 rfl 1 rfl rfl ?_
        refine V_iload_n (pc' := 41) dX11_on_40 rfl 2 rfl rfl ?_
        refine V_cvI (pc' := 44) (As := [.int x1]) (rest := [.int q_5.1]) dX11_on_41 rfl mok_X11_from bm_1465 11 (by decide) rfl hs0 rfl rfl (Nat.le_of_ble_eq_true rfl) (by decide) hf (fun q e => ct_X11_from hs0 e) (fun q_6 hf => ?_)
        refine V_icmp_eq (tgt := 49) (pc' := 47) dX11_on_44 (by decide) rfl hf (fun hf => ?_) (fun hf => ?_)
        ·
          exact V_sub (lv' := [(0, .ref a0), (1, .int x1), (2, .int q_2.1)]) [1, 2, 0] rfl (v_X11_on_49 hs0 hf)
        ·
          refine V_iconst (v := (-1)) (pc' := 48) dX11_on_47 rfl (by decide) ?_
          obtain rfl := Option.some.inj hf
          exact V_iret dX11_on_48 rfl rfl rfl ⟨rfl, rfl, rfl⟩
      ·
        exact V_sub (lv' := [(0, .ref a0), (1, .int x1), (2, .int q_2.1)]) [1, 2, 0] rfl (v_X11_on_49 hs0 hf)
theorem ct_X11_on {l : Launch} {S : List SHP} {h : MH} {a0 : Nat} {x1 : Int32} (hs0 : S[a0]? = some (.inl 11)) {q : Int32 × MH} (hf : f_X11_on a0 x1 h = some q) : CT l mX11_on 5 false 0 0 S [.ref a0, .int x1] h (QI S q) :=
  CT_ofV (by decide) rfl (Nat.le_of_ble_eq_true rfl) (fun G B hT => v_X11_on hs0 hf)
/-! LabelStacksModel.off(I)I -/
theorem dX11_off_0 : decode cX11_off 0 = .ok (.aload_n 0, 1) := by decide +kernel
theorem dX11_off_1 : decode cX11_off 1 = .ok (.iconst 0, 1) := by decide +kernel
theorem dX11_off_2 : decode cX11_off 2 = .ok (.putfield 84, 3) := by decide +kernel
theorem dX11_off_5 : decode cX11_off 5 = .ok (.aload_n 0, 1) := by decide +kernel
theorem dX11_off_6 : decode cX11_off 6 = .ok (.iload_n 1, 1) := by decide +kernel
theorem dX11_off_7 : decode cX11_off 7 = .ok (.i2l, 1) := by decide +kernel
theorem dX11_off_8 : decode cX11_off 8 = .ok (.lconst 0, 1) := by decide +kernel
theorem dX11_off_9 : decode cX11_off 9 = .ok (.aload_n 0, 1) := by decide +kernel
theorem dX11_off_10 : decode cX11_off 10 = .ok (.invokevirtual 152, 3) := by decide +kernel
theorem dX11_off_13 : decode cX11_off 13 = .ok (.i2l, 1) := by decide +kernel
theorem dX11_off_14 : decode cX11_off 14 = .ok (.invokevirtual 91, 3) := by decide +kernel
theorem dX11_off_17 : decode cX11_off 17 = .ok (.ifCond .ne 5, 3) := by decide +kernel
theorem dX11_off_20 : decode cX11_off 20 = .ok (.iconst (-1), 1) := by decide +kernel
theorem dX11_off_21 : decode cX11_off 21 = .ok (.ireturn, 1) := by decide +kernel
theorem dX11_off_22 : decode cX11_off 22 = .ok (.aload_n 0, 1) := by decide +kernel
theorem dX11_off_23 : decode cX11_off 23 = .ok (.getfield 7, 3) := by decide +kernel
theorem dX11_off_26 : decode cX11_off 26 = .ok (.sipush 495, 3) := by decide +kernel
theorem dX11_off_29 : decode cX11_off 29 = .ok (.aload_n 0, 1) := by decide +kernel
theorem dX11_off_30 : decode cX11_off 30 = .ok (.invokevirtual 152, 3) := by decide +kernel
theorem dX11_off_33 : decode cX11_off 33 = .ok (.iload_n 1, 1) := by decide +kernel
theorem dX11_off_34 : decode cX11_off 34 = .ok (.isub, 1) := by decide +kernel
theorem dX11_off_35 : decode cX11_off 35 = .ok (.iastore, 1) := by decide +kernel
theorem dX11_off_36 : decode cX11_off 36 = .ok (.aload_n 0, 1) := by decide +kernel
theorem dX11_off_37 : decode cX11_off 37 = .ok (.invokevirtual 152, 3) := by decide +kernel
theorem dX11_off_40 : decode cX11_off 40 = .ok (.ireturn, 1) := by decide +kernel
abbrev mX11_off : MI := (RX11, yX11_off, cX11_off, 2, (some .int))
theorem mok_X11_off : MOKv mX11_off 1 := ⟨⟨bm_1472, bm_127, ⟨by decide, by decide⟩, by decide +kernel⟩, bm_1470, bm_1471⟩
def f_X11_off   (a0 : Nat) (x1 : Int32) (h : MH) : Option (Int32 × MH) :=
  lt (sI h a0 0 0) fun h_1 =>
  (f_X11_wayLong a0 h_1).bind fun q_2 =>
  (f_X11_isIn a0 (Int32.toInt64 x1) 0 (Int32.toInt64 q_2.1) q_2.2).bind fun q_3 =>
  if q_3.1 = 0 then
    some ((-1 : Int32), q_3.2)
  else
    (gR q_3.2 a0 1).bind fun a_4 =>
    (f_X11_wayLong a0 q_3.2).bind fun q_5 =>
    (stI q_5.2 a_4 495 (q_5.1 - x1)).bind fun h_6 =>
    (f_X11_wayLong a0 h_6).bind fun q_7 =>
    some (q_7.1, q_7.2)
set_option maxRecDepth 100000 in
set_option maxHeartbeats 4000000 in
theorem v_X11_off {l : Launch} {G : GE} {B N : Nat} {S : List SHP} {o : Int32 × MH} {a0 : Nat} {x1 : Int32}    (hs0 : S[a0]? = some (.inl 11)) {h : MH} (hf : f_X11_off a0 x1 h = some o) : V l G B N mX11_off (rmm 4 0 0) false 0 0 (QI S o) S 0 0 0 [(0, .ref a0), (1, .int x1)] [] h := by
  unfold f_X11_off at hf
  refine V_aload_n (pc' := 1) dX11_off_0 rfl 0 rfl rfl ?_
  refine V_iconst (v := 0) (pc' := 2) dX11_off_1 rfl (by decide) ?_
  refine V_putI (pc' := 5) 11 0 dX11_off_2 rfl (by decide) (Nat.le_of_ble_eq_true rfl) bm_1224 hs0 (Or.inl rfl) rfl ?_
  refine V_nmH hf (fun h_1 hf => ?_)
  refine V_aload_n (pc' := 6) dX11_off_5 rfl 0 rfl rfl ?_
  refine V_iload_n (pc' := 7) dX11_off_6 rfl 1 rfl rfl ?_
  refine V_i2l (pc' := 8) dX11_off_7 rfl ?_
  refine V_lconst (v := 0) (pc' := 9) dX11_off_8 rfl (by decide) ?_
  refine V_aload_n (pc' := 10) dX11_off_9 rfl 0 rfl rfl ?_
  refine V_cvI (pc' := 13) (As := []) (rest := [.long 0, .long (Int32.toInt64 x1), .ref a0]) dX11_off_10 rfl mok_X11_wayLong bm_1453 11 (by decide) rfl hs0 rfl rfl (Nat.le_of_ble_eq_true rfl) (by decide) hf (fun q e => ct_X11_wayLong hs0 e) (fun q_2 hf => ?_)
  refine V_i2l (pc' := 14) dX11_off_13 rfl ?_
  refine V_cvI (pc' := 17) (As := [.long (Int32.toInt64 x1), .long 0, .long (Int32.toInt64 q_2.1)]) (rest := []) dX11_off_14 rfl mok_X11_isIn bm_1373 11 (by decide) rfl hs0 rfl rfl (Nat.le_of_ble_eq_true rfl) (by decide) hf (fun q e => ct_X11_isIn hs0 e) (fun q_3 hf => ?_)
  refine V_if_ne (tgt := 22) (pc' := 20) dX11_off_17 (by decide) rfl hf (fun hf => ?_) (fun hf => ?_)
  ·
    refine V_iconst (v := (-1)) (pc' := 21) dX11_off_20 rfl (by decide) ?_
    obtain rfl := Option.some.inj hf
    exact V_iret dX11_off_21 rfl rfl rfl ⟨rfl, rfl, rfl⟩
  ·
    refine V_aload_n (pc' := 23) dX11_off_22 rfl 0 rfl rfl ?_
    refine V_getR (pc' := 26) 11 1 dX11_off_23 rfl (by decide) (Nat.le_of_ble_eq_true rfl) bm_1225 hs0 (fun _ _ _ => rfl) rfl hf (fun a_4 ha_4 hf => ?_)
    refine V_sipush (v := 495) (pc' := 29) dX11_off_26 rfl (by decide) ?_
    refine V_aload_n (pc' := 30) dX11_off_29 rfl 0 rfl rfl ?_
    refine V_cvI (pc' := 33) (As := []) (rest := [.int 495, .ref a_4]) dX11_off_30 rfl mok_X11_wayLong bm_1453 11 (by decide) rfl hs0 rfl rfl (Nat.le_of_ble_eq_true rfl) (by decide) hf (fun q e => ct_X11_wayLong hs0 e) (fun q_5 hf => ?_)
    refine V_iload_n (pc' := 34) dX11_off_33 rfl 1 rfl rfl ?_
    refine V_isub (pc' := 35) dX11_off_34 rfl ?_
    refine V_iast (pc' := 36) dX11_off_35 rfl ha_4 hf (fun h_6 hf => ?_)
    refine V_aload_n (pc' := 37) dX11_off_36 rfl 0 rfl rfl ?_
    refine V_cvI (pc' := 40) (As := []) (rest := []) dX11_off_37 rfl mok_X11_wayLong bm_1453 11 (by decide) rfl hs0 rfl rfl (Nat.le_of_ble_eq_true rfl) (by decide) hf (fun q e => ct_X11_wayLong hs0 e) (fun q_7 hf => ?_)
    obtain rfl := Option.some.inj hf
    exact V_iret dX11_off_40 rfl rfl rfl ⟨rfl, rfl, rfl⟩
theorem ct_X11_off {l : Launch} {S : List SHP} {h : MH} {a0 : Nat} {x1 : Int32} (hs0 : S[a0]? = some (.inl 11)) {q : Int32 × MH} (hf : f_X11_off a0 x1 h = some q) : CT l mX11_off 4 false 0 0 S [.ref a0, .int x1] h (QI S q) :=
  CT_ofV (by decide) rfl (Nat.le_of_ble_eq_true rfl) (fun G B hT => v_X11_off hs0 hf)
/-! LabelStacksModel.isLabel(I)Z -/
theorem dX11_isLabel_0 : decode cX11_isLabel 0 = .ok (.aload_n 0, 1) := by decide +kernel
theorem dX11_isLabel_1 : decode cX11_isLabel 1 = .ok (.iload_n 1, 1) := by decide +kernel
theorem dX11_isLabel_2 : decode cX11_isLabel 2 = .ok (.i2l, 1) := by decide +kernel
theorem dX11_isLabel_3 : decode cX11_isLabel 3 = .ok (.lconst 0, 1) := by decide +kernel
theorem dX11_isLabel_4 : decode cX11_isLabel 4 = .ok (.ldc2_w 164, 3) := by decide +kernel
theorem dX11_isLabel_7 : decode cX11_isLabel 7 = .ok (.invokevirtual 91, 3) := by decide +kernel
theorem dX11_isLabel_10 : decode cX11_isLabel 10 = .ok (.ifCond .ne 33, 3) := by decide +kernel
theorem dX11_isLabel_13 : decode cX11_isLabel 13 = .ok (.aload_n 0, 1) := by decide +kernel
theorem dX11_isLabel_14 : decode cX11_isLabel 14 = .ok (.iload_n 1, 1) := by decide +kernel
theorem dX11_isLabel_15 : decode cX11_isLabel 15 = .ok (.i2l, 1) := by decide +kernel
theorem dX11_isLabel_16 : decode cX11_isLabel 16 = .ok (.ldc2_w 166, 3) := by decide +kernel
theorem dX11_isLabel_19 : decode cX11_isLabel 19 = .ok (.ldc2_w 168, 3) := by decide +kernel
theorem dX11_isLabel_22 : decode cX11_isLabel 22 = .ok (.invokevirtual 91, 3) := by decide +kernel
theorem dX11_isLabel_25 : decode cX11_isLabel 25 = .ok (.ifCond .ne 18, 3) := by decide +kernel
theorem dX11_isLabel_28 : decode cX11_isLabel 28 = .ok (.aload_n 0, 1) := by decide +kernel
theorem dX11_isLabel_29 : decode cX11_isLabel 29 = .ok (.iload_n 1, 1) := by decide +kernel
theorem dX11_isLabel_30 : decode cX11_isLabel 30 = .ok (.i2l, 1) := by decide +kernel
theorem dX11_isLabel_31 : decode cX11_isLabel 31 = .ok (.ldc2_w 170, 3) := by decide +kernel
theorem dX11_isLabel_34 : decode cX11_isLabel 34 = .ok (.ldc2_w 172, 3) := by decide +kernel
theorem dX11_isLabel_37 : decode cX11_isLabel 37 = .ok (.invokevirtual 91, 3) := by decide +kernel
theorem dX11_isLabel_40 : decode cX11_isLabel 40 = .ok (.ifCond .eq 7, 3) := by decide +kernel
theorem dX11_isLabel_43 : decode cX11_isLabel 43 = .ok (.iconst 1, 1) := by decide +kernel
theorem dX11_isLabel_44 : decode cX11_isLabel 44 = .ok (.goto 4, 3) := by decide +kernel
theorem dX11_isLabel_47 : decode cX11_isLabel 47 = .ok (.iconst 0, 1) := by decide +kernel
theorem dX11_isLabel_48 : decode cX11_isLabel 48 = .ok (.ireturn, 1) := by decide +kernel
abbrev mX11_isLabel : MI := (RX11, yX11_isLabel, cX11_isLabel, 2, (some .boolean))
theorem mok_X11_isLabel : MOKv mX11_isLabel 1 := ⟨⟨bm_1480, bm_127, ⟨by decide, by decide⟩, by decide +kernel⟩, bm_1479, bm_59⟩
def f_X11_isLabel_43    (h : MH) : Option (Int32 × MH) :=
  some (1, h)
def f_X11_isLabel   (a0 : Nat) (x1 : Int32) (h : MH) : Option (Int32 × MH) :=
  (f_X11_isIn a0 (Int32.toInt64 x1) 0 9 h).bind fun q_1 =>
  if q_1.1 = 0 then
    (f_X11_isIn a0 (Int32.toInt64 x1) 100 129 q_1.2).bind fun q_2 =>
    if q_2.1 = 0 then
      (f_X11_isIn a0 (Int32.toInt64 x1) 200 205 q_2.2).bind fun q_3 =>
      if q_3.1 = 0 then
        some (0, q_3.2)
      else
        f_X11_isLabel_43  q_3.2
    else
      f_X11_isLabel_43  q_2.2
  else
    f_X11_isLabel_43  q_1.2
set_option maxRecDepth 100000 in
set_option maxHeartbeats 4000000 in
theorem v_X11_isLabel_43 {l : Launch} {G : GE} {B N : Nat} {S : List SHP} {o : Int32 × MH}      {h : MH} (hf : f_X11_isLabel_43  h = some o) : V l G B N mX11_isLabel (rmm 4 0 0) false 0 0 (QI S o) S 0 0 43 [] [] h := by
  unfold f_X11_isLabel_43 at hf
  refine V_iconst (v := 1) (pc' := 44) dX11_isLabel_43 rfl (by decide) ?_
  refine V_goto (tgt := 48) dX11_isLabel_44 (by decide) ?_
  obtain rfl := Option.some.inj hf
  exact V_zretL dX11_isLabel_48 rfl rfl rfl (by decide) ⟨rfl, rfl, rfl⟩
set_option maxRecDepth 100000 in
set_option maxHeartbeats 4000000 in
theorem v_X11_isLabel {l : Launch} {G : GE} {B N : Nat} {S : List SHP} {o : Int32 × MH} {a0 : Nat} {x1 : Int32}    (hs0 : S[a0]? = some (.inl 11)) {h : MH} (hf : f_X11_isLabel a0 x1 h = some o) : V l G B N mX11_isLabel (rmm 4 0 0) false 0 0 (QI S o) S 0 0 0 [(0, .ref a0), (1, .int x1)] [] h := by
  unfold f_X11_isLabel at hf
  refine V_aload_n (pc' := 1) dX11_isLabel_0 rfl 0 rfl rfl ?_
  refine V_iload_n (pc' := 2) dX11_isLabel_1 rfl 1 rfl rfl ?_
  refine V_i2l (pc' := 3) dX11_isLabel_2 rfl ?_
  refine V_lconst (v := 0) (pc' := 4) dX11_isLabel_3 rfl (by decide) ?_
  refine V_ldc2 (v := 9) (pc' := 7) dX11_isLabel_4 rfl bm_1481 ?_
  refine V_cvI (pc' := 10) (As := [.long (Int32.toInt64 x1), .long 0, .long 9]) (rest := []) dX11_isLabel_7 rfl mok_X11_isIn bm_1373 11 (by decide) rfl hs0 rfl rfl (Nat.le_of_ble_eq_true rfl) (by decide) hf (fun q e => ct_X11_isIn hs0 e) (fun q_1 hf => ?_)
  refine V_if_ne (tgt := 43) (pc' := 13) dX11_isLabel_10 (by decide) rfl hf (fun hf => ?_) (fun hf => ?_)
  ·
    refine V_aload_n (pc' := 14) dX11_isLabel_13 rfl 0 rfl rfl ?_
    refine V_iload_n (pc' := 15) dX11_isLabel_14 rfl 1 rfl rfl ?_
    refine V_i2l (pc' := 16) dX11_isLabel_15 rfl ?_
    refine V_ldc2 (v := 100) (pc' := 19) dX11_isLabel_16 rfl bm_1482 ?_
    refine V_ldc2 (v := 129) (pc' := 22) dX11_isLabel_19 rfl bm_1483 ?_
    refine V_cvI (pc' := 25) (As := [.long (Int32.toInt64 x1), .long 100, .long 129]) (rest := []) dX11_isLabel_22 rfl mok_X11_isIn bm_1373 11 (by decide) rfl hs0 rfl rfl (Nat.le_of_ble_eq_true rfl) (by decide) hf (fun q e => ct_X11_isIn hs0 e) (fun q_2 hf => ?_)
    refine V_if_ne (tgt := 43) (pc' := 28) dX11_isLabel_25 (by decide) rfl hf (fun hf => ?_) (fun hf => ?_)
    ·
      refine V_aload_n (pc' := 29) dX11_isLabel_28 rfl 0 rfl rfl ?_
      refine V_iload_n (pc' := 30) dX11_isLabel_29 rfl 1 rfl rfl ?_
      refine V_i2l (pc' := 31) dX11_isLabel_30 rfl ?_
      refine V_ldc2 (v := 200) (pc' := 34) dX11_isLabel_31 rfl bm_1484 ?_
      refine V_ldc2 (v := 205) (pc' := 37) dX11_isLabel_34 rfl bm_1485 ?_
      refine V_cvI (pc' := 40) (As := [.long (Int32.toInt64 x1), .long 200, .long 205]) (rest := []) dX11_isLabel_37 rfl mok_X11_isIn bm_1373 11 (by decide) rfl hs0 rfl rfl (Nat.le_of_ble_eq_true rfl) (by decide) hf (fun q e => ct_X11_isIn hs0 e) (fun q_3 hf => ?_)
      refine V_if_eq (tgt := 47) (pc' := 43) dX11_isLabel_40 (by decide) rfl hf (fun hf => ?_) (fun hf => ?_)
      ·
        refine V_iconst (v := 0) (pc' := 48) dX11_isLabel_47 rfl (by decide) ?_
        obtain rfl := Option.some.inj hf
        exact V_zretL dX11_isLabel_48 rfl rfl rfl (by decide) ⟨rfl, rfl, rfl⟩
      ·
        exact V_sub (lv' := []) [] rfl (v_X11_isLabel_43  hf)
    ·
      exact V_sub (lv' := []) [] rfl (v_X11_isLabel_43  hf)
  ·
    exact V_sub (lv' := []) [] rfl (v_X11_isLabel_43  hf)
theorem ct_X11_isLabel {l : Launch} {S : List SHP} {h : MH} {a0 : Nat} {x1 : Int32} (hs0 : S[a0]? = some (.inl 11)) {q : Int32 × MH} (hf : f_X11_isLabel a0 x1 h = some q) : CT l mX11_isLabel 4 false 0 0 S [.ref a0, .int x1] h (QI S q) :=
  CT_ofV (by decide) rfl (Nat.le_of_ble_eq_true rfl) (fun G B hT => v_X11_isLabel hs0 hf)
/-! LabelStacksModel.label(I)I -/
theorem dX11_label_0 : decode cX11_label 0 = .ok (.aload_n 0, 1) := by decide +kernel
theorem dX11_label_1 : decode cX11_label 1 = .ok (.iconst 0, 1) := by decide +kernel
theorem dX11_label_2 : decode cX11_label 2 = .ok (.putfield 84, 3) := by decide +kernel
theorem dX11_label_5 : decode cX11_label 5 = .ok (.aload_n 0, 1) := by decide +kernel
theorem dX11_label_6 : decode cX11_label 6 = .ok (.iload_n 1, 1) := by decide +kernel
theorem dX11_label_7 : decode cX11_label 7 = .ok (.invokevirtual 174, 3) := by decide +kernel
theorem dX11_label_10 : decode cX11_label 10 = .ok (.ifCond .eq 12, 3) := by decide +kernel
theorem dX11_label_13 : decode cX11_label 13 = .ok (.aload_n 0, 1) := by decide +kernel
theorem dX11_label_14 : decode cX11_label 14 = .ok (.getfield 138, 3) := by decide +kernel
theorem dX11_label_17 : decode cX11_label 17 = .ok (.bipush 12, 2) := by decide +kernel
theorem dX11_label_19 : decode cX11_label 19 = .ok (.if_icmp .ne 5, 3) := by decide +kernel
theorem dX11_label_22 : decode cX11_label 22 = .ok (.iconst (-1), 1) := by decide +kernel
theorem dX11_label_23 : decode cX11_label 23 = .ok (.ireturn, 1) := by decide +kernel
theorem dX11_label_24 : decode cX11_label 24 = .ok (.aload_n 0, 1) := by decide +kernel
theorem dX11_label_25 : decode cX11_label 25 = .ok (.getfield 20, 3) := by decide +kernel
theorem dX11_label_28 : decode cX11_label 28 = .ok (.aload_n 0, 1) := by decide +kernel
theorem dX11_label_29 : decode cX11_label 29 = .ok (.getfield 138, 3) := by decide +kernel
theorem dX11_label_32 : decode cX11_label 32 = .ok (.iload_n 1, 1) := by decide +kernel
theorem dX11_label_33 : decode cX11_label 33 = .ok (.iastore, 1) := by decide +kernel
theorem dX11_label_34 : decode cX11_label 34 = .ok (.aload_n 0, 1) := by decide +kernel
theorem dX11_label_35 : decode cX11_label 35 = .ok (.aload_n 0, 1) := by decide +kernel
theorem dX11_label_36 : decode cX11_label 36 = .ok (.getfield 138, 3) := by decide +kernel
theorem dX11_label_39 : decode cX11_label 39 = .ok (.iconst 1, 1) := by decide +kernel
theorem dX11_label_40 : decode cX11_label 40 = .ok (.iadd, 1) := by decide +kernel
theorem dX11_label_41 : decode cX11_label 41 = .ok (.putfield 138, 3) := by decide +kernel
theorem dX11_label_44 : decode cX11_label 44 = .ok (.aload_n 0, 1) := by decide +kernel
theorem dX11_label_45 : decode cX11_label 45 = .ok (.getfield 138, 3) := by decide +kernel
theorem dX11_label_48 : decode cX11_label 48 = .ok (.ireturn, 1) := by decide +kernel
abbrev mX11_label : MI := (RX11, yX11_label, cX11_label, 2, (some .int))
theorem mok_X11_label : MOKv mX11_label 1 := ⟨⟨bm_1476, bm_127, ⟨by decide, by decide⟩, by decide +kernel⟩, bm_1474, bm_1475⟩
def f_X11_label   (a0 : Nat) (x1 : Int32) (h : MH) : Option (Int32 × MH) :=
  lt (sI h a0 0 0) fun h_1 =>
  (f_X11_isLabel a0 x1 h_1).bind fun q_2 =>
  if q_2.1 = 0 then
    some ((-1 : Int32), q_2.2)
  else
    if (gI q_2.2 a0 6) = 12 then
      some ((-1 : Int32), q_2.2)
    else
      (gR q_2.2 a0 5).bind fun a_3 =>
      (stI q_2.2 a_3 (gI q_2.2 a0 6) x1).bind fun h_4 =>
      lt (sI h_4 a0 6 ((gI h_4 a0 6) + 1)) fun h_5 =>
      some ((gI h_5 a0 6), h_5)
set_option maxRecDepth 100000 in
set_option maxHeartbeats 4000000 in
theorem v_X11_label {l : Launch} {G : GE} {B N : Nat} {S : List SHP} {o : Int32 × MH} {a0 : Nat} {x1 : Int32}    (hs0 : S[a0]? = some (.inl 11)) {h : MH} (hf : f_X11_label a0 x1 h = some o) : V l G B N mX11_label (rmm 5 0 0) false 0 0 (QI S o) S 0 0 0 [(0, .ref a0), (1, .int x1)] [] h := by
  unfold f_X11_label at hf
  refine V_aload_n (pc' := 1) dX11_label_0 rfl 0 rfl rfl ?_
  refine V_iconst (v := 0) (pc' := 2) dX11_label_1 rfl (by decide) ?_
  refine V_putI (pc' := 5) 11 0 dX11_label_2 rfl (by decide) (Nat.le_of_ble_eq_true rfl) bm_1224 hs0 (Or.inl rfl) rfl ?_
  refine V_nmH hf (fun h_1 hf => ?_)
  refine V_aload_n (pc' := 6) dX11_label_5 rfl 0 rfl rfl ?_
  refine V_iload_n (pc' := 7) dX11_label_6 rfl 1 rfl rfl ?_
  refine V_cvI (pc' := 10) (As := [.int x1]) (rest := []) dX11_label_7 rfl mok_X11_isLabel bm_1477 11 (by decide) rfl hs0 rfl rfl (Nat.le_of_ble_eq_true rfl) (by decide) hf (fun q e => ct_X11_isLabel hs0 e) (fun q_2 hf => ?_)
  refine V_if_eq (tgt := 22) (pc' := 13) dX11_label_10 (by decide) rfl hf (fun hf => ?_) (fun hf => ?_)
  ·
    refine V_iconst (v := (-1)) (pc' := 23) dX11_label_22 rfl (by decide) ?_
    obtain rfl := Option.some.inj hf
    exact V_iret dX11_label_23 rfl rfl rfl ⟨rfl, rfl, rfl⟩
  ·
    refine V_aload_n (pc' := 14) dX11_label_13 rfl 0 rfl rfl ?_
    refine V_getI (pc' := 17) 11 6 dX11_label_14 rfl (by decide) (Nat.le_of_ble_eq_true rfl) bm_1230 hs0 (fun _ _ _ => rfl) ?_
    refine V_bipush (v := 12) (pc' := 19) dX11_label_17 rfl (by decide) ?_
    refine V_icmp_ne (tgt := 24) (pc' := 22) dX11_label_19 (by decide) rfl hf (fun hf => ?_) (fun hf => ?_)
    ·
      refine V_iconst (v := (-1)) (pc' := 23) dX11_label_22 rfl (by decide) ?_
      obtain rfl := Option.some.inj hf
      exact V_iret dX11_label_23 rfl rfl rfl ⟨rfl, rfl, rfl⟩
    ·
      refine V_aload_n (pc' := 25) dX11_label_24 rfl 0 rfl rfl ?_
      refine V_getR (pc' := 28) 11 5 dX11_label_25 rfl (by decide) (Nat.le_of_ble_eq_true rfl) bm_1229 hs0 (fun _ _ _ => rfl) rfl hf (fun a_3 ha_3 hf => ?_)
      refine V_aload_n (pc' := 29) dX11_label_28 rfl 0 rfl rfl ?_
      refine V_getI (pc' := 32) 11 6 dX11_label_29 rfl (by decide) (Nat.le_of_ble_eq_true rfl) bm_1230 hs0 (fun _ _ _ => rfl) ?_
      refine V_iload_n (pc' := 33) dX11_label_32 rfl 1 rfl rfl ?_
      refine V_iast (pc' := 34) dX11_label_33 rfl ha_3 hf (fun h_4 hf => ?_)
      refine V_aload_n (pc' := 35) dX11_label_34 rfl 0 rfl rfl ?_
      refine V_aload_n (pc' := 36) dX11_label_35 rfl 0 rfl rfl ?_
      refine V_getI (pc' := 39) 11 6 dX11_label_36 rfl (by decide) (Nat.le_of_ble_eq_true rfl) bm_1230 hs0 (fun _ _ _ => rfl) ?_
      refine V_iconst (v := 1) (pc' := 40) dX11_label_39 rfl (by decide) ?_
      refine V_iadd (pc' := 41) dX11_label_40 rfl ?_
      refine V_putI (pc' := 44) 11 6 dX11_label_41 rfl (by decide) (Nat.le_of_ble_eq_true rfl) bm_1230 hs0 (Or.inl rfl) rfl ?_
      refine V_nmH hf (fun h_5 hf => ?_)
      refine V_aload_n (pc' := 45) dX11_label_44 rfl 0 rfl rfl ?_
      refine V_getI (pc' := 48) 11 6 dX11_label_45 rfl (by decide) (Nat.le_of_ble_eq_true rfl) bm_1230 hs0 (fun _ _ _ => rfl) ?_
      obtain rfl := Option.some.inj hf
      exact V_iret dX11_label_48 rfl rfl rfl ⟨rfl, rfl, rfl⟩
theorem ct_X11_label {l : Launch} {S : List SHP} {h : MH} {a0 : Nat} {x1 : Int32} (hs0 : S[a0]? = some (.inl 11)) {q : Int32 × MH} (hf : f_X11_label a0 x1 h = some q) : CT l mX11_label 5 false 0 0 S [.ref a0, .int x1] h (QI S q) :=
  CT_ofV (by decide) rfl (Nat.le_of_ble_eq_true rfl) (fun G B hT => v_X11_label hs0 hf)
/-! LabelStacksModel.pop(I)I -/
theorem dX11_pop_0 : decode cX11_pop 0 = .ok (.aload_n 0, 1) := by decide +kernel
theorem dX11_pop_1 : decode cX11_pop 1 = .ok (.iconst 0, 1) := by decide +kernel
theorem dX11_pop_2 : decode cX11_pop 2 = .ok (.putfield 84, 3) := by decide +kernel
theorem dX11_pop_5 : decode cX11_pop 5 = .ok (.aload_n 0, 1) := by decide +kernel
theorem dX11_pop_6 : decode cX11_pop 6 = .ok (.iload_n 1, 1) := by decide +kernel
theorem dX11_pop_7 : decode cX11_pop 7 = .ok (.i2l, 1) := by decide +kernel
theorem dX11_pop_8 : decode cX11_pop 8 = .ok (.lconst 0, 1) := by decide +kernel
theorem dX11_pop_9 : decode cX11_pop 9 = .ok (.aload_n 0, 1) := by decide +kernel
theorem dX11_pop_10 : decode cX11_pop 10 = .ok (.getfield 138, 3) := by decide +kernel
theorem dX11_pop_13 : decode cX11_pop 13 = .ok (.i2l, 1) := by decide +kernel
theorem dX11_pop_14 : decode cX11_pop 14 = .ok (.invokevirtual 91, 3) := by decide +kernel
theorem dX11_pop_17 : decode cX11_pop 17 = .ok (.ifCond .ne 5, 3) := by decide +kernel
theorem dX11_pop_20 : decode cX11_pop 20 = .ok (.iconst (-1), 1) := by decide +kernel
theorem dX11_pop_21 : decode cX11_pop 21 = .ok (.ireturn, 1) := by decide +kernel
theorem dX11_pop_22 : decode cX11_pop 22 = .ok (.iload_n 1, 1) := by decide +kernel
theorem dX11_pop_23 : decode cX11_pop 23 = .ok (.istore_n 2, 1) := by decide +kernel
theorem dX11_pop_24 : decode cX11_pop 24 = .ok (.iload_n 2, 1) := by decide +kernel
theorem dX11_pop_25 : decode cX11_pop 25 = .ok (.aload_n 0, 1) := by decide +kernel
theorem dX11_pop_26 : decode cX11_pop 26 = .ok (.getfield 138, 3) := by decide +kernel
theorem dX11_pop_29 : decode cX11_pop 29 = .ok (.if_icmp .ge 23, 3) := by decide +kernel
theorem dX11_pop_32 : decode cX11_pop 32 = .ok (.aload_n 0, 1) := by decide +kernel
theorem dX11_pop_33 : decode cX11_pop 33 = .ok (.getfield 20, 3) := by decide +kernel
theorem dX11_pop_36 : decode cX11_pop 36 = .ok (.iload_n 2, 1) := by decide +kernel
theorem dX11_pop_37 : decode cX11_pop 37 = .ok (.iload_n 1, 1) := by decide +kernel
theorem dX11_pop_38 : decode cX11_pop 38 = .ok (.isub, 1) := by decide +kernel
theorem dX11_pop_39 : decode cX11_pop 39 = .ok (.aload_n 0, 1) := by decide +kernel
theorem dX11_pop_40 : decode cX11_pop 40 = .ok (.getfield 20, 3) := by decide +kernel
theorem dX11_pop_43 : decode cX11_pop 43 = .ok (.iload_n 2, 1) := by decide +kernel
theorem dX11_pop_44 : decode cX11_pop 44 = .ok (.iaload, 1) := by decide +kernel
theorem dX11_pop_45 : decode cX11_pop 45 = .ok (.iastore, 1) := by decide +kernel
theorem dX11_pop_46 : decode cX11_pop 46 = .ok (.iinc 2 1, 3) := by decide +kernel
theorem dX11_pop_49 : decode cX11_pop 49 = .ok (.goto (-25), 3) := by decide +kernel
theorem dX11_pop_52 : decode cX11_pop 52 = .ok (.aload_n 0, 1) := by decide +kernel
theorem dX11_pop_53 : decode cX11_pop 53 = .ok (.aload_n 0, 1) := by decide +kernel
theorem dX11_pop_54 : decode cX11_pop 54 = .ok (.getfield 138, 3) := by decide +kernel
theorem dX11_pop_57 : decode cX11_pop 57 = .ok (.iload_n 1, 1) := by decide +kernel
theorem dX11_pop_58 : decode cX11_pop 58 = .ok (.isub, 1) := by decide +kernel
theorem dX11_pop_59 : decode cX11_pop 59 = .ok (.putfield 138, 3) := by decide +kernel
theorem dX11_pop_62 : decode cX11_pop 62 = .ok (.aload_n 0, 1) := by decide +kernel
theorem dX11_pop_63 : decode cX11_pop 63 = .ok (.getfield 138, 3) := by decide +kernel
theorem dX11_pop_66 : decode cX11_pop 66 = .ok (.ireturn, 1) := by decide +kernel
abbrev mX11_pop : MI := (RX11, yX11_pop, cX11_pop, 3, (some .int))
theorem mok_X11_pop : MOKv mX11_pop 1 := ⟨⟨bm_1489, bm_127, ⟨by decide, by decide⟩, by decide +kernel⟩, bm_1487, bm_1488⟩
def f_X11_pop_24b   (a0 : Nat) (x1 : Int32) (k24 : Int32 → MH → Option (Int32 × MH)) (p : Int32) (h : MH) : Option (Int32 × MH) :=
  if p < (gI h a0 6) then
    (gR h a0 5).bind fun a_1 =>
    (gR h a0 5).bind fun a_2 =>
    (ldI h a_2 p).bind fun x_3 =>
    (stI h a_1 (p - x1) x_3).bind fun h_4 =>
    k24 (p + 1) h_4
  else
    lt (sI h a0 6 ((gI h a0 6) - x1)) fun h_5 =>
    some ((gI h_5 a0 6), h_5)
def f_X11_pop_24   (a0 : Nat) (x1 : Int32) : Nat → Int32 → MH → Option (Int32 × MH) := lp (f_X11_pop_24b a0 x1)
def f_X11_pop   (a0 : Nat) (x1 : Int32) (h : MH) : Option (Int32 × MH) :=
  lt (sI h a0 0 0) fun h_1 =>
  (f_X11_isIn a0 (Int32.toInt64 x1) 0 (Int32.toInt64 (gI h_1 a0 6)) h_1).bind fun q_2 =>
  if q_2.1 = 0 then
    some ((-1 : Int32), q_2.2)
  else
    f_X11_pop_24 a0 x1 FU x1 q_2.2
set_option maxRecDepth 100000 in
set_option maxHeartbeats 4000000 in
theorem v_X11_pop_24b {l : Launch} {G : GE} {B N : Nat} {S : List SHP} {o : Int32 × MH} {a0 : Nat} {x1 : Int32}    (hs0 : S[a0]? = some (.inl 11)) {k24 : Int32 → MH → Option (Int32 × MH)} (hk24 : ∀ (p : Int32) (h : MH), k24 p h = some o → V l G B N mX11_pop (rmm 4 0 0) false 0 0 (QI S o) S 0 0 24 [(0, .ref a0), (1, .int x1), (2, .int p)] [] h) {p : Int32} {h : MH} (hf : f_X11_pop_24b a0 x1 k24 p h = some o) : V l G B N mX11_pop (rmm 4 0 0) false 0 0 (QI S o) S 0 0 24 [(0, .ref a0), (1, .int x1), (2, .int p)] [] h := by
  unfold f_X11_pop_24b at hf
  refine V_iload_n (pc' := 25) dX11_pop_24 rfl 2 rfl rfl ?_
  refine V_aload_n (pc' := 26) dX11_pop_25 rfl 0 rfl rfl ?_
  refine V_getI (pc' := 29) 11 6 dX11_pop_26 rfl (by decide) (Nat.le_of_ble_eq_true rfl) bm_1230 hs0 (fun _ _ _ => rfl) ?_
  refine V_icmp_ge (tgt := 52) (pc' := 32) dX11_pop_29 (by decide) rfl hf (fun hf => ?_) (fun hf => ?_)
  ·
    refine V_aload_n (pc' := 33) dX11_pop_32 rfl 0 rfl rfl ?_
    refine V_getR (pc' := 36) 11 5 dX11_pop_33 rfl (by decide) (Nat.le_of_ble_eq_true rfl) bm_1229 hs0 (fun _ _ _ => rfl) rfl hf (fun a_1 ha_1 hf => ?_)
    refine V_iload_n (pc' := 37) dX11_pop_36 rfl 2 rfl rfl ?_
    refine V_iload_n (pc' := 38) dX11_pop_37 rfl 1 rfl rfl ?_
    refine V_isub (pc' := 39) dX11_pop_38 rfl ?_
    refine V_aload_n (pc' := 40) dX11_pop_39 rfl 0 rfl rfl ?_
    refine V_getR (pc' := 43) 11 5 dX11_pop_40 rfl (by decide) (Nat.le_of_ble_eq_true rfl) bm_1229 hs0 (fun _ _ _ => rfl) rfl hf (fun a_2 ha_2 hf => ?_)
    refine V_iload_n (pc' := 44) dX11_pop_43 rfl 2 rfl rfl ?_
    refine V_iald (pc' := 45) dX11_pop_44 rfl ha_2 hf (fun x_3 hf => ?_)
    refine V_iast (pc' := 46) dX11_pop_45 rfl ha_1 hf (fun h_4 hf => ?_)
    refine V_iinc (v := (p + 1)) (lv' := [(2, .int (p + 1)), (0, .ref a0), (1, .int x1)]) (pc' := 49) dX11_pop_46 rfl 2 rfl rfl (Nat.le_of_ble_eq_true rfl) rfl ?_
    refine V_goto (tgt := 24) dX11_pop_49 (by decide) ?_
    exact V_sub (lv' := [(0, .ref a0), (1, .int x1), (2, .int (p + 1))]) [1, 2, 0] rfl (hk24 (p + 1) h_4 hf)
  ·
    refine V_aload_n (pc' := 53) dX11_pop_52 rfl 0 rfl rfl ?_
    refine V_aload_n (pc' := 54) dX11_pop_53 rfl 0 rfl rfl ?_
    refine V_getI (pc' := 57) 11 6 dX11_pop_54 rfl (by decide) (Nat.le_of_ble_eq_true rfl) bm_1230 hs0 (fun _ _ _ => rfl) ?_
    refine V_iload_n (pc' := 58) dX11_pop_57 rfl 1 rfl rfl ?_
    refine V_isub (pc' := 59) dX11_pop_58 rfl ?_
    refine V_putI (pc' := 62) 11 6 dX11_pop_59 rfl (by decide) (Nat.le_of_ble_eq_true rfl) bm_1230 hs0 (Or.inl rfl) rfl ?_
    refine V_nmH hf (fun h_5 hf => ?_)
    refine V_aload_n (pc' := 63) dX11_pop_62 rfl 0 rfl rfl ?_
    refine V_getI (pc' := 66) 11 6 dX11_pop_63 rfl (by decide) (Nat.le_of_ble_eq_true rfl) bm_1230 hs0 (fun _ _ _ => rfl) ?_
    obtain rfl := Option.some.inj hf
    exact V_iret dX11_pop_66 rfl rfl rfl ⟨rfl, rfl, rfl⟩
theorem v_X11_pop_24 {l : Launch} {G : GE} {B N : Nat} {S : List SHP} {o : Int32 × MH} {a0 : Nat} {x1 : Int32}    (hs0 : S[a0]? = some (.inl 11)) {n : Nat} {p : Int32} {h : MH} (hf : f_X11_pop_24 a0 x1 n p h = some o) : V l G B N mX11_pop (rmm 4 0 0) false 0 0 (QI S o) S 0 0 24 [(0, .ref a0), (1, .int x1), (2, .int p)] [] h :=
  V_lp (VV := fun p h => V l G B N mX11_pop (rmm 4 0 0) false 0 0 (QI S o) S 0 0 24 [(0, .ref a0), (1, .int x1), (2, .int p)] [] h) (fun _ hk _ _ hf => v_X11_pop_24b hs0 hk hf) n p h hf
set_option maxRecDepth 100000 in
set_option maxHeartbeats 4000000 in
theorem v_X11_pop {l : Launch} {G : GE} {B N : Nat} {S : List SHP} {o : Int32 × MH} {a0 : Nat} {x1 : Int32}    (hs0 : S[a0]? = some (.inl 11)) {h : MH} (hf : f_X11_pop a0 x1 h = some o) : V l G B N mX11_pop (rmm 4 0 0) false 0 0 (QI S o) S 0 0 0 [(0, .ref a0), (1, .int x1)] [] h := by
  unfold f_X11_pop at hf
  refine V_aload_n (pc' := 1) dX11_pop_0 rfl 0 rfl rfl ?_
  refine V_iconst (v := 0) (pc' := 2) dX11_pop_1 rfl (by decide) ?_
  refine V_putI (pc' := 5) 11 0 dX11_pop_2 rfl (by decide) (Nat.le_of_ble_eq_true rfl) bm_1224 hs0 (Or.inl rfl) rfl ?_
  refine V_nmH hf (fun h_1 hf => ?_)
  refine V_aload_n (pc' := 6) dX11_pop_5 rfl 0 rfl rfl ?_
  refine V_iload_n (pc' := 7) dX11_pop_6 rfl 1 rfl rfl ?_
  refine V_i2l (pc' := 8) dX11_pop_7 rfl ?_
  refine V_lconst (v := 0) (pc' := 9) dX11_pop_8 rfl (by decide) ?_
  refine V_aload_n (pc' := 10) dX11_pop_9 rfl 0 rfl rfl ?_
  refine V_getI (pc' := 13) 11 6 dX11_pop_10 rfl (by decide) (Nat.le_of_ble_eq_true rfl) bm_1230 hs0 (fun _ _ _ => rfl) ?_
  refine V_i2l (pc' := 14) dX11_pop_13 rfl ?_
  refine V_cvI (pc' := 17) (As := [.long (Int32.toInt64 x1), .long 0, .long (Int32.toInt64 (gI h_1 a0 6))]) (rest := []) dX11_pop_14 rfl mok_X11_isIn bm_1373 11 (by decide) rfl hs0 rfl rfl (Nat.le_of_ble_eq_true rfl) (by decide) hf (fun q e => ct_X11_isIn hs0 e) (fun q_2 hf => ?_)
  refine V_if_ne (tgt := 22) (pc' := 20) dX11_pop_17 (by decide) rfl hf (fun hf => ?_) (fun hf => ?_)
  ·
    refine V_iconst (v := (-1)) (pc' := 21) dX11_pop_20 rfl (by decide) ?_
    obtain rfl := Option.some.inj hf
    exact V_iret dX11_pop_21 rfl rfl rfl ⟨rfl, rfl, rfl⟩
  ·
    refine V_iload_n (pc' := 23) dX11_pop_22 rfl 1 rfl rfl ?_
    refine V_istore_n (lv' := [(2, .int x1), (0, .ref a0), (1, .int x1)]) (pc' := 24) dX11_pop_23 rfl rfl (Nat.le_of_ble_eq_true rfl) rfl ?_
    exact V_sub (lv' := [(0, .ref a0), (1, .int x1), (2, .int x1)]) [1, 2, 0] rfl (v_X11_pop_24 hs0 hf)
theorem ct_X11_pop {l : Launch} {S : List SHP} {h : MH} {a0 : Nat} {x1 : Int32} (hs0 : S[a0]? = some (.inl 11)) {q : Int32 × MH} (hf : f_X11_pop a0 x1 h = some q) : CT l mX11_pop 4 false 0 0 S [.ref a0, .int x1] h (QI S q) :=
  CT_ofV (by decide) rfl (Nat.le_of_ble_eq_true rfl) (fun G B hT => v_X11_pop hs0 hf)
/-! LabelStacksModel.far2(II)I -/
theorem dX11_far2_0 : decode cX11_far2 0 = .ok (.aload_n 0, 1) := by decide +kernel
theorem dX11_far2_1 : decode cX11_far2 1 = .ok (.getfield 23, 3) := by decide +kernel
theorem dX11_far2_4 : decode cX11_far2 4 = .ok (.bipush 10, 2) := by decide +kernel
theorem dX11_far2_6 : decode cX11_far2 6 = .ok (.iload_n 1, 1) := by decide +kernel
theorem dX11_far2_7 : decode cX11_far2 7 = .ok (.imul, 1) := by decide +kernel
theorem dX11_far2_8 : decode cX11_far2 8 = .ok (.iload_n 2, 1) := by decide +kernel
theorem dX11_far2_9 : decode cX11_far2 9 = .ok (.iadd, 1) := by decide +kernel
theorem dX11_far2_10 : decode cX11_far2 10 = .ok (.iaload, 1) := by decide +kernel
theorem dX11_far2_11 : decode cX11_far2 11 = .ok (.ireturn, 1) := by decide +kernel
abbrev mX11_far2 : MI := (RX11, yX11_far2, cX11_far2, 3, (some .int))
theorem mok_X11_far2 : MOKv mX11_far2 2 := ⟨⟨bm_1502, bm_127, ⟨by decide, by decide⟩, by decide +kernel⟩, bm_1501, bm_61⟩
def f_X11_far2   (a0 : Nat) (x1 : Int32) (x2 : Int32) (h : MH) : Option (Int32 × MH) :=
  (gR h a0 8).bind fun a_1 =>
  (ldI h a_1 ((10 * x1) + x2)).bind fun x_2 =>
  some (x_2, h)
set_option maxRecDepth 100000 in
set_option maxHeartbeats 4000000 in
theorem v_X11_far2 {l : Launch} {G : GE} {B N : Nat} {S : List SHP} {o : Int32 × MH} {a0 : Nat} {x1 : Int32} {x2 : Int32}    (hs0 : S[a0]? = some (.inl 11)) {h : MH} (hf : f_X11_far2 a0 x1 x2 h = some o) : V l G B N mX11_far2 (rmm 3 0 0) false 0 0 (QI S o) S 0 0 0 [(0, .ref a0), (1, .int x1), (2, .int x2)] [] h := by
  unfold f_X11_far2 at hf
  refine V_aload_n (pc' := 1) dX11_far2_0 rfl 0 rfl rfl ?_
  refine V_getR (pc' := 4) 11 8 dX11_far2_1 rfl (by decide) (Nat.le_of_ble_eq_true rfl) bm_1232 hs0 (fun _ _ _ => rfl) rfl hf (fun a_1 ha_1 hf => ?_)
  refine V_bipush (v := 10) (pc' := 6) dX11_far2_4 rfl (by decide) ?_
  refine V_iload_n (pc' := 7) dX11_far2_6 rfl 1 rfl rfl ?_
  refine V_imul (pc' := 8) dX11_far2_7 rfl ?_
  refine V_iload_n (pc' := 9) dX11_far2_8 rfl 2 rfl rfl ?_
  refine V_iadd (pc' := 10) dX11_far2_9 rfl ?_
  refine V_iald (pc' := 11) dX11_far2_10 rfl ha_1 hf (fun x_2 hf => ?_)
  obtain rfl := Option.some.inj hf
  exact V_iret dX11_far2_11 rfl rfl rfl ⟨rfl, rfl, rfl⟩
theorem ct_X11_far2 {l : Launch} {S : List SHP} {h : MH} {a0 : Nat} {x1 : Int32} {x2 : Int32} (hs0 : S[a0]? = some (.inl 11)) {q : Int32 × MH} (hf : f_X11_far2 a0 x1 x2 h = some q) : CT l mX11_far2 3 false 0 0 S [.ref a0, .int x1, .int x2] h (QI S q) :=
  CT_ofV (by decide) rfl (Nat.le_of_ble_eq_true rfl) (fun G B hT => v_X11_far2 hs0 hf)
