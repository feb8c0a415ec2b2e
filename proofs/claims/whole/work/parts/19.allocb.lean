theorem bm_137 : Cond.instanceMethod yX10_init ∈ BIG := bmem 137 (by decide +kernel) rfl
theorem bm_138 : Cond.code yX10_init cX10_init 1 none ∈ BIG := bmem 138 (by decide +kernel) rfl
theorem bm_139 : Cond.methodLink RX10 3 objectInit ∈ BIG := bmem 139 (by decide +kernel) rfl
theorem bm_142 : Cond.classLink RX10 9 RX7 ∈ BIG := bmem 142 (by decide +kernel) rfl
theorem bm_143 : Cond.instantiable RX7 7 ∈ BIG := bmem 143 (by decide +kernel) rfl
theorem bm_144 : Cond.methodLink RX10 11 yX7_init ∈ BIG := bmem 144 (by decide +kernel) rfl
theorem bm_145 : Cond.instanceMethod yX7_init ∈ BIG := bmem 145 (by decide +kernel) rfl
theorem bm_146 : Cond.code yX7_init cX7_init 1 none ∈ BIG := bmem 146 (by decide +kernel) rfl
theorem bm_147 : Cond.methodLink RX7 3 objectInit ∈ BIG := bmem 147 (by decide +kernel) rfl
theorem bm_148 : Cond.classLink RX7 9 RX2 ∈ BIG := bmem 148 (by decide +kernel) rfl
theorem bm_149 : Cond.instantiable RX2 8 ∈ BIG := bmem 149 (by decide +kernel) rfl
theorem bm_150 : Cond.methodLink RX7 11 yX2_init ∈ BIG := bmem 150 (by decide +kernel) rfl
theorem bm_151 : Cond.instanceMethod yX2_init ∈ BIG := bmem 151 (by decide +kernel) rfl
theorem bm_152 : Cond.code yX2_init cX2_init 1 none ∈ BIG := bmem 152 (by decide +kernel) rfl
theorem bm_153 : Cond.methodLink RX2 3 objectInit ∈ BIG := bmem 153 (by decide +kernel) rfl
theorem bm_155 : Cond.static yX10_rowOfNone ∈ BIG := bmem 155 (by decide +kernel) rfl
theorem bm_156 : Cond.code yX10_rowOfNone cX10_rowOfNone 2 (some (.array .int)) ∈ BIG := bmem 156 (by decide +kernel) rfl
theorem bm_160 : Cond.methodLink RX10 368 yJ7_fill_53178 ∈ BIG := bmem 160 (by decide +kernel) rfl
theorem bm_163 : Cond.classLink RX2 32 RX6 ∈ BIG := bmem 163 (by decide +kernel) rfl
theorem bm_164 : Cond.instantiable RX6 3 ∈ BIG := bmem 164 (by decide +kernel) rfl
theorem bm_165 : Cond.methodLink RX2 34 yX6_init ∈ BIG := bmem 165 (by decide +kernel) rfl
theorem bm_166 : Cond.instanceMethod yX6_init ∈ BIG := bmem 166 (by decide +kernel) rfl
theorem bm_167 : Cond.code yX6_init cX6_init 3 none ∈ BIG := bmem 167 (by decide +kernel) rfl
theorem bm_168 : Cond.methodLink RX6 3 objectInit ∈ BIG := bmem 168 (by decide +kernel) rfl
theorem bm_169 : Cond.methodLink RX6 9 Lib.Math.max.name ∈ BIG := bmem 169 (by decide +kernel) rfl
theorem bm_238 : Cond.classLink RX7 29 RX6 ∈ BIG := bmem 238 (by decide +kernel) rfl
theorem bm_239 : Cond.methodLink RX7 31 yX6_init ∈ BIG := bmem 239 (by decide +kernel) rfl
theorem bm_240 : Cond.classLink RX7 41 RX5 ∈ BIG := bmem 240 (by decide +kernel) rfl
theorem bm_241 : Cond.instantiable RX5 2 ∈ BIG := bmem 241 (by decide +kernel) rfl
theorem bm_242 : Cond.methodLink RX7 43 yX5_init ∈ BIG := bmem 242 (by decide +kernel) rfl
theorem bm_243 : Cond.instanceMethod yX5_init ∈ BIG := bmem 243 (by decide +kernel) rfl
theorem bm_244 : Cond.code yX5_init cX5_init 2 none ∈ BIG := bmem 244 (by decide +kernel) rfl
theorem bm_245 : Cond.methodLink RX5 3 objectInit ∈ BIG := bmem 245 (by decide +kernel) rfl
theorem bm_246 : Cond.methodLink RX5 9 Lib.Math.max.name ∈ BIG := bmem 246 (by decide +kernel) rfl
theorem bm_291 : Cond.classLink RX10 16 RX5 ∈ BIG := bmem 291 (by decide +kernel) rfl
theorem bm_292 : Cond.methodLink RX10 18 yX5_init ∈ BIG := bmem 292 (by decide +kernel) rfl
theorem bm_293 : Cond.classLink RX10 29 RX0 ∈ BIG := bmem 293 (by decide +kernel) rfl
theorem bm_294 : Cond.instantiable RX0 2 ∈ BIG := bmem 294 (by decide +kernel) rfl
theorem bm_295 : Cond.methodLink RX10 31 yX0_init ∈ BIG := bmem 295 (by decide +kernel) rfl
theorem bm_296 : Cond.instanceMethod yX0_init ∈ BIG := bmem 296 (by decide +kernel) rfl
theorem bm_297 : Cond.code yX0_init cX0_init 2 none ∈ BIG := bmem 297 (by decide +kernel) rfl
theorem bm_298 : Cond.methodLink RX0 3 objectInit ∈ BIG := bmem 298 (by decide +kernel) rfl
theorem bm_299 : Cond.classLink RX0 9 RX7 ∈ BIG := bmem 299 (by decide +kernel) rfl
theorem bm_301 : Cond.methodLink RX0 17 yX7_init ∈ BIG := bmem 301 (by decide +kernel) rfl
theorem bm_310 : Cond.classLink RX10 49 RX8 ∈ BIG := bmem 310 (by decide +kernel) rfl
theorem bm_311 : Cond.instantiable RX8 6 ∈ BIG := bmem 311 (by decide +kernel) rfl
theorem bm_312 : Cond.methodLink RX10 51 yX8_init ∈ BIG := bmem 312 (by decide +kernel) rfl
theorem bm_313 : Cond.instanceMethod yX8_init ∈ BIG := bmem 313 (by decide +kernel) rfl
theorem bm_314 : Cond.code yX8_init cX8_init 1 none ∈ BIG := bmem 314 (by decide +kernel) rfl
theorem bm_315 : Cond.methodLink RX8 3 objectInit ∈ BIG := bmem 315 (by decide +kernel) rfl
theorem bm_316 : Cond.classLink RX8 19 RX2 ∈ BIG := bmem 316 (by decide +kernel) rfl
theorem bm_317 : Cond.methodLink RX8 21 yX2_init ∈ BIG := bmem 317 (by decide +kernel) rfl
theorem bm_342 : Cond.classLink RX10 56 RX4 ∈ BIG := bmem 342 (by decide +kernel) rfl
theorem bm_343 : Cond.instantiable RX4 2 ∈ BIG := bmem 343 (by decide +kernel) rfl
theorem bm_344 : Cond.methodLink RX10 58 yX4_init ∈ BIG := bmem 344 (by decide +kernel) rfl
theorem bm_345 : Cond.instanceMethod yX4_init ∈ BIG := bmem 345 (by decide +kernel) rfl
theorem bm_346 : Cond.code yX4_init cX4_init 1 none ∈ BIG := bmem 346 (by decide +kernel) rfl
theorem bm_347 : Cond.methodLink RX4 3 objectInit ∈ BIG := bmem 347 (by decide +kernel) rfl
theorem bm_356 : Cond.classLink RX10 72 RX9 ∈ BIG := bmem 356 (by decide +kernel) rfl
theorem bm_357 : Cond.instantiable RX9 9 ∈ BIG := bmem 357 (by decide +kernel) rfl
theorem bm_358 : Cond.methodLink RX10 74 yX9_init ∈ BIG := bmem 358 (by decide +kernel) rfl
theorem bm_359 : Cond.instanceMethod yX9_init ∈ BIG := bmem 359 (by decide +kernel) rfl
theorem bm_360 : Cond.code yX9_init cX9_init 1 none ∈ BIG := bmem 360 (by decide +kernel) rfl
theorem bm_361 : Cond.methodLink RX9 3 objectInit ∈ BIG := bmem 361 (by decide +kernel) rfl
theorem bm_391 : Cond.classLink RX10 79 RX3 ∈ BIG := bmem 391 (by decide +kernel) rfl
theorem bm_392 : Cond.instantiable RX3 12 ∈ BIG := bmem 392 (by decide +kernel) rfl
theorem bm_393 : Cond.methodLink RX10 81 yX3_init ∈ BIG := bmem 393 (by decide +kernel) rfl
theorem bm_394 : Cond.instanceMethod yX3_init ∈ BIG := bmem 394 (by decide +kernel) rfl
theorem bm_395 : Cond.code yX3_init cX3_init 1 none ∈ BIG := bmem 395 (by decide +kernel) rfl
theorem bm_396 : Cond.methodLink RX3 3 objectInit ∈ BIG := bmem 396 (by decide +kernel) rfl
theorem bm_397 : Cond.classLink RX3 9 RX5 ∈ BIG := bmem 397 (by decide +kernel) rfl
theorem bm_398 : Cond.methodLink RX3 11 yX5_init ∈ BIG := bmem 398 (by decide +kernel) rfl
theorem bm_399 : Cond.classLink RX3 23 RX1 ∈ BIG := bmem 399 (by decide +kernel) rfl
theorem bm_400 : Cond.instantiable RX1 2 ∈ BIG := bmem 400 (by decide +kernel) rfl
theorem bm_401 : Cond.methodLink RX3 25 yX1_init ∈ BIG := bmem 401 (by decide +kernel) rfl
theorem bm_402 : Cond.instanceMethod yX1_init ∈ BIG := bmem 402 (by decide +kernel) rfl
theorem bm_403 : Cond.code yX1_init cX1_init 3 none ∈ BIG := bmem 403 (by decide +kernel) rfl
theorem bm_404 : Cond.methodLink RX1 3 objectInit ∈ BIG := bmem 404 (by decide +kernel) rfl
theorem bm_405 : Cond.methodLink RX1 9 Lib.Math.max.name ∈ BIG := bmem 405 (by decide +kernel) rfl
theorem bm_456 : Cond.classLink RX10 86 RX1 ∈ BIG := bmem 456 (by decide +kernel) rfl
theorem bm_457 : Cond.methodLink RX10 88 yX1_init ∈ BIG := bmem 457 (by decide +kernel) rfl
theorem bm_1221 : Cond.instanceMethod yX11_init ∈ BIG := bmem 1221 (by decide +kernel) rfl
theorem bm_1222 : Cond.code yX11_init cX11_init 1 none ∈ BIG := bmem 1222 (by decide +kernel) rfl
theorem bm_1223 : Cond.methodLink RX11 1 objectInit ∈ BIG := bmem 1223 (by decide +kernel) rfl
/-! LabelStacks.rowOfNone(I)[I -/
theorem dX10_rowOfNone_0 : decode cX10_rowOfNone 0 = .ok (.iconst 0, 1) := by decide +kernel
theorem dX10_rowOfNone_1 : decode cX10_rowOfNone 1 = .ok (.iload_n 0, 1) := by decide +kernel
theorem dX10_rowOfNone_2 : decode cX10_rowOfNone 2 = .ok (.invokestatic 283, 3) := by decide +kernel
theorem dX10_rowOfNone_5 : decode cX10_rowOfNone 5 = .ok (.newarray .int, 2) := by decide +kernel
theorem dX10_rowOfNone_7 : decode cX10_rowOfNone 7 = .ok (.astore_n 1, 1) := by decide +kernel
theorem dX10_rowOfNone_8 : decode cX10_rowOfNone 8 = .ok (.aload_n 1, 1) := by decide +kernel
theorem dX10_rowOfNone_9 : decode cX10_rowOfNone 9 = .ok (.iconst (-1), 1) := by decide +kernel
theorem dX10_rowOfNone_10 : decode cX10_rowOfNone 10 = .ok (.invokestatic 368, 3) := by decide +kernel
theorem dX10_rowOfNone_13 : decode cX10_rowOfNone 13 = .ok (.aload_n 1, 1) := by decide +kernel
theorem dX10_rowOfNone_14 : decode cX10_rowOfNone 14 = .ok (.areturn, 1) := by decide +kernel
abbrev mX10_rowOfNone : MI := (RX10, yX10_rowOfNone, cX10_rowOfNone, 2, (some (.array .int)))
theorem mok_X10_rowOfNone : MOKs mX10_rowOfNone 1 := ⟨⟨bm_156, bm_114, ⟨by decide, by decide⟩, by decide +kernel⟩, bm_155⟩
def f_X10_rowOfNone   (x0 : Int32) (h : MH) : Option (Nat × MH) :=
  lt ((if 0 < x0 then x0 else 0) : Int32) fun x_1 =>
  (nwA h x_1 200).bind fun h_2 =>
  (f_J7_fill_53178 (gZ h) (-1 : Int32) h_2).bind fun q_3 =>
  some ((gZ h), q_3)
set_option maxRecDepth 100000 in
set_option maxHeartbeats 4000000 in
theorem v_X10_rowOfNone {l : Launch} {G : GE} {B N : Nat} {S : List SHP} {o : Nat × MH} {x0 : Int32}     {h : MH} (hf : f_X10_rowOfNone x0 h = some o) : V l G B N mX10_rowOfNone (rmm 4 1 200) true 1 200 (QAR S [.inr 0] (.inr 0) o) S 0 0 0 [(0, .int x0)] [] h := by
  unfold f_X10_rowOfNone at hf
  refine V_iconst (v := 0) (pc' := 1) dX10_rowOfNone_0 rfl (by decide) ?_
  refine V_iload_n (pc' := 2) dX10_rowOfNone_1 rfl 0 rfl rfl ?_
  refine V_max (pc' := 5) dX10_rowOfNone_2 rfl bm_157 (Nat.le_of_ble_eq_true rfl) (by decide) ?_
  refine V_nmI hf (fun x_1 hf => ?_)
  refine V_newA (pc' := 7) 200 0 dX10_rowOfNone_5 rfl (by simp) (by decide) (by decide) hf (fun h_2 hnh_2 hf => ?_)
  refine V_astore_n (lv' := [(1, .ref (gZ h)), (0, .int x0)]) (pc' := 8) dX10_rowOfNone_7 rfl rfl (Nat.le_of_ble_eq_true rfl) rfl ?_
  refine V_aload_n (pc' := 9) dX10_rowOfNone_8 rfl 0 rfl rfl ?_
  refine V_iconst (v := (-1)) (pc' := 10) dX10_rowOfNone_9 rfl (by decide) ?_
  refine V_csV (pc' := 13) (As := [.ref (gZ h), .int (-1 : Int32)]) (rest := []) dX10_rowOfNone_10 rfl mok_J7_fill_53178 bm_160 rfl rfl (Nat.le_of_ble_eq_true rfl) (by decide) hf (fun q e => ct_J7_fill_53178 hnh_2 e) (fun q_3 hf => ?_)
  refine V_aload_n (pc' := 14) dX10_rowOfNone_13 rfl 0 rfl rfl ?_
  obtain rfl := Option.some.inj hf
  exact V_aret dX10_rowOfNone_14 rfl (by simp) rfl rfl ⟨rfl, by simp, rfl, by simpa using hnh_2⟩
theorem ct_X10_rowOfNone {l : Launch} {S : List SHP} {h : MH} {x0 : Int32}  {q : Nat × MH} (hf : f_X10_rowOfNone x0 h = some q) : CT l mX10_rowOfNone 4 true 1 200 S [.int x0] h (QAR S [.inr 0] (.inr 0) q) :=
  CT_ofV (by decide) rfl (Nat.le_of_ble_eq_true rfl) (fun G B hT => v_X10_rowOfNone  hf)
/-! LabelStacks$Rows.<init>(II)V -/
theorem dX6_init_0 : decode cX6_init 0 = .ok (.aload_n 0, 1) := by decide +kernel
theorem dX6_init_1 : decode cX6_init 1 = .ok (.invokespecial 3, 3) := by decide +kernel
theorem dX6_init_4 : decode cX6_init 4 = .ok (.aload_n 0, 1) := by decide +kernel
theorem dX6_init_5 : decode cX6_init 5 = .ok (.iconst 0, 1) := by decide +kernel
theorem dX6_init_6 : decode cX6_init 6 = .ok (.iload_n 2, 1) := by decide +kernel
theorem dX6_init_7 : decode cX6_init 7 = .ok (.invokestatic 9, 3) := by decide +kernel
theorem dX6_init_10 : decode cX6_init 10 = .ok (.putfield 15, 3) := by decide +kernel
theorem dX6_init_13 : decode cX6_init 13 = .ok (.aload_n 0, 1) := by decide +kernel
theorem dX6_init_14 : decode cX6_init 14 = .ok (.iconst 0, 1) := by decide +kernel
theorem dX6_init_15 : decode cX6_init 15 = .ok (.iload_n 1, 1) := by decide +kernel
theorem dX6_init_16 : decode cX6_init 16 = .ok (.invokestatic 9, 3) := by decide +kernel
theorem dX6_init_19 : decode cX6_init 19 = .ok (.newarray .int, 2) := by decide +kernel
theorem dX6_init_21 : decode cX6_init 21 = .ok (.putfield 21, 3) := by decide +kernel
theorem dX6_init_24 : decode cX6_init 24 = .ok (.aload_n 0, 1) := by decide +kernel
theorem dX6_init_25 : decode cX6_init 25 = .ok (.iconst 0, 1) := by decide +kernel
theorem dX6_init_26 : decode cX6_init 26 = .ok (.iload_n 1, 1) := by decide +kernel
theorem dX6_init_27 : decode cX6_init 27 = .ok (.iload_n 2, 1) := by decide +kernel
theorem dX6_init_28 : decode cX6_init 28 = .ok (.imul, 1) := by decide +kernel
theorem dX6_init_29 : decode cX6_init 29 = .ok (.invokestatic 9, 3) := by decide +kernel
theorem dX6_init_32 : decode cX6_init 32 = .ok (.newarray .int, 2) := by decide +kernel
theorem dX6_init_34 : decode cX6_init 34 = .ok (.putfield 25, 3) := by decide +kernel
theorem dX6_init_37 : decode cX6_init 37 = .ok (.return_, 1) := by decide +kernel
abbrev mX6_init : MI := (RX6, yX6_init, cX6_init, 3, none)
theorem mok_X6_init : MOKi mX6_init 2 := ⟨⟨bm_167, bm_119, ⟨by decide, by decide⟩, by decide +kernel⟩, bm_166, rfl, rfl⟩
def f_X6_init   (a0 : Nat) (x1 : Int32) (x2 : Int32) (h : MH) : Option (MH) :=
  lt ((if 0 < x2 then x2 else 0) : Int32) fun x_1 =>
  lt (sI h a0 0 x_1) fun h_2 =>
  lt ((if 0 < x1 then x1 else 0) : Int32) fun x_3 =>
  (nwA h_2 x_3 200).bind fun h_4 =>
  lt (sR h_4 a0 1 (some (gZ h_2))) fun h_5 =>
  lt ((if 0 < (x1 * x2) then (x1 * x2) else 0) : Int32) fun x_6 =>
  (nwA h_5 x_6 200).bind fun h_7 =>
  lt (sR h_7 a0 2 (some (gZ h_5))) fun h_8 =>
  some h_8
set_option maxRecDepth 100000 in
set_option maxHeartbeats 4000000 in
theorem v_X6_init {l : Launch} {G : GE} {B N : Nat} {S : List SHP} {o : MH} {a0 : Nat} {x1 : Int32} {x2 : Int32}    (hs0 : S[a0]? = some (.inl 6)) {h : MH} (hf : f_X6_init a0 x1 x2 h = some o) : V l G B N mX6_init (rmm 3 2 400) true 2 400 (QA S [.inr 0, .inr 0] o) S 0 0 0 [(0, .ref a0), (1, .int x1), (2, .int x2)] [] h := by
  unfold f_X6_init at hf
  refine V_aload_n (pc' := 1) dX6_init_0 rfl 0 rfl rfl ?_
  refine V_objInit (pc' := 4) dX6_init_1 rfl bm_168 (Nat.le_of_ble_eq_true rfl) (by decide) ?_
  refine V_aload_n (pc' := 5) dX6_init_4 rfl 0 rfl rfl ?_
  refine V_iconst (v := 0) (pc' := 6) dX6_init_5 rfl (by decide) ?_
  refine V_iload_n (pc' := 7) dX6_init_6 rfl 2 rfl rfl ?_
  refine V_max (pc' := 10) dX6_init_7 rfl bm_169 (Nat.le_of_ble_eq_true rfl) (by decide) ?_
  refine V_nmI hf (fun x_1 hf => ?_)
  refine V_putI (pc' := 13) 6 0 dX6_init_10 rfl (by decide) (Nat.le_of_ble_eq_true rfl) bm_170 hs0 (Or.inr ⟨rfl, rfl, rfl⟩) rfl ?_
  refine V_nmH hf (fun h_2 hf => ?_)
  refine V_aload_n (pc' := 14) dX6_init_13 rfl 0 rfl rfl ?_
  refine V_iconst (v := 0) (pc' := 15) dX6_init_14 rfl (by decide) ?_
  refine V_iload_n (pc' := 16) dX6_init_15 rfl 1 rfl rfl ?_
  refine V_max (pc' := 19) dX6_init_16 rfl bm_169 (Nat.le_of_ble_eq_true rfl) (by decide) ?_
  refine V_nmI hf (fun x_3 hf => ?_)
  refine V_newA (pc' := 21) 200 0 dX6_init_19 rfl (by simp) (by decide) (by decide) hf (fun h_4 hnh_4 hf => ?_)
  replace hs0 := sh_app (T := [.inr 0]) hs0
  refine V_putR (pc' := 24) 6 1 dX6_init_21 rfl (by decide) (Nat.le_of_ble_eq_true rfl) bm_171 hs0 (Or.inr ⟨rfl, rfl, rfl⟩) (fun _ _ _ => rfl) (fun _ => rfl) (fun _ => rfl) rfl hnh_4 ?_
  refine V_nmH hf (fun h_5 hf => ?_)
  refine V_aload_n (pc' := 25) dX6_init_24 rfl 0 rfl rfl ?_
  refine V_iconst (v := 0) (pc' := 26) dX6_init_25 rfl (by decide) ?_
  refine V_iload_n (pc' := 27) dX6_init_26 rfl 1 rfl rfl ?_
  refine V_iload_n (pc' := 28) dX6_init_27 rfl 2 rfl rfl ?_
  refine V_imul (pc' := 29) dX6_init_28 rfl ?_
  refine V_max (pc' := 32) dX6_init_29 rfl bm_169 (Nat.le_of_ble_eq_true rfl) (by decide) ?_
  refine V_nmI hf (fun x_6 hf => ?_)
  refine V_newA (pc' := 34) 200 0 dX6_init_32 rfl (by simp) (by decide) (by decide) hf (fun h_7 hnh_7 hf => ?_)
  replace hs0 := sh_app (T := [.inr 0]) hs0
  refine V_putR (pc' := 37) 6 2 dX6_init_34 rfl (by decide) (Nat.le_of_ble_eq_true rfl) bm_174 hs0 (Or.inr ⟨rfl, rfl, rfl⟩) (fun _ _ _ => rfl) (fun _ => rfl) (fun _ => rfl) rfl hnh_7 ?_
  refine V_nmH hf (fun h_8 hf => ?_)
  obtain rfl := Option.some.inj hf
  exact V_vret dX6_init_37 rfl rfl rfl ⟨rfl, by simp, rfl⟩
theorem ct_X6_init {l : Launch} {S : List SHP} {h : MH} {a0 : Nat} {x1 : Int32} {x2 : Int32} (hs0 : S[a0]? = some (.inl 6)) {q : MH} (hf : f_X6_init a0 x1 x2 h = some q) : CT l mX6_init 3 true 2 400 S [.ref a0, .int x1, .int x2] h (QA S [.inr 0, .inr 0] q) :=
  CT_ofV (by decide) rfl (Nat.le_of_ble_eq_true rfl) (fun G B hT => v_X6_init hs0 hf)
/-! LabelStacks$Network.<init>()V -/
theorem dX2_init_0 : decode cX2_init 0 = .ok (.aload_n 0, 1) := by decide +kernel
theorem dX2_init_1 : decode cX2_init 1 = .ok (.invokespecial 3, 3) := by decide +kernel
theorem dX2_init_4 : decode cX2_init 4 = .ok (.aload_n 0, 1) := by decide +kernel
theorem dX2_init_5 : decode cX2_init 5 = .ok (.iconst 2, 1) := by decide +kernel
theorem dX2_init_6 : decode cX2_init 6 = .ok (.putfield 9, 3) := by decide +kernel
theorem dX2_init_9 : decode cX2_init 9 = .ok (.aload_n 0, 1) := by decide +kernel
theorem dX2_init_10 : decode cX2_init 10 = .ok (.bipush 30, 2) := by decide +kernel
theorem dX2_init_12 : decode cX2_init 12 = .ok (.newarray .int, 2) := by decide +kernel
theorem dX2_init_14 : decode cX2_init 14 = .ok (.putfield 15, 3) := by decide +kernel
theorem dX2_init_17 : decode cX2_init 17 = .ok (.aload_n 0, 1) := by decide +kernel
theorem dX2_init_18 : decode cX2_init 18 = .ok (.bipush 30, 2) := by decide +kernel
theorem dX2_init_20 : decode cX2_init 20 = .ok (.newarray .int, 2) := by decide +kernel
theorem dX2_init_22 : decode cX2_init 22 = .ok (.putfield 19, 3) := by decide +kernel
theorem dX2_init_25 : decode cX2_init 25 = .ok (.aload_n 0, 1) := by decide +kernel
theorem dX2_init_26 : decode cX2_init 26 = .ok (.bipush 30, 2) := by decide +kernel
theorem dX2_init_28 : decode cX2_init 28 = .ok (.newarray .int, 2) := by decide +kernel
theorem dX2_init_30 : decode cX2_init 30 = .ok (.putfield 22, 3) := by decide +kernel
theorem dX2_init_33 : decode cX2_init 33 = .ok (.aload_n 0, 1) := by decide +kernel
theorem dX2_init_34 : decode cX2_init 34 = .ok (.bipush 6, 2) := by decide +kernel
theorem dX2_init_36 : decode cX2_init 36 = .ok (.invokestatic 25, 3) := by decide +kernel
theorem dX2_init_39 : decode cX2_init 39 = .ok (.putfield 29, 3) := by decide +kernel
theorem dX2_init_42 : decode cX2_init 42 = .ok (.aload_n 0, 1) := by decide +kernel
theorem dX2_init_43 : decode cX2_init 43 = .ok (.new 32, 3) := by decide +kernel
theorem dX2_init_46 : decode cX2_init 46 = .ok (.dup, 1) := by decide +kernel
theorem dX2_init_47 : decode cX2_init 47 = .ok (.bipush 6, 2) := by decide +kernel
theorem dX2_init_49 : decode cX2_init 49 = .ok (.bipush 6, 2) := by decide +kernel
theorem dX2_init_51 : decode cX2_init 51 = .ok (.invokespecial 34, 3) := by decide +kernel
theorem dX2_init_54 : decode cX2_init 54 = .ok (.putfield 37, 3) := by decide +kernel
theorem dX2_init_57 : decode cX2_init 57 = .ok (.return_, 1) := by decide +kernel
abbrev mX2_init : MI := (RX2, yX2_init, cX2_init, 1, none)
theorem mok_X2_init : MOKi mX2_init 0 := ⟨⟨bm_152, bm_116, ⟨by decide, by decide⟩, by decide +kernel⟩, bm_151, rfl, rfl⟩
def f_X2_init   (a0 : Nat) (h : MH) : Option (MH) :=
  lt (sI h a0 0 2) fun h_1 =>
  (nwA h_1 30 30).bind fun h_2 =>
  lt (sR h_2 a0 3 (some (gZ h_1))) fun h_3 =>
  (nwA h_3 30 30).bind fun h_4 =>
  lt (sR h_4 a0 4 (some (gZ h_3))) fun h_5 =>
  (nwA h_5 30 30).bind fun h_6 =>
  lt (sR h_6 a0 5 (some (gZ h_5))) fun h_7 =>
  (f_X10_rowOfNone 6 h_7).bind fun q_8 =>
  lt (sR q_8.2 a0 6 (some q_8.1)) fun h_9 =>
  lt (nW h_9 0) fun h_10 =>
  (f_X6_init (gZ h_9) 6 6 h_10).bind fun q_11 =>
  lt (sR q_11 a0 7 (some (gZ h_9))) fun h_12 =>
  some h_12
set_option maxRecDepth 100000 in
set_option maxHeartbeats 4000000 in
theorem v_X2_init {l : Launch} {G : GE} {B N : Nat} {S : List SHP} {o : MH} {a0 : Nat}    (hs0 : S[a0]? = some (.inl 2)) {h : MH} (hf : f_X2_init a0 h = some o) : V l G B N mX2_init (rmm 5 7 693) true 7 693 (QA S [.inr 0, .inr 0, .inr 0, .inr 0, .inl 6, .inr 0, .inr 0] o) S 0 0 0 [(0, .ref a0)] [] h := by
  unfold f_X2_init at hf
  refine V_aload_n (pc' := 1) dX2_init_0 rfl 0 rfl rfl ?_
  refine V_objInit (pc' := 4) dX2_init_1 rfl bm_153 (Nat.le_of_ble_eq_true rfl) (by decide) ?_
  refine V_aload_n (pc' := 5) dX2_init_4 rfl 0 rfl rfl ?_
  refine V_iconst (v := 2) (pc' := 6) dX2_init_5 rfl (by decide) ?_
  refine V_putI (pc' := 9) 2 0 dX2_init_6 rfl (by decide) (Nat.le_of_ble_eq_true rfl) bm_183 hs0 (Or.inl rfl) rfl ?_
  refine V_nmH hf (fun h_1 hf => ?_)
  refine V_aload_n (pc' := 10) dX2_init_9 rfl 0 rfl rfl ?_
  refine V_bipush (v := 30) (pc' := 12) dX2_init_10 rfl (by decide) ?_
  refine V_newA (pc' := 14) 30 0 dX2_init_12 rfl (by simp) (by decide) (by decide) hf (fun h_2 hnh_2 hf => ?_)
  replace hs0 := sh_app (T := [.inr 0]) hs0
  refine V_putR (pc' := 17) 2 3 dX2_init_14 rfl (by decide) (Nat.le_of_ble_eq_true rfl) bm_197 hs0 (Or.inr ⟨rfl, rfl, rfl⟩) (fun _ _ _ => rfl) (fun _ => rfl) (fun _ => rfl) rfl hnh_2 ?_
  refine V_nmH hf (fun h_3 hf => ?_)
  refine V_aload_n (pc' := 18) dX2_init_17 rfl 0 rfl rfl ?_
  refine V_bipush (v := 30) (pc' := 20) dX2_init_18 rfl (by decide) ?_
  refine V_newA (pc' := 22) 30 0 dX2_init_20 rfl (by simp) (by decide) (by decide) hf (fun h_4 hnh_4 hf => ?_)
  replace hs0 := sh_app (T := [.inr 0]) hs0
  refine V_putR (pc' := 25) 2 4 dX2_init_22 rfl (by decide) (Nat.le_of_ble_eq_true rfl) bm_202 hs0 (Or.inr ⟨rfl, rfl, rfl⟩) (fun _ _ _ => rfl) (fun _ => rfl) (fun _ => rfl) rfl hnh_4 ?_
  refine V_nmH hf (fun h_5 hf => ?_)
  refine V_aload_n (pc' := 26) dX2_init_25 rfl 0 rfl rfl ?_
  refine V_bipush (v := 30) (pc' := 28) dX2_init_26 rfl (by decide) ?_
  refine V_newA (pc' := 30) 30 0 dX2_init_28 rfl (by simp) (by decide) (by decide) hf (fun h_6 hnh_6 hf => ?_)
  replace hs0 := sh_app (T := [.inr 0]) hs0
  refine V_putR (pc' := 33) 2 5 dX2_init_30 rfl (by decide) (Nat.le_of_ble_eq_true rfl) bm_207 hs0 (Or.inr ⟨rfl, rfl, rfl⟩) (fun _ _ _ => rfl) (fun _ => rfl) (fun _ => rfl) rfl hnh_6 ?_
  refine V_nmH hf (fun h_7 hf => ?_)
  refine V_aload_n (pc' := 34) dX2_init_33 rfl 0 rfl rfl ?_
  refine V_bipush (v := 6) (pc' := 36) dX2_init_34 rfl (by decide) ?_
  refine V_csA (pc' := 39) (T := [.inr 0]) (As := [.int 6]) (rest := [.ref a0]) dX2_init_36 rfl mok_X10_rowOfNone (fun _ _ _ h => h.1.1) rfl rfl (Nat.le_of_ble_eq_true rfl) (by decide) (by decide) hf (fun q e => ct_X10_rowOfNone  e) (fun q_8 hq_8 hf => ?_)
  replace hs0 := sh_app (T := [.inr 0]) hs0
  refine V_putR (pc' := 42) 2 6 dX2_init_39 rfl (by decide) (Nat.le_of_ble_eq_true rfl) bm_210 hs0 (Or.inr ⟨rfl, rfl, rfl⟩) (fun _ _ _ => rfl) (fun _ => rfl) (fun _ => rfl) rfl hq_8 ?_
  refine V_nmH hf (fun h_9 hf => ?_)
  refine V_aload_n (pc' := 43) dX2_init_42 rfl 0 rfl rfl ?_
  refine V_newO (pc' := 46) 6 (by decide) dX2_init_43 rfl bm_163 bm_164 bm_119 (by decide) hf (fun h_10 hnh_10 hf => ?_)
  replace hs0 := sh_app (T := [.inl 6]) hs0
  refine V_dup (pc' := 47) dX2_init_46 rfl rfl ?_
  refine V_bipush (v := 6) (pc' := 49) dX2_init_47 rfl (by decide) ?_
  refine V_bipush (v := 6) (pc' := 51) dX2_init_49 rfl (by decide) ?_
  refine V_ciA (pc' := 54) (T := [.inr 0, .inr 0]) (As := [.int 6, .int 6]) (rest := [.ref (gZ h_9), .ref a0]) dX2_init_51 rfl mok_X6_init bm_165 rfl rfl (Nat.le_of_ble_eq_true rfl) (by decide) (by decide) hf (fun q e => ct_X6_init hnh_10 e) (fun q_11 hf => ?_)
  replace hs0 := sh_app (T := [.inr 0, .inr 0]) hs0
  replace hnh_10 := sh_app (T := [.inr 0, .inr 0]) hnh_10
  refine V_putR (pc' := 57) 2 7 dX2_init_54 rfl (by decide) (Nat.le_of_ble_eq_true rfl) bm_215 hs0 (Or.inr ⟨rfl, rfl, rfl⟩) (fun _ _ _ => rfl) (fun _ => rfl) (fun _ => rfl) rfl hnh_10 ?_
  refine V_nmH hf (fun h_12 hf => ?_)
  obtain rfl := Option.some.inj hf
  exact V_vret dX2_init_57 rfl rfl rfl ⟨rfl, by simp, rfl⟩
theorem ct_X2_init {l : Launch} {S : List SHP} {h : MH} {a0 : Nat} (hs0 : S[a0]? = some (.inl 2)) {q : MH} (hf : f_X2_init a0 h = some q) : CT l mX2_init 5 true 7 693 S [.ref a0] h (QA S [.inr 0, .inr 0, .inr 0, .inr 0, .inl 6, .inr 0, .inr 0] q) :=
  CT_ofV (by decide) rfl (Nat.le_of_ble_eq_true rfl) (fun G B hT => v_X2_init hs0 hf)
/-! LabelStacks$Row.<init>(I)V -/
theorem dX5_init_0 : decode cX5_init 0 = .ok (.aload_n 0, 1) := by decide +kernel
theorem dX5_init_1 : decode cX5_init 1 = .ok (.invokespecial 3, 3) := by decide +kernel
theorem dX5_init_4 : decode cX5_init 4 = .ok (.aload_n 0, 1) := by decide +kernel
theorem dX5_init_5 : decode cX5_init 5 = .ok (.iconst 0, 1) := by decide +kernel
theorem dX5_init_6 : decode cX5_init 6 = .ok (.iload_n 1, 1) := by decide +kernel
theorem dX5_init_7 : decode cX5_init 7 = .ok (.invokestatic 9, 3) := by decide +kernel
theorem dX5_init_10 : decode cX5_init 10 = .ok (.newarray .int, 2) := by decide +kernel
theorem dX5_init_12 : decode cX5_init 12 = .ok (.putfield 15, 3) := by decide +kernel
theorem dX5_init_15 : decode cX5_init 15 = .ok (.return_, 1) := by decide +kernel
abbrev mX5_init : MI := (RX5, yX5_init, cX5_init, 2, none)
theorem mok_X5_init : MOKi mX5_init 1 := ⟨⟨bm_244, bm_120, ⟨by decide, by decide⟩, by decide +kernel⟩, bm_243, rfl, rfl⟩
def f_X5_init   (a0 : Nat) (x1 : Int32) (h : MH) : Option (MH) :=
  lt ((if 0 < x1 then x1 else 0) : Int32) fun x_1 =>
  (nwA h x_1 200).bind fun h_2 =>
  lt (sR h_2 a0 0 (some (gZ h))) fun h_3 =>
  some h_3
set_option maxRecDepth 100000 in
set_option maxHeartbeats 4000000 in
theorem v_X5_init {l : Launch} {G : GE} {B N : Nat} {S : List SHP} {o : MH} {a0 : Nat} {x1 : Int32}    (hs0 : S[a0]? = some (.inl 5)) {h : MH} (hf : f_X5_init a0 x1 h = some o) : V l G B N mX5_init (rmm 3 1 200) true 1 200 (QA S [.inr 0] o) S 0 0 0 [(0, .ref a0), (1, .int x1)] [] h := by
  unfold f_X5_init at hf
  refine V_aload_n (pc' := 1) dX5_init_0 rfl 0 rfl rfl ?_
  refine V_objInit (pc' := 4) dX5_init_1 rfl bm_245 (Nat.le_of_ble_eq_true rfl) (by decide) ?_
  refine V_aload_n (pc' := 5) dX5_init_4 rfl 0 rfl rfl ?_
  refine V_iconst (v := 0) (pc' := 6) dX5_init_5 rfl (by decide) ?_
  refine V_iload_n (pc' := 7) dX5_init_6 rfl 1 rfl rfl ?_
  refine V_max (pc' := 10) dX5_init_7 rfl bm_246 (Nat.le_of_ble_eq_true rfl) (by decide) ?_
  refine V_nmI hf (fun x_1 hf => ?_)
  refine V_newA (pc' := 12) 200 0 dX5_init_10 rfl (by simp) (by decide) (by decide) hf (fun h_2 hnh_2 hf => ?_)
  replace hs0 := sh_app (T := [.inr 0]) hs0
  refine V_putR (pc' := 15) 5 0 dX5_init_12 rfl (by decide) (Nat.le_of_ble_eq_true rfl) bm_247 hs0 (Or.inr ⟨rfl, rfl, rfl⟩) (fun _ _ _ => rfl) (fun _ => rfl) (fun _ => rfl) rfl hnh_2 ?_
  refine V_nmH hf (fun h_3 hf => ?_)
  obtain rfl := Option.some.inj hf
  exact V_vret dX5_init_15 rfl rfl rfl ⟨rfl, by simp, rfl⟩
theorem ct_X5_init {l : Launch} {S : List SHP} {h : MH} {a0 : Nat} {x1 : Int32} (hs0 : S[a0]? = some (.inl 5)) {q : MH} (hf : f_X5_init a0 x1 h = some q) : CT l mX5_init 3 true 1 200 S [.ref a0, .int x1] h (QA S [.inr 0] q) :=
  CT_ofV (by decide) rfl (Nat.le_of_ble_eq_true rfl) (fun G B hT => v_X5_init hs0 hf)
/-! LabelStacks$State.<init>()V -/
theorem dX7_init_0 : decode cX7_init 0 = .ok (.aload_n 0, 1) := by decide +kernel
theorem dX7_init_1 : decode cX7_init 1 = .ok (.invokespecial 3, 3) := by decide +kernel
theorem dX7_init_4 : decode cX7_init 4 = .ok (.aload_n 0, 1) := by decide +kernel
theorem dX7_init_5 : decode cX7_init 5 = .ok (.new 9, 3) := by decide +kernel
theorem dX7_init_8 : decode cX7_init 8 = .ok (.dup, 1) := by decide +kernel
theorem dX7_init_9 : decode cX7_init 9 = .ok (.invokespecial 11, 3) := by decide +kernel
theorem dX7_init_12 : decode cX7_init 12 = .ok (.putfield 12, 3) := by decide +kernel
theorem dX7_init_15 : decode cX7_init 15 = .ok (.aload_n 0, 1) := by decide +kernel
theorem dX7_init_16 : decode cX7_init 16 = .ok (.bipush 8, 2) := by decide +kernel
theorem dX7_init_18 : decode cX7_init 18 = .ok (.invokestatic 18, 3) := by decide +kernel
theorem dX7_init_21 : decode cX7_init 21 = .ok (.putfield 22, 3) := by decide +kernel
theorem dX7_init_24 : decode cX7_init 24 = .ok (.aload_n 0, 1) := by decide +kernel
theorem dX7_init_25 : decode cX7_init 25 = .ok (.bipush 8, 2) := by decide +kernel
theorem dX7_init_27 : decode cX7_init 27 = .ok (.newarray .int, 2) := by decide +kernel
theorem dX7_init_29 : decode cX7_init 29 = .ok (.putfield 26, 3) := by decide +kernel
theorem dX7_init_32 : decode cX7_init 32 = .ok (.aload_n 0, 1) := by decide +kernel
theorem dX7_init_33 : decode cX7_init 33 = .ok (.new 29, 3) := by decide +kernel
theorem dX7_init_36 : decode cX7_init 36 = .ok (.dup, 1) := by decide +kernel
theorem dX7_init_37 : decode cX7_init 37 = .ok (.bipush 8, 2) := by decide +kernel
theorem dX7_init_39 : decode cX7_init 39 = .ok (.bipush 12, 2) := by decide +kernel
theorem dX7_init_41 : decode cX7_init 41 = .ok (.invokespecial 31, 3) := by decide +kernel
theorem dX7_init_44 : decode cX7_init 44 = .ok (.putfield 34, 3) := by decide +kernel
theorem dX7_init_47 : decode cX7_init 47 = .ok (.aload_n 0, 1) := by decide +kernel
theorem dX7_init_48 : decode cX7_init 48 = .ok (.new 29, 3) := by decide +kernel
theorem dX7_init_51 : decode cX7_init 51 = .ok (.dup, 1) := by decide +kernel
theorem dX7_init_52 : decode cX7_init 52 = .ok (.bipush 12, 2) := by decide +kernel
theorem dX7_init_54 : decode cX7_init 54 = .ok (.bipush 16, 2) := by decide +kernel
theorem dX7_init_56 : decode cX7_init 56 = .ok (.invokespecial 31, 3) := by decide +kernel
theorem dX7_init_59 : decode cX7_init 59 = .ok (.putfield 38, 3) := by decide +kernel
theorem dX7_init_62 : decode cX7_init 62 = .ok (.aload_n 0, 1) := by decide +kernel
theorem dX7_init_63 : decode cX7_init 63 = .ok (.new 41, 3) := by decide +kernel
theorem dX7_init_66 : decode cX7_init 66 = .ok (.dup, 1) := by decide +kernel
theorem dX7_init_67 : decode cX7_init 67 = .ok (.bipush 16, 2) := by decide +kernel
theorem dX7_init_69 : decode cX7_init 69 = .ok (.invokespecial 43, 3) := by decide +kernel
theorem dX7_init_72 : decode cX7_init 72 = .ok (.putfield 46, 3) := by decide +kernel
theorem dX7_init_75 : decode cX7_init 75 = .ok (.return_, 1) := by decide +kernel
abbrev mX7_init : MI := (RX7, yX7_init, cX7_init, 1, none)
theorem mok_X7_init : MOKi mX7_init 0 := ⟨⟨bm_146, bm_115, ⟨by decide, by decide⟩, by decide +kernel⟩, bm_145, rfl, rfl⟩
def f_X7_init   (a0 : Nat) (h : MH) : Option (MH) :=
  lt (nW h 0) fun h_1 =>
  (f_X2_init (gZ h) h_1).bind fun q_2 =>
  lt (sR q_2 a0 0 (some (gZ h))) fun h_3 =>
  (f_X10_rowOfNone 8 h_3).bind fun q_4 =>
  lt (sR q_4.2 a0 1 (some q_4.1)) fun h_5 =>
  (nwA h_5 8 8).bind fun h_6 =>
  lt (sR h_6 a0 2 (some (gZ h_5))) fun h_7 =>
  lt (nW h_7 0) fun h_8 =>
  (f_X6_init (gZ h_7) 8 12 h_8).bind fun q_9 =>
  lt (sR q_9 a0 3 (some (gZ h_7))) fun h_10 =>
  lt (nW h_10 0) fun h_11 =>
  (f_X6_init (gZ h_10) 12 16 h_11).bind fun q_12 =>
  lt (sR q_12 a0 5 (some (gZ h_10))) fun h_13 =>
  lt (nW h_13 0) fun h_14 =>
  (f_X5_init (gZ h_13) 16 h_14).bind fun q_15 =>
  lt (sR q_15 a0 6 (some (gZ h_13))) fun h_16 =>
  some h_16
set_option maxRecDepth 100000 in
set_option maxHeartbeats 4000000 in
theorem v_X7_init {l : Launch} {G : GE} {B N : Nat} {S : List SHP} {o : MH} {a0 : Nat}    (hs0 : S[a0]? = some (.inl 7)) {h : MH} (hf : f_X7_init a0 h = some o) : V l G B N mX7_init (rmm 6 18 1917) true 18 1917 (QA S [.inl 2, .inr 0, .inr 0, .inr 0, .inr 0, .inl 6, .inr 0, .inr 0, .inr 0, .inr 0, .inl 6, .inr 0, .inr 0, .inl 6, .inr 0, .inr 0, .inl 5, .inr 0] o) S 0 0 0 [(0, .ref a0)] [] h := by
  unfold f_X7_init at hf
  refine V_aload_n (pc' := 1) dX7_init_0 rfl 0 rfl rfl ?_
  refine V_objInit (pc' := 4) dX7_init_1 rfl bm_147 (Nat.le_of_ble_eq_true rfl) (by decide) ?_
  refine V_aload_n (pc' := 5) dX7_init_4 rfl 0 rfl rfl ?_
  refine V_newO (pc' := 8) 2 (by decide) dX7_init_5 rfl bm_148 bm_149 bm_116 (by decide) hf (fun h_1 hnh_1 hf => ?_)
  replace hs0 := sh_app (T := [.inl 2]) hs0
  refine V_dup (pc' := 9) dX7_init_8 rfl rfl ?_
  refine V_ciA (pc' := 12) (T := [.inr 0, .inr 0, .inr 0, .inr 0, .inl 6, .inr 0, .inr 0]) (As := []) (rest := [.ref (gZ h), .ref a0]) dX7_init_9 rfl mok_X2_init bm_150 rfl rfl (Nat.le_of_ble_eq_true rfl) (by decide) (by decide) hf (fun q e => ct_X2_init hnh_1 e) (fun q_2 hf => ?_)
  replace hs0 := sh_app (T := [.inr 0, .inr 0, .inr 0, .inr 0, .inl 6, .inr 0, .inr 0]) hs0
  replace hnh_1 := sh_app (T := [.inr 0, .inr 0, .inr 0, .inr 0, .inl 6, .inr 0, .inr 0]) hnh_1
  refine V_putR (pc' := 15) 7 0 dX7_init_12 rfl (by decide) (Nat.le_of_ble_eq_true rfl) bm_262 hs0 (Or.inr ⟨rfl, rfl, rfl⟩) (fun _ _ _ => rfl) (fun _ => rfl) (fun _ => rfl) rfl hnh_1 ?_
  refine V_nmH hf (fun h_3 hf => ?_)
  refine V_aload_n (pc' := 16) dX7_init_15 rfl 0 rfl rfl ?_
  refine V_bipush (v := 8) (pc' := 18) dX7_init_16 rfl (by decide) ?_
  refine V_csA (pc' := 21) (T := [.inr 0]) (As := [.int 8]) (rest := [.ref a0]) dX7_init_18 rfl mok_X10_rowOfNone (fun _ _ _ h => h.1.2.1) rfl rfl (Nat.le_of_ble_eq_true rfl) (by decide) (by decide) hf (fun q e => ct_X10_rowOfNone  e) (fun q_4 hq_4 hf => ?_)
  replace hs0 := sh_app (T := [.inr 0]) hs0
  refine V_putR (pc' := 24) 7 1 dX7_init_21 rfl (by decide) (Nat.le_of_ble_eq_true rfl) bm_264 hs0 (Or.inr ⟨rfl, rfl, rfl⟩) (fun _ _ _ => rfl) (fun _ => rfl) (fun _ => rfl) rfl hq_4 ?_
  refine V_nmH hf (fun h_5 hf => ?_)
  refine V_aload_n (pc' := 25) dX7_init_24 rfl 0 rfl rfl ?_
  refine V_bipush (v := 8) (pc' := 27) dX7_init_25 rfl (by decide) ?_
  refine V_newA (pc' := 29) 8 0 dX7_init_27 rfl (by simp) (by decide) (by decide) hf (fun h_6 hnh_6 hf => ?_)
  replace hs0 := sh_app (T := [.inr 0]) hs0
  refine V_putR (pc' := 32) 7 2 dX7_init_29 rfl (by decide) (Nat.le_of_ble_eq_true rfl) bm_266 hs0 (Or.inr ⟨rfl, rfl, rfl⟩) (fun _ _ _ => rfl) (fun _ => rfl) (fun _ => rfl) rfl hnh_6 ?_
  refine V_nmH hf (fun h_7 hf => ?_)
  refine V_aload_n (pc' := 33) dX7_init_32 rfl 0 rfl rfl ?_
  refine V_newO (pc' := 36) 6 (by decide) dX7_init_33 rfl bm_238 bm_164 bm_119 (by decide) hf (fun h_8 hnh_8 hf => ?_)
  replace hs0 := sh_app (T := [.inl 6]) hs0
  refine V_dup (pc' := 37) dX7_init_36 rfl rfl ?_
  refine V_bipush (v := 8) (pc' := 39) dX7_init_37 rfl (by decide) ?_
  refine V_bipush (v := 12) (pc' := 41) dX7_init_39 rfl (by decide) ?_
  refine V_ciA (pc' := 44) (T := [.inr 0, .inr 0]) (As := [.int 8, .int 12]) (rest := [.ref (gZ h_7), .ref a0]) dX7_init_41 rfl mok_X6_init bm_239 rfl rfl (Nat.le_of_ble_eq_true rfl) (by decide) (by decide) hf (fun q e => ct_X6_init hnh_8 e) (fun q_9 hf => ?_)
  replace hs0 := sh_app (T := [.inr 0, .inr 0]) hs0
  replace hnh_8 := sh_app (T := [.inr 0, .inr 0]) hnh_8
  refine V_putR (pc' := 47) 7 3 dX7_init_44 rfl (by decide) (Nat.le_of_ble_eq_true rfl) bm_268 hs0 (Or.inr ⟨rfl, rfl, rfl⟩) (fun _ _ _ => rfl) (fun _ => rfl) (fun _ => rfl) rfl hnh_8 ?_
  refine V_nmH hf (fun h_10 hf => ?_)
  refine V_aload_n (pc' := 48) dX7_init_47 rfl 0 rfl rfl ?_
  refine V_newO (pc' := 51) 6 (by decide) dX7_init_48 rfl bm_238 bm_164 bm_119 (by decide) hf (fun h_11 hnh_11 hf => ?_)
  replace hs0 := sh_app (T := [.inl 6]) hs0
  refine V_dup (pc' := 52) dX7_init_51 rfl rfl ?_
  refine V_bipush (v := 12) (pc' := 54) dX7_init_52 rfl (by decide) ?_
  refine V_bipush (v := 16) (pc' := 56) dX7_init_54 rfl (by decide) ?_
  refine V_ciA (pc' := 59) (T := [.inr 0, .inr 0]) (As := [.int 12, .int 16]) (rest := [.ref (gZ h_10), .ref a0]) dX7_init_56 rfl mok_X6_init bm_239 rfl rfl (Nat.le_of_ble_eq_true rfl) (by decide) (by decide) hf (fun q e => ct_X6_init hnh_11 e) (fun q_12 hf => ?_)
  replace hs0 := sh_app (T := [.inr 0, .inr 0]) hs0
  replace hnh_11 := sh_app (T := [.inr 0, .inr 0]) hnh_11
  refine V_putR (pc' := 62) 7 5 dX7_init_59 rfl (by decide) (Nat.le_of_ble_eq_true rfl) bm_272 hs0 (Or.inr ⟨rfl, rfl, rfl⟩) (fun _ _ _ => rfl) (fun _ => rfl) (fun _ => rfl) rfl hnh_11 ?_
  refine V_nmH hf (fun h_13 hf => ?_)
  refine V_aload_n (pc' := 63) dX7_init_62 rfl 0 rfl rfl ?_
  refine V_newO (pc' := 66) 5 (by decide) dX7_init_63 rfl bm_240 bm_241 bm_120 (by decide) hf (fun h_14 hnh_14 hf => ?_)
  replace hs0 := sh_app (T := [.inl 5]) hs0
  refine V_dup (pc' := 67) dX7_init_66 rfl rfl ?_
  refine V_bipush (v := 16) (pc' := 69) dX7_init_67 rfl (by decide) ?_
  refine V_ciA (pc' := 72) (T := [.inr 0]) (As := [.int 16]) (rest := [.ref (gZ h_13), .ref a0]) dX7_init_69 rfl mok_X5_init bm_242 rfl rfl (Nat.le_of_ble_eq_true rfl) (by decide) (by decide) hf (fun q e => ct_X5_init hnh_14 e) (fun q_15 hf => ?_)
  replace hs0 := sh_app (T := [.inr 0]) hs0
  replace hnh_14 := sh_app (T := [.inr 0]) hnh_14
  refine V_putR (pc' := 75) 7 6 dX7_init_72 rfl (by decide) (Nat.le_of_ble_eq_true rfl) bm_274 hs0 (Or.inr ⟨rfl, rfl, rfl⟩) (fun _ _ _ => rfl) (fun _ => rfl) (fun _ => rfl) rfl hnh_14 ?_
  refine V_nmH hf (fun h_16 hf => ?_)
  obtain rfl := Option.some.inj hf
  exact V_vret dX7_init_75 rfl rfl rfl ⟨rfl, by simp, rfl⟩
theorem ct_X7_init {l : Launch} {S : List SHP} {h : MH} {a0 : Nat} (hs0 : S[a0]? = some (.inl 7)) {q : MH} (hf : f_X7_init a0 h = some q) : CT l mX7_init 6 true 18 1917 S [.ref a0] h (QA S [.inl 2, .inr 0, .inr 0, .inr 0, .inr 0, .inl 6, .inr 0, .inr 0, .inr 0, .inr 0, .inl 6, .inr 0, .inr 0, .inl 6, .inr 0, .inr 0, .inl 5, .inr 0] q) :=
  CT_ofV (by decide) rfl (Nat.le_of_ble_eq_true rfl) (fun G B hT => v_X7_init hs0 hf)
/-! LabelStacks$Acts.<init>()V -/
theorem dX0_init_0 : decode cX0_init 0 = .ok (.aload_n 0, 1) := by decide +kernel
theorem dX0_init_1 : decode cX0_init 1 = .ok (.invokespecial 3, 3) := by decide +kernel
theorem dX0_init_4 : decode cX0_init 4 = .ok (.aload_n 0, 1) := by decide +kernel
theorem dX0_init_5 : decode cX0_init 5 = .ok (.bipush 6, 2) := by decide +kernel
theorem dX0_init_7 : decode cX0_init 7 = .ok (.anewarray 9, 3) := by decide +kernel
theorem dX0_init_10 : decode cX0_init 10 = .ok (.putfield 11, 3) := by decide +kernel
theorem dX0_init_13 : decode cX0_init 13 = .ok (.iconst 0, 1) := by decide +kernel
theorem dX0_init_14 : decode cX0_init 14 = .ok (.istore_n 1, 1) := by decide +kernel
theorem dX0_init_15 : decode cX0_init 15 = .ok (.iload_n 1, 1) := by decide +kernel
theorem dX0_init_16 : decode cX0_init 16 = .ok (.bipush 6, 2) := by decide +kernel
theorem dX0_init_18 : decode cX0_init 18 = .ok (.if_icmp .ge 22, 3) := by decide +kernel
theorem dX0_init_21 : decode cX0_init 21 = .ok (.aload_n 0, 1) := by decide +kernel
theorem dX0_init_22 : decode cX0_init 22 = .ok (.getfield 11, 3) := by decide +kernel
theorem dX0_init_25 : decode cX0_init 25 = .ok (.iload_n 1, 1) := by decide +kernel
theorem dX0_init_26 : decode cX0_init 26 = .ok (.new 9, 3) := by decide +kernel
theorem dX0_init_29 : decode cX0_init 29 = .ok (.dup, 1) := by decide +kernel
theorem dX0_init_30 : decode cX0_init 30 = .ok (.invokespecial 17, 3) := by decide +kernel
theorem dX0_init_33 : decode cX0_init 33 = .ok (.aastore, 1) := by decide +kernel
theorem dX0_init_34 : decode cX0_init 34 = .ok (.iinc 1 1, 3) := by decide +kernel
theorem dX0_init_37 : decode cX0_init 37 = .ok (.goto (-22), 3) := by decide +kernel
theorem dX0_init_40 : decode cX0_init 40 = .ok (.return_, 1) := by decide +kernel
abbrev mX0_init : MI := (RX0, yX0_init, cX0_init, 2, none)
theorem mok_X0_init : MOKi mX0_init 0 := ⟨⟨bm_297, bm_121, ⟨by decide, by decide⟩, by decide +kernel⟩, bm_296, rfl, rfl⟩
def f_X0_init   (a0 : Nat) (h : MH) : Option (MH) :=
  (nwA h 6 6).bind fun h_1 =>
  lt (sR h_1 a0 0 (some (gZ h))) fun h_2 =>
  (gR h_2 a0 0).bind fun a_3 =>
  lt (nW h_2 0) fun h_4 =>
  (f_X7_init (gZ h_2) h_4).bind fun q_5 =>
  (stR q_5 a_3 0 (gZ h_2)).bind fun h_6 =>
  (gR h_6 a0 0).bind fun a_7 =>
  lt (nW h_6 0) fun h_8 =>
  (f_X7_init (gZ h_6) h_8).bind fun q_9 =>
  (stR q_9 a_7 1 (gZ h_6)).bind fun h_10 =>
  (gR h_10 a0 0).bind fun a_11 =>
  lt (nW h_10 0) fun h_12 =>
  (f_X7_init (gZ h_10) h_12).bind fun q_13 =>
  (stR q_13 a_11 2 (gZ h_10)).bind fun h_14 =>
  (gR h_14 a0 0).bind fun a_15 =>
  lt (nW h_14 0) fun h_16 =>
  (f_X7_init (gZ h_14) h_16).bind fun q_17 =>
  (stR q_17 a_15 3 (gZ h_14)).bind fun h_18 =>
  (gR h_18 a0 0).bind fun a_19 =>
  lt (nW h_18 0) fun h_20 =>
  (f_X7_init (gZ h_18) h_20).bind fun q_21 =>
  (stR q_21 a_19 4 (gZ h_18)).bind fun h_22 =>
  (gR h_22 a0 0).bind fun a_23 =>
  lt (nW h_22 0) fun h_24 =>
  (f_X7_init (gZ h_22) h_24).bind fun q_25 =>
  (stR q_25 a_23 5 (gZ h_22)).bind fun h_26 =>
  some h_26
set_option maxRecDepth 100000 in
set_option maxHeartbeats 4000000 in
theorem v_X0_init {l : Launch} {G : GE} {B N : Nat} {S : List SHP} {o : MH} {a0 : Nat}    (hs0 : S[a0]? = some (.inl 0)) {h : MH} (hf : f_X0_init a0 h = some o) : V l G B N mX0_init (rmm 7 115 11550) true 115 11550 (QA S [.inr 3, .inl 7, .inl 2, .inr 0, .inr 0, .inr 0, .inr 0, .inl 6, .inr 0, .inr 0, .inr 0, .inr 0, .inl 6, .inr 0, .inr 0, .inl 6, .inr 0, .inr 0, .inl 5, .inr 0, .inl 7, .inl 2, .inr 0, .inr 0, .inr 0, .inr 0, .inl 6, .inr 0, .inr 0, .inr 0, .inr 0, .inl 6, .inr 0, .inr 0, .inl 6, .inr 0, .inr 0, .inl 5, .inr 0, .inl 7, .inl 2, .inr 0, .inr 0, .inr 0, .inr 0, .inl 6, .inr 0, .inr 0, .inr 0, .inr 0, .inl 6, .inr 0, .inr 0, .inl 6, .inr 0, .inr 0, .inl 5, .inr 0, .inl 7, .inl 2, .inr 0, .inr 0, .inr 0, .inr 0, .inl 6, .inr 0, .inr 0, .inr 0, .inr 0, .inl 6, .inr 0, .inr 0, .inl 6, .inr 0, .inr 0, .inl 5, .inr 0, .inl 7, .inl 2, .inr 0, .inr 0, .inr 0, .inr 0, .inl 6, .inr 0, .inr 0, .inr 0, .inr 0, .inl 6, .inr 0, .inr 0, .inl 6, .inr 0, .inr 0, .inl 5, .inr 0, .inl 7, .inl 2, .inr 0, .inr 0, .inr 0, .inr 0, .inl 6, .inr 0, .inr 0, .inr 0, .inr 0, .inl 6, .inr 0, .inr 0, .inl 6, .inr 0, .inr 0, .inl 5, .inr 0] o) S 0 0 0 [(0, .ref a0)] [] h := by
  unfold f_X0_init at hf
  refine V_aload_n (pc' := 1) dX0_init_0 rfl 0 rfl rfl ?_
  refine V_objInit (pc' := 4) dX0_init_1 rfl bm_298 (Nat.le_of_ble_eq_true rfl) (by decide) ?_
  refine V_aload_n (pc' := 5) dX0_init_4 rfl 0 rfl rfl ?_
  refine V_bipush (v := 6) (pc' := 7) dX0_init_5 rfl (by decide) ?_
  refine V_newS (pc' := 10) 6 dX0_init_7 rfl bm_299 (by decide) (by decide) hf (fun h_1 hnh_1 hf => ?_)
  replace hs0 := sh_app (T := [.inr 3]) hs0
  refine V_putR (pc' := 13) 0 0 dX0_init_10 rfl (by decide) (Nat.le_of_ble_eq_true rfl) bm_302 hs0 (Or.inr ⟨rfl, rfl, rfl⟩) (fun _ _ _ => rfl) (fun _ => rfl) (fun _ => rfl) rfl hnh_1 ?_
  refine V_nmH hf (fun h_2 hf => ?_)
  refine V_iconst (v := 0) (pc' := 14) dX0_init_13 rfl (by decide) ?_
  refine V_istore_n (lv' := [(1, .int 0), (0, .ref a0)]) (pc' := 15) dX0_init_14 rfl rfl (Nat.le_of_ble_eq_true rfl) rfl ?_
  refine V_iload_n (pc' := 16) dX0_init_15 rfl 0 rfl rfl ?_
  refine V_bipush (v := 6) (pc' := 18) dX0_init_16 rfl (by decide) ?_
  refine V_icmp_ge (A1 := some ()) (A2 := none) (o := ()) (tgt := 40) (pc' := 21) dX0_init_18 (by decide) rfl (by decide) (fun _ => ?_) (fun q => by cases q)
  refine V_aload_n (pc' := 22) dX0_init_21 rfl 1 rfl rfl ?_
  refine V_getR (pc' := 25) 0 0 dX0_init_22 rfl (by decide) (Nat.le_of_ble_eq_true rfl) bm_302 hs0 (fun _ _ _ => rfl) rfl hf (fun a_3 ha_3 hf => ?_)
  refine V_iload_n (pc' := 26) dX0_init_25 rfl 0 rfl rfl ?_
  refine V_newO (pc' := 29) 7 (by decide) dX0_init_26 rfl bm_299 bm_143 bm_115 (by decide) hf (fun h_4 hnh_4 hf => ?_)
  replace hs0 := sh_app (T := [.inl 7]) hs0
  replace ha_3 := sh_app (T := [.inl 7]) ha_3
  refine V_dup (pc' := 30) dX0_init_29 rfl rfl ?_
  refine V_ciA (pc' := 33) (T := [.inl 2, .inr 0, .inr 0, .inr 0, .inr 0, .inl 6, .inr 0, .inr 0, .inr 0, .inr 0, .inl 6, .inr 0, .inr 0, .inl 6, .inr 0, .inr 0, .inl 5, .inr 0]) (As := []) (rest := [.ref (gZ h_2), .int 0, .ref a_3]) dX0_init_30 rfl mok_X7_init bm_301 rfl rfl (Nat.le_of_ble_eq_true rfl) (by decide) (by decide) hf (fun q e => ct_X7_init hnh_4 e) (fun q_5 hf => ?_)
  replace hs0 := sh_app (T := [.inl 2, .inr 0, .inr 0, .inr 0, .inr 0, .inl 6, .inr 0, .inr 0, .inr 0, .inr 0, .inl 6, .inr 0, .inr 0, .inl 6, .inr 0, .inr 0, .inl 5, .inr 0]) hs0
  replace ha_3 := sh_app (T := [.inl 2, .inr 0, .inr 0, .inr 0, .inr 0, .inl 6, .inr 0, .inr 0, .inr 0, .inr 0, .inl 6, .inr 0, .inr 0, .inl 6, .inr 0, .inr 0, .inl 5, .inr 0]) ha_3
  replace hnh_4 := sh_app (T := [.inl 2, .inr 0, .inr 0, .inr 0, .inr 0, .inl 6, .inr 0, .inr 0, .inr 0, .inr 0, .inl 6, .inr 0, .inr 0, .inl 6, .inr 0, .inr 0, .inl 5, .inr 0]) hnh_4
  refine V_aast (pc' := 34) dX0_init_33 rfl ha_3 hnh_4 hf (fun h_6 hf => ?_)
  refine V_iinc (v := 1) (lv' := [(1, .int 1), (0, .ref a0)]) (pc' := 37) dX0_init_34 rfl 0 rfl (by decide) (Nat.le_of_ble_eq_true rfl) rfl ?_
  refine V_goto (tgt := 15) dX0_init_37 (by decide) ?_
  refine V_iload_n (pc' := 16) dX0_init_15 rfl 0 rfl rfl ?_
  refine V_bipush (v := 6) (pc' := 18) dX0_init_16 rfl (by decide) ?_
  refine V_icmp_ge (A1 := some ()) (A2 := none) (o := ()) (tgt := 40) (pc' := 21) dX0_init_18 (by decide) rfl (by decide) (fun _ => ?_) (fun q => by cases q)
  refine V_aload_n (pc' := 22) dX0_init_21 rfl 1 rfl rfl ?_
  refine V_getR (pc' := 25) 0 0 dX0_init_22 rfl (by decide) (Nat.le_of_ble_eq_true rfl) bm_302 hs0 (fun _ _ _ => rfl) rfl hf (fun a_7 ha_7 hf => ?_)
  refine V_iload_n (pc' := 26) dX0_init_25 rfl 0 rfl rfl ?_
  refine V_newO (pc' := 29) 7 (by decide) dX0_init_26 rfl bm_299 bm_143 bm_115 (by decide) hf (fun h_8 hnh_8 hf => ?_)
  replace hs0 := sh_app (T := [.inl 7]) hs0
  replace ha_7 := sh_app (T := [.inl 7]) ha_7
  refine V_dup (pc' := 30) dX0_init_29 rfl rfl ?_
  refine V_ciA (pc' := 33) (T := [.inl 2, .inr 0, .inr 0, .inr 0, .inr 0, .inl 6, .inr 0, .inr 0, .inr 0, .inr 0, .inl 6, .inr 0, .inr 0, .inl 6, .inr 0, .inr 0, .inl 5, .inr 0]) (As := []) (rest := [.ref (gZ h_6), .int 1, .ref a_7]) dX0_init_30 rfl mok_X7_init bm_301 rfl rfl (Nat.le_of_ble_eq_true rfl) (by decide) (by decide) hf (fun q e => ct_X7_init hnh_8 e) (fun q_9 hf => ?_)
  replace hs0 := sh_app (T := [.inl 2, .inr 0, .inr 0, .inr 0, .inr 0, .inl 6, .inr 0, .inr 0, .inr 0, .inr 0, .inl 6, .inr 0, .inr 0, .inl 6, .inr 0, .inr 0, .inl 5, .inr 0]) hs0
  replace ha_7 := sh_app (T := [.inl 2, .inr 0, .inr 0, .inr 0, .inr 0, .inl 6, .inr 0, .inr 0, .inr 0, .inr 0, .inl 6, .inr 0, .inr 0, .inl 6, .inr 0, .inr 0, .inl 5, .inr 0]) ha_7
  replace hnh_8 := sh_app (T := [.inl 2, .inr 0, .inr 0, .inr 0, .inr 0, .inl 6, .inr 0, .inr 0, .inr 0, .inr 0, .inl 6, .inr 0, .inr 0, .inl 6, .inr 0, .inr 0, .inl 5, .inr 0]) hnh_8
  refine V_aast (pc' := 34) dX0_init_33 rfl ha_7 hnh_8 hf (fun h_10 hf => ?_)
  refine V_iinc (v := 2) (lv' := [(1, .int 2), (0, .ref a0)]) (pc' := 37) dX0_init_34 rfl 0 rfl (by decide) (Nat.le_of_ble_eq_true rfl) rfl ?_
  refine V_goto (tgt := 15) dX0_init_37 (by decide) ?_
  refine V_iload_n (pc' := 16) dX0_init_15 rfl 0 rfl rfl ?_
  refine V_bipush (v := 6) (pc' := 18) dX0_init_16 rfl (by decide) ?_
  refine V_icmp_ge (A1 := some ()) (A2 := none) (o := ()) (tgt := 40) (pc' := 21) dX0_init_18 (by decide) rfl (by decide) (fun _ => ?_) (fun q => by cases q)
  refine V_aload_n (pc' := 22) dX0_init_21 rfl 1 rfl rfl ?_
  refine V_getR (pc' := 25) 0 0 dX0_init_22 rfl (by decide) (Nat.le_of_ble_eq_true rfl) bm_302 hs0 (fun _ _ _ => rfl) rfl hf (fun a_11 ha_11 hf => ?_)
  refine V_iload_n (pc' := 26) dX0_init_25 rfl 0 rfl rfl ?_
  refine V_newO (pc' := 29) 7 (by decide) dX0_init_26 rfl bm_299 bm_143 bm_115 (by decide) hf (fun h_12 hnh_12 hf => ?_)
  replace hs0 := sh_app (T := [.inl 7]) hs0
  replace ha_11 := sh_app (T := [.inl 7]) ha_11
  refine V_dup (pc' := 30) dX0_init_29 rfl rfl ?_
  refine V_ciA (pc' := 33) (T := [.inl 2, .inr 0, .inr 0, .inr 0, .inr 0, .inl 6, .inr 0, .inr 0, .inr 0, .inr 0, .inl 6, .inr 0, .inr 0, .inl 6, .inr 0, .inr 0, .inl 5, .inr 0]) (As := []) (rest := [.ref (gZ h_10), .int 2, .ref a_11]) dX0_init_30 rfl mok_X7_init bm_301 rfl rfl (Nat.le_of_ble_eq_true rfl) (by decide) (by decide) hf (fun q e => ct_X7_init hnh_12 e) (fun q_13 hf => ?_)
  replace hs0 := sh_app (T := [.inl 2, .inr 0, .inr 0, .inr 0, .inr 0, .inl 6, .inr 0, .inr 0, .inr 0, .inr 0, .inl 6, .inr 0, .inr 0, .inl 6, .inr 0, .inr 0, .inl 5, .inr 0]) hs0
  replace ha_11 := sh_app (T := [.inl 2, .inr 0, .inr 0, .inr 0, .inr 0, .inl 6, .inr 0, .inr 0, .inr 0, .inr 0, .inl 6, .inr 0, .inr 0, .inl 6, .inr 0, .inr 0, .inl 5, .inr 0]) ha_11
  replace hnh_12 := sh_app (T := [.inl 2, .inr 0, .inr 0, .inr 0, .inr 0, .inl 6, .inr 0, .inr 0, .inr 0, .inr 0, .inl 6, .inr 0, .inr 0, .inl 6, .inr 0, .inr 0, .inl 5, .inr 0]) hnh_12
  refine V_aast (pc' := 34) dX0_init_33 rfl ha_11 hnh_12 hf (fun h_14 hf => ?_)
  refine V_iinc (v := 3) (lv' := [(1, .int 3), (0, .ref a0)]) (pc' := 37) dX0_init_34 rfl 0 rfl (by decide) (Nat.le_of_ble_eq_true rfl) rfl ?_
  refine V_goto (tgt := 15) dX0_init_37 (by decide) ?_
  refine V_iload_n (pc' := 16) dX0_init_15 rfl 0 rfl rfl ?_
  refine V_bipush (v := 6) (pc' := 18) dX0_init_16 rfl (by decide) ?_
  refine V_icmp_ge (A1 := some ()) (A2 := none) (o := ()) (tgt := 40) (pc' := 21) dX0_init_18 (by decide) rfl (by decide) (fun _ => ?_) (fun q => by cases q)
  refine V_aload_n (pc' := 22) dX0_init_21 rfl 1 rfl rfl ?_
  refine V_getR (pc' := 25) 0 0 dX0_init_22 rfl (by decide) (Nat.le_of_ble_eq_true rfl) bm_302 hs0 (fun _ _ _ => rfl) rfl hf (fun a_15 ha_15 hf => ?_)
  refine V_iload_n (pc' := 26) dX0_init_25 rfl 0 rfl rfl ?_
  refine V_newO (pc' := 29) 7 (by decide) dX0_init_26 rfl bm_299 bm_143 bm_115 (by decide) hf (fun h_16 hnh_16 hf => ?_)
  replace hs0 := sh_app (T := [.inl 7]) hs0
  replace ha_15 := sh_app (T := [.inl 7]) ha_15
  refine V_dup (pc' := 30) dX0_init_29 rfl rfl ?_
  refine V_ciA (pc' := 33) (T := [.inl 2, .inr 0, .inr 0, .inr 0, .inr 0, .inl 6, .inr 0, .inr 0, .inr 0, .inr 0, .inl 6, .inr 0, .inr 0, .inl 6, .inr 0, .inr 0, .inl 5, .inr 0]) (As := []) (rest := [.ref (gZ h_14), .int 3, .ref a_15]) dX0_init_30 rfl mok_X7_init bm_301 rfl rfl (Nat.le_of_ble_eq_true rfl) (by decide) (by decide) hf (fun q e => ct_X7_init hnh_16 e) (fun q_17 hf => ?_)
  replace hs0 := sh_app (T := [.inl 2, .inr 0, .inr 0, .inr 0, .inr 0, .inl 6, .inr 0, .inr 0, .inr 0, .inr 0, .inl 6, .inr 0, .inr 0, .inl 6, .inr 0, .inr 0, .inl 5, .inr 0]) hs0
  replace ha_15 := sh_app (T := [.inl 2, .inr 0, .inr 0, .inr 0, .inr 0, .inl 6, .inr 0, .inr 0, .inr 0, .inr 0, .inl 6, .inr 0, .inr 0, .inl 6, .inr 0, .inr 0, .inl 5, .inr 0]) ha_15
  replace hnh_16 := sh_app (T := [.inl 2, .inr 0, .inr 0, .inr 0, .inr 0, .inl 6, .inr 0, .inr 0, .inr 0, .inr 0, .inl 6, .inr 0, .inr 0, .inl 6, .inr 0, .inr 0, .inl 5, .inr 0]) hnh_16
  refine V_aast (pc' := 34) dX0_init_33 rfl ha_15 hnh_16 hf (fun h_18 hf => ?_)
  refine V_iinc (v := 4) (lv' := [(1, .int 4), (0, .ref a0)]) (pc' := 37) dX0_init_34 rfl 0 rfl (by decide) (Nat.le_of_ble_eq_true rfl) rfl ?_
  refine V_goto (tgt := 15) dX0_init_37 (by decide) ?_
  refine V_iload_n (pc' := 16) dX0_init_15 rfl 0 rfl rfl ?_
  refine V_bipush (v := 6) (pc' := 18) dX0_init_16 rfl (by decide) ?_
  refine V_icmp_ge (A1 := some ()) (A2 := none) (o := ()) (tgt := 40) (pc' := 21) dX0_init_18 (by decide) rfl (by decide) (fun _ => ?_) (fun q => by cases q)
  refine V_aload_n (pc' := 22) dX0_init_21 rfl 1 rfl rfl ?_
  refine V_getR (pc' := 25) 0 0 dX0_init_22 rfl (by decide) (Nat.le_of_ble_eq_true rfl) bm_302 hs0 (fun _ _ _ => rfl) rfl hf (fun a_19 ha_19 hf => ?_)
  refine V_iload_n (pc' := 26) dX0_init_25 rfl 0 rfl rfl ?_
  refine V_newO (pc' := 29) 7 (by decide) dX0_init_26 rfl bm_299 bm_143 bm_115 (by decide) hf (fun h_20 hnh_20 hf => ?_)
  replace hs0 := sh_app (T := [.inl 7]) hs0
  replace ha_19 := sh_app (T := [.inl 7]) ha_19
  refine V_dup (pc' := 30) dX0_init_29 rfl rfl ?_
  refine V_ciA (pc' := 33) (T := [.inl 2, .inr 0, .inr 0, .inr 0, .inr 0, .inl 6, .inr 0, .inr 0, .inr 0, .inr 0, .inl 6, .inr 0, .inr 0, .inl 6, .inr 0, .inr 0, .inl 5, .inr 0]) (As := []) (rest := [.ref (gZ h_18), .int 4, .ref a_19]) dX0_init_30 rfl mok_X7_init bm_301 rfl rfl (Nat.le_of_ble_eq_true rfl) (by decide) (by decide) hf (fun q e => ct_X7_init hnh_20 e) (fun q_21 hf => ?_)
  replace hs0 := sh_app (T := [.inl 2, .inr 0, .inr 0, .inr 0, .inr 0, .inl 6, .inr 0, .inr 0, .inr 0, .inr 0, .inl 6, .inr 0, .inr 0, .inl 6, .inr 0, .inr 0, .inl 5, .inr 0]) hs0
  replace ha_19 := sh_app (T := [.inl 2, .inr 0, .inr 0, .inr 0, .inr 0, .inl 6, .inr 0, .inr 0, .inr 0, .inr 0, .inl 6, .inr 0, .inr 0, .inl 6, .inr 0, .inr 0, .inl 5, .inr 0]) ha_19
  replace hnh_20 := sh_app (T := [.inl 2, .inr 0, .inr 0, .inr 0, .inr 0, .inl 6, .inr 0, .inr 0, .inr 0, .inr 0, .inl 6, .inr 0, .inr 0, .inl 6, .inr 0, .inr 0, .inl 5, .inr 0]) hnh_20
  refine V_aast (pc' := 34) dX0_init_33 rfl ha_19 hnh_20 hf (fun h_22 hf => ?_)
  refine V_iinc (v := 5) (lv' := [(1, .int 5), (0, .ref a0)]) (pc' := 37) dX0_init_34 rfl 0 rfl (by decide) (Nat.le_of_ble_eq_true rfl) rfl ?_
  refine V_goto (tgt := 15) dX0_init_37 (by decide) ?_
  refine V_iload_n (pc' := 16) dX0_init_15 rfl 0 rfl rfl ?_
  refine V_bipush (v := 6) (pc' := 18) dX0_init_16 rfl (by decide) ?_
  refine V_icmp_ge (A1 := some ()) (A2 := none) (o := ()) (tgt := 40) (pc' := 21) dX0_init_18 (by decide) rfl (by decide) (fun _ => ?_) (fun q => by cases q)
  refine V_aload_n (pc' := 22) dX0_init_21 rfl 1 rfl rfl ?_
  refine V_getR (pc' := 25) 0 0 dX0_init_22 rfl (by decide) (Nat.le_of_ble_eq_true rfl) bm_302 hs0 (fun _ _ _ => rfl) rfl hf (fun a_23 ha_23 hf => ?_)
  refine V_iload_n (pc' := 26) dX0_init_25 rfl 0 rfl rfl ?_
  refine V_newO (pc' := 29) 7 (by decide) dX0_init_26 rfl bm_299 bm_143 bm_115 (by decide) hf (fun h_24 hnh_24 hf => ?_)
  replace hs0 := sh_app (T := [.inl 7]) hs0
  replace ha_23 := sh_app (T := [.inl 7]) ha_23
  refine V_dup (pc' := 30) dX0_init_29 rfl rfl ?_
  refine V_ciA (pc' := 33) (T := [.inl 2, .inr 0, .inr 0, .inr 0, .inr 0, .inl 6, .inr 0, .inr 0, .inr 0, .inr 0, .inl 6, .inr 0, .inr 0, .inl 6, .inr 0, .inr 0, .inl 5, .inr 0]) (As := []) (rest := [.ref (gZ h_22), .int 5, .ref a_23]) dX0_init_30 rfl mok_X7_init bm_301 rfl rfl (Nat.le_of_ble_eq_true rfl) (by decide) (by decide) hf (fun q e => ct_X7_init hnh_24 e) (fun q_25 hf => ?_)
  replace hs0 := sh_app (T := [.inl 2, .inr 0, .inr 0, .inr 0, .inr 0, .inl 6, .inr 0, .inr 0, .inr 0, .inr 0, .inl 6, .inr 0, .inr 0, .inl 6, .inr 0, .inr 0, .inl 5, .inr 0]) hs0
  replace ha_23 := sh_app (T := [.inl 2, .inr 0, .inr 0, .inr 0, .inr 0, .inl 6, .inr 0, .inr 0, .inr 0, .inr 0, .inl 6, .inr 0, .inr 0, .inl 6, .inr 0, .inr 0, .inl 5, .inr 0]) ha_23
  replace hnh_24 := sh_app (T := [.inl 2, .inr 0, .inr 0, .inr 0, .inr 0, .inl 6, .inr 0, .inr 0, .inr 0, .inr 0, .inl 6, .inr 0, .inr 0, .inl 6, .inr 0, .inr 0, .inl 5, .inr 0]) hnh_24
  refine V_aast (pc' := 34) dX0_init_33 rfl ha_23 hnh_24 hf (fun h_26 hf => ?_)
  refine V_iinc (v := 6) (lv' := [(1, .int 6), (0, .ref a0)]) (pc' := 37) dX0_init_34 rfl 0 rfl (by decide) (Nat.le_of_ble_eq_true rfl) rfl ?_
  refine V_goto (tgt := 15) dX0_init_37 (by decide) ?_
  refine V_iload_n (pc' := 16) dX0_init_15 rfl 0 rfl rfl ?_
  refine V_bipush (v := 6) (pc' := 18) dX0_init_16 rfl (by decide) ?_
  refine V_icmp_ge (A1 := none) (A2 := some ()) (o := ()) (tgt := 40) (pc' := 21) dX0_init_18 (by decide) rfl (by decide) (fun q => by cases q) (fun _ => ?_)
  obtain rfl := Option.some.inj hf
  exact V_vret dX0_init_40 rfl rfl rfl ⟨rfl, by simp, rfl⟩
theorem ct_X0_init {l : Launch} {S : List SHP} {h : MH} {a0 : Nat} (hs0 : S[a0]? = some (.inl 0)) {q : MH} (hf : f_X0_init a0 h = some q) : CT l mX0_init 7 true 115 11550 S [.ref a0] h (QA S [.inr 3, .inl 7, .inl 2, .inr 0, .inr 0, .inr 0, .inr 0, .inl 6, .inr 0, .inr 0, .inr 0, .inr 0, .inl 6, .inr 0, .inr 0, .inl 6, .inr 0, .inr 0, .inl 5, .inr 0, .inl 7, .inl 2, .inr 0, .inr 0, .inr 0, .inr 0, .inl 6, .inr 0, .inr 0, .inr 0, .inr 0, .inl 6, .inr 0, .inr 0, .inl 6, .inr 0, .inr 0, .inl 5, .inr 0, .inl 7, .inl 2, .inr 0, .inr 0, .inr 0, .inr 0, .inl 6, .inr 0, .inr 0, .inr 0, .inr 0, .inl 6, .inr 0, .inr 0, .inl 6, .inr 0, .inr 0, .inl 5, .inr 0, .inl 7, .inl 2, .inr 0, .inr 0, .inr 0, .inr 0, .inl 6, .inr 0, .inr 0, .inr 0, .inr 0, .inl 6, .inr 0, .inr 0, .inl 6, .inr 0, .inr 0, .inl 5, .inr 0, .inl 7, .inl 2, .inr 0, .inr 0, .inr 0, .inr 0, .inl 6, .inr 0, .inr 0, .inr 0, .inr 0, .inl 6, .inr 0, .inr 0, .inl 6, .inr 0, .inr 0, .inl 5, .inr 0, .inl 7, .inl 2, .inr 0, .inr 0, .inr 0, .inr 0, .inl 6, .inr 0, .inr 0, .inr 0, .inr 0, .inl 6, .inr 0, .inr 0, .inl 6, .inr 0, .inr 0, .inl 5, .inr 0] q) :=
  CT_ofV (by decide) rfl (Nat.le_of_ble_eq_true rfl) (fun G B hT => v_X0_init hs0 hf)
/-! LabelStacks$Fractions.<init>(I)V -/
theorem dX1_init_0 : decode cX1_init 0 = .ok (.aload_n 0, 1) := by decide +kernel
theorem dX1_init_1 : decode cX1_init 1 = .ok (.invokespecial 3, 3) := by decide +kernel
theorem dX1_init_4 : decode cX1_init 4 = .ok (.aload_n 0, 1) := by decide +kernel
theorem dX1_init_5 : decode cX1_init 5 = .ok (.iconst 0, 1) := by decide +kernel
theorem dX1_init_6 : decode cX1_init 6 = .ok (.iload_n 1, 1) := by decide +kernel
theorem dX1_init_7 : decode cX1_init 7 = .ok (.invokestatic 9, 3) := by decide +kernel
theorem dX1_init_10 : decode cX1_init 10 = .ok (.newarray .long, 2) := by decide +kernel
theorem dX1_init_12 : decode cX1_init 12 = .ok (.putfield 15, 3) := by decide +kernel
theorem dX1_init_15 : decode cX1_init 15 = .ok (.aload_n 0, 1) := by decide +kernel
theorem dX1_init_16 : decode cX1_init 16 = .ok (.iconst 0, 1) := by decide +kernel
theorem dX1_init_17 : decode cX1_init 17 = .ok (.iload_n 1, 1) := by decide +kernel
theorem dX1_init_18 : decode cX1_init 18 = .ok (.invokestatic 9, 3) := by decide +kernel
theorem dX1_init_21 : decode cX1_init 21 = .ok (.newarray .long, 2) := by decide +kernel
theorem dX1_init_23 : decode cX1_init 23 = .ok (.putfield 21, 3) := by decide +kernel
theorem dX1_init_26 : decode cX1_init 26 = .ok (.iconst 0, 1) := by decide +kernel
theorem dX1_init_27 : decode cX1_init 27 = .ok (.istore_n 2, 1) := by decide +kernel
theorem dX1_init_28 : decode cX1_init 28 = .ok (.iload_n 2, 1) := by decide +kernel
theorem dX1_init_29 : decode cX1_init 29 = .ok (.aload_n 0, 1) := by decide +kernel
theorem dX1_init_30 : decode cX1_init 30 = .ok (.getfield 21, 3) := by decide +kernel
theorem dX1_init_33 : decode cX1_init 33 = .ok (.arraylength, 1) := by decide +kernel
theorem dX1_init_34 : decode cX1_init 34 = .ok (.if_icmp .ge 16, 3) := by decide +kernel
theorem dX1_init_37 : decode cX1_init 37 = .ok (.aload_n 0, 1) := by decide +kernel
theorem dX1_init_38 : decode cX1_init 38 = .ok (.getfield 21, 3) := by decide +kernel
theorem dX1_init_41 : decode cX1_init 41 = .ok (.iload_n 2, 1) := by decide +kernel
theorem dX1_init_42 : decode cX1_init 42 = .ok (.lconst 1, 1) := by decide +kernel
theorem dX1_init_43 : decode cX1_init 43 = .ok (.lastore, 1) := by decide +kernel
theorem dX1_init_44 : decode cX1_init 44 = .ok (.iinc 2 1, 3) := by decide +kernel
theorem dX1_init_47 : decode cX1_init 47 = .ok (.goto (-19), 3) := by decide +kernel
theorem dX1_init_50 : decode cX1_init 50 = .ok (.return_, 1) := by decide +kernel
abbrev mX1_init : MI := (RX1, yX1_init, cX1_init, 3, none)
theorem mok_X1_init : MOKi mX1_init 1 := ⟨⟨bm_403, bm_126, ⟨by decide, by decide⟩, by decide +kernel⟩, bm_402, rfl, rfl⟩
def f_X1_init_28b   (a0 : Nat) (k28 : Int32 → MH → Option (MH)) (p : Int32) (h : MH) : Option (MH) :=
  (gR h a0 1).bind fun a_1 =>
  if p < (Int32.ofNat (gN h a_1)) then
    (gR h a0 1).bind fun a_2 =>
    (stL h a_2 p 1).bind fun h_3 =>
    k28 (p + 1) h_3
  else
    some h
def f_X1_init_28   (a0 : Nat) : Nat → Int32 → MH → Option (MH) := lp (f_X1_init_28b a0)
def f_X1_init   (a0 : Nat) (x1 : Int32) (h : MH) : Option (MH) :=
  lt ((if 0 < x1 then x1 else 0) : Int32) fun x_1 =>
  (nwA h x_1 200).bind fun h_2 =>
  lt (sR h_2 a0 0 (some (gZ h))) fun h_3 =>
  lt ((if 0 < x1 then x1 else 0) : Int32) fun x_4 =>
  (nwA h_3 x_4 200).bind fun h_5 =>
  lt (sR h_5 a0 1 (some (gZ h_3))) fun h_6 =>
  f_X1_init_28 a0 FU 0 h_6
set_option maxRecDepth 100000 in
set_option maxHeartbeats 4000000 in
theorem v_X1_init_28b {l : Launch} {G : GE} {B N : Nat} {S : List SHP} {o : MH} {Q : Option Value → List SHP → MH → Prop} (hq : Q none S o) {a0 : Nat}    (hs0 : S[a0]? = some (.inl 1)) {k28 : Int32 → MH → Option (MH)} (hk28 : ∀ (p : Int32) (h : MH), k28 p h = some o → V l G B N mX1_init (rmm 3 2 400) true 2 400 Q S 2 400 28 [(0, .ref a0), (2, .int p)] [] h) {p : Int32} {h : MH} (hf : f_X1_init_28b a0 k28 p h = some o) : V l G B N mX1_init (rmm 3 2 400) true 2 400 Q S 2 400 28 [(0, .ref a0), (2, .int p)] [] h := by
  unfold f_X1_init_28b at hf
  refine V_iload_n (pc' := 29) dX1_init_28 rfl 1 rfl rfl ?_
  refine V_aload_n (pc' := 30) dX1_init_29 rfl 0 rfl rfl ?_
  refine V_getR (pc' := 33) 1 1 dX1_init_30 rfl (by decide) (Nat.le_of_ble_eq_true rfl) bm_407 hs0 (fun _ _ _ => rfl) rfl hf (fun a_1 ha_1 hf => ?_)
  refine V_alen (pc' := 34) dX1_init_33 rfl ha_1 (by decide) ?_
  refine V_icmp_ge (tgt := 50) (pc' := 37) dX1_init_34 (by decide) rfl hf (fun hf => ?_) (fun hf => ?_)
  ·
    refine V_aload_n (pc' := 38) dX1_init_37 rfl 0 rfl rfl ?_
    refine V_getR (pc' := 41) 1 1 dX1_init_38 rfl (by decide) (Nat.le_of_ble_eq_true rfl) bm_407 hs0 (fun _ _ _ => rfl) rfl hf (fun a_2 ha_2 hf => ?_)
    refine V_iload_n (pc' := 42) dX1_init_41 rfl 1 rfl rfl ?_
    refine V_lconst (v := 1) (pc' := 43) dX1_init_42 rfl (by decide) ?_
    refine V_last (pc' := 44) dX1_init_43 rfl ha_2 hf (fun h_3 hf => ?_)
    refine V_iinc (v := (p + 1)) (lv' := [(2, .int (p + 1)), (0, .ref a0)]) (pc' := 47) dX1_init_44 rfl 1 rfl rfl (Nat.le_of_ble_eq_true rfl) rfl ?_
    refine V_goto (tgt := 28) dX1_init_47 (by decide) ?_
    exact V_sub (lv' := [(0, .ref a0), (2, .int (p + 1))]) [1, 0] rfl (hk28 (p + 1) h_3 hf)
  ·
    obtain rfl := Option.some.inj hf
    exact V_vret dX1_init_50 rfl rfl rfl hq
theorem v_X1_init_28 {l : Launch} {G : GE} {B N : Nat} {S : List SHP} {o : MH} {Q : Option Value → List SHP → MH → Prop} (hq : Q none S o) {a0 : Nat}    (hs0 : S[a0]? = some (.inl 1)) {n : Nat} {p : Int32} {h : MH} (hf : f_X1_init_28 a0 n p h = some o) : V l G B N mX1_init (rmm 3 2 400) true 2 400 Q S 2 400 28 [(0, .ref a0), (2, .int p)] [] h :=
  V_lp (VV := fun p h => V l G B N mX1_init (rmm 3 2 400) true 2 400 Q S 2 400 28 [(0, .ref a0), (2, .int p)] [] h) (fun _ hk _ _ hf => v_X1_init_28b hq hs0 hk hf) n p h hf
set_option maxRecDepth 100000 in
set_option maxHeartbeats 4000000 in
theorem v_X1_init {l : Launch} {G : GE} {B N : Nat} {S : List SHP} {o : MH} {a0 : Nat} {x1 : Int32}    (hs0 : S[a0]? = some (.inl 1)) {h : MH} (hf : f_X1_init a0 x1 h = some o) : V l G B N mX1_init (rmm 3 2 400) true 2 400 (QA S [.inr 1, .inr 1] o) S 0 0 0 [(0, .ref a0), (1, .int x1)] [] h := by
  unfold f_X1_init at hf
  refine V_aload_n (pc' := 1) dX1_init_0 rfl 0 rfl rfl ?_
  refine V_objInit (pc' := 4) dX1_init_1 rfl bm_404 (Nat.le_of_ble_eq_true rfl) (by decide) ?_
  refine V_aload_n (pc' := 5) dX1_init_4 rfl 0 rfl rfl ?_
  refine V_iconst (v := 0) (pc' := 6) dX1_init_5 rfl (by decide) ?_
  refine V_iload_n (pc' := 7) dX1_init_6 rfl 1 rfl rfl ?_
  refine V_max (pc' := 10) dX1_init_7 rfl bm_405 (Nat.le_of_ble_eq_true rfl) (by decide) ?_
  refine V_nmI hf (fun x_1 hf => ?_)
  refine V_newA (pc' := 12) 200 1 dX1_init_10 rfl (by simp) (by decide) (by decide) hf (fun h_2 hnh_2 hf => ?_)
  replace hs0 := sh_app (T := [.inr 1]) hs0
  refine V_putR (pc' := 15) 1 0 dX1_init_12 rfl (by decide) (Nat.le_of_ble_eq_true rfl) bm_406 hs0 (Or.inr ⟨rfl, rfl, rfl⟩) (fun _ _ _ => rfl) (fun _ => rfl) (fun _ => rfl) rfl hnh_2 ?_
  refine V_nmH hf (fun h_3 hf => ?_)
  refine V_aload_n (pc' := 16) dX1_init_15 rfl 0 rfl rfl ?_
  refine V_iconst (v := 0) (pc' := 17) dX1_init_16 rfl (by decide) ?_
  refine V_iload_n (pc' := 18) dX1_init_17 rfl 1 rfl rfl ?_
  refine V_max (pc' := 21) dX1_init_18 rfl bm_405 (Nat.le_of_ble_eq_true rfl) (by decide) ?_
  refine V_nmI hf (fun x_4 hf => ?_)
  refine V_newA (pc' := 23) 200 1 dX1_init_21 rfl (by simp) (by decide) (by decide) hf (fun h_5 hnh_5 hf => ?_)
  replace hs0 := sh_app (T := [.inr 1]) hs0
  refine V_putR (pc' := 26) 1 1 dX1_init_23 rfl (by decide) (Nat.le_of_ble_eq_true rfl) bm_407 hs0 (Or.inr ⟨rfl, rfl, rfl⟩) (fun _ _ _ => rfl) (fun _ => rfl) (fun _ => rfl) rfl hnh_5 ?_
  refine V_nmH hf (fun h_6 hf => ?_)
  refine V_iconst (v := 0) (pc' := 27) dX1_init_26 rfl (by decide) ?_
  refine V_istore_n (lv' := [(2, .int 0), (0, .ref a0), (1, .int x1)]) (pc' := 28) dX1_init_27 rfl rfl (Nat.le_of_ble_eq_true rfl) rfl ?_
  exact V_sub (lv' := [(0, .ref a0), (2, .int 0)]) [1, 0] rfl (v_X1_init_28 ⟨rfl, by simp, rfl⟩ hs0 hf)
theorem ct_X1_init {l : Launch} {S : List SHP} {h : MH} {a0 : Nat} {x1 : Int32} (hs0 : S[a0]? = some (.inl 1)) {q : MH} (hf : f_X1_init a0 x1 h = some q) : CT l mX1_init 3 true 2 400 S [.ref a0, .int x1] h (QA S [.inr 1, .inr 1] q) :=
  CT_ofV (by decide) rfl (Nat.le_of_ble_eq_true rfl) (fun G B hT => v_X1_init hs0 hf)
/-! LabelStacks$Packet.<init>()V -/
theorem dX3_init_0 : decode cX3_init 0 = .ok (.aload_n 0, 1) := by decide +kernel
theorem dX3_init_1 : decode cX3_init 1 = .ok (.invokespecial 3, 3) := by decide +kernel
theorem dX3_init_4 : decode cX3_init 4 = .ok (.aload_n 0, 1) := by decide +kernel
theorem dX3_init_5 : decode cX3_init 5 = .ok (.new 9, 3) := by decide +kernel
theorem dX3_init_8 : decode cX3_init 8 = .ok (.dup, 1) := by decide +kernel
theorem dX3_init_9 : decode cX3_init 9 = .ok (.bipush 12, 2) := by decide +kernel
theorem dX3_init_11 : decode cX3_init 11 = .ok (.invokespecial 11, 3) := by decide +kernel
theorem dX3_init_14 : decode cX3_init 14 = .ok (.putfield 14, 3) := by decide +kernel
theorem dX3_init_17 : decode cX3_init 17 = .ok (.aload_n 0, 1) := by decide +kernel
theorem dX3_init_18 : decode cX3_init 18 = .ok (.new 9, 3) := by decide +kernel
theorem dX3_init_21 : decode cX3_init 21 = .ok (.dup, 1) := by decide +kernel
theorem dX3_init_22 : decode cX3_init 22 = .ok (.bipush 16, 2) := by decide +kernel
theorem dX3_init_24 : decode cX3_init 24 = .ok (.invokespecial 11, 3) := by decide +kernel
theorem dX3_init_27 : decode cX3_init 27 = .ok (.putfield 20, 3) := by decide +kernel
theorem dX3_init_30 : decode cX3_init 30 = .ok (.aload_n 0, 1) := by decide +kernel
theorem dX3_init_31 : decode cX3_init 31 = .ok (.new 23, 3) := by decide +kernel
theorem dX3_init_34 : decode cX3_init 34 = .ok (.dup, 1) := by decide +kernel
theorem dX3_init_35 : decode cX3_init 35 = .ok (.bipush 30, 2) := by decide +kernel
theorem dX3_init_37 : decode cX3_init 37 = .ok (.invokespecial 25, 3) := by decide +kernel
theorem dX3_init_40 : decode cX3_init 40 = .ok (.putfield 26, 3) := by decide +kernel
theorem dX3_init_43 : decode cX3_init 43 = .ok (.aload_n 0, 1) := by decide +kernel
theorem dX3_init_44 : decode cX3_init 44 = .ok (.bipush 18, 2) := by decide +kernel
theorem dX3_init_46 : decode cX3_init 46 = .ok (.newarray .int, 2) := by decide +kernel
theorem dX3_init_48 : decode cX3_init 48 = .ok (.putfield 30, 3) := by decide +kernel
theorem dX3_init_51 : decode cX3_init 51 = .ok (.aload_n 0, 1) := by decide +kernel
theorem dX3_init_52 : decode cX3_init 52 = .ok (.bipush 10, 2) := by decide +kernel
theorem dX3_init_54 : decode cX3_init 54 = .ok (.newarray .long, 2) := by decide +kernel
theorem dX3_init_56 : decode cX3_init 56 = .ok (.putfield 34, 3) := by decide +kernel
theorem dX3_init_59 : decode cX3_init 59 = .ok (.aload_n 0, 1) := by decide +kernel
theorem dX3_init_60 : decode cX3_init 60 = .ok (.bipush 30, 2) := by decide +kernel
theorem dX3_init_62 : decode cX3_init 62 = .ok (.newarray .long, 2) := by decide +kernel
theorem dX3_init_64 : decode cX3_init 64 = .ok (.putfield 38, 3) := by decide +kernel
theorem dX3_init_67 : decode cX3_init 67 = .ok (.aload_n 0, 1) := by decide +kernel
theorem dX3_init_68 : decode cX3_init 68 = .ok (.iconst (-1), 1) := by decide +kernel
theorem dX3_init_69 : decode cX3_init 69 = .ok (.putfield 41, 3) := by decide +kernel
theorem dX3_init_72 : decode cX3_init 72 = .ok (.return_, 1) := by decide +kernel
abbrev mX3_init : MI := (RX3, yX3_init, cX3_init, 1, none)
theorem mok_X3_init : MOKi mX3_init 0 := ⟨⟨bm_395, bm_125, ⟨by decide, by decide⟩, by decide +kernel⟩, bm_394, rfl, rfl⟩
def f_X3_init   (a0 : Nat) (h : MH) : Option (MH) :=
  lt (nW h 0) fun h_1 =>
  (f_X5_init (gZ h) 12 h_1).bind fun q_2 =>
  lt (sR q_2 a0 0 (some (gZ h))) fun h_3 =>
  lt (nW h_3 0) fun h_4 =>
  (f_X5_init (gZ h_3) 16 h_4).bind fun q_5 =>
  lt (sR q_5 a0 1 (some (gZ h_3))) fun h_6 =>
  lt (nW h_6 0) fun h_7 =>
  (f_X1_init (gZ h_6) 30 h_7).bind fun q_8 =>
  lt (sR q_8 a0 2 (some (gZ h_6))) fun h_9 =>
  (nwA h_9 18 18).bind fun h_10 =>
  lt (sR h_10 a0 3 (some (gZ h_9))) fun h_11 =>
  (nwA h_11 10 10).bind fun h_12 =>
  lt (sR h_12 a0 5 (some (gZ h_11))) fun h_13 =>
  (nwA h_13 30 30).bind fun h_14 =>
  lt (sR h_14 a0 6 (some (gZ h_13))) fun h_15 =>
  lt (sI h_15 a0 10 (-1 : Int32)) fun h_16 =>
  some h_16
set_option maxRecDepth 100000 in
set_option maxHeartbeats 4000000 in
theorem v_X3_init {l : Launch} {G : GE} {B N : Nat} {S : List SHP} {o : MH} {a0 : Nat}    (hs0 : S[a0]? = some (.inl 3)) {h : MH} (hf : f_X3_init a0 h = some o) : V l G B N mX3_init (rmm 4 10 864) true 10 864 (QA S [.inl 5, .inr 0, .inl 5, .inr 0, .inl 1, .inr 1, .inr 1, .inr 0, .inr 1, .inr 1] o) S 0 0 0 [(0, .ref a0)] [] h := by
  unfold f_X3_init at hf
  refine V_aload_n (pc' := 1) dX3_init_0 rfl 0 rfl rfl ?_
  refine V_objInit (pc' := 4) dX3_init_1 rfl bm_396 (Nat.le_of_ble_eq_true rfl) (by decide) ?_
  refine V_aload_n (pc' := 5) dX3_init_4 rfl 0 rfl rfl ?_
  refine V_newO (pc' := 8) 5 (by decide) dX3_init_5 rfl bm_397 bm_241 bm_120 (by decide) hf (fun h_1 hnh_1 hf => ?_)
  replace hs0 := sh_app (T := [.inl 5]) hs0
  refine V_dup (pc' := 9) dX3_init_8 rfl rfl ?_
  refine V_bipush (v := 12) (pc' := 11) dX3_init_9 rfl (by decide) ?_
  refine V_ciA (pc' := 14) (T := [.inr 0]) (As := [.int 12]) (rest := [.ref (gZ h), .ref a0]) dX3_init_11 rfl mok_X5_init bm_398 rfl rfl (Nat.le_of_ble_eq_true rfl) (by decide) (by decide) hf (fun q e => ct_X5_init hnh_1 e) (fun q_2 hf => ?_)
  replace hs0 := sh_app (T := [.inr 0]) hs0
  replace hnh_1 := sh_app (T := [.inr 0]) hnh_1
  refine V_putR (pc' := 17) 3 0 dX3_init_14 rfl (by decide) (Nat.le_of_ble_eq_true rfl) bm_413 hs0 (Or.inr ⟨rfl, rfl, rfl⟩) (fun _ _ _ => rfl) (fun _ => rfl) (fun _ => rfl) rfl hnh_1 ?_
  refine V_nmH hf (fun h_3 hf => ?_)
  refine V_aload_n (pc' := 18) dX3_init_17 rfl 0 rfl rfl ?_
  refine V_newO (pc' := 21) 5 (by decide) dX3_init_18 rfl bm_397 bm_241 bm_120 (by decide) hf (fun h_4 hnh_4 hf => ?_)
  replace hs0 := sh_app (T := [.inl 5]) hs0
  refine V_dup (pc' := 22) dX3_init_21 rfl rfl ?_
  refine V_bipush (v := 16) (pc' := 24) dX3_init_22 rfl (by decide) ?_
  refine V_ciA (pc' := 27) (T := [.inr 0]) (As := [.int 16]) (rest := [.ref (gZ h_3), .ref a0]) dX3_init_24 rfl mok_X5_init bm_398 rfl rfl (Nat.le_of_ble_eq_true rfl) (by decide) (by decide) hf (fun q e => ct_X5_init hnh_4 e) (fun q_5 hf => ?_)
  replace hs0 := sh_app (T := [.inr 0]) hs0
  replace hnh_4 := sh_app (T := [.inr 0]) hnh_4
  refine V_putR (pc' := 30) 3 1 dX3_init_27 rfl (by decide) (Nat.le_of_ble_eq_true rfl) bm_415 hs0 (Or.inr ⟨rfl, rfl, rfl⟩) (fun _ _ _ => rfl) (fun _ => rfl) (fun _ => rfl) rfl hnh_4 ?_
  refine V_nmH hf (fun h_6 hf => ?_)
  refine V_aload_n (pc' := 31) dX3_init_30 rfl 0 rfl rfl ?_
  refine V_newO (pc' := 34) 1 (by decide) dX3_init_31 rfl bm_399 bm_400 bm_126 (by decide) hf (fun h_7 hnh_7 hf => ?_)
  replace hs0 := sh_app (T := [.inl 1]) hs0
  refine V_dup (pc' := 35) dX3_init_34 rfl rfl ?_
  refine V_bipush (v := 30) (pc' := 37) dX3_init_35 rfl (by decide) ?_
  refine V_ciA (pc' := 40) (T := [.inr 1, .inr 1]) (As := [.int 30]) (rest := [.ref (gZ h_6), .ref a0]) dX3_init_37 rfl mok_X1_init bm_401 rfl rfl (Nat.le_of_ble_eq_true rfl) (by decide) (by decide) hf (fun q e => ct_X1_init hnh_7 e) (fun q_8 hf => ?_)
  replace hs0 := sh_app (T := [.inr 1, .inr 1]) hs0
  replace hnh_7 := sh_app (T := [.inr 1, .inr 1]) hnh_7
  refine V_putR (pc' := 43) 3 2 dX3_init_40 rfl (by decide) (Nat.le_of_ble_eq_true rfl) bm_417 hs0 (Or.inr ⟨rfl, rfl, rfl⟩) (fun _ _ _ => rfl) (fun _ => rfl) (fun _ => rfl) rfl hnh_7 ?_
  refine V_nmH hf (fun h_9 hf => ?_)
  refine V_aload_n (pc' := 44) dX3_init_43 rfl 0 rfl rfl ?_
  refine V_bipush (v := 18) (pc' := 46) dX3_init_44 rfl (by decide) ?_
  refine V_newA (pc' := 48) 18 0 dX3_init_46 rfl (by simp) (by decide) (by decide) hf (fun h_10 hnh_10 hf => ?_)
  replace hs0 := sh_app (T := [.inr 0]) hs0
  refine V_putR (pc' := 51) 3 3 dX3_init_48 rfl (by decide) (Nat.le_of_ble_eq_true rfl) bm_419 hs0 (Or.inr ⟨rfl, rfl, rfl⟩) (fun _ _ _ => rfl) (fun _ => rfl) (fun _ => rfl) rfl hnh_10 ?_
  refine V_nmH hf (fun h_11 hf => ?_)
  refine V_aload_n (pc' := 52) dX3_init_51 rfl 0 rfl rfl ?_
  refine V_bipush (v := 10) (pc' := 54) dX3_init_52 rfl (by decide) ?_
  refine V_newA (pc' := 56) 10 1 dX3_init_54 rfl (by simp) (by decide) (by decide) hf (fun h_12 hnh_12 hf => ?_)
  replace hs0 := sh_app (T := [.inr 1]) hs0
  refine V_putR (pc' := 59) 3 5 dX3_init_56 rfl (by decide) (Nat.le_of_ble_eq_true rfl) bm_421 hs0 (Or.inr ⟨rfl, rfl, rfl⟩) (fun _ _ _ => rfl) (fun _ => rfl) (fun _ => rfl) rfl hnh_12 ?_
  refine V_nmH hf (fun h_13 hf => ?_)
  refine V_aload_n (pc' := 60) dX3_init_59 rfl 0 rfl rfl ?_
  refine V_bipush (v := 30) (pc' := 62) dX3_init_60 rfl (by decide) ?_
  refine V_newA (pc' := 64) 30 1 dX3_init_62 rfl (by simp) (by decide) (by decide) hf (fun h_14 hnh_14 hf => ?_)
  replace hs0 := sh_app (T := [.inr 1]) hs0
  refine V_putR (pc' := 67) 3 6 dX3_init_64 rfl (by decide) (Nat.le_of_ble_eq_true rfl) bm_422 hs0 (Or.inr ⟨rfl, rfl, rfl⟩) (fun _ _ _ => rfl) (fun _ => rfl) (fun _ => rfl) rfl hnh_14 ?_
  refine V_nmH hf (fun h_15 hf => ?_)
  refine V_aload_n (pc' := 68) dX3_init_67 rfl 0 rfl rfl ?_
  refine V_iconst (v := (-1)) (pc' := 69) dX3_init_68 rfl (by decide) ?_
  refine V_putI (pc' := 72) 3 10 dX3_init_69 rfl (by decide) (Nat.le_of_ble_eq_true rfl) bm_428 hs0 (Or.inl rfl) rfl ?_
  refine V_nmH hf (fun h_16 hf => ?_)
  obtain rfl := Option.some.inj hf
  exact V_vret dX3_init_72 rfl rfl rfl ⟨rfl, by simp, rfl⟩
theorem ct_X3_init {l : Launch} {S : List SHP} {h : MH} {a0 : Nat} (hs0 : S[a0]? = some (.inl 3)) {q : MH} (hf : f_X3_init a0 h = some q) : CT l mX3_init 4 true 10 864 S [.ref a0] h (QA S [.inl 5, .inr 0, .inl 5, .inr 0, .inl 1, .inr 1, .inr 1, .inr 0, .inr 1, .inr 1] q) :=
  CT_ofV (by decide) rfl (Nat.le_of_ble_eq_true rfl) (fun G B hT => v_X3_init hs0 hf)
/-! LabelStacks$Routes.<init>()V -/
theorem dX4_init_0 : decode cX4_init 0 = .ok (.aload_n 0, 1) := by decide +kernel
theorem dX4_init_1 : decode cX4_init 1 = .ok (.invokespecial 3, 3) := by decide +kernel
theorem dX4_init_4 : decode cX4_init 4 = .ok (.aload_n 0, 1) := by decide +kernel
theorem dX4_init_5 : decode cX4_init 5 = .ok (.bipush 100, 2) := by decide +kernel
theorem dX4_init_7 : decode cX4_init 7 = .ok (.newarray .int, 2) := by decide +kernel
theorem dX4_init_9 : decode cX4_init 9 = .ok (.putfield 9, 3) := by decide +kernel
theorem dX4_init_12 : decode cX4_init 12 = .ok (.aload_n 0, 1) := by decide +kernel
theorem dX4_init_13 : decode cX4_init 13 = .ok (.bipush 100, 2) := by decide +kernel
theorem dX4_init_15 : decode cX4_init 15 = .ok (.newarray .long, 2) := by decide +kernel
theorem dX4_init_17 : decode cX4_init 17 = .ok (.putfield 15, 3) := by decide +kernel
theorem dX4_init_20 : decode cX4_init 20 = .ok (.return_, 1) := by decide +kernel
abbrev mX4_init : MI := (RX4, yX4_init, cX4_init, 1, none)
theorem mok_X4_init : MOKi mX4_init 0 := ⟨⟨bm_346, bm_123, ⟨by decide, by decide⟩, by decide +kernel⟩, bm_345, rfl, rfl⟩
def f_X4_init   (a0 : Nat) (h : MH) : Option (MH) :=
  (nwA h 100 100).bind fun h_1 =>
  lt (sR h_1 a0 0 (some (gZ h))) fun h_2 =>
  (nwA h_2 100 100).bind fun h_3 =>
  lt (sR h_3 a0 1 (some (gZ h_2))) fun h_4 =>
  some h_4
set_option maxRecDepth 100000 in
set_option maxHeartbeats 4000000 in
theorem v_X4_init {l : Launch} {G : GE} {B N : Nat} {S : List SHP} {o : MH} {a0 : Nat}    (hs0 : S[a0]? = some (.inl 4)) {h : MH} (hf : f_X4_init a0 h = some o) : V l G B N mX4_init (rmm 3 2 200) true 2 200 (QA S [.inr 0, .inr 1] o) S 0 0 0 [(0, .ref a0)] [] h := by
  unfold f_X4_init at hf
  refine V_aload_n (pc' := 1) dX4_init_0 rfl 0 rfl rfl ?_
  refine V_objInit (pc' := 4) dX4_init_1 rfl bm_347 (Nat.le_of_ble_eq_true rfl) (by decide) ?_
  refine V_aload_n (pc' := 5) dX4_init_4 rfl 0 rfl rfl ?_
  refine V_bipush (v := 100) (pc' := 7) dX4_init_5 rfl (by decide) ?_
  refine V_newA (pc' := 9) 100 0 dX4_init_7 rfl (by simp) (by decide) (by decide) hf (fun h_1 hnh_1 hf => ?_)
  replace hs0 := sh_app (T := [.inr 0]) hs0
  refine V_putR (pc' := 12) 4 0 dX4_init_9 rfl (by decide) (Nat.le_of_ble_eq_true rfl) bm_348 hs0 (Or.inr ⟨rfl, rfl, rfl⟩) (fun _ _ _ => rfl) (fun _ => rfl) (fun _ => rfl) rfl hnh_1 ?_
  refine V_nmH hf (fun h_2 hf => ?_)
  refine V_aload_n (pc' := 13) dX4_init_12 rfl 0 rfl rfl ?_
  refine V_bipush (v := 100) (pc' := 15) dX4_init_13 rfl (by decide) ?_
  refine V_newA (pc' := 17) 100 1 dX4_init_15 rfl (by simp) (by decide) (by decide) hf (fun h_3 hnh_3 hf => ?_)
  replace hs0 := sh_app (T := [.inr 1]) hs0
  refine V_putR (pc' := 20) 4 1 dX4_init_17 rfl (by decide) (Nat.le_of_ble_eq_true rfl) bm_349 hs0 (Or.inr ⟨rfl, rfl, rfl⟩) (fun _ _ _ => rfl) (fun _ => rfl) (fun _ => rfl) rfl hnh_3 ?_
  refine V_nmH hf (fun h_4 hf => ?_)
  obtain rfl := Option.some.inj hf
  exact V_vret dX4_init_20 rfl rfl rfl ⟨rfl, by simp, rfl⟩
theorem ct_X4_init {l : Launch} {S : List SHP} {h : MH} {a0 : Nat} (hs0 : S[a0]? = some (.inl 4)) {q : MH} (hf : f_X4_init a0 h = some q) : CT l mX4_init 3 true 2 200 S [.ref a0] h (QA S [.inr 0, .inr 1] q) :=
  CT_ofV (by decide) rfl (Nat.le_of_ble_eq_true rfl) (fun G B hT => v_X4_init hs0 hf)
/-! LabelStacks$Tape.<init>()V -/
theorem dX8_init_0 : decode cX8_init 0 = .ok (.aload_n 0, 1) := by decide +kernel
theorem dX8_init_1 : decode cX8_init 1 = .ok (.invokespecial 3, 3) := by decide +kernel
theorem dX8_init_4 : decode cX8_init 4 = .ok (.aload_n 0, 1) := by decide +kernel
theorem dX8_init_5 : decode cX8_init 5 = .ok (.sipush 500, 3) := by decide +kernel
theorem dX8_init_8 : decode cX8_init 8 = .ok (.newarray .byte, 2) := by decide +kernel
theorem dX8_init_10 : decode cX8_init 10 = .ok (.putfield 9, 3) := by decide +kernel
theorem dX8_init_13 : decode cX8_init 13 = .ok (.aload_n 0, 1) := by decide +kernel
theorem dX8_init_14 : decode cX8_init 14 = .ok (.iconst (-1), 1) := by decide +kernel
theorem dX8_init_15 : decode cX8_init 15 = .ok (.putfield 15, 3) := by decide +kernel
theorem dX8_init_18 : decode cX8_init 18 = .ok (.aload_n 0, 1) := by decide +kernel
theorem dX8_init_19 : decode cX8_init 19 = .ok (.new 19, 3) := by decide +kernel
theorem dX8_init_22 : decode cX8_init 22 = .ok (.dup, 1) := by decide +kernel
theorem dX8_init_23 : decode cX8_init 23 = .ok (.invokespecial 21, 3) := by decide +kernel
theorem dX8_init_26 : decode cX8_init 26 = .ok (.putfield 22, 3) := by decide +kernel
theorem dX8_init_29 : decode cX8_init 29 = .ok (.return_, 1) := by decide +kernel
abbrev mX8_init : MI := (RX8, yX8_init, cX8_init, 1, none)
theorem mok_X8_init : MOKi mX8_init 0 := ⟨⟨bm_314, bm_122, ⟨by decide, by decide⟩, by decide +kernel⟩, bm_313, rfl, rfl⟩
def f_X8_init   (a0 : Nat) (h : MH) : Option (MH) :=
  (nwA h 500 500).bind fun h_1 =>
  lt (sR h_1 a0 0 (some (gZ h))) fun h_2 =>
  lt (sI h_2 a0 4 (-1 : Int32)) fun h_3 =>
  lt (nW h_3 0) fun h_4 =>
  (f_X2_init (gZ h_3) h_4).bind fun q_5 =>
  lt (sR q_5 a0 5 (some (gZ h_3))) fun h_6 =>
  some h_6
set_option maxRecDepth 100000 in
set_option maxHeartbeats 4000000 in
theorem v_X8_init {l : Launch} {G : GE} {B N : Nat} {S : List SHP} {o : MH} {a0 : Nat}    (hs0 : S[a0]? = some (.inl 8)) {h : MH} (hf : f_X8_init a0 h = some o) : V l G B N mX8_init (rmm 6 9 1201) true 9 1201 (QA S [.inr 2, .inl 2, .inr 0, .inr 0, .inr 0, .inr 0, .inl 6, .inr 0, .inr 0] o) S 0 0 0 [(0, .ref a0)] [] h := by
  unfold f_X8_init at hf
  refine V_aload_n (pc' := 1) dX8_init_0 rfl 0 rfl rfl ?_
  refine V_objInit (pc' := 4) dX8_init_1 rfl bm_315 (Nat.le_of_ble_eq_true rfl) (by decide) ?_
  refine V_aload_n (pc' := 5) dX8_init_4 rfl 0 rfl rfl ?_
  refine V_sipush (v := 500) (pc' := 8) dX8_init_5 rfl (by decide) ?_
  refine V_newA (pc' := 10) 500 2 dX8_init_8 rfl (by simp) (by decide) (by decide) hf (fun h_1 hnh_1 hf => ?_)
  replace hs0 := sh_app (T := [.inr 2]) hs0
  refine V_putR (pc' := 13) 8 0 dX8_init_10 rfl (by decide) (Nat.le_of_ble_eq_true rfl) bm_318 hs0 (Or.inr ⟨rfl, rfl, rfl⟩) (fun _ _ _ => rfl) (fun _ => rfl) (fun _ => rfl) rfl hnh_1 ?_
  refine V_nmH hf (fun h_2 hf => ?_)
  refine V_aload_n (pc' := 14) dX8_init_13 rfl 0 rfl rfl ?_
  refine V_iconst (v := (-1)) (pc' := 15) dX8_init_14 rfl (by decide) ?_
  refine V_putI (pc' := 18) 8 4 dX8_init_15 rfl (by decide) (Nat.le_of_ble_eq_true rfl) bm_324 hs0 (Or.inl rfl) rfl ?_
  refine V_nmH hf (fun h_3 hf => ?_)
  refine V_aload_n (pc' := 19) dX8_init_18 rfl 0 rfl rfl ?_
  refine V_newO (pc' := 22) 2 (by decide) dX8_init_19 rfl bm_316 bm_149 bm_116 (by decide) hf (fun h_4 hnh_4 hf => ?_)
  replace hs0 := sh_app (T := [.inl 2]) hs0
  refine V_dup (pc' := 23) dX8_init_22 rfl rfl ?_
  refine V_ciA (pc' := 26) (T := [.inr 0, .inr 0, .inr 0, .inr 0, .inl 6, .inr 0, .inr 0]) (As := []) (rest := [.ref (gZ h_3), .ref a0]) dX8_init_23 rfl mok_X2_init bm_317 rfl rfl (Nat.le_of_ble_eq_true rfl) (by decide) (by decide) hf (fun q e => ct_X2_init hnh_4 e) (fun q_5 hf => ?_)
  replace hs0 := sh_app (T := [.inr 0, .inr 0, .inr 0, .inr 0, .inl 6, .inr 0, .inr 0]) hs0
  replace hnh_4 := sh_app (T := [.inr 0, .inr 0, .inr 0, .inr 0, .inl 6, .inr 0, .inr 0]) hnh_4
  refine V_putR (pc' := 29) 8 5 dX8_init_26 rfl (by decide) (Nat.le_of_ble_eq_true rfl) bm_326 hs0 (Or.inr ⟨rfl, rfl, rfl⟩) (fun _ _ _ => rfl) (fun _ => rfl) (fun _ => rfl) rfl hnh_4 ?_
  refine V_nmH hf (fun h_6 hf => ?_)
  obtain rfl := Option.some.inj hf
  exact V_vret dX8_init_29 rfl rfl rfl ⟨rfl, by simp, rfl⟩
theorem ct_X8_init {l : Launch} {S : List SHP} {h : MH} {a0 : Nat} (hs0 : S[a0]? = some (.inl 8)) {q : MH} (hf : f_X8_init a0 h = some q) : CT l mX8_init 6 true 9 1201 S [.ref a0] h (QA S [.inr 2, .inl 2, .inr 0, .inr 0, .inr 0, .inr 0, .inl 6, .inr 0, .inr 0] q) :=
  CT_ofV (by decide) rfl (Nat.le_of_ble_eq_true rfl) (fun G B hT => v_X8_init hs0 hf)
/-! LabelStacks$Writer.<init>()V -/
theorem dX9_init_0 : decode cX9_init 0 = .ok (.aload_n 0, 1) := by decide +kernel
theorem dX9_init_1 : decode cX9_init 1 = .ok (.invokespecial 3, 3) := by decide +kernel
theorem dX9_init_4 : decode cX9_init 4 = .ok (.aload_n 0, 1) := by decide +kernel
theorem dX9_init_5 : decode cX9_init 5 = .ok (.bipush 16, 2) := by decide +kernel
theorem dX9_init_7 : decode cX9_init 7 = .ok (.newarray .int, 2) := by decide +kernel
theorem dX9_init_9 : decode cX9_init 9 = .ok (.putfield 9, 3) := by decide +kernel
theorem dX9_init_12 : decode cX9_init 12 = .ok (.aload_n 0, 1) := by decide +kernel
theorem dX9_init_13 : decode cX9_init 13 = .ok (.bipush 17, 2) := by decide +kernel
theorem dX9_init_15 : decode cX9_init 15 = .ok (.newarray .int, 2) := by decide +kernel
theorem dX9_init_17 : decode cX9_init 17 = .ok (.putfield 15, 3) := by decide +kernel
theorem dX9_init_20 : decode cX9_init 20 = .ok (.aload_n 0, 1) := by decide +kernel
theorem dX9_init_21 : decode cX9_init 21 = .ok (.bipush 17, 2) := by decide +kernel
theorem dX9_init_23 : decode cX9_init 23 = .ok (.newarray .int, 2) := by decide +kernel
theorem dX9_init_25 : decode cX9_init 25 = .ok (.putfield 18, 3) := by decide +kernel
theorem dX9_init_28 : decode cX9_init 28 = .ok (.aload_n 0, 1) := by decide +kernel
theorem dX9_init_29 : decode cX9_init 29 = .ok (.bipush 17, 2) := by decide +kernel
theorem dX9_init_31 : decode cX9_init 31 = .ok (.newarray .int, 2) := by decide +kernel
theorem dX9_init_33 : decode cX9_init 33 = .ok (.putfield 21, 3) := by decide +kernel
theorem dX9_init_36 : decode cX9_init 36 = .ok (.return_, 1) := by decide +kernel
abbrev mX9_init : MI := (RX9, yX9_init, cX9_init, 1, none)
theorem mok_X9_init : MOKi mX9_init 0 := ⟨⟨bm_360, bm_124, ⟨by decide, by decide⟩, by decide +kernel⟩, bm_359, rfl, rfl⟩
def f_X9_init   (a0 : Nat) (h : MH) : Option (MH) :=
  (nwA h 16 16).bind fun h_1 =>
  lt (sR h_1 a0 0 (some (gZ h))) fun h_2 =>
  (nwA h_2 17 17).bind fun h_3 =>
  lt (sR h_3 a0 3 (some (gZ h_2))) fun h_4 =>
  (nwA h_4 17 17).bind fun h_5 =>
  lt (sR h_5 a0 4 (some (gZ h_4))) fun h_6 =>
  (nwA h_6 17 17).bind fun h_7 =>
  lt (sR h_7 a0 5 (some (gZ h_6))) fun h_8 =>
  some h_8
set_option maxRecDepth 100000 in
set_option maxHeartbeats 4000000 in
theorem v_X9_init {l : Launch} {G : GE} {B N : Nat} {S : List SHP} {o : MH} {a0 : Nat}    (hs0 : S[a0]? = some (.inl 9)) {h : MH} (hf : f_X9_init a0 h = some o) : V l G B N mX9_init (rmm 3 4 67) true 4 67 (QA S [.inr 0, .inr 0, .inr 0, .inr 0] o) S 0 0 0 [(0, .ref a0)] [] h := by
  unfold f_X9_init at hf
  refine V_aload_n (pc' := 1) dX9_init_0 rfl 0 rfl rfl ?_
  refine V_objInit (pc' := 4) dX9_init_1 rfl bm_361 (Nat.le_of_ble_eq_true rfl) (by decide) ?_
  refine V_aload_n (pc' := 5) dX9_init_4 rfl 0 rfl rfl ?_
  refine V_bipush (v := 16) (pc' := 7) dX9_init_5 rfl (by decide) ?_
  refine V_newA (pc' := 9) 16 0 dX9_init_7 rfl (by simp) (by decide) (by decide) hf (fun h_1 hnh_1 hf => ?_)
  replace hs0 := sh_app (T := [.inr 0]) hs0
  refine V_putR (pc' := 12) 9 0 dX9_init_9 rfl (by decide) (Nat.le_of_ble_eq_true rfl) bm_362 hs0 (Or.inr ⟨rfl, rfl, rfl⟩) (fun _ _ _ => rfl) (fun _ => rfl) (fun _ => rfl) rfl hnh_1 ?_
  refine V_nmH hf (fun h_2 hf => ?_)
  refine V_aload_n (pc' := 13) dX9_init_12 rfl 0 rfl rfl ?_
  refine V_bipush (v := 17) (pc' := 15) dX9_init_13 rfl (by decide) ?_
  refine V_newA (pc' := 17) 17 0 dX9_init_15 rfl (by simp) (by decide) (by decide) hf (fun h_3 hnh_3 hf => ?_)
  replace hs0 := sh_app (T := [.inr 0]) hs0
  refine V_putR (pc' := 20) 9 3 dX9_init_17 rfl (by decide) (Nat.le_of_ble_eq_true rfl) bm_365 hs0 (Or.inr ⟨rfl, rfl, rfl⟩) (fun _ _ _ => rfl) (fun _ => rfl) (fun _ => rfl) rfl hnh_3 ?_
  refine V_nmH hf (fun h_4 hf => ?_)
  refine V_aload_n (pc' := 21) dX9_init_20 rfl 0 rfl rfl ?_
  refine V_bipush (v := 17) (pc' := 23) dX9_init_21 rfl (by decide) ?_
  refine V_newA (pc' := 25) 17 0 dX9_init_23 rfl (by simp) (by decide) (by decide) hf (fun h_5 hnh_5 hf => ?_)
  replace hs0 := sh_app (T := [.inr 0]) hs0
  refine V_putR (pc' := 28) 9 4 dX9_init_25 rfl (by decide) (Nat.le_of_ble_eq_true rfl) bm_367 hs0 (Or.inr ⟨rfl, rfl, rfl⟩) (fun _ _ _ => rfl) (fun _ => rfl) (fun _ => rfl) rfl hnh_5 ?_
  refine V_nmH hf (fun h_6 hf => ?_)
  refine V_aload_n (pc' := 29) dX9_init_28 rfl 0 rfl rfl ?_
  refine V_bipush (v := 17) (pc' := 31) dX9_init_29 rfl (by decide) ?_
  refine V_newA (pc' := 33) 17 0 dX9_init_31 rfl (by simp) (by decide) (by decide) hf (fun h_7 hnh_7 hf => ?_)
  replace hs0 := sh_app (T := [.inr 0]) hs0
  refine V_putR (pc' := 36) 9 5 dX9_init_33 rfl (by decide) (Nat.le_of_ble_eq_true rfl) bm_368 hs0 (Or.inr ⟨rfl, rfl, rfl⟩) (fun _ _ _ => rfl) (fun _ => rfl) (fun _ => rfl) rfl hnh_7 ?_
  refine V_nmH hf (fun h_8 hf => ?_)
  obtain rfl := Option.some.inj hf
  exact V_vret dX9_init_36 rfl rfl rfl ⟨rfl, by simp, rfl⟩
theorem ct_X9_init {l : Launch} {S : List SHP} {h : MH} {a0 : Nat} (hs0 : S[a0]? = some (.inl 9)) {q : MH} (hf : f_X9_init a0 h = some q) : CT l mX9_init 3 true 4 67 S [.ref a0] h (QA S [.inr 0, .inr 0, .inr 0, .inr 0] q) :=
  CT_ofV (by decide) rfl (Nat.le_of_ble_eq_true rfl) (fun G B hT => v_X9_init hs0 hf)
/-! LabelStacks.<init>()V -/
theorem dX10_init_0 : decode cX10_init 0 = .ok (.aload_n 0, 1) := by decide +kernel
theorem dX10_init_1 : decode cX10_init 1 = .ok (.invokespecial 3, 3) := by decide +kernel
theorem dX10_init_4 : decode cX10_init 4 = .ok (.aload_n 0, 1) := by decide +kernel
theorem dX10_init_5 : decode cX10_init 5 = .ok (.new 9, 3) := by decide +kernel
theorem dX10_init_8 : decode cX10_init 8 = .ok (.dup, 1) := by decide +kernel
theorem dX10_init_9 : decode cX10_init 9 = .ok (.invokespecial 11, 3) := by decide +kernel
theorem dX10_init_12 : decode cX10_init 12 = .ok (.putfield 12, 3) := by decide +kernel
theorem dX10_init_15 : decode cX10_init 15 = .ok (.aload_n 0, 1) := by decide +kernel
theorem dX10_init_16 : decode cX10_init 16 = .ok (.new 16, 3) := by decide +kernel
theorem dX10_init_19 : decode cX10_init 19 = .ok (.dup, 1) := by decide +kernel
theorem dX10_init_20 : decode cX10_init 20 = .ok (.bipush 12, 2) := by decide +kernel
theorem dX10_init_22 : decode cX10_init 22 = .ok (.invokespecial 18, 3) := by decide +kernel
theorem dX10_init_25 : decode cX10_init 25 = .ok (.putfield 21, 3) := by decide +kernel
theorem dX10_init_28 : decode cX10_init 28 = .ok (.aload_n 0, 1) := by decide +kernel
theorem dX10_init_29 : decode cX10_init 29 = .ok (.iconst 5, 1) := by decide +kernel
theorem dX10_init_30 : decode cX10_init 30 = .ok (.putfield 25, 3) := by decide +kernel
theorem dX10_init_33 : decode cX10_init 33 = .ok (.aload_n 0, 1) := by decide +kernel
theorem dX10_init_34 : decode cX10_init 34 = .ok (.new 29, 3) := by decide +kernel
theorem dX10_init_37 : decode cX10_init 37 = .ok (.dup, 1) := by decide +kernel
theorem dX10_init_38 : decode cX10_init 38 = .ok (.invokespecial 31, 3) := by decide +kernel
theorem dX10_init_41 : decode cX10_init 41 = .ok (.putfield 32, 3) := by decide +kernel
theorem dX10_init_44 : decode cX10_init 44 = .ok (.aload_n 0, 1) := by decide +kernel
theorem dX10_init_45 : decode cX10_init 45 = .ok (.new 9, 3) := by decide +kernel
theorem dX10_init_48 : decode cX10_init 48 = .ok (.dup, 1) := by decide +kernel
theorem dX10_init_49 : decode cX10_init 49 = .ok (.invokespecial 11, 3) := by decide +kernel
theorem dX10_init_52 : decode cX10_init 52 = .ok (.putfield 36, 3) := by decide +kernel
theorem dX10_init_55 : decode cX10_init 55 = .ok (.aload_n 0, 1) := by decide +kernel
theorem dX10_init_56 : decode cX10_init 56 = .ok (.new 16, 3) := by decide +kernel
theorem dX10_init_59 : decode cX10_init 59 = .ok (.dup, 1) := by decide +kernel
theorem dX10_init_60 : decode cX10_init 60 = .ok (.bipush 12, 2) := by decide +kernel
theorem dX10_init_62 : decode cX10_init 62 = .ok (.invokespecial 18, 3) := by decide +kernel
theorem dX10_init_65 : decode cX10_init 65 = .ok (.putfield 39, 3) := by decide +kernel
theorem dX10_init_68 : decode cX10_init 68 = .ok (.aload_n 0, 1) := by decide +kernel
theorem dX10_init_69 : decode cX10_init 69 = .ok (.iconst 5, 1) := by decide +kernel
theorem dX10_init_70 : decode cX10_init 70 = .ok (.putfield 42, 3) := by decide +kernel
theorem dX10_init_73 : decode cX10_init 73 = .ok (.aload_n 0, 1) := by decide +kernel
theorem dX10_init_74 : decode cX10_init 74 = .ok (.iconst 0, 1) := by decide +kernel
theorem dX10_init_75 : decode cX10_init 75 = .ok (.putfield 45, 3) := by decide +kernel
theorem dX10_init_78 : decode cX10_init 78 = .ok (.aload_n 0, 1) := by decide +kernel
theorem dX10_init_79 : decode cX10_init 79 = .ok (.new 49, 3) := by decide +kernel
theorem dX10_init_82 : decode cX10_init 82 = .ok (.dup, 1) := by decide +kernel
theorem dX10_init_83 : decode cX10_init 83 = .ok (.invokespecial 51, 3) := by decide +kernel
theorem dX10_init_86 : decode cX10_init 86 = .ok (.putfield 52, 3) := by decide +kernel
theorem dX10_init_89 : decode cX10_init 89 = .ok (.aload_n 0, 1) := by decide +kernel
theorem dX10_init_90 : decode cX10_init 90 = .ok (.new 56, 3) := by decide +kernel
theorem dX10_init_93 : decode cX10_init 93 = .ok (.dup, 1) := by decide +kernel
theorem dX10_init_94 : decode cX10_init 94 = .ok (.invokespecial 58, 3) := by decide +kernel
theorem dX10_init_97 : decode cX10_init 97 = .ok (.putfield 59, 3) := by decide +kernel
theorem dX10_init_100 : decode cX10_init 100 = .ok (.aload_n 0, 1) := by decide +kernel
theorem dX10_init_101 : decode cX10_init 101 = .ok (.new 56, 3) := by decide +kernel
theorem dX10_init_104 : decode cX10_init 104 = .ok (.dup, 1) := by decide +kernel
theorem dX10_init_105 : decode cX10_init 105 = .ok (.invokespecial 58, 3) := by decide +kernel
theorem dX10_init_108 : decode cX10_init 108 = .ok (.putfield 63, 3) := by decide +kernel
theorem dX10_init_111 : decode cX10_init 111 = .ok (.aload_n 0, 1) := by decide +kernel
theorem dX10_init_112 : decode cX10_init 112 = .ok (.new 56, 3) := by decide +kernel
theorem dX10_init_115 : decode cX10_init 115 = .ok (.dup, 1) := by decide +kernel
theorem dX10_init_116 : decode cX10_init 116 = .ok (.invokespecial 58, 3) := by decide +kernel
theorem dX10_init_119 : decode cX10_init 119 = .ok (.putfield 66, 3) := by decide +kernel
theorem dX10_init_122 : decode cX10_init 122 = .ok (.aload_n 0, 1) := by decide +kernel
theorem dX10_init_123 : decode cX10_init 123 = .ok (.iconst 1, 1) := by decide +kernel
theorem dX10_init_124 : decode cX10_init 124 = .ok (.putfield 69, 3) := by decide +kernel
theorem dX10_init_127 : decode cX10_init 127 = .ok (.aload_n 0, 1) := by decide +kernel
theorem dX10_init_128 : decode cX10_init 128 = .ok (.new 72, 3) := by decide +kernel
theorem dX10_init_131 : decode cX10_init 131 = .ok (.dup, 1) := by decide +kernel
theorem dX10_init_132 : decode cX10_init 132 = .ok (.invokespecial 74, 3) := by decide +kernel
theorem dX10_init_135 : decode cX10_init 135 = .ok (.putfield 75, 3) := by decide +kernel
theorem dX10_init_138 : decode cX10_init 138 = .ok (.aload_n 0, 1) := by decide +kernel
theorem dX10_init_139 : decode cX10_init 139 = .ok (.new 79, 3) := by decide +kernel
theorem dX10_init_142 : decode cX10_init 142 = .ok (.dup, 1) := by decide +kernel
theorem dX10_init_143 : decode cX10_init 143 = .ok (.invokespecial 81, 3) := by decide +kernel
theorem dX10_init_146 : decode cX10_init 146 = .ok (.putfield 82, 3) := by decide +kernel
theorem dX10_init_149 : decode cX10_init 149 = .ok (.aload_n 0, 1) := by decide +kernel
theorem dX10_init_150 : decode cX10_init 150 = .ok (.new 86, 3) := by decide +kernel
theorem dX10_init_153 : decode cX10_init 153 = .ok (.dup, 1) := by decide +kernel
theorem dX10_init_154 : decode cX10_init 154 = .ok (.bipush 30, 2) := by decide +kernel
theorem dX10_init_156 : decode cX10_init 156 = .ok (.invokespecial 88, 3) := by decide +kernel
theorem dX10_init_159 : decode cX10_init 159 = .ok (.putfield 89, 3) := by decide +kernel
theorem dX10_init_162 : decode cX10_init 162 = .ok (.aload_n 0, 1) := by decide +kernel
theorem dX10_init_163 : decode cX10_init 163 = .ok (.new 16, 3) := by decide +kernel
theorem dX10_init_166 : decode cX10_init 166 = .ok (.dup, 1) := by decide +kernel
theorem dX10_init_167 : decode cX10_init 167 = .ok (.bipush 16, 2) := by decide +kernel
theorem dX10_init_169 : decode cX10_init 169 = .ok (.invokespecial 18, 3) := by decide +kernel
theorem dX10_init_172 : decode cX10_init 172 = .ok (.putfield 93, 3) := by decide +kernel
theorem dX10_init_175 : decode cX10_init 175 = .ok (.return_, 1) := by decide +kernel
abbrev mX10_init : MI := (RX10, yX10_init, cX10_init, 1, none)
theorem mok_X10_init : MOKi mX10_init 0 := ⟨⟨bm_138, bm_114, ⟨by decide, by decide⟩, by decide +kernel⟩, bm_137, rfl, rfl⟩
def f_X10_init   (a0 : Nat) (h : MH) : Option (MH) :=
  lt (nW h 0) fun h_1 =>
  (f_X7_init (gZ h) h_1).bind fun q_2 =>
  lt (sR q_2 a0 0 (some (gZ h))) fun h_3 =>
  lt (nW h_3 0) fun h_4 =>
  (f_X5_init (gZ h_3) 12 h_4).bind fun q_5 =>
  lt (sR q_5 a0 1 (some (gZ h_3))) fun h_6 =>
  lt (sI h_6 a0 2 5) fun h_7 =>
  lt (nW h_7 0) fun h_8 =>
  (f_X0_init (gZ h_7) h_8).bind fun q_9 =>
  lt (sR q_9 a0 3 (some (gZ h_7))) fun h_10 =>
  lt (nW h_10 0) fun h_11 =>
  (f_X7_init (gZ h_10) h_11).bind fun q_12 =>
  lt (sR q_12 a0 4 (some (gZ h_10))) fun h_13 =>
  lt (nW h_13 0) fun h_14 =>
  (f_X5_init (gZ h_13) 12 h_14).bind fun q_15 =>
  lt (sR q_15 a0 5 (some (gZ h_13))) fun h_16 =>
  lt (sI h_16 a0 6 5) fun h_17 =>
  lt (sI h_17 a0 7 0) fun h_18 =>
  lt (nW h_18 0) fun h_19 =>
  (f_X8_init (gZ h_18) h_19).bind fun q_20 =>
  lt (sR q_20 a0 8 (some (gZ h_18))) fun h_21 =>
  lt (nW h_21 0) fun h_22 =>
  (f_X4_init (gZ h_21) h_22).bind fun q_23 =>
  lt (sR q_23 a0 9 (some (gZ h_21))) fun h_24 =>
  lt (nW h_24 0) fun h_25 =>
  (f_X4_init (gZ h_24) h_25).bind fun q_26 =>
  lt (sR q_26 a0 10 (some (gZ h_24))) fun h_27 =>
  lt (nW h_27 0) fun h_28 =>
  (f_X4_init (gZ h_27) h_28).bind fun q_29 =>
  lt (sR q_29 a0 11 (some (gZ h_27))) fun h_30 =>
  lt (sI h_30 a0 12 1) fun h_31 =>
  lt (nW h_31 0) fun h_32 =>
  (f_X9_init (gZ h_31) h_32).bind fun q_33 =>
  lt (sR q_33 a0 13 (some (gZ h_31))) fun h_34 =>
  lt (nW h_34 0) fun h_35 =>
  (f_X3_init (gZ h_34) h_35).bind fun q_36 =>
  lt (sR q_36 a0 14 (some (gZ h_34))) fun h_37 =>
  lt (nW h_37 0) fun h_38 =>
  (f_X1_init (gZ h_37) 30 h_38).bind fun q_39 =>
  lt (sR q_39 a0 15 (some (gZ h_37))) fun h_40 =>
  lt (nW h_40 0) fun h_41 =>
  (f_X5_init (gZ h_40) 16 h_41).bind fun q_42 =>
  lt (sR q_42 a0 16 (some (gZ h_40))) fun h_43 =>
  some h_43
set_option maxRecDepth 100000 in
set_option maxHeartbeats 4000000 in
theorem v_X10_init {l : Launch} {G : GE} {B N : Nat} {S : List SHP} {o : MH} {a0 : Nat}    (hs0 : S[a0]? = some (.inl 10)) {h : MH} (hf : f_X10_init a0 h = some o) : V l G B N mX10_init (rmm 8 198 19173) true 198 19173 (QA S [.inl 7, .inl 2, .inr 0, .inr 0, .inr 0, .inr 0, .inl 6, .inr 0, .inr 0, .inr 0, .inr 0, .inl 6, .inr 0, .inr 0, .inl 6, .inr 0, .inr 0, .inl 5, .inr 0, .inl 5, .inr 0, .inl 0, .inr 3, .inl 7, .inl 2, .inr 0, .inr 0, .inr 0, .inr 0, .inl 6, .inr 0, .inr 0, .inr 0, .inr 0, .inl 6, .inr 0, .inr 0, .inl 6, .inr 0, .inr 0, .inl 5, .inr 0, .inl 7, .inl 2, .inr 0, .inr 0, .inr 0, .inr 0, .inl 6, .inr 0, .inr 0, .inr 0, .inr 0, .inl 6, .inr 0, .inr 0, .inl 6, .inr 0, .inr 0, .inl 5, .inr 0, .inl 7, .inl 2, .inr 0, .inr 0, .inr 0, .inr 0, .inl 6, .inr 0, .inr 0, .inr 0, .inr 0, .inl 6, .inr 0, .inr 0, .inl 6, .inr 0, .inr 0, .inl 5, .inr 0, .inl 7, .inl 2, .inr 0, .inr 0, .inr 0, .inr 0, .inl 6, .inr 0, .inr 0, .inr 0, .inr 0, .inl 6, .inr 0, .inr 0, .inl 6, .inr 0, .inr 0, .inl 5, .inr 0, .inl 7, .inl 2, .inr 0, .inr 0, .inr 0, .inr 0, .inl 6, .inr 0, .inr 0, .inr 0, .inr 0, .inl 6, .inr 0, .inr 0, .inl 6, .inr 0, .inr 0, .inl 5, .inr 0, .inl 7, .inl 2, .inr 0, .inr 0, .inr 0, .inr 0, .inl 6, .inr 0, .inr 0, .inr 0, .inr 0, .inl 6, .inr 0, .inr 0, .inl 6, .inr 0, .inr 0, .inl 5, .inr 0, .inl 7, .inl 2, .inr 0, .inr 0, .inr 0, .inr 0, .inl 6, .inr 0, .inr 0, .inr 0, .inr 0, .inl 6, .inr 0, .inr 0, .inl 6, .inr 0, .inr 0, .inl 5, .inr 0, .inl 5, .inr 0, .inl 8, .inr 2, .inl 2, .inr 0, .inr 0, .inr 0, .inr 0, .inl 6, .inr 0, .inr 0, .inl 4, .inr 0, .inr 1, .inl 4, .inr 0, .inr 1, .inl 4, .inr 0, .inr 1, .inl 9, .inr 0, .inr 0, .inr 0, .inr 0, .inl 3, .inl 5, .inr 0, .inl 5, .inr 0, .inl 1, .inr 1, .inr 1, .inr 0, .inr 1, .inr 1, .inl 1, .inr 1, .inr 1, .inl 5, .inr 0] o) S 0 0 0 [(0, .ref a0)] [] h := by
  unfold f_X10_init at hf
  refine V_aload_n (pc' := 1) dX10_init_0 rfl 0 rfl rfl ?_
  refine V_objInit (pc' := 4) dX10_init_1 rfl bm_139 (Nat.le_of_ble_eq_true rfl) (by decide) ?_
  refine V_aload_n (pc' := 5) dX10_init_4 rfl 0 rfl rfl ?_
  refine V_newO (pc' := 8) 7 (by decide) dX10_init_5 rfl bm_142 bm_143 bm_115 (by decide) hf (fun h_1 hnh_1 hf => ?_)
  replace hs0 := sh_app (T := [.inl 7]) hs0
  refine V_dup (pc' := 9) dX10_init_8 rfl rfl ?_
  refine V_ciA (pc' := 12) (T := [.inl 2, .inr 0, .inr 0, .inr 0, .inr 0, .inl 6, .inr 0, .inr 0, .inr 0, .inr 0, .inl 6, .inr 0, .inr 0, .inl 6, .inr 0, .inr 0, .inl 5, .inr 0]) (As := []) (rest := [.ref (gZ h), .ref a0]) dX10_init_9 rfl mok_X7_init bm_144 rfl rfl (Nat.le_of_ble_eq_true rfl) (by decide) (by decide) hf (fun q e => ct_X7_init hnh_1 e) (fun q_2 hf => ?_)
  replace hs0 := sh_app (T := [.inl 2, .inr 0, .inr 0, .inr 0, .inr 0, .inl 6, .inr 0, .inr 0, .inr 0, .inr 0, .inl 6, .inr 0, .inr 0, .inl 6, .inr 0, .inr 0, .inl 5, .inr 0]) hs0
  replace hnh_1 := sh_app (T := [.inl 2, .inr 0, .inr 0, .inr 0, .inr 0, .inl 6, .inr 0, .inr 0, .inr 0, .inr 0, .inl 6, .inr 0, .inr 0, .inl 6, .inr 0, .inr 0, .inl 5, .inr 0]) hnh_1
  refine V_putR (pc' := 15) 10 0 dX10_init_12 rfl (by decide) (Nat.le_of_ble_eq_true rfl) bm_458 hs0 (Or.inr ⟨rfl, rfl, rfl⟩) (fun _ _ _ => rfl) (fun _ => rfl) (fun _ => rfl) rfl hnh_1 ?_
  refine V_nmH hf (fun h_3 hf => ?_)
  refine V_aload_n (pc' := 16) dX10_init_15 rfl 0 rfl rfl ?_
  refine V_newO (pc' := 19) 5 (by decide) dX10_init_16 rfl bm_291 bm_241 bm_120 (by decide) hf (fun h_4 hnh_4 hf => ?_)
  replace hs0 := sh_app (T := [.inl 5]) hs0
  refine V_dup (pc' := 20) dX10_init_19 rfl rfl ?_
  refine V_bipush (v := 12) (pc' := 22) dX10_init_20 rfl (by decide) ?_
  refine V_ciA (pc' := 25) (T := [.inr 0]) (As := [.int 12]) (rest := [.ref (gZ h_3), .ref a0]) dX10_init_22 rfl mok_X5_init bm_292 rfl rfl (Nat.le_of_ble_eq_true rfl) (by decide) (by decide) hf (fun q e => ct_X5_init hnh_4 e) (fun q_5 hf => ?_)
  replace hs0 := sh_app (T := [.inr 0]) hs0
  replace hnh_4 := sh_app (T := [.inr 0]) hnh_4
  refine V_putR (pc' := 28) 10 1 dX10_init_25 rfl (by decide) (Nat.le_of_ble_eq_true rfl) bm_459 hs0 (Or.inr ⟨rfl, rfl, rfl⟩) (fun _ _ _ => rfl) (fun _ => rfl) (fun _ => rfl) rfl hnh_4 ?_
  refine V_nmH hf (fun h_6 hf => ?_)
  refine V_aload_n (pc' := 29) dX10_init_28 rfl 0 rfl rfl ?_
  refine V_iconst (v := 5) (pc' := 30) dX10_init_29 rfl (by decide) ?_
  refine V_putI (pc' := 33) 10 2 dX10_init_30 rfl (by decide) (Nat.le_of_ble_eq_true rfl) bm_460 hs0 (Or.inl rfl) rfl ?_
  refine V_nmH hf (fun h_7 hf => ?_)
  refine V_aload_n (pc' := 34) dX10_init_33 rfl 0 rfl rfl ?_
  refine V_newO (pc' := 37) 0 (by decide) dX10_init_34 rfl bm_293 bm_294 bm_121 (by decide) hf (fun h_8 hnh_8 hf => ?_)
  replace hs0 := sh_app (T := [.inl 0]) hs0
  refine V_dup (pc' := 38) dX10_init_37 rfl rfl ?_
  refine V_ciA (pc' := 41) (T := [.inr 3, .inl 7, .inl 2, .inr 0, .inr 0, .inr 0, .inr 0, .inl 6, .inr 0, .inr 0, .inr 0, .inr 0, .inl 6, .inr 0, .inr 0, .inl 6, .inr 0, .inr 0, .inl 5, .inr 0, .inl 7, .inl 2, .inr 0, .inr 0, .inr 0, .inr 0, .inl 6, .inr 0, .inr 0, .inr 0, .inr 0, .inl 6, .inr 0, .inr 0, .inl 6, .inr 0, .inr 0, .inl 5, .inr 0, .inl 7, .inl 2, .inr 0, .inr 0, .inr 0, .inr 0, .inl 6, .inr 0, .inr 0, .inr 0, .inr 0, .inl 6, .inr 0, .inr 0, .inl 6, .inr 0, .inr 0, .inl 5, .inr 0, .inl 7, .inl 2, .inr 0, .inr 0, .inr 0, .inr 0, .inl 6, .inr 0, .inr 0, .inr 0, .inr 0, .inl 6, .inr 0, .inr 0, .inl 6, .inr 0, .inr 0, .inl 5, .inr 0, .inl 7, .inl 2, .inr 0, .inr 0, .inr 0, .inr 0, .inl 6, .inr 0, .inr 0, .inr 0, .inr 0, .inl 6, .inr 0, .inr 0, .inl 6, .inr 0, .inr 0, .inl 5, .inr 0, .inl 7, .inl 2, .inr 0, .inr 0, .inr 0, .inr 0, .inl 6, .inr 0, .inr 0, .inr 0, .inr 0, .inl 6, .inr 0, .inr 0, .inl 6, .inr 0, .inr 0, .inl 5, .inr 0]) (As := []) (rest := [.ref (gZ h_7), .ref a0]) dX10_init_38 rfl mok_X0_init bm_295 rfl rfl (Nat.le_of_ble_eq_true rfl) (by decide) (by decide) hf (fun q e => ct_X0_init hnh_8 e) (fun q_9 hf => ?_)
  replace hs0 := sh_app (T := [.inr 3, .inl 7, .inl 2, .inr 0, .inr 0, .inr 0, .inr 0, .inl 6, .inr 0, .inr 0, .inr 0, .inr 0, .inl 6, .inr 0, .inr 0, .inl 6, .inr 0, .inr 0, .inl 5, .inr 0, .inl 7, .inl 2, .inr 0, .inr 0, .inr 0, .inr 0, .inl 6, .inr 0, .inr 0, .inr 0, .inr 0, .inl 6, .inr 0, .inr 0, .inl 6, .inr 0, .inr 0, .inl 5, .inr 0, .inl 7, .inl 2, .inr 0, .inr 0, .inr 0, .inr 0, .inl 6, .inr 0, .inr 0, .inr 0, .inr 0, .inl 6, .inr 0, .inr 0, .inl 6, .inr 0, .inr 0, .inl 5, .inr 0, .inl 7, .inl 2, .inr 0, .inr 0, .inr 0, .inr 0, .inl 6, .inr 0, .inr 0, .inr 0, .inr 0, .inl 6, .inr 0, .inr 0, .inl 6, .inr 0, .inr 0, .inl 5, .inr 0, .inl 7, .inl 2, .inr 0, .inr 0, .inr 0, .inr 0, .inl 6, .inr 0, .inr 0, .inr 0, .inr 0, .inl 6, .inr 0, .inr 0, .inl 6, .inr 0, .inr 0, .inl 5, .inr 0, .inl 7, .inl 2, .inr 0, .inr 0, .inr 0, .inr 0, .inl 6, .inr 0, .inr 0, .inr 0, .inr 0, .inl 6, .inr 0, .inr 0, .inl 6, .inr 0, .inr 0, .inl 5, .inr 0]) hs0
  replace hnh_8 := sh_app (T := [.inr 3, .inl 7, .inl 2, .inr 0, .inr 0, .inr 0, .inr 0, .inl 6, .inr 0, .inr 0, .inr 0, .inr 0, .inl 6, .inr 0, .inr 0, .inl 6, .inr 0, .inr 0, .inl 5, .inr 0, .inl 7, .inl 2, .inr 0, .inr 0, .inr 0, .inr 0, .inl 6, .inr 0, .inr 0, .inr 0, .inr 0, .inl 6, .inr 0, .inr 0, .inl 6, .inr 0, .inr 0, .inl 5, .inr 0, .inl 7, .inl 2, .inr 0, .inr 0, .inr 0, .inr 0, .inl 6, .inr 0, .inr 0, .inr 0, .inr 0, .inl 6, .inr 0, .inr 0, .inl 6, .inr 0, .inr 0, .inl 5, .inr 0, .inl 7, .inl 2, .inr 0, .inr 0, .inr 0, .inr 0, .inl 6, .inr 0, .inr 0, .inr 0, .inr 0, .inl 6, .inr 0, .inr 0, .inl 6, .inr 0, .inr 0, .inl 5, .inr 0, .inl 7, .inl 2, .inr 0, .inr 0, .inr 0, .inr 0, .inl 6, .inr 0, .inr 0, .inr 0, .inr 0, .inl 6, .inr 0, .inr 0, .inl 6, .inr 0, .inr 0, .inl 5, .inr 0, .inl 7, .inl 2, .inr 0, .inr 0, .inr 0, .inr 0, .inl 6, .inr 0, .inr 0, .inr 0, .inr 0, .inl 6, .inr 0, .inr 0, .inl 6, .inr 0, .inr 0, .inl 5, .inr 0]) hnh_8
  refine V_putR (pc' := 44) 10 3 dX10_init_41 rfl (by decide) (Nat.le_of_ble_eq_true rfl) bm_461 hs0 (Or.inr ⟨rfl, rfl, rfl⟩) (fun _ _ _ => rfl) (fun _ => rfl) (fun _ => rfl) rfl hnh_8 ?_
  refine V_nmH hf (fun h_10 hf => ?_)
  refine V_aload_n (pc' := 45) dX10_init_44 rfl 0 rfl rfl ?_
  refine V_newO (pc' := 48) 7 (by decide) dX10_init_45 rfl bm_142 bm_143 bm_115 (by decide) hf (fun h_11 hnh_11 hf => ?_)
  replace hs0 := sh_app (T := [.inl 7]) hs0
  refine V_dup (pc' := 49) dX10_init_48 rfl rfl ?_
  refine V_ciA (pc' := 52) (T := [.inl 2, .inr 0, .inr 0, .inr 0, .inr 0, .inl 6, .inr 0, .inr 0, .inr 0, .inr 0, .inl 6, .inr 0, .inr 0, .inl 6, .inr 0, .inr 0, .inl 5, .inr 0]) (As := []) (rest := [.ref (gZ h_10), .ref a0]) dX10_init_49 rfl mok_X7_init bm_144 rfl rfl (Nat.le_of_ble_eq_true rfl) (by decide) (by decide) hf (fun q e => ct_X7_init hnh_11 e) (fun q_12 hf => ?_)
  replace hs0 := sh_app (T := [.inl 2, .inr 0, .inr 0, .inr 0, .inr 0, .inl 6, .inr 0, .inr 0, .inr 0, .inr 0, .inl 6, .inr 0, .inr 0, .inl 6, .inr 0, .inr 0, .inl 5, .inr 0]) hs0
  replace hnh_11 := sh_app (T := [.inl 2, .inr 0, .inr 0, .inr 0, .inr 0, .inl 6, .inr 0, .inr 0, .inr 0, .inr 0, .inl 6, .inr 0, .inr 0, .inl 6, .inr 0, .inr 0, .inl 5, .inr 0]) hnh_11
  refine V_putR (pc' := 55) 10 4 dX10_init_52 rfl (by decide) (Nat.le_of_ble_eq_true rfl) bm_462 hs0 (Or.inr ⟨rfl, rfl, rfl⟩) (fun _ _ _ => rfl) (fun _ => rfl) (fun _ => rfl) rfl hnh_11 ?_
  refine V_nmH hf (fun h_13 hf => ?_)
  refine V_aload_n (pc' := 56) dX10_init_55 rfl 0 rfl rfl ?_
  refine V_newO (pc' := 59) 5 (by decide) dX10_init_56 rfl bm_291 bm_241 bm_120 (by decide) hf (fun h_14 hnh_14 hf => ?_)
  replace hs0 := sh_app (T := [.inl 5]) hs0
  refine V_dup (pc' := 60) dX10_init_59 rfl rfl ?_
  refine V_bipush (v := 12) (pc' := 62) dX10_init_60 rfl (by decide) ?_
  refine V_ciA (pc' := 65) (T := [.inr 0]) (As := [.int 12]) (rest := [.ref (gZ h_13), .ref a0]) dX10_init_62 rfl mok_X5_init bm_292 rfl rfl (Nat.le_of_ble_eq_true rfl) (by decide) (by decide) hf (fun q e => ct_X5_init hnh_14 e) (fun q_15 hf => ?_)
  replace hs0 := sh_app (T := [.inr 0]) hs0
  replace hnh_14 := sh_app (T := [.inr 0]) hnh_14
  refine V_putR (pc' := 68) 10 5 dX10_init_65 rfl (by decide) (Nat.le_of_ble_eq_true rfl) bm_463 hs0 (Or.inr ⟨rfl, rfl, rfl⟩) (fun _ _ _ => rfl) (fun _ => rfl) (fun _ => rfl) rfl hnh_14 ?_
  refine V_nmH hf (fun h_16 hf => ?_)
  refine V_aload_n (pc' := 69) dX10_init_68 rfl 0 rfl rfl ?_
  refine V_iconst (v := 5) (pc' := 70) dX10_init_69 rfl (by decide) ?_
  refine V_putI (pc' := 73) 10 6 dX10_init_70 rfl (by decide) (Nat.le_of_ble_eq_true rfl) bm_464 hs0 (Or.inl rfl) rfl ?_
  refine V_nmH hf (fun h_17 hf => ?_)
  refine V_aload_n (pc' := 74) dX10_init_73 rfl 0 rfl rfl ?_
  refine V_iconst (v := 0) (pc' := 75) dX10_init_74 rfl (by decide) ?_
  refine V_putZL (pc' := 78) 10 7 dX10_init_75 rfl (by decide) (Nat.le_of_ble_eq_true rfl) bm_465 hs0 rfl rfl (by decide) ?_
  refine V_nmH hf (fun h_18 hf => ?_)
  refine V_aload_n (pc' := 79) dX10_init_78 rfl 0 rfl rfl ?_
  refine V_newO (pc' := 82) 8 (by decide) dX10_init_79 rfl bm_310 bm_311 bm_122 (by decide) hf (fun h_19 hnh_19 hf => ?_)
  replace hs0 := sh_app (T := [.inl 8]) hs0
  refine V_dup (pc' := 83) dX10_init_82 rfl rfl ?_
  refine V_ciA (pc' := 86) (T := [.inr 2, .inl 2, .inr 0, .inr 0, .inr 0, .inr 0, .inl 6, .inr 0, .inr 0]) (As := []) (rest := [.ref (gZ h_18), .ref a0]) dX10_init_83 rfl mok_X8_init bm_312 rfl rfl (Nat.le_of_ble_eq_true rfl) (by decide) (by decide) hf (fun q e => ct_X8_init hnh_19 e) (fun q_20 hf => ?_)
  replace hs0 := sh_app (T := [.inr 2, .inl 2, .inr 0, .inr 0, .inr 0, .inr 0, .inl 6, .inr 0, .inr 0]) hs0
  replace hnh_19 := sh_app (T := [.inr 2, .inl 2, .inr 0, .inr 0, .inr 0, .inr 0, .inl 6, .inr 0, .inr 0]) hnh_19
  refine V_putR (pc' := 89) 10 8 dX10_init_86 rfl (by decide) (Nat.le_of_ble_eq_true rfl) bm_466 hs0 (Or.inr ⟨rfl, rfl, rfl⟩) (fun _ _ _ => rfl) (fun _ => rfl) (fun _ => rfl) rfl hnh_19 ?_
  refine V_nmH hf (fun h_21 hf => ?_)
  refine V_aload_n (pc' := 90) dX10_init_89 rfl 0 rfl rfl ?_
  refine V_newO (pc' := 93) 4 (by decide) dX10_init_90 rfl bm_342 bm_343 bm_123 (by decide) hf (fun h_22 hnh_22 hf => ?_)
  replace hs0 := sh_app (T := [.inl 4]) hs0
  refine V_dup (pc' := 94) dX10_init_93 rfl rfl ?_
  refine V_ciA (pc' := 97) (T := [.inr 0, .inr 1]) (As := []) (rest := [.ref (gZ h_21), .ref a0]) dX10_init_94 rfl mok_X4_init bm_344 rfl rfl (Nat.le_of_ble_eq_true rfl) (by decide) (by decide) hf (fun q e => ct_X4_init hnh_22 e) (fun q_23 hf => ?_)
  replace hs0 := sh_app (T := [.inr 0, .inr 1]) hs0
  replace hnh_22 := sh_app (T := [.inr 0, .inr 1]) hnh_22
  refine V_putR (pc' := 100) 10 9 dX10_init_97 rfl (by decide) (Nat.le_of_ble_eq_true rfl) bm_467 hs0 (Or.inr ⟨rfl, rfl, rfl⟩) (fun _ _ _ => rfl) (fun _ => rfl) (fun _ => rfl) rfl hnh_22 ?_
  refine V_nmH hf (fun h_24 hf => ?_)
  refine V_aload_n (pc' := 101) dX10_init_100 rfl 0 rfl rfl ?_
  refine V_newO (pc' := 104) 4 (by decide) dX10_init_101 rfl bm_342 bm_343 bm_123 (by decide) hf (fun h_25 hnh_25 hf => ?_)
  replace hs0 := sh_app (T := [.inl 4]) hs0
  refine V_dup (pc' := 105) dX10_init_104 rfl rfl ?_
  refine V_ciA (pc' := 108) (T := [.inr 0, .inr 1]) (As := []) (rest := [.ref (gZ h_24), .ref a0]) dX10_init_105 rfl mok_X4_init bm_344 rfl rfl (Nat.le_of_ble_eq_true rfl) (by decide) (by decide) hf (fun q e => ct_X4_init hnh_25 e) (fun q_26 hf => ?_)
  replace hs0 := sh_app (T := [.inr 0, .inr 1]) hs0
  replace hnh_25 := sh_app (T := [.inr 0, .inr 1]) hnh_25
  refine V_putR (pc' := 111) 10 10 dX10_init_108 rfl (by decide) (Nat.le_of_ble_eq_true rfl) bm_468 hs0 (Or.inr ⟨rfl, rfl, rfl⟩) (fun _ _ _ => rfl) (fun _ => rfl) (fun _ => rfl) rfl hnh_25 ?_
  refine V_nmH hf (fun h_27 hf => ?_)
  refine V_aload_n (pc' := 112) dX10_init_111 rfl 0 rfl rfl ?_
  refine V_newO (pc' := 115) 4 (by decide) dX10_init_112 rfl bm_342 bm_343 bm_123 (by decide) hf (fun h_28 hnh_28 hf => ?_)
  replace hs0 := sh_app (T := [.inl 4]) hs0
  refine V_dup (pc' := 116) dX10_init_115 rfl rfl ?_
  refine V_ciA (pc' := 119) (T := [.inr 0, .inr 1]) (As := []) (rest := [.ref (gZ h_27), .ref a0]) dX10_init_116 rfl mok_X4_init bm_344 rfl rfl (Nat.le_of_ble_eq_true rfl) (by decide) (by decide) hf (fun q e => ct_X4_init hnh_28 e) (fun q_29 hf => ?_)
  replace hs0 := sh_app (T := [.inr 0, .inr 1]) hs0
  replace hnh_28 := sh_app (T := [.inr 0, .inr 1]) hnh_28
  refine V_putR (pc' := 122) 10 11 dX10_init_119 rfl (by decide) (Nat.le_of_ble_eq_true rfl) bm_469 hs0 (Or.inr ⟨rfl, rfl, rfl⟩) (fun _ _ _ => rfl) (fun _ => rfl) (fun _ => rfl) rfl hnh_28 ?_
  refine V_nmH hf (fun h_30 hf => ?_)
  refine V_aload_n (pc' := 123) dX10_init_122 rfl 0 rfl rfl ?_
  refine V_iconst (v := 1) (pc' := 124) dX10_init_123 rfl (by decide) ?_
  refine V_putZL (pc' := 127) 10 12 dX10_init_124 rfl (by decide) (Nat.le_of_ble_eq_true rfl) bm_470 hs0 rfl rfl (by decide) ?_
  refine V_nmH hf (fun h_31 hf => ?_)
  refine V_aload_n (pc' := 128) dX10_init_127 rfl 0 rfl rfl ?_
  refine V_newO (pc' := 131) 9 (by decide) dX10_init_128 rfl bm_356 bm_357 bm_124 (by decide) hf (fun h_32 hnh_32 hf => ?_)
  replace hs0 := sh_app (T := [.inl 9]) hs0
  refine V_dup (pc' := 132) dX10_init_131 rfl rfl ?_
  refine V_ciA (pc' := 135) (T := [.inr 0, .inr 0, .inr 0, .inr 0]) (As := []) (rest := [.ref (gZ h_31), .ref a0]) dX10_init_132 rfl mok_X9_init bm_358 rfl rfl (Nat.le_of_ble_eq_true rfl) (by decide) (by decide) hf (fun q e => ct_X9_init hnh_32 e) (fun q_33 hf => ?_)
  replace hs0 := sh_app (T := [.inr 0, .inr 0, .inr 0, .inr 0]) hs0
  replace hnh_32 := sh_app (T := [.inr 0, .inr 0, .inr 0, .inr 0]) hnh_32
  refine V_putR (pc' := 138) 10 13 dX10_init_135 rfl (by decide) (Nat.le_of_ble_eq_true rfl) bm_471 hs0 (Or.inr ⟨rfl, rfl, rfl⟩) (fun _ _ _ => rfl) (fun _ => rfl) (fun _ => rfl) rfl hnh_32 ?_
  refine V_nmH hf (fun h_34 hf => ?_)
  refine V_aload_n (pc' := 139) dX10_init_138 rfl 0 rfl rfl ?_
  refine V_newO (pc' := 142) 3 (by decide) dX10_init_139 rfl bm_391 bm_392 bm_125 (by decide) hf (fun h_35 hnh_35 hf => ?_)
  replace hs0 := sh_app (T := [.inl 3]) hs0
  refine V_dup (pc' := 143) dX10_init_142 rfl rfl ?_
  refine V_ciA (pc' := 146) (T := [.inl 5, .inr 0, .inl 5, .inr 0, .inl 1, .inr 1, .inr 1, .inr 0, .inr 1, .inr 1]) (As := []) (rest := [.ref (gZ h_34), .ref a0]) dX10_init_143 rfl mok_X3_init bm_393 rfl rfl (Nat.le_of_ble_eq_true rfl) (by decide) (by decide) hf (fun q e => ct_X3_init hnh_35 e) (fun q_36 hf => ?_)
  replace hs0 := sh_app (T := [.inl 5, .inr 0, .inl 5, .inr 0, .inl 1, .inr 1, .inr 1, .inr 0, .inr 1, .inr 1]) hs0
  replace hnh_35 := sh_app (T := [.inl 5, .inr 0, .inl 5, .inr 0, .inl 1, .inr 1, .inr 1, .inr 0, .inr 1, .inr 1]) hnh_35
  refine V_putR (pc' := 149) 10 14 dX10_init_146 rfl (by decide) (Nat.le_of_ble_eq_true rfl) bm_472 hs0 (Or.inr ⟨rfl, rfl, rfl⟩) (fun _ _ _ => rfl) (fun _ => rfl) (fun _ => rfl) rfl hnh_35 ?_
  refine V_nmH hf (fun h_37 hf => ?_)
  refine V_aload_n (pc' := 150) dX10_init_149 rfl 0 rfl rfl ?_
  refine V_newO (pc' := 153) 1 (by decide) dX10_init_150 rfl bm_456 bm_400 bm_126 (by decide) hf (fun h_38 hnh_38 hf => ?_)
  replace hs0 := sh_app (T := [.inl 1]) hs0
  refine V_dup (pc' := 154) dX10_init_153 rfl rfl ?_
  refine V_bipush (v := 30) (pc' := 156) dX10_init_154 rfl (by decide) ?_
  refine V_ciA (pc' := 159) (T := [.inr 1, .inr 1]) (As := [.int 30]) (rest := [.ref (gZ h_37), .ref a0]) dX10_init_156 rfl mok_X1_init bm_457 rfl rfl (Nat.le_of_ble_eq_true rfl) (by decide) (by decide) hf (fun q e => ct_X1_init hnh_38 e) (fun q_39 hf => ?_)
  replace hs0 := sh_app (T := [.inr 1, .inr 1]) hs0
  replace hnh_38 := sh_app (T := [.inr 1, .inr 1]) hnh_38
  refine V_putR (pc' := 162) 10 15 dX10_init_159 rfl (by decide) (Nat.le_of_ble_eq_true rfl) bm_473 hs0 (Or.inr ⟨rfl, rfl, rfl⟩) (fun _ _ _ => rfl) (fun _ => rfl) (fun _ => rfl) rfl hnh_38 ?_
  refine V_nmH hf (fun h_40 hf => ?_)
  refine V_aload_n (pc' := 163) dX10_init_162 rfl 0 rfl rfl ?_
  refine V_newO (pc' := 166) 5 (by decide) dX10_init_163 rfl bm_291 bm_241 bm_120 (by decide) hf (fun h_41 hnh_41 hf => ?_)
  replace hs0 := sh_app (T := [.inl 5]) hs0
  refine V_dup (pc' := 167) dX10_init_166 rfl rfl ?_
  refine V_bipush (v := 16) (pc' := 169) dX10_init_167 rfl (by decide) ?_
  refine V_ciA (pc' := 172) (T := [.inr 0]) (As := [.int 16]) (rest := [.ref (gZ h_40), .ref a0]) dX10_init_169 rfl mok_X5_init bm_292 rfl rfl (Nat.le_of_ble_eq_true rfl) (by decide) (by decide) hf (fun q e => ct_X5_init hnh_41 e) (fun q_42 hf => ?_)
  replace hs0 := sh_app (T := [.inr 0]) hs0
  replace hnh_41 := sh_app (T := [.inr 0]) hnh_41
  refine V_putR (pc' := 175) 10 16 dX10_init_172 rfl (by decide) (Nat.le_of_ble_eq_true rfl) bm_474 hs0 (Or.inr ⟨rfl, rfl, rfl⟩) (fun _ _ _ => rfl) (fun _ => rfl) (fun _ => rfl) rfl hnh_41 ?_
  refine V_nmH hf (fun h_43 hf => ?_)
  obtain rfl := Option.some.inj hf
  exact V_vret dX10_init_175 rfl rfl rfl ⟨rfl, by simp, rfl⟩
theorem ct_X10_init {l : Launch} {S : List SHP} {h : MH} {a0 : Nat} (hs0 : S[a0]? = some (.inl 10)) {q : MH} (hf : f_X10_init a0 h = some q) : CT l mX10_init 8 true 198 19173 S [.ref a0] h (QA S [.inl 7, .inl 2, .inr 0, .inr 0, .inr 0, .inr 0, .inl 6, .inr 0, .inr 0, .inr 0, .inr 0, .inl 6, .inr 0, .inr 0, .inl 6, .inr 0, .inr 0, .inl 5, .inr 0, .inl 5, .inr 0, .inl 0, .inr 3, .inl 7, .inl 2, .inr 0, .inr 0, .inr 0, .inr 0, .inl 6, .inr 0, .inr 0, .inr 0, .inr 0, .inl 6, .inr 0, .inr 0, .inl 6, .inr 0, .inr 0, .inl 5, .inr 0, .inl 7, .inl 2, .inr 0, .inr 0, .inr 0, .inr 0, .inl 6, .inr 0, .inr 0, .inr 0, .inr 0, .inl 6, .inr 0, .inr 0, .inl 6, .inr 0, .inr 0, .inl 5, .inr 0, .inl 7, .inl 2, .inr 0, .inr 0, .inr 0, .inr 0, .inl 6, .inr 0, .inr 0, .inr 0, .inr 0, .inl 6, .inr 0, .inr 0, .inl 6, .inr 0, .inr 0, .inl 5, .inr 0, .inl 7, .inl 2, .inr 0, .inr 0, .inr 0, .inr 0, .inl 6, .inr 0, .inr 0, .inr 0, .inr 0, .inl 6, .inr 0, .inr 0, .inl 6, .inr 0, .inr 0, .inl 5, .inr 0, .inl 7, .inl 2, .inr 0, .inr 0, .inr 0, .inr 0, .inl 6, .inr 0, .inr 0, .inr 0, .inr 0, .inl 6, .inr 0, .inr 0, .inl 6, .inr 0, .inr 0, .inl 5, .inr 0, .inl 7, .inl 2, .inr 0, .inr 0, .inr 0, .inr 0, .inl 6, .inr 0, .inr 0, .inr 0, .inr 0, .inl 6, .inr 0, .inr 0, .inl 6, .inr 0, .inr 0, .inl 5, .inr 0, .inl 7, .inl 2, .inr 0, .inr 0, .inr 0, .inr 0, .inl 6, .inr 0, .inr 0, .inr 0, .inr 0, .inl 6, .inr 0, .inr 0, .inl 6, .inr 0, .inr 0, .inl 5, .inr 0, .inl 5, .inr 0, .inl 8, .inr 2, .inl 2, .inr 0, .inr 0, .inr 0, .inr 0, .inl 6, .inr 0, .inr 0, .inl 4, .inr 0, .inr 1, .inl 4, .inr 0, .inr 1, .inl 4, .inr 0, .inr 1, .inl 9, .inr 0, .inr 0, .inr 0, .inr 0, .inl 3, .inl 5, .inr 0, .inl 5, .inr 0, .inl 1, .inr 1, .inr 1, .inr 0, .inr 1, .inr 1, .inl 1, .inr 1, .inr 1, .inl 5, .inr 0] q) :=
  CT_ofV (by decide) rfl (Nat.le_of_ble_eq_true rfl) (fun G B hT => v_X10_init hs0 hf)
/-! LabelStacksModel.<init>()V -/
theorem dX11_init_0 : decode cX11_init 0 = .ok (.aload_n 0, 1) := by decide +kernel
theorem dX11_init_1 : decode cX11_init 1 = .ok (.invokespecial 1, 3) := by decide +kernel
theorem dX11_init_4 : decode cX11_init 4 = .ok (.aload_n 0, 1) := by decide +kernel
theorem dX11_init_5 : decode cX11_init 5 = .ok (.sipush 512, 3) := by decide +kernel
theorem dX11_init_8 : decode cX11_init 8 = .ok (.newarray .int, 2) := by decide +kernel
theorem dX11_init_10 : decode cX11_init 10 = .ok (.putfield 7, 3) := by decide +kernel
theorem dX11_init_13 : decode cX11_init 13 = .ok (.aload_n 0, 1) := by decide +kernel
theorem dX11_init_14 : decode cX11_init 14 = .ok (.sipush 3072, 3) := by decide +kernel
theorem dX11_init_17 : decode cX11_init 17 = .ok (.newarray .int, 2) := by decide +kernel
theorem dX11_init_19 : decode cX11_init 19 = .ok (.putfield 13, 3) := by decide +kernel
theorem dX11_init_22 : decode cX11_init 22 = .ok (.aload_n 0, 1) := by decide +kernel
theorem dX11_init_23 : decode cX11_init 23 = .ok (.iconst 5, 1) := by decide +kernel
theorem dX11_init_24 : decode cX11_init 24 = .ok (.putfield 16, 3) := by decide +kernel
theorem dX11_init_27 : decode cX11_init 27 = .ok (.aload_n 0, 1) := by decide +kernel
theorem dX11_init_28 : decode cX11_init 28 = .ok (.bipush 12, 2) := by decide +kernel
theorem dX11_init_30 : decode cX11_init 30 = .ok (.newarray .int, 2) := by decide +kernel
theorem dX11_init_32 : decode cX11_init 32 = .ok (.putfield 20, 3) := by decide +kernel
theorem dX11_init_35 : decode cX11_init 35 = .ok (.aload_n 0, 1) := by decide +kernel
theorem dX11_init_36 : decode cX11_init 36 = .ok (.bipush 100, 2) := by decide +kernel
theorem dX11_init_38 : decode cX11_init 38 = .ok (.newarray .int, 2) := by decide +kernel
theorem dX11_init_40 : decode cX11_init 40 = .ok (.putfield 23, 3) := by decide +kernel
theorem dX11_init_43 : decode cX11_init 43 = .ok (.aload_n 0, 1) := by decide +kernel
theorem dX11_init_44 : decode cX11_init 44 = .ok (.bipush 100, 2) := by decide +kernel
theorem dX11_init_46 : decode cX11_init 46 = .ok (.newarray .long, 2) := by decide +kernel
theorem dX11_init_48 : decode cX11_init 48 = .ok (.putfield 26, 3) := by decide +kernel
theorem dX11_init_51 : decode cX11_init 51 = .ok (.aload_n 0, 1) := by decide +kernel
theorem dX11_init_52 : decode cX11_init 52 = .ok (.bipush 24, 2) := by decide +kernel
theorem dX11_init_54 : decode cX11_init 54 = .ok (.newarray .int, 2) := by decide +kernel
theorem dX11_init_56 : decode cX11_init 56 = .ok (.putfield 30, 3) := by decide +kernel
theorem dX11_init_59 : decode cX11_init 59 = .ok (.aload_n 0, 1) := by decide +kernel
theorem dX11_init_60 : decode cX11_init 60 = .ok (.sipush 700, 3) := by decide +kernel
theorem dX11_init_63 : decode cX11_init 63 = .ok (.newarray .int, 2) := by decide +kernel
theorem dX11_init_65 : decode cX11_init 65 = .ok (.putfield 33, 3) := by decide +kernel
theorem dX11_init_68 : decode cX11_init 68 = .ok (.aload_n 0, 1) := by decide +kernel
theorem dX11_init_69 : decode cX11_init 69 = .ok (.bipush 30, 2) := by decide +kernel
theorem dX11_init_71 : decode cX11_init 71 = .ok (.newarray .long, 2) := by decide +kernel
theorem dX11_init_73 : decode cX11_init 73 = .ok (.putfield 36, 3) := by decide +kernel
theorem dX11_init_76 : decode cX11_init 76 = .ok (.aload_n 0, 1) := by decide +kernel
theorem dX11_init_77 : decode cX11_init 77 = .ok (.bipush 30, 2) := by decide +kernel
theorem dX11_init_79 : decode cX11_init 79 = .ok (.newarray .long, 2) := by decide +kernel
theorem dX11_init_81 : decode cX11_init 81 = .ok (.putfield 39, 3) := by decide +kernel
theorem dX11_init_84 : decode cX11_init 84 = .ok (.aload_n 0, 1) := by decide +kernel
theorem dX11_init_85 : decode cX11_init 85 = .ok (.bipush 10, 2) := by decide +kernel
theorem dX11_init_87 : decode cX11_init 87 = .ok (.newarray .long, 2) := by decide +kernel
theorem dX11_init_89 : decode cX11_init 89 = .ok (.putfield 42, 3) := by decide +kernel
theorem dX11_init_92 : decode cX11_init 92 = .ok (.aload_n 0, 1) := by decide +kernel
theorem dX11_init_93 : decode cX11_init 93 = .ok (.bipush 10, 2) := by decide +kernel
theorem dX11_init_95 : decode cX11_init 95 = .ok (.newarray .long, 2) := by decide +kernel
theorem dX11_init_97 : decode cX11_init 97 = .ok (.putfield 45, 3) := by decide +kernel
theorem dX11_init_100 : decode cX11_init 100 = .ok (.aload_n 0, 1) := by decide +kernel
theorem dX11_init_101 : decode cX11_init 101 = .ok (.bipush 17, 2) := by decide +kernel
theorem dX11_init_103 : decode cX11_init 103 = .ok (.newarray .int, 2) := by decide +kernel
theorem dX11_init_105 : decode cX11_init 105 = .ok (.putfield 48, 3) := by decide +kernel
theorem dX11_init_108 : decode cX11_init 108 = .ok (.aload_n 0, 1) := by decide +kernel
theorem dX11_init_109 : decode cX11_init 109 = .ok (.bipush 17, 2) := by decide +kernel
theorem dX11_init_111 : decode cX11_init 111 = .ok (.newarray .int, 2) := by decide +kernel
theorem dX11_init_113 : decode cX11_init 113 = .ok (.putfield 51, 3) := by decide +kernel
theorem dX11_init_116 : decode cX11_init 116 = .ok (.aload_n 0, 1) := by decide +kernel
theorem dX11_init_117 : decode cX11_init 117 = .ok (.bipush 17, 2) := by decide +kernel
theorem dX11_init_119 : decode cX11_init 119 = .ok (.newarray .int, 2) := by decide +kernel
theorem dX11_init_121 : decode cX11_init 121 = .ok (.putfield 54, 3) := by decide +kernel
theorem dX11_init_124 : decode cX11_init 124 = .ok (.aload_n 0, 1) := by decide +kernel
theorem dX11_init_125 : decode cX11_init 125 = .ok (.bipush 17, 2) := by decide +kernel
theorem dX11_init_127 : decode cX11_init 127 = .ok (.newarray .int, 2) := by decide +kernel
theorem dX11_init_129 : decode cX11_init 129 = .ok (.putfield 57, 3) := by decide +kernel
theorem dX11_init_132 : decode cX11_init 132 = .ok (.aload_n 0, 1) := by decide +kernel
theorem dX11_init_133 : decode cX11_init 133 = .ok (.iconst 1, 1) := by decide +kernel
theorem dX11_init_134 : decode cX11_init 134 = .ok (.newarray .int, 2) := by decide +kernel
theorem dX11_init_136 : decode cX11_init 136 = .ok (.putfield 60, 3) := by decide +kernel
theorem dX11_init_139 : decode cX11_init 139 = .ok (.aload_n 0, 1) := by decide +kernel
theorem dX11_init_140 : decode cX11_init 140 = .ok (.bipush 30, 2) := by decide +kernel
theorem dX11_init_142 : decode cX11_init 142 = .ok (.newarray .long, 2) := by decide +kernel
theorem dX11_init_144 : decode cX11_init 144 = .ok (.putfield 63, 3) := by decide +kernel
theorem dX11_init_147 : decode cX11_init 147 = .ok (.aload_n 0, 1) := by decide +kernel
theorem dX11_init_148 : decode cX11_init 148 = .ok (.bipush 30, 2) := by decide +kernel
theorem dX11_init_150 : decode cX11_init 150 = .ok (.newarray .long, 2) := by decide +kernel
theorem dX11_init_152 : decode cX11_init 152 = .ok (.putfield 66, 3) := by decide +kernel
theorem dX11_init_155 : decode cX11_init 155 = .ok (.aload_n 0, 1) := by decide +kernel
theorem dX11_init_156 : decode cX11_init 156 = .ok (.bipush 10, 2) := by decide +kernel
theorem dX11_init_158 : decode cX11_init 158 = .ok (.newarray .int, 2) := by decide +kernel
theorem dX11_init_160 : decode cX11_init 160 = .ok (.putfield 69, 3) := by decide +kernel
theorem dX11_init_163 : decode cX11_init 163 = .ok (.aload_n 0, 1) := by decide +kernel
theorem dX11_init_164 : decode cX11_init 164 = .ok (.sipush 500, 3) := by decide +kernel
theorem dX11_init_167 : decode cX11_init 167 = .ok (.newarray .int, 2) := by decide +kernel
theorem dX11_init_169 : decode cX11_init 169 = .ok (.putfield 72, 3) := by decide +kernel
theorem dX11_init_172 : decode cX11_init 172 = .ok (.aload_n 0, 1) := by decide +kernel
theorem dX11_init_173 : decode cX11_init 173 = .ok (.iconst (-1), 1) := by decide +kernel
theorem dX11_init_174 : decode cX11_init 174 = .ok (.putfield 75, 3) := by decide +kernel
theorem dX11_init_177 : decode cX11_init 177 = .ok (.aload_n 0, 1) := by decide +kernel
theorem dX11_init_178 : decode cX11_init 178 = .ok (.sipush 512, 3) := by decide +kernel
theorem dX11_init_181 : decode cX11_init 181 = .ok (.newarray .int, 2) := by decide +kernel
theorem dX11_init_183 : decode cX11_init 183 = .ok (.putfield 78, 3) := by decide +kernel
theorem dX11_init_186 : decode cX11_init 186 = .ok (.aload_n 0, 1) := by decide +kernel
theorem dX11_init_187 : decode cX11_init 187 = .ok (.sipush 526, 3) := by decide +kernel
theorem dX11_init_190 : decode cX11_init 190 = .ok (.newarray .int, 2) := by decide +kernel
theorem dX11_init_192 : decode cX11_init 192 = .ok (.putfield 81, 3) := by decide +kernel
theorem dX11_init_195 : decode cX11_init 195 = .ok (.return_, 1) := by decide +kernel
abbrev mX11_init : MI := (RX11, yX11_init, cX11_init, 1, none)
theorem mok_X11_init : MOKi mX11_init 0 := ⟨⟨bm_1222, bm_127, ⟨by decide, by decide⟩, by decide +kernel⟩, bm_1221, rfl, rfl⟩
def f_X11_init   (a0 : Nat) (h : MH) : Option (MH) :=
  (nwA h 512 512).bind fun h_1 =>
  lt (sR h_1 a0 1 (some (gZ h))) fun h_2 =>
  (nwA h_2 3072 3072).bind fun h_3 =>
  lt (sR h_3 a0 2 (some (gZ h_2))) fun h_4 =>
  lt (sI h_4 a0 4 5) fun h_5 =>
  (nwA h_5 12 12).bind fun h_6 =>
  lt (sR h_6 a0 5 (some (gZ h_5))) fun h_7 =>
  (nwA h_7 100 100).bind fun h_8 =>
  lt (sR h_8 a0 8 (some (gZ h_7))) fun h_9 =>
  (nwA h_9 100 100).bind fun h_10 =>
  lt (sR h_10 a0 9 (some (gZ h_9))) fun h_11 =>
  (nwA h_11 24 24).bind fun h_12 =>
  lt (sR h_12 a0 12 (some (gZ h_11))) fun h_13 =>
  (nwA h_13 700 700).bind fun h_14 =>
  lt (sR h_14 a0 19 (some (gZ h_13))) fun h_15 =>
  (nwA h_15 30 30).bind fun h_16 =>
  lt (sR h_16 a0 22 (some (gZ h_15))) fun h_17 =>
  (nwA h_17 30 30).bind fun h_18 =>
  lt (sR h_18 a0 23 (some (gZ h_17))) fun h_19 =>
  (nwA h_19 10 10).bind fun h_20 =>
  lt (sR h_20 a0 24 (some (gZ h_19))) fun h_21 =>
  (nwA h_21 10 10).bind fun h_22 =>
  lt (sR h_22 a0 25 (some (gZ h_21))) fun h_23 =>
  (nwA h_23 17 17).bind fun h_24 =>
  lt (sR h_24 a0 26 (some (gZ h_23))) fun h_25 =>
  (nwA h_25 17 17).bind fun h_26 =>
  lt (sR h_26 a0 28 (some (gZ h_25))) fun h_27 =>
  (nwA h_27 17 17).bind fun h_28 =>
  lt (sR h_28 a0 29 (some (gZ h_27))) fun h_29 =>
  (nwA h_29 17 17).bind fun h_30 =>
  lt (sR h_30 a0 30 (some (gZ h_29))) fun h_31 =>
  (nwA h_31 1 1).bind fun h_32 =>
  lt (sR h_32 a0 31 (some (gZ h_31))) fun h_33 =>
  (nwA h_33 30 30).bind fun h_34 =>
  lt (sR h_34 a0 32 (some (gZ h_33))) fun h_35 =>
  (nwA h_35 30 30).bind fun h_36 =>
  lt (sR h_36 a0 33 (some (gZ h_35))) fun h_37 =>
  (nwA h_37 10 10).bind fun h_38 =>
  lt (sR h_38 a0 34 (some (gZ h_37))) fun h_39 =>
  (nwA h_39 500 500).bind fun h_40 =>
  lt (sR h_40 a0 36 (some (gZ h_39))) fun h_41 =>
  lt (sI h_41 a0 39 (-1 : Int32)) fun h_42 =>
  (nwA h_42 512 512).bind fun h_43 =>
  lt (sR h_43 a0 43 (some (gZ h_42))) fun h_44 =>
  (nwA h_44 526 526).bind fun h_45 =>
  lt (sR h_45 a0 45 (some (gZ h_44))) fun h_46 =>
  some h_46
set_option maxRecDepth 100000 in
set_option maxHeartbeats 4000000 in
theorem v_X11_init {l : Launch} {G : GE} {B N : Nat} {S : List SHP} {o : MH} {a0 : Nat}    (hs0 : S[a0]? = some (.inl 11)) {h : MH} (hf : f_X11_init a0 h = some o) : V l G B N mX11_init (rmm 3 22 6277) true 22 6277 (QA S [.inr 0, .inr 0, .inr 0, .inr 0, .inr 1, .inr 0, .inr 0, .inr 1, .inr 1, .inr 1, .inr 1, .inr 0, .inr 0, .inr 0, .inr 0, .inr 0, .inr 1, .inr 1, .inr 0, .inr 0, .inr 0, .inr 0] o) S 0 0 0 [(0, .ref a0)] [] h := by
  unfold f_X11_init at hf
  refine V_aload_n (pc' := 1) dX11_init_0 rfl 0 rfl rfl ?_
  refine V_objInit (pc' := 4) dX11_init_1 rfl bm_1223 (Nat.le_of_ble_eq_true rfl) (by decide) ?_
  refine V_aload_n (pc' := 5) dX11_init_4 rfl 0 rfl rfl ?_
  refine V_sipush (v := 512) (pc' := 8) dX11_init_5 rfl (by decide) ?_
  refine V_newA (pc' := 10) 512 0 dX11_init_8 rfl (by simp) (by decide) (by decide) hf (fun h_1 hnh_1 hf => ?_)
  replace hs0 := sh_app (T := [.inr 0]) hs0
  refine V_putR (pc' := 13) 11 1 dX11_init_10 rfl (by decide) (Nat.le_of_ble_eq_true rfl) bm_1225 hs0 (Or.inr ⟨rfl, rfl, rfl⟩) (fun _ _ _ => rfl) (fun _ => rfl) (fun _ => rfl) rfl hnh_1 ?_
  refine V_nmH hf (fun h_2 hf => ?_)
  refine V_aload_n (pc' := 14) dX11_init_13 rfl 0 rfl rfl ?_
  refine V_sipush (v := 3072) (pc' := 17) dX11_init_14 rfl (by decide) ?_
  refine V_newA (pc' := 19) 3072 0 dX11_init_17 rfl (by simp) (by decide) (by decide) hf (fun h_3 hnh_3 hf => ?_)
  replace hs0 := sh_app (T := [.inr 0]) hs0
  refine V_putR (pc' := 22) 11 2 dX11_init_19 rfl (by decide) (Nat.le_of_ble_eq_true rfl) bm_1226 hs0 (Or.inr ⟨rfl, rfl, rfl⟩) (fun _ _ _ => rfl) (fun _ => rfl) (fun _ => rfl) rfl hnh_3 ?_
  refine V_nmH hf (fun h_4 hf => ?_)
  refine V_aload_n (pc' := 23) dX11_init_22 rfl 0 rfl rfl ?_
  refine V_iconst (v := 5) (pc' := 24) dX11_init_23 rfl (by decide) ?_
  refine V_putI (pc' := 27) 11 4 dX11_init_24 rfl (by decide) (Nat.le_of_ble_eq_true rfl) bm_1228 hs0 (Or.inl rfl) rfl ?_
  refine V_nmH hf (fun h_5 hf => ?_)
  refine V_aload_n (pc' := 28) dX11_init_27 rfl 0 rfl rfl ?_
  refine V_bipush (v := 12) (pc' := 30) dX11_init_28 rfl (by decide) ?_
  refine V_newA (pc' := 32) 12 0 dX11_init_30 rfl (by simp) (by decide) (by decide) hf (fun h_6 hnh_6 hf => ?_)
  replace hs0 := sh_app (T := [.inr 0]) hs0
  refine V_putR (pc' := 35) 11 5 dX11_init_32 rfl (by decide) (Nat.le_of_ble_eq_true rfl) bm_1229 hs0 (Or.inr ⟨rfl, rfl, rfl⟩) (fun _ _ _ => rfl) (fun _ => rfl) (fun _ => rfl) rfl hnh_6 ?_
  refine V_nmH hf (fun h_7 hf => ?_)
  refine V_aload_n (pc' := 36) dX11_init_35 rfl 0 rfl rfl ?_
  refine V_bipush (v := 100) (pc' := 38) dX11_init_36 rfl (by decide) ?_
  refine V_newA (pc' := 40) 100 0 dX11_init_38 rfl (by simp) (by decide) (by decide) hf (fun h_8 hnh_8 hf => ?_)
  replace hs0 := sh_app (T := [.inr 0]) hs0
  refine V_putR (pc' := 43) 11 8 dX11_init_40 rfl (by decide) (Nat.le_of_ble_eq_true rfl) bm_1232 hs0 (Or.inr ⟨rfl, rfl, rfl⟩) (fun _ _ _ => rfl) (fun _ => rfl) (fun _ => rfl) rfl hnh_8 ?_
  refine V_nmH hf (fun h_9 hf => ?_)
  refine V_aload_n (pc' := 44) dX11_init_43 rfl 0 rfl rfl ?_
  refine V_bipush (v := 100) (pc' := 46) dX11_init_44 rfl (by decide) ?_
  refine V_newA (pc' := 48) 100 1 dX11_init_46 rfl (by simp) (by decide) (by decide) hf (fun h_10 hnh_10 hf => ?_)
  replace hs0 := sh_app (T := [.inr 1]) hs0
  refine V_putR (pc' := 51) 11 9 dX11_init_48 rfl (by decide) (Nat.le_of_ble_eq_true rfl) bm_1233 hs0 (Or.inr ⟨rfl, rfl, rfl⟩) (fun _ _ _ => rfl) (fun _ => rfl) (fun _ => rfl) rfl hnh_10 ?_
  refine V_nmH hf (fun h_11 hf => ?_)
  refine V_aload_n (pc' := 52) dX11_init_51 rfl 0 rfl rfl ?_
  refine V_bipush (v := 24) (pc' := 54) dX11_init_52 rfl (by decide) ?_
  refine V_newA (pc' := 56) 24 0 dX11_init_54 rfl (by simp) (by decide) (by decide) hf (fun h_12 hnh_12 hf => ?_)
  replace hs0 := sh_app (T := [.inr 0]) hs0
  refine V_putR (pc' := 59) 11 12 dX11_init_56 rfl (by decide) (Nat.le_of_ble_eq_true rfl) bm_1236 hs0 (Or.inr ⟨rfl, rfl, rfl⟩) (fun _ _ _ => rfl) (fun _ => rfl) (fun _ => rfl) rfl hnh_12 ?_
  refine V_nmH hf (fun h_13 hf => ?_)
  refine V_aload_n (pc' := 60) dX11_init_59 rfl 0 rfl rfl ?_
  refine V_sipush (v := 700) (pc' := 63) dX11_init_60 rfl (by decide) ?_
  refine V_newA (pc' := 65) 700 0 dX11_init_63 rfl (by simp) (by decide) (by decide) hf (fun h_14 hnh_14 hf => ?_)
  replace hs0 := sh_app (T := [.inr 0]) hs0
  refine V_putR (pc' := 68) 11 19 dX11_init_65 rfl (by decide) (Nat.le_of_ble_eq_true rfl) bm_1243 hs0 (Or.inr ⟨rfl, rfl, rfl⟩) (fun _ _ _ => rfl) (fun _ => rfl) (fun _ => rfl) rfl hnh_14 ?_
  refine V_nmH hf (fun h_15 hf => ?_)
  refine V_aload_n (pc' := 69) dX11_init_68 rfl 0 rfl rfl ?_
  refine V_bipush (v := 30) (pc' := 71) dX11_init_69 rfl (by decide) ?_
  refine V_newA (pc' := 73) 30 1 dX11_init_71 rfl (by simp) (by decide) (by decide) hf (fun h_16 hnh_16 hf => ?_)
  replace hs0 := sh_app (T := [.inr 1]) hs0
  refine V_putR (pc' := 76) 11 22 dX11_init_73 rfl (by decide) (Nat.le_of_ble_eq_true rfl) bm_1246 hs0 (Or.inr ⟨rfl, rfl, rfl⟩) (fun _ _ _ => rfl) (fun _ => rfl) (fun _ => rfl) rfl hnh_16 ?_
  refine V_nmH hf (fun h_17 hf => ?_)
  refine V_aload_n (pc' := 77) dX11_init_76 rfl 0 rfl rfl ?_
  refine V_bipush (v := 30) (pc' := 79) dX11_init_77 rfl (by decide) ?_
  refine V_newA (pc' := 81) 30 1 dX11_init_79 rfl (by simp) (by decide) (by decide) hf (fun h_18 hnh_18 hf => ?_)
  replace hs0 := sh_app (T := [.inr 1]) hs0
  refine V_putR (pc' := 84) 11 23 dX11_init_81 rfl (by decide) (Nat.le_of_ble_eq_true rfl) bm_1247 hs0 (Or.inr ⟨rfl, rfl, rfl⟩) (fun _ _ _ => rfl) (fun _ => rfl) (fun _ => rfl) rfl hnh_18 ?_
  refine V_nmH hf (fun h_19 hf => ?_)
  refine V_aload_n (pc' := 85) dX11_init_84 rfl 0 rfl rfl ?_
  refine V_bipush (v := 10) (pc' := 87) dX11_init_85 rfl (by decide) ?_
  refine V_newA (pc' := 89) 10 1 dX11_init_87 rfl (by simp) (by decide) (by decide) hf (fun h_20 hnh_20 hf => ?_)
  replace hs0 := sh_app (T := [.inr 1]) hs0
  refine V_putR (pc' := 92) 11 24 dX11_init_89 rfl (by decide) (Nat.le_of_ble_eq_true rfl) bm_1248 hs0 (Or.inr ⟨rfl, rfl, rfl⟩) (fun _ _ _ => rfl) (fun _ => rfl) (fun _ => rfl) rfl hnh_20 ?_
  refine V_nmH hf (fun h_21 hf => ?_)
  refine V_aload_n (pc' := 93) dX11_init_92 rfl 0 rfl rfl ?_
  refine V_bipush (v := 10) (pc' := 95) dX11_init_93 rfl (by decide) ?_
  refine V_newA (pc' := 97) 10 1 dX11_init_95 rfl (by simp) (by decide) (by decide) hf (fun h_22 hnh_22 hf => ?_)
  replace hs0 := sh_app (T := [.inr 1]) hs0
  refine V_putR (pc' := 100) 11 25 dX11_init_97 rfl (by decide) (Nat.le_of_ble_eq_true rfl) bm_1249 hs0 (Or.inr ⟨rfl, rfl, rfl⟩) (fun _ _ _ => rfl) (fun _ => rfl) (fun _ => rfl) rfl hnh_22 ?_
  refine V_nmH hf (fun h_23 hf => ?_)
  refine V_aload_n (pc' := 101) dX11_init_100 rfl 0 rfl rfl ?_
  refine V_bipush (v := 17) (pc' := 103) dX11_init_101 rfl (by decide) ?_
  refine V_newA (pc' := 105) 17 0 dX11_init_103 rfl (by simp) (by decide) (by decide) hf (fun h_24 hnh_24 hf => ?_)
  replace hs0 := sh_app (T := [.inr 0]) hs0
  refine V_putR (pc' := 108) 11 26 dX11_init_105 rfl (by decide) (Nat.le_of_ble_eq_true rfl) bm_1250 hs0 (Or.inr ⟨rfl, rfl, rfl⟩) (fun _ _ _ => rfl) (fun _ => rfl) (fun _ => rfl) rfl hnh_24 ?_
  refine V_nmH hf (fun h_25 hf => ?_)
  refine V_aload_n (pc' := 109) dX11_init_108 rfl 0 rfl rfl ?_
  refine V_bipush (v := 17) (pc' := 111) dX11_init_109 rfl (by decide) ?_
  refine V_newA (pc' := 113) 17 0 dX11_init_111 rfl (by simp) (by decide) (by decide) hf (fun h_26 hnh_26 hf => ?_)
  replace hs0 := sh_app (T := [.inr 0]) hs0
  refine V_putR (pc' := 116) 11 28 dX11_init_113 rfl (by decide) (Nat.le_of_ble_eq_true rfl) bm_1252 hs0 (Or.inr ⟨rfl, rfl, rfl⟩) (fun _ _ _ => rfl) (fun _ => rfl) (fun _ => rfl) rfl hnh_26 ?_
  refine V_nmH hf (fun h_27 hf => ?_)
  refine V_aload_n (pc' := 117) dX11_init_116 rfl 0 rfl rfl ?_
  refine V_bipush (v := 17) (pc' := 119) dX11_init_117 rfl (by decide) ?_
  refine V_newA (pc' := 121) 17 0 dX11_init_119 rfl (by simp) (by decide) (by decide) hf (fun h_28 hnh_28 hf => ?_)
  replace hs0 := sh_app (T := [.inr 0]) hs0
  refine V_putR (pc' := 124) 11 29 dX11_init_121 rfl (by decide) (Nat.le_of_ble_eq_true rfl) bm_1253 hs0 (Or.inr ⟨rfl, rfl, rfl⟩) (fun _ _ _ => rfl) (fun _ => rfl) (fun _ => rfl) rfl hnh_28 ?_
  refine V_nmH hf (fun h_29 hf => ?_)
  refine V_aload_n (pc' := 125) dX11_init_124 rfl 0 rfl rfl ?_
  refine V_bipush (v := 17) (pc' := 127) dX11_init_125 rfl (by decide) ?_
  refine V_newA (pc' := 129) 17 0 dX11_init_127 rfl (by simp) (by decide) (by decide) hf (fun h_30 hnh_30 hf => ?_)
  replace hs0 := sh_app (T := [.inr 0]) hs0
  refine V_putR (pc' := 132) 11 30 dX11_init_129 rfl (by decide) (Nat.le_of_ble_eq_true rfl) bm_1254 hs0 (Or.inr ⟨rfl, rfl, rfl⟩) (fun _ _ _ => rfl) (fun _ => rfl) (fun _ => rfl) rfl hnh_30 ?_
  refine V_nmH hf (fun h_31 hf => ?_)
  refine V_aload_n (pc' := 133) dX11_init_132 rfl 0 rfl rfl ?_
  refine V_iconst (v := 1) (pc' := 134) dX11_init_133 rfl (by decide) ?_
  refine V_newA (pc' := 136) 1 0 dX11_init_134 rfl (by simp) (by decide) (by decide) hf (fun h_32 hnh_32 hf => ?_)
  replace hs0 := sh_app (T := [.inr 0]) hs0
  refine V_putR (pc' := 139) 11 31 dX11_init_136 rfl (by decide) (Nat.le_of_ble_eq_true rfl) bm_1255 hs0 (Or.inr ⟨rfl, rfl, rfl⟩) (fun _ _ _ => rfl) (fun _ => rfl) (fun _ => rfl) rfl hnh_32 ?_
  refine V_nmH hf (fun h_33 hf => ?_)
  refine V_aload_n (pc' := 140) dX11_init_139 rfl 0 rfl rfl ?_
  refine V_bipush (v := 30) (pc' := 142) dX11_init_140 rfl (by decide) ?_
  refine V_newA (pc' := 144) 30 1 dX11_init_142 rfl (by simp) (by decide) (by decide) hf (fun h_34 hnh_34 hf => ?_)
  replace hs0 := sh_app (T := [.inr 1]) hs0
  refine V_putR (pc' := 147) 11 32 dX11_init_144 rfl (by decide) (Nat.le_of_ble_eq_true rfl) bm_1256 hs0 (Or.inr ⟨rfl, rfl, rfl⟩) (fun _ _ _ => rfl) (fun _ => rfl) (fun _ => rfl) rfl hnh_34 ?_
  refine V_nmH hf (fun h_35 hf => ?_)
  refine V_aload_n (pc' := 148) dX11_init_147 rfl 0 rfl rfl ?_
  refine V_bipush (v := 30) (pc' := 150) dX11_init_148 rfl (by decide) ?_
  refine V_newA (pc' := 152) 30 1 dX11_init_150 rfl (by simp) (by decide) (by decide) hf (fun h_36 hnh_36 hf => ?_)
  replace hs0 := sh_app (T := [.inr 1]) hs0
  refine V_putR (pc' := 155) 11 33 dX11_init_152 rfl (by decide) (Nat.le_of_ble_eq_true rfl) bm_1257 hs0 (Or.inr ⟨rfl, rfl, rfl⟩) (fun _ _ _ => rfl) (fun _ => rfl) (fun _ => rfl) rfl hnh_36 ?_
  refine V_nmH hf (fun h_37 hf => ?_)
  refine V_aload_n (pc' := 156) dX11_init_155 rfl 0 rfl rfl ?_
  refine V_bipush (v := 10) (pc' := 158) dX11_init_156 rfl (by decide) ?_
  refine V_newA (pc' := 160) 10 0 dX11_init_158 rfl (by simp) (by decide) (by decide) hf (fun h_38 hnh_38 hf => ?_)
  replace hs0 := sh_app (T := [.inr 0]) hs0
  refine V_putR (pc' := 163) 11 34 dX11_init_160 rfl (by decide) (Nat.le_of_ble_eq_true rfl) bm_1258 hs0 (Or.inr ⟨rfl, rfl, rfl⟩) (fun _ _ _ => rfl) (fun _ => rfl) (fun _ => rfl) rfl hnh_38 ?_
  refine V_nmH hf (fun h_39 hf => ?_)
  refine V_aload_n (pc' := 164) dX11_init_163 rfl 0 rfl rfl ?_
  refine V_sipush (v := 500) (pc' := 167) dX11_init_164 rfl (by decide) ?_
  refine V_newA (pc' := 169) 500 0 dX11_init_167 rfl (by simp) (by decide) (by decide) hf (fun h_40 hnh_40 hf => ?_)
  replace hs0 := sh_app (T := [.inr 0]) hs0
  refine V_putR (pc' := 172) 11 36 dX11_init_169 rfl (by decide) (Nat.le_of_ble_eq_true rfl) bm_1260 hs0 (Or.inr ⟨rfl, rfl, rfl⟩) (fun _ _ _ => rfl) (fun _ => rfl) (fun _ => rfl) rfl hnh_40 ?_
  refine V_nmH hf (fun h_41 hf => ?_)
  refine V_aload_n (pc' := 173) dX11_init_172 rfl 0 rfl rfl ?_
  refine V_iconst (v := (-1)) (pc' := 174) dX11_init_173 rfl (by decide) ?_
  refine V_putI (pc' := 177) 11 39 dX11_init_174 rfl (by decide) (Nat.le_of_ble_eq_true rfl) bm_1263 hs0 (Or.inl rfl) rfl ?_
  refine V_nmH hf (fun h_42 hf => ?_)
  refine V_aload_n (pc' := 178) dX11_init_177 rfl 0 rfl rfl ?_
  refine V_sipush (v := 512) (pc' := 181) dX11_init_178 rfl (by decide) ?_
  refine V_newA (pc' := 183) 512 0 dX11_init_181 rfl (by simp) (by decide) (by decide) hf (fun h_43 hnh_43 hf => ?_)
  replace hs0 := sh_app (T := [.inr 0]) hs0
  refine V_putR (pc' := 186) 11 43 dX11_init_183 rfl (by decide) (Nat.le_of_ble_eq_true rfl) bm_1267 hs0 (Or.inr ⟨rfl, rfl, rfl⟩) (fun _ _ _ => rfl) (fun _ => rfl) (fun _ => rfl) rfl hnh_43 ?_
  refine V_nmH hf (fun h_44 hf => ?_)
  refine V_aload_n (pc' := 187) dX11_init_186 rfl 0 rfl rfl ?_
  refine V_sipush (v := 526) (pc' := 190) dX11_init_187 rfl (by decide) ?_
  refine V_newA (pc' := 192) 526 0 dX11_init_190 rfl (by simp) (by decide) (by decide) hf (fun h_45 hnh_45 hf => ?_)
  replace hs0 := sh_app (T := [.inr 0]) hs0
  refine V_putR (pc' := 195) 11 45 dX11_init_192 rfl (by decide) (Nat.le_of_ble_eq_true rfl) bm_1269 hs0 (Or.inr ⟨rfl, rfl, rfl⟩) (fun _ _ _ => rfl) (fun _ => rfl) (fun _ => rfl) rfl hnh_45 ?_
  refine V_nmH hf (fun h_46 hf => ?_)
  obtain rfl := Option.some.inj hf
  exact V_vret dX11_init_195 rfl rfl rfl ⟨rfl, by simp, rfl⟩
theorem ct_X11_init {l : Launch} {S : List SHP} {h : MH} {a0 : Nat} (hs0 : S[a0]? = some (.inl 11)) {q : MH} (hf : f_X11_init a0 h = some q) : CT l mX11_init 3 true 22 6277 S [.ref a0] h (QA S [.inr 0, .inr 0, .inr 0, .inr 0, .inr 1, .inr 0, .inr 0, .inr 1, .inr 1, .inr 1, .inr 1, .inr 0, .inr 0, .inr 0, .inr 0, .inr 0, .inr 1, .inr 1, .inr 0, .inr 0, .inr 0, .inr 0] q) :=
  CT_ofV (by decide) rfl (Nat.le_of_ble_eq_true rfl) (fun G B hT => v_X11_init hs0 hf)
