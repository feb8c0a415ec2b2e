/-! ===== the strings: their length and characters, by the JDK's own code ===== -/
def strL (j : Nat) : Option Int32 := if j < 7 then some (Int32.ofNat (strLen.getD j 0)) else none
def strC (j : Nat) (i : Int32) : Option Int32 := if j < 7 then (if i < 0 ∨ strLen.getD j 0 ≤ i.toNatClampNeg then none else some ((strByt.getD j []).getD i.toNatClampNeg 0)) else none
theorem dJ0_length_8abf5_0 : decode cJ0_length_8abf5 0 = .ok (.aload_n 0, 1) := by decide +kernel
theorem dJ0_length_8abf5_1 : decode cJ0_length_8abf5 1 = .ok (.getfield 9, 3) := by decide +kernel
theorem dJ0_length_8abf5_4 : decode cJ0_length_8abf5 4 = .ok (.arraylength, 1) := by decide +kernel
theorem dJ0_length_8abf5_5 : decode cJ0_length_8abf5 5 = .ok (.aload_n 0, 1) := by decide +kernel
theorem dJ0_length_8abf5_6 : decode cJ0_length_8abf5 6 = .ok (.invokevirtual 335, 3) := by decide +kernel
theorem dJ0_length_8abf5_9 : decode cJ0_length_8abf5 9 = .ok (.ishr, 1) := by decide +kernel
theorem dJ0_length_8abf5_10 : decode cJ0_length_8abf5 10 = .ok (.ireturn, 1) := by decide +kernel
theorem dJ0_charAt_5068e_0 : decode cJ0_charAt_5068e 0 = .ok (.aload_n 0, 1) := by decide +kernel
theorem dJ0_charAt_5068e_1 : decode cJ0_charAt_5068e 1 = .ok (.invokevirtual 492, 3) := by decide +kernel
theorem dJ0_charAt_5068e_4 : decode cJ0_charAt_5068e 4 = .ok (.ifCond .eq 12, 3) := by decide +kernel
theorem dJ0_charAt_5068e_7 : decode cJ0_charAt_5068e 7 = .ok (.aload_n 0, 1) := by decide +kernel
theorem dJ0_charAt_5068e_8 : decode cJ0_charAt_5068e 8 = .ok (.getfield 9, 3) := by decide +kernel
theorem dJ0_charAt_5068e_11 : decode cJ0_charAt_5068e 11 = .ok (.iload_n 1, 1) := by decide +kernel
theorem dJ0_charAt_5068e_12 : decode cJ0_charAt_5068e 12 = .ok (.invokestatic 495, 3) := by decide +kernel
theorem dJ0_charAt_5068e_15 : decode cJ0_charAt_5068e 15 = .ok (.ireturn, 1) := by decide +kernel
theorem dJ0_charAt_5068e_16 : decode cJ0_charAt_5068e 16 = .ok (.aload_n 0, 1) := by decide +kernel
theorem dJ0_charAt_5068e_17 : decode cJ0_charAt_5068e 17 = .ok (.getfield 9, 3) := by decide +kernel
theorem dJ0_charAt_5068e_20 : decode cJ0_charAt_5068e 20 = .ok (.iload_n 1, 1) := by decide +kernel
theorem dJ0_charAt_5068e_21 : decode cJ0_charAt_5068e 21 = .ok (.invokestatic 498, 3) := by decide +kernel
theorem dJ0_charAt_5068e_24 : decode cJ0_charAt_5068e 24 = .ok (.ireturn, 1) := by decide +kernel
theorem dJ0_coder_7d493_0 : decode cJ0_coder_7d493 0 = .ok (.getstatic 38, 3) := by decide +kernel
theorem dJ0_coder_7d493_3 : decode cJ0_coder_7d493 3 = .ok (.ifCond .eq 10, 3) := by decide +kernel
theorem dJ0_coder_7d493_6 : decode cJ0_coder_7d493 6 = .ok (.aload_n 0, 1) := by decide +kernel
theorem dJ0_coder_7d493_7 : decode cJ0_coder_7d493 7 = .ok (.getfield 15, 3) := by decide +kernel
theorem dJ0_coder_7d493_10 : decode cJ0_coder_7d493 10 = .ok (.goto 4, 3) := by decide +kernel
theorem dJ0_coder_7d493_13 : decode cJ0_coder_7d493 13 = .ok (.iconst 1, 1) := by decide +kernel
theorem dJ0_coder_7d493_14 : decode cJ0_coder_7d493 14 = .ok (.ireturn, 1) := by decide +kernel
theorem dJ0_isLatin1_aae02_0 : decode cJ0_isLatin1_aae02 0 = .ok (.getstatic 38, 3) := by decide +kernel
theorem dJ0_isLatin1_aae02_3 : decode cJ0_isLatin1_aae02 3 = .ok (.ifCond .eq 14, 3) := by decide +kernel
theorem dJ0_isLatin1_aae02_6 : decode cJ0_isLatin1_aae02 6 = .ok (.aload_n 0, 1) := by decide +kernel
theorem dJ0_isLatin1_aae02_7 : decode cJ0_isLatin1_aae02 7 = .ok (.getfield 15, 3) := by decide +kernel
theorem dJ0_isLatin1_aae02_10 : decode cJ0_isLatin1_aae02 10 = .ok (.ifCond .ne 7, 3) := by decide +kernel
theorem dJ0_isLatin1_aae02_13 : decode cJ0_isLatin1_aae02 13 = .ok (.iconst 1, 1) := by decide +kernel
theorem dJ0_isLatin1_aae02_14 : decode cJ0_isLatin1_aae02 14 = .ok (.goto 4, 3) := by decide +kernel
theorem dJ0_isLatin1_aae02_17 : decode cJ0_isLatin1_aae02 17 = .ok (.iconst 0, 1) := by decide +kernel
theorem dJ0_isLatin1_aae02_18 : decode cJ0_isLatin1_aae02 18 = .ok (.ireturn, 1) := by decide +kernel
theorem dJ0_checkIndex_df160_0 : decode cJ0_checkIndex_df160 0 = .ok (.iload_n 0, 1) := by decide +kernel
theorem dJ0_checkIndex_df160_1 : decode cJ0_checkIndex_df160 1 = .ok (.iload_n 1, 1) := by decide +kernel
theorem dJ0_checkIndex_df160_2 : decode cJ0_checkIndex_df160 2 = .ok (.getstatic 1053, 3) := by decide +kernel
theorem dJ0_checkIndex_df160_5 : decode cJ0_checkIndex_df160 5 = .ok (.invokestatic 1059, 3) := by decide +kernel
theorem dJ0_checkIndex_df160_8 : decode cJ0_checkIndex_df160 8 = .ok (.pop, 1) := by decide +kernel
theorem dJ0_checkIndex_df160_9 : decode cJ0_checkIndex_df160 9 = .ok (.return_, 1) := by decide +kernel
theorem dJ1_charAt_3b067_0 : decode cJ1_charAt_3b067 0 = .ok (.iload_n 1, 1) := by decide +kernel
theorem dJ1_charAt_3b067_1 : decode cJ1_charAt_3b067 1 = .ok (.aload_n 0, 1) := by decide +kernel
theorem dJ1_charAt_3b067_2 : decode cJ1_charAt_3b067 2 = .ok (.arraylength, 1) := by decide +kernel
theorem dJ1_charAt_3b067_3 : decode cJ1_charAt_3b067 3 = .ok (.invokestatic 9, 3) := by decide +kernel
theorem dJ1_charAt_3b067_6 : decode cJ1_charAt_3b067 6 = .ok (.aload_n 0, 1) := by decide +kernel
theorem dJ1_charAt_3b067_7 : decode cJ1_charAt_3b067 7 = .ok (.iload_n 1, 1) := by decide +kernel
theorem dJ1_charAt_3b067_8 : decode cJ1_charAt_3b067 8 = .ok (.baload, 1) := by decide +kernel
theorem dJ1_charAt_3b067_9 : decode cJ1_charAt_3b067 9 = .ok (.sipush 255, 3) := by decide +kernel
theorem dJ1_charAt_3b067_12 : decode cJ1_charAt_3b067 12 = .ok (.iand, 1) := by decide +kernel
theorem dJ1_charAt_3b067_13 : decode cJ1_charAt_3b067 13 = .ok (.i2c, 1) := by decide +kernel
theorem dJ1_charAt_3b067_14 : decode cJ1_charAt_3b067 14 = .ok (.ireturn, 1) := by decide +kernel
theorem dJ3_checkIndex_8e157_0 : decode cJ3_checkIndex_8e157 0 = .ok (.iload_n 0, 1) := by decide +kernel
theorem dJ3_checkIndex_8e157_1 : decode cJ3_checkIndex_8e157 1 = .ok (.ifCond .lt 8, 3) := by decide +kernel
theorem dJ3_checkIndex_8e157_4 : decode cJ3_checkIndex_8e157 4 = .ok (.iload_n 0, 1) := by decide +kernel
theorem dJ3_checkIndex_8e157_5 : decode cJ3_checkIndex_8e157 5 = .ok (.iload_n 1, 1) := by decide +kernel
theorem dJ3_checkIndex_8e157_6 : decode cJ3_checkIndex_8e157 6 = .ok (.if_icmp .lt 10, 3) := by decide +kernel
theorem dJ3_checkIndex_8e157_9 : decode cJ3_checkIndex_8e157 9 = .ok (.aload_n 2, 1) := by decide +kernel
theorem dJ3_checkIndex_8e157_10 : decode cJ3_checkIndex_8e157 10 = .ok (.iload_n 0, 1) := by decide +kernel
theorem dJ3_checkIndex_8e157_11 : decode cJ3_checkIndex_8e157 11 = .ok (.iload_n 1, 1) := by decide +kernel
theorem dJ3_checkIndex_8e157_12 : decode cJ3_checkIndex_8e157 12 = .ok (.invokestatic 95, 3) := by decide +kernel
theorem dJ3_checkIndex_8e157_15 : decode cJ3_checkIndex_8e157 15 = .ok (.athrow, 1) := by decide +kernel
theorem dJ3_checkIndex_8e157_16 : decode cJ3_checkIndex_8e157 16 = .ok (.iload_n 0, 1) := by decide +kernel
theorem dJ3_checkIndex_8e157_17 : decode cJ3_checkIndex_8e157 17 = .ok (.ireturn, 1) := by decide +kernel
abbrev mJ0_coder : MI := (RJ0, yJ0_coder_7d493, cJ0_coder_7d493, 1, some .byte)
abbrev mJ0_isLatin1 : MI := (RJ0, yJ0_isLatin1_aae02, cJ0_isLatin1_aae02, 1, some .boolean)
abbrev mJ0_length : MI := (RJ0, yJ0_length_8abf5, cJ0_length_8abf5, 1, some .int)
abbrev mJ0_charAt : MI := (RJ0, yJ0_charAt_5068e, cJ0_charAt_5068e, 2, some .char)
abbrev mJ0_checkIndex : MI := (RJ0, yJ0_checkIndex_df160, cJ0_checkIndex_df160, 2, none)
abbrev mJ1_charAt : MI := (RJ1, yJ1_charAt_3b067, cJ1_charAt_3b067, 2, some .char)
abbrev mJ3_checkIndex : MI := (RJ3, yJ3_checkIndex_8e157, cJ3_checkIndex_8e157, 3, some .int)
theorem big1 {w : Cond} (h : ∀ x ∈ [w], x ∈ lw_tbl) (hg : [w].all goodWord = true) : w ∈ BIG := big_of h hg w List.mem_cons_self
theorem mok_J0_coder : MOKv mJ0_coder 0 := ⟨⟨big1 (by decide +kernel) (by decide +kernel), big1 (by decide +kernel) (by decide +kernel), ⟨by decide, by decide⟩, by decide +kernel⟩, big1 (by decide +kernel) (by decide +kernel), big1 (by decide +kernel) (by decide +kernel)⟩
theorem mok_J0_isLatin1 : MOKv mJ0_isLatin1 0 := ⟨⟨big1 (by decide +kernel) (by decide +kernel), big1 (by decide +kernel) (by decide +kernel), ⟨by decide, by decide⟩, by decide +kernel⟩, big1 (by decide +kernel) (by decide +kernel), big1 (by decide +kernel) (by decide +kernel)⟩
theorem mok_J0_length : MOKv mJ0_length 0 := ⟨⟨big1 (by decide +kernel) (by decide +kernel), big1 (by decide +kernel) (by decide +kernel), ⟨by decide, by decide⟩, by decide +kernel⟩, big1 (by decide +kernel) (by decide +kernel), big1 (by decide +kernel) (by decide +kernel)⟩
theorem mok_J0_charAt : MOKv mJ0_charAt 1 := ⟨⟨big1 (by decide +kernel) (by decide +kernel), big1 (by decide +kernel) (by decide +kernel), ⟨by decide, by decide⟩, by decide +kernel⟩, big1 (by decide +kernel) (by decide +kernel), big1 (by decide +kernel) (by decide +kernel)⟩
theorem mok_J0_checkIndex : MOKs mJ0_checkIndex 2 := ⟨⟨big1 (by decide +kernel) (by decide +kernel), big1 (by decide +kernel) (by decide +kernel), ⟨by decide, by decide⟩, by decide +kernel⟩, big1 (by decide +kernel) (by decide +kernel)⟩
theorem mok_J1_charAt : MOKs mJ1_charAt 2 := ⟨⟨big1 (by decide +kernel) (by decide +kernel), big1 (by decide +kernel) (by decide +kernel), ⟨by decide, by decide⟩, by decide +kernel⟩, big1 (by decide +kernel) (by decide +kernel)⟩
theorem mok_J3_checkIndex : MOKs mJ3_checkIndex 3 := ⟨⟨big1 (by decide +kernel) (by decide +kernel), big1 (by decide +kernel) (by decide +kernel), ⟨by decide, by decide⟩, by decide +kernel⟩, big1 (by decide +kernel) (by decide +kernel)⟩
theorem bs_cs : Cond.fieldLink RJ0 38 "java/lang/String" "COMPACT_STRINGS" "Z" ∈ BIG := big1 (by decide +kernel) (by decide +kernel)
theorem bs_val : Cond.fieldLink RJ0 9 "java/lang/String" "value" "[B" ∈ BIG := big1 (by decide +kernel) (by decide +kernel)
theorem bs_cod : Cond.fieldLink RJ0 15 "java/lang/String" "coder" "B" ∈ BIG := big1 (by decide +kernel) (by decide +kernel)
theorem bs_fmt : Cond.fieldLink RJ0 1053 "jdk/internal/util/Preconditions" "SIOOBE_FORMATTER" "Ljava/util/function/BiFunction;" ∈ BIG := big1 (by decide +kernel) (by decide +kernel)
theorem bs_m335 : Cond.methodLink RJ0 335 yJ0_coder_7d493 ∈ BIG := big1 (by decide +kernel) (by decide +kernel)
theorem bs_m492 : Cond.methodLink RJ0 492 yJ0_isLatin1_aae02 ∈ BIG := big1 (by decide +kernel) (by decide +kernel)
theorem bs_m495 : Cond.methodLink RJ0 495 yJ1_charAt_3b067 ∈ BIG := big1 (by decide +kernel) (by decide +kernel)
theorem bs_m9 : Cond.methodLink RJ1 9 yJ0_checkIndex_df160 ∈ BIG := big1 (by decide +kernel) (by decide +kernel)
theorem bs_m1059 : Cond.methodLink RJ0 1059 yJ3_checkIndex_8e157 ∈ BIG := big1 (by decide +kernel) (by decide +kernel)
theorem st_len : ∀ j, j < 7 → Int32.ofNat (strLen.getD j 0) >>> ((0 : Int32) &&& 31) = Int32.ofNat (strLen.getD j 0) := by decide
theorem st_byt : ∀ j, j < 7 → ∀ i, i < strLen.getD j 0 → ((((strByt.getD j []).getD i 0) &&& 255).toUInt32 % 65536).toInt32 = (strByt.getD j []).getD i 0 := by decide
theorem st_chr : ∀ j, j < 7 → ∀ i, i < strLen.getD j 0 → narrow .char (.int ((strByt.getD j []).getD i 0)) = .int ((strByt.getD j []).getD i 0) := by decide
theorem st_len31 : ∀ j, j < 7 → strLen.getD j 0 < 2 ^ 31 := by decide
section VS
variable {l : Launch} {G : GE} {B N : Nat} {M M' : MI} {R : Room} {al al' : Bool} {mc ms mc' ms' n d' : Nat} {Q Q' : Option Value → List SHP → MH → Prop} {S : List SHP} {cells slots pc pc' ix : Nat} {lv lv' : List (Nat × Value)} {st rest As : List Value} {h : MH} {β : Type} {o : β} {j : Nat}
theorem arB {p : Program} {s : State} {m : MethodId} {args : Array Value} {meth : Method} {c : Code} (C : CX G B N M p s m args meth c) : ∀ q, AR B N s.heap.size q → B ≤ q := by
  intro q hq
  have := C.2.2.2.2.2.2.2.2.2.2
  rcases hq with hq | hq <;> omega
theorem V_gsC (hM : M.1 = RJ0) (hd : decode M.2.2.1 pc = .ok (.getstatic 38, 3)) (e : pc + 3 = pc') (k : V l G B N M R al mc ms Q S cells slots pc' lv (.int 1 :: st) h) : V l G B N M R al mc ms Q S cells slots pc lv st h := by
  subst e
  intro p ev s m args below meth c C H locs ls w hl
  have hE := C.2.2.2.2.2.2.2.1
  have hown := C.2.2.2.2.1
  rw [hM] at hown
  exact va_gets C.1 C.2.1 (hE.2.2.2.2.1.narrow (arB C)) w.2.2.1 hown (C.2.2.2.2.2.1 _ bs_cs) (fun _ q => q) hd (k p ev s m args below meth c C H locs ls w hl)
theorem V_gsF (hM : M.1 = RJ0) (hd : decode M.2.2.1 pc = .ok (.getstatic 1053, 3)) (e : pc + 3 = pc') (k : ∀ v : Value, v.category = 1 → V l G B N M R al mc ms Q S cells slots pc' lv (v :: st) h) : V l G B N M R al mc ms Q S cells slots pc lv st h := by
  subst e
  intro p ev s m args below meth c C H locs ls w hl
  have hE := C.2.2.2.2.2.2.2.1
  have hown := C.2.2.2.2.1
  rw [hM] at hown
  rcases hE.2.2.2.2.2 with z | z
  · exact va_gets C.1 C.2.1 (z.narrow (arB C)) w.2.2.1 hown (C.2.2.2.2.2.1 _ bs_fmt) (fun _ q => q) hd (k .null rfl p ev s m args below meth c C H locs ls w hl)
  · exact va_gets C.1 C.2.1 (z.narrow (arB C)) w.2.2.1 hown (C.2.2.2.2.2.1 _ bs_fmt) (fun _ q => q) hd (k (.retAddr 200) rfl p ev s m args below meth c C H locs ls w hl)
theorem V_sCod (hj : j < 7) (hM : M.1 = RJ0) (hd : decode M.2.2.1 pc = .ok (.getfield 15, 3)) (e : pc + 3 = pc') (k : V l G B N M R al mc ms Q S cells slots pc' lv (.int 0 :: st) h) : V l G B N M R al mc ms Q S cells slots pc lv (.retAddr j :: st) h := by
  subst e
  intro p ev s m args below meth c C H locs ls w hl
  have hE := C.2.2.2.2.2.2.2.1.2.2.2.1
  have hown := C.2.2.2.2.1
  rw [hM] at hown
  exact vk_getf C.1 C.2.1 ((hE.1 j hj).2.1.narrow (arB C)) w.2.2.1 hown (C.2.2.2.2.2.1 _ bs_cod) (fun _ q => q) hd (k p ev s m args below meth c C H locs ls w hl)
theorem V_sVal (hj : j < 7) (hM : M.1 = RJ0) (hd : decode M.2.2.1 pc = .ok (.getfield 9, 3)) (e : pc + 3 = pc') (k : V l G B N M R al mc ms Q S cells slots pc' lv (.retAddr (100 + j) :: st) h) : V l G B N M R al mc ms Q S cells slots pc lv (.retAddr j :: st) h := by
  subst e
  intro p ev s m args below meth c C H locs ls w hl
  have hE := C.2.2.2.2.2.2.2.1.2.2.2.1
  have hown := C.2.2.2.2.1
  rw [hM] at hown
  exact vk_getf C.1 C.2.1 ((hE.1 j hj).2.2.1.narrow (arB C)) w.2.2.1 hown (C.2.2.2.2.2.1 _ bs_val) (fun _ q => q) hd (k p ev s m args below meth c C H locs ls w hl)
theorem V_sLen (hj : j < 7) (hd : decode M.2.2.1 pc = .ok (.arraylength, 1)) (e : pc + 1 = pc') (k : V l G B N M R al mc ms Q S cells slots pc' lv (.int (Int32.ofNat (strLen.getD j 0)) :: st) h) : V l G B N M R al mc ms Q S cells slots pc lv (.retAddr (100 + j) :: st) h := by
  subst e
  intro p ev s m args below meth c C H locs ls w hl
  have hE := C.2.2.2.2.2.2.2.1.2.2.2.1
  exact va_tlen C.1 C.2.1 ((hE.1 j hj).2.2.2.narrow (arB C)) w.2.2.1 rfl hd (k p ev s m args below meth c C H locs ls w hl)
theorem V_sByt (hj : j < 7) {i : Int32} (hi : vp_in i (strLen.getD j 0)) (hd : decode M.2.2.1 pc = .ok (.baload, 1)) (e : pc + 1 = pc') (k : V l G B N M R al mc ms Q S cells slots pc' lv (.int ((strByt.getD j []).getD i.toNatClampNeg 0) :: st) h) : V l G B N M R al mc ms Q S cells slots pc lv (.int i :: .retAddr (100 + j) :: st) h := by
  subst e
  intro p ev s m args below meth c C H locs ls w hl
  have hE := C.2.2.2.2.2.2.2.1.2.2.2.1
  exact va_tb C.1 C.2.1 ((hE.1 j hj).2.2.2.narrow (arB C)) w.2.2.1 hi rfl hd (k p ev s m args below meth c C H locs ls w hl)
theorem V_i2c {x : Int32} (hd : decode M.2.2.1 pc = .ok (.i2c, 1)) (e : pc + 1 = pc') (k : V l G B N M R al mc ms Q S cells slots pc' lv (.int (x.toUInt32 % 65536).toInt32 :: st) h) : V l G B N M R al mc ms Q S cells slots pc lv (.int x :: st) h := by
  subst e
  intro p ev s m args below meth c C H locs ls w hl
  exact lv_i2c C.1 C.2.1 hd rfl (k p ev s m args below meth c C H locs ls w hl)
theorem V_nret {v : Int32} {ty : FieldType} (hd : decode M.2.2.1 pc = .ok (.ireturn, 1)) (hr : M.2.2.2.2 = some ty) (hn : narrow ty (.int v) = .int v) (hc : cells = mc) (hm : slots = ms) (hq : Q (some (.int v)) S h) : V l G B N M R al mc ms Q S cells slots pc lv [.int v] h := by
  subst hc; subst hm
  intro p ev s m args below meth cd C H locs ls w hll
  exact W.zret C.1 C.2.1 (C.2.2.1.trans hr) hn (fun t ht hW => ⟨some (.int v), S, h, rfl, hq, by rw [ht]; exact w.1, w.2.1, by rw [ht]; exact w.2.2.2.1, w.2.2.2.2.1, w.2.2.1.F ht⟩) w.2.2.1.2.2 hd C.2.2.2.2.2.2.2.2.1
theorem V_xload_n {n : Fin 4} {i : Nat} {x : Value} (hx : (∃ a, x = .ref a) ∨ (∃ a, x = .retAddr a)) (hd : decode M.2.2.1 pc = .ok (.aload_n n, 1)) (e : pc + 1 = pc') (kk : Nat) (hk : lv[kk]? = some (i, x)) (hi : (n : Nat) = i) (k : V l G B N M R al mc ms Q S cells slots pc' lv (x :: st) h) : V l G B N M R al mc ms Q S cells slots pc lv st h := by
  rcases hx with ⟨a, rfl⟩ | ⟨a, rfl⟩
  · exact V_aload_n hd e kk hk hi k
  · exact V_sload_n hd e kk hk hi k
/-- a call on a string -/
theorem V_callvS (hj : j < 7) (hd : decode M.2.2.1 pc = .ok (.invokevirtual ix, 3)) (e : pc + 3 = pc') (mk : MOKv M' n) (hl : Cond.methodLink M.1 ix M'.2.1 ∈ BIG) (hcc : M'.2.1.cls = "java/lang/String") (hst : st = As.reverse ++ .retAddr j :: rest) (hn : As.length = n) (hw : (rest.map fun v => v.category).sum ≤ 8) (hal : al' = true → al = true)
    (hR : d' + 1 ≤ R.frames ∧ 8 + (M'.2.2.2.1 + 11) + 40 * d' ≤ R.locals) (hR2 : cells + mc' ≤ R.cells ∧ slots + ms' ≤ R.slots) (ct : CT l M' d' al' mc' ms' S (.retAddr j :: As) h Q') (kk : ∀ r S' h', Q' r S' h' → V l G B N M R al mc ms Q S' (cells + mc') (slots + ms') pc' lv (r.toList ++ rest) h') : V l G B N M R al mc ms Q S cells slots pc lv st h := by
  subst hst
  intro p ev s m args below meth cd C H locs ls w hll
  have hts := C.2.2.2.2.2.1
  have hE := C.2.2.2.2.2.2.2.1.2.2.2.1
  refine V_back (a := ((Value.ref (G.2.2 j)) :: As.map (tr G B)).toArray) C w hll hal e ?_ kk
  refine va_runV (C := "java/lang/String") (b := G.2.2 j) (As := As.map (tr G B)) (rest := rest.map (tr G B)) (nL := M.2.2.2.1) (Ts := BIG) ⟨C.1, C.2.1, C.2.2.2.1, C.2.2.2.2.1, hts⟩ (ct G B H.size w.2.1) ⟨MOK_B hts mk.1 hR hl, hts _ mk.2.1, by rw [← hcc]; exact hts _ mk.2.2⟩ ⟨PC_blind, ?_, fun U hU hW => PC_at (As := .retAddr j :: As) C w hal hU hW⟩ rfl (by rw [List.length_map]; exact hn) hll.1 ?_ (lv_room (cat_le hw)) hd hR2
  · obtain ⟨cell, h1, h2, h3, -⟩ := ((hE.1 j hj).1.narrow (arB C)).kept w.2.2.1.2.1
    exact ⟨cell, h1, h2, h3⟩
  · show List.map (tr G B) (As.reverse ++ .retAddr j :: rest) = _
    simp [List.map_reverse, tr]
theorem V_ldcwS {ix j : Nat} {tx : String} (hd : decode M.2.2.1 pc = .ok (.ldc_w ix, 3)) (e : pc + 3 = pc') (hc : (M.1, ix, tx, j) ∈ strTab) (k : V l G B N M R al mc ms Q S cells slots pc' lv (.retAddr j :: st) h) : V l G B N M R al mc ms Q S cells slots pc lv st h := by
  subst e
  intro p ev s m args below meth c C H locs ls w hl
  have hZ := C.2.2.2.2.2.2.2.1.2.2.1 _ hc
  have hown := C.2.2.2.2.1
  intro T hT X
  obtain ⟨t, a1, b1⟩ := k p ev s m args below meth c C H locs ls w hl T hT X
  refine ⟨t, ?_, b1⟩
  obtain ⟨kk, cf, i, a', hk, hcf, hcp, -, hr, hev'⟩ := Cond.stringRef_spec hown hZ.1
  cases hZ.2.symm.trans hev'
  obtain ⟨k', hk', he⟩ := X.warmed.alike.2.2 _ _ hk
  have hr' : k'.resolved[ix]? = some (some (.string (G.2.2 j))) := by
    rcases X.warmed.entry hk hk' ix with h | ⟨h, -⟩
    · rw [h]; exact hr
    · rw [hr] at h; cases h
  have hb := C.2.1
  rw [← hb] at hd
  jvm_step X.here [C.1, hd, ldc_w.wp_string (e := ev) (s := T) (f := F0 m pc ls (st.map (tr G B))) X.here.top hk' (by rw [he]; exact hcf) hcp hr']
  exact a1
end VS
theorem ct_sCod {l : Launch} {S : List SHP} {h : MH} {j : Nat} (hj : j < 7) : CT l mJ0_coder 3 false 0 0 S [.retAddr j] h (QI S (0, h)) := by
  refine CT_ofV (by decide) rfl (Nat.le_of_ble_eq_true rfl) (fun G B hT => ?_)
  refine V_gsC rfl (pc' := 3) dJ0_coder_7d493_0 rfl ?_
  refine V_if_eq (A1 := none) (A2 := some ()) (o := ()) (tgt := 13) (pc' := 6) dJ0_coder_7d493_3 (by decide) rfl rfl (fun q => by cases q) (fun _ => ?_)
  refine V_sload_n (pc' := 7) dJ0_coder_7d493_6 rfl 0 rfl rfl ?_
  refine V_sCod hj rfl (pc' := 10) dJ0_coder_7d493_7 rfl ?_
  refine V_goto (tgt := 14) dJ0_coder_7d493_10 (by decide) ?_
  exact V_nret dJ0_coder_7d493_14 rfl rfl rfl rfl ⟨rfl, rfl, rfl⟩
theorem ct_sLat {l : Launch} {S : List SHP} {h : MH} {j : Nat} (hj : j < 7) : CT l mJ0_isLatin1 3 false 0 0 S [.retAddr j] h (QI S (1, h)) := by
  refine CT_ofV (by decide) rfl (Nat.le_of_ble_eq_true rfl) (fun G B hT => ?_)
  refine V_gsC rfl (pc' := 3) dJ0_isLatin1_aae02_0 rfl ?_
  refine V_if_eq (A1 := none) (A2 := some ()) (o := ()) (tgt := 17) (pc' := 6) dJ0_isLatin1_aae02_3 (by decide) rfl rfl (fun q => by cases q) (fun _ => ?_)
  refine V_sload_n (pc' := 7) dJ0_isLatin1_aae02_6 rfl 0 rfl rfl ?_
  refine V_sCod hj rfl (pc' := 10) dJ0_isLatin1_aae02_7 rfl ?_
  refine V_if_ne (A1 := some ()) (A2 := none) (o := ()) (tgt := 17) (pc' := 13) dJ0_isLatin1_aae02_10 (by decide) rfl rfl (fun _ => ?_) (fun q => by cases q)
  refine V_iconst (v := 1) (pc' := 14) dJ0_isLatin1_aae02_13 rfl (by decide) ?_
  refine V_goto (tgt := 18) dJ0_isLatin1_aae02_14 (by decide) ?_
  exact V_nret dJ0_isLatin1_aae02_18 rfl rfl rfl rfl ⟨rfl, rfl, rfl⟩
theorem ct_sLen {l : Launch} {S : List SHP} {h : MH} {j : Nat} (hj : j < 7) : CT l mJ0_length 4 false 0 0 S [.retAddr j] h (QI S (Int32.ofNat (strLen.getD j 0), h)) := by
  refine CT_ofV (by decide) rfl (Nat.le_of_ble_eq_true rfl) (fun G B hT => ?_)
  refine V_sload_n (pc' := 1) dJ0_length_8abf5_0 rfl 0 rfl rfl ?_
  refine V_sVal hj rfl (pc' := 4) dJ0_length_8abf5_1 rfl ?_
  refine V_sLen hj (pc' := 5) dJ0_length_8abf5_4 rfl ?_
  refine V_sload_n (pc' := 6) dJ0_length_8abf5_5 rfl 0 rfl rfl ?_
  refine V_callvS (pc' := 9) (al' := false) (mc' := 0) (ms' := 0) (d' := 3) (As := []) hj dJ0_length_8abf5_6 rfl mok_J0_coder bs_m335 rfl rfl rfl (Nat.le_of_ble_eq_true rfl) (fun q => by cases q) (by decide) (by decide) (ct_sCod hj) (fun r S' h' hq => ?_)
  obtain ⟨rfl, rfl, rfl⟩ := hq
  refine V_ishr (pc' := 10) dJ0_length_8abf5_9 rfl ?_
  rw [st_len j hj]
  exact V_iret dJ0_length_8abf5_10 rfl rfl rfl ⟨rfl, rfl, rfl⟩
theorem ct_pChk {l : Launch} {S : List SHP} {h : MH} {i n : Int32} {v : Value} (hv : v.category = 1) (h0 : ¬ i < 0) (h1 : i < n) : CT l mJ3_checkIndex 3 false 0 0 S [.int i, .int n, v] h (QI S (i, h)) := by
  refine CT_ofV (by decide) rfl (by have e1 : (Value.int i).category = 1 := rfl; have e2 : (Value.int n).category = 1 := rfl; simp [lg_sl, hv, e1, e2]) (fun G B hT => ?_)
  refine V_iload_n (pc' := 1) dJ3_checkIndex_8e157_0 rfl 0 rfl rfl ?_
  refine V_if_lt (A1 := none) (A2 := some ()) (o := ()) (tgt := 9) (pc' := 4) dJ3_checkIndex_8e157_1 (by decide) rfl (if_neg h0) (fun q => by cases q) (fun _ => ?_)
  refine V_iload_n (pc' := 5) dJ3_checkIndex_8e157_4 rfl 0 rfl rfl ?_
  refine V_iload_n (pc' := 6) dJ3_checkIndex_8e157_5 rfl 1 rfl rfl ?_
  refine V_icmp_lt (A1 := some ()) (A2 := none) (o := ()) (tgt := 16) (pc' := 9) dJ3_checkIndex_8e157_6 (by decide) rfl (if_pos h1) (fun _ => ?_) (fun q => by cases q)
  refine V_iload_n (pc' := 17) dJ3_checkIndex_8e157_16 rfl 0 rfl rfl ?_
  exact V_iret dJ3_checkIndex_8e157_17 rfl rfl rfl ⟨rfl, rfl, rfl⟩
theorem ct_sChk {l : Launch} {S : List SHP} {h : MH} {i n : Int32} (h0 : ¬ i < 0) (h1 : i < n) : CT l mJ0_checkIndex 4 false 0 0 S [.int i, .int n] h (QV S h) := by
  refine CT_ofV (by decide) rfl (Nat.le_of_ble_eq_true rfl) (fun G B hT => ?_)
  refine V_iload_n (pc' := 1) dJ0_checkIndex_df160_0 rfl 0 rfl rfl ?_
  refine V_iload_n (pc' := 2) dJ0_checkIndex_df160_1 rfl 1 rfl rfl ?_
  refine V_gsF rfl (pc' := 5) dJ0_checkIndex_df160_2 rfl (fun v hv => ?_)
  refine V_calls (pc' := 8) (al' := false) (mc' := 0) (ms' := 0) (d' := 3) (As := [.int i, .int n, v]) (rest := []) dJ0_checkIndex_df160_5 rfl mok_J3_checkIndex bs_m1059 rfl rfl (Nat.le_of_ble_eq_true rfl) (fun q => by cases q) (by decide) (by decide) (ct_pChk hv h0 h1) (fun r S' h' hq => ?_)
  obtain ⟨rfl, rfl, rfl⟩ := hq
  refine V_pop (pc' := 9) dJ0_checkIndex_df160_8 rfl rfl ?_
  exact V_vret dJ0_checkIndex_df160_9 rfl rfl rfl ⟨rfl, rfl, rfl⟩
theorem in_lt {i : Int32} {n : Nat} (hn : n < 2 ^ 31) (h : vp_in i n) : ¬ i < 0 ∧ i < Int32.ofNat n := by
  have hlt : i.toNatClampNeg < n := Nat.not_le.mp fun q => h (Or.inr q)
  have h0 : ¬ i < 0 := fun q => h (Or.inl q)
  refine ⟨h0, ?_⟩
  rw [Int32.lt_iff_toInt_lt]
  have h1 : (Int32.ofNat n).toInt = n := Int32.toInt_ofNat_of_lt hn
  have h2 : (0 : Int) ≤ i.toInt := by
    have := Int32.not_lt.mp h0
    simpa using Int32.le_iff_toInt_le.mp this
  have h3 : i.toInt.toNat < n := hlt
  rw [h1]
  omega
theorem ct_lChr {l : Launch} {S : List SHP} {h : MH} {j : Nat} {i : Int32} (hj : j < 7) (hi : vp_in i (strLen.getD j 0)) : CT l mJ1_charAt 5 false 0 0 S [.retAddr (100 + j), .int i] h (QI S ((strByt.getD j []).getD i.toNatClampNeg 0, h)) := by
  refine CT_ofV (by decide) rfl (Nat.le_of_ble_eq_true rfl) (fun G B hT => ?_)
  have hlt : i.toNatClampNeg < strLen.getD j 0 := Nat.not_le.mp fun q => hi (Or.inr q)
  have hc := in_lt (st_len31 j hj) hi
  refine V_iload_n (pc' := 1) dJ1_charAt_3b067_0 rfl 1 rfl rfl ?_
  refine V_sload_n (pc' := 2) dJ1_charAt_3b067_1 rfl 0 rfl rfl ?_
  refine V_sLen hj (pc' := 3) dJ1_charAt_3b067_2 rfl ?_
  refine V_calls (pc' := 6) (al' := false) (mc' := 0) (ms' := 0) (d' := 4) (As := [.int i, .int (Int32.ofNat (strLen.getD j 0))]) (rest := []) dJ1_charAt_3b067_3 rfl mok_J0_checkIndex bs_m9 rfl rfl (Nat.le_of_ble_eq_true rfl) (fun q => by cases q) (by decide) (by decide) (ct_sChk hc.1 hc.2) (fun r S' h' hq => ?_)
  obtain ⟨rfl, rfl, rfl⟩ := hq
  refine V_sload_n (pc' := 7) dJ1_charAt_3b067_6 rfl 0 rfl rfl ?_
  refine V_iload_n (pc' := 8) dJ1_charAt_3b067_7 rfl 1 rfl rfl ?_
  refine V_sByt hj hi (pc' := 9) dJ1_charAt_3b067_8 rfl ?_
  refine V_sipush (v := 255) (pc' := 12) dJ1_charAt_3b067_9 rfl (by decide) ?_
  refine V_iand (pc' := 13) dJ1_charAt_3b067_12 rfl ?_
  refine V_i2c (pc' := 14) dJ1_charAt_3b067_13 rfl ?_
  rw [st_byt j hj _ hlt]
  exact V_nret dJ1_charAt_3b067_14 rfl (st_chr j hj _ hlt) rfl rfl ⟨rfl, rfl, rfl⟩
theorem ct_sChr {l : Launch} {S : List SHP} {h : MH} {j : Nat} {i : Int32} (hj : j < 7) (hi : vp_in i (strLen.getD j 0)) : CT l mJ0_charAt 6 false 0 0 S [.retAddr j, .int i] h (QI S ((strByt.getD j []).getD i.toNatClampNeg 0, h)) := by
  refine CT_ofV (by decide) rfl (Nat.le_of_ble_eq_true rfl) (fun G B hT => ?_)
  have hlt : i.toNatClampNeg < strLen.getD j 0 := Nat.not_le.mp fun q => hi (Or.inr q)
  refine V_sload_n (pc' := 1) dJ0_charAt_5068e_0 rfl 0 rfl rfl ?_
  refine V_callvS (pc' := 4) (al' := false) (mc' := 0) (ms' := 0) (d' := 3) (As := []) (rest := []) hj dJ0_charAt_5068e_1 rfl mok_J0_isLatin1 bs_m492 rfl rfl rfl (Nat.le_of_ble_eq_true rfl) (fun q => by cases q) (by decide) (by decide) (ct_sLat hj) (fun r S' h' hq => ?_)
  obtain ⟨rfl, rfl, rfl⟩ := hq
  refine V_if_eq (A1 := none) (A2 := some ()) (o := ()) (tgt := 16) (pc' := 7) dJ0_charAt_5068e_4 (by decide) rfl rfl (fun q => by cases q) (fun _ => ?_)
  refine V_sload_n (pc' := 8) dJ0_charAt_5068e_7 rfl 0 rfl rfl ?_
  refine V_sVal hj rfl (pc' := 11) dJ0_charAt_5068e_8 rfl ?_
  refine V_iload_n (pc' := 12) dJ0_charAt_5068e_11 rfl 1 rfl rfl ?_
  refine V_calls (pc' := 15) (al' := false) (mc' := 0) (ms' := 0) (d' := 5) (As := [.retAddr (100 + j), .int i]) (rest := []) dJ0_charAt_5068e_12 rfl mok_J1_charAt bs_m495 rfl rfl (Nat.le_of_ble_eq_true rfl) (fun q => by cases q) (by decide) (by decide) (ct_lChr hj hi) (fun r S' h' hq => ?_)
  obtain ⟨rfl, rfl, rfl⟩ := hq
  exact V_nret dJ0_charAt_5068e_15 rfl (st_chr j hj _ hlt) rfl rfl ⟨rfl, rfl, rfl⟩
section VT
variable {l : Launch} {G : GE} {B N : Nat} {M : MI} {R : Room} {al : Bool} {mc ms : Nat} {Q : Option Value → List SHP → MH → Prop} {S : List SHP} {cells slots pc pc' ix : Nat} {lv : List (Nat × Value)} {st : List Value} {h : MH} {β : Type} {o : β} {j : Nat}
theorem V_strL {kf : Int32 → Option β} (hd : decode M.2.2.1 pc = .ok (.invokevirtual ix, 3)) (e : pc + 3 = pc') (hl : Cond.methodLink M.1 ix yJ0_length_8abf5 ∈ BIG) (hw : (st.map fun v => v.category).sum ≤ 8) (hR : 8 ≤ R.frames ∧ 320 ≤ R.locals ∧ cells ≤ R.cells ∧ slots ≤ R.slots) (hf : (strL j).bind kf = some o) (kk : ∀ x, kf x = some o → V l G B N M R al mc ms Q S cells slots pc' lv (.int x :: st) h) : V l G B N M R al mc ms Q S cells slots pc lv (.retAddr j :: st) h := by
  obtain ⟨v, h1, h2⟩ := bind_of hf
  unfold strL at h1
  by_cases hj : j < 7
  · rw [if_pos hj] at h1
    cases h1
    refine V_callvS (M' := mJ0_length) (al' := false) (mc' := 0) (ms' := 0) (d' := 4) (As := []) (rest := st) hj hd e mok_J0_length hl rfl rfl rfl hw (fun q => by cases q) ⟨by omega, by show 8 + (1 + 11) + 40 * 4 ≤ _; omega⟩ hR.2.2 (ct_sLen hj) (fun r S' h' hq => ?_)
    obtain ⟨rfl, rfl, rfl⟩ := hq
    exact kk _ h2
  · rw [if_neg hj] at h1; cases h1
theorem V_strC {kf : Int32 → Option β} {i : Int32} (hd : decode M.2.2.1 pc = .ok (.invokevirtual ix, 3)) (e : pc + 3 = pc') (hl : Cond.methodLink M.1 ix yJ0_charAt_5068e ∈ BIG) (hw : (st.map fun v => v.category).sum ≤ 8) (hR : 8 ≤ R.frames ∧ 320 ≤ R.locals ∧ cells ≤ R.cells ∧ slots ≤ R.slots) (hf : (strC j i).bind kf = some o) (kk : ∀ x, kf x = some o → V l G B N M R al mc ms Q S cells slots pc' lv (.int x :: st) h) : V l G B N M R al mc ms Q S cells slots pc lv (.int i :: .retAddr j :: st) h := by
  obtain ⟨v, h1, h2⟩ := bind_of hf
  unfold strC at h1
  by_cases hj : j < 7
  · rw [if_pos hj] at h1
    obtain ⟨hin, h1⟩ := inb_of h1
    cases h1
    refine V_callvS (M' := mJ0_charAt) (al' := false) (mc' := 0) (ms' := 0) (d' := 6) (As := [.int i]) (rest := st) hj hd e mok_J0_charAt hl rfl rfl rfl hw (fun q => by cases q) ⟨by omega, by show 8 + (2 + 11) + 40 * 6 ≤ _; omega⟩ hR.2.2 (ct_sChr hj hin) (fun r S' h' hq => ?_)
    obtain ⟨rfl, rfl, rfl⟩ := hq
    exact kk _ h2
  · rw [if_neg hj] at h1; cases h1
end VT
