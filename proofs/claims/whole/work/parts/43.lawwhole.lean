theorem bl_10 : Cond.classLink R_law 7 RX10 ∈ BIG := bmem 134 (by decide +kernel) rfl
theorem bl_10i : Cond.instantiable RX10 17 ∈ BIG := bmem 135 (by decide +kernel) rfl
theorem bl_10n : Cond.initialized RX10 ∈ BIG := bmem 114 (by decide +kernel) rfl
theorem bl_11 : Cond.classLink R_law 10 RX11 ∈ BIG := bmem 1218 (by decide +kernel) rfl
theorem bl_11i : Cond.instantiable RX11 46 ∈ BIG := bmem 1219 (by decide +kernel) rfl
theorem bl_11n : Cond.initialized RX11 ∈ BIG := bmem 127 (by decide +kernel) rfl
theorem bl_9 : Cond.methodLink R_law 9 yX10_init ∈ BIG := bmem 136 (by decide +kernel) rfl
theorem bl_12 : Cond.methodLink R_law 12 yX11_init ∈ BIG := bmem 1220 (by decide +kernel) rfl
theorem law_born {G : GE} {s : State} {args : Array Value} {B c : Nat} {H : Heap} {kC : Class} (hts : ∀ w ∈ BIG, w.before args s = true) (hK : va_K G.1 vwCl (tysG G) s) (hc : c < 12) (hkC : s.vm.classes[G.1.1 c]? = some kC) (e1 : H[B]? = some (blank (G.1.1 c) kC)) : va_P G.1 vwCl (wsO B G.2.1 [.inl c] hOne) H := by
  intro k q hq
  obtain ⟨x, hx, rfl⟩ := wsO_of hq
  match k, hx with
  | 0, hx =>
    cases hx
    refine ⟨_, clsAt hc, (u_born (tyOf c) hts (clsIn hc) (hK.1 c _ (clsAt hc)) hkC e1 (clsTy hc)).to (fun j hj => ?_)⟩
    show defaultValue (tyOf c j) = vp_V ((List.range (CLS c).2.2).map (fun k => fvl B (tyOf c k) hOne 0 k)) j
    have hj' : j < (CLS c).2.2 := hj
    have x2 : gI hOne 0 j = 0 := rfl
    have x3 : gL hOne 0 j = 0 := rfl
    have x4 : gR hOne 0 j = none := rfl
    have hv : vp_V ((List.range (CLS c).2.2).map (fun k => fvl B (tyOf c k) hOne 0 k)) j = fvl B (tyOf c j) hOne 0 j := by
      simp [vp_V, hj']
    rw [hv]
    have ok := okTy_all c hc j hj'
    cases htj : tyOf c j <;> rw [htj] at ok <;> first | (cases ok; done) | (simp only [fvl, x2, x3, x4, rfv]; rfl)
  | k + 1, hx => simp at hx
theorem law_init {l : Launch} {G : GE} {b L : Nat} {xs : Nat → Int32} {p : Program} {ev : Env} {s : State} {m : MethodId} {below : List Frame} {meth : Method} {c : Code} {H : Heap} {locs : List Loc} {cells slots pc : Nat} {ls : Array Slot} {lv : List (Nat × Value)} {M' : MI} {ix d' mc' ms' B : Nat} {S T : List SHP} {h h' : MH} {Q : State → Prop} (C : LC G b L xs p s m meth c) (hS : va_S (fun q => s.heap.size ≤ q) s.heap H locs) (hB : s.heap.size ≤ B) (hP : va_P G.1 vwCl (wsO B G.2.1 S h) H) (hz : H.size = B + S.length)
    (ct : Met l M'.2.1 (WSM M') (rmm d' mc' ms') (PC G B H.size true S [.ref 0] h) (QC G B S.length true (QA S T h')) mc' ms' (AR B S.length H.size)) (mk : MOKi M' 0) (hl0 : Cond.methodLink R_law ix M'.2.1 ∈ BIG) (hR : d' + 1 ≤ 2048 ∧ 8 + (M'.2.2.2.1 + 11) + 40 * d' ≤ 84000) (hR2 : cells + mc' ≤ 600000 ∧ slots + ms' ≤ 7302250) (hd : decode code pc = .ok (.invokespecial ix, 3)) (hl : lv_has ls 4 lv)
    (kk : ∀ (S' : List SHP) (H1 : Heap) (locs1 : List Loc), S' = S ++ T → va_P G.1 vwCl (wsO B G.2.1 S' h') H1 → TY S' h' → H1.size = B + S'.length → (∀ q, q < H.size → ¬ AR B S.length H.size q → H1[q]? = H[q]?) → va_S (fun q => s.heap.size ≤ q) s.heap H1 locs1 → W p l ev room_1 s m #[Value.ref b] below meth c H1 locs1 (cells + mc') (slots + ms') Q (F0 m (pc + 3) ls [.ref B])) :
    W p l ev room_1 s m #[Value.ref b] below meth c H locs cells slots Q (F0 m pc ls [.ref B, .ref B]) := by
  have hts := C.2.2.2.2.2.1
  obtain ⟨m0, m1, m2, m3⟩ := mk
  have hBk := MOK_B (R := room_1) (mc' := mc') (ms' := ms') hts m0 hR hl0
  rw [m3] at hBk
  have hrun := va_runI (l := l) (p := p) (e := ev) (R := room_1) (s := s) (m := m) (args := #[Value.ref b]) (below := below) (meth := meth) (c := c) (H := H) (locs := locs) (cells := cells) (slots := slots) (b := B) (As := []) (rest := [.ref B]) (nL := 4) (Ts := BIG) (g := F0 m pc ls [.ref B, .ref B]) ⟨C.1, C.2.1, C.2.2.2.1, C.2.2.2.2.1, hts⟩ ct ⟨hBk, m2, hts _ m1⟩ ⟨PC_blind, fun U hU hW => L_pre (al := true) (av := [.ref 0]) C hB hS hP (by omega) (fun _ => hz) hU hW⟩ rfl rfl hl.1 rfl (lv_room (Nat.le_of_ble_eq_true rfl)) hd hR2
  intro Ts hTh X
  obtain ⟨v, st₀, t, T', Lq, h0, X', hLq, f1, f2, ⟨r, S', h'', hv, hq, hP', hT', hz', hal', hF⟩, stp⟩ := hrun Ts hTh X
  have hv : v = r.map (tr G B) := by injection hv
  obtain ⟨rfl, e5, rfl⟩ := hq
  subst hv
  have hF2 := hF.2
  rw [h0] at hF2 hz'
  have hF1 := hF.1
  rw [h0] at hF1
  have hsub : ∀ q, AR B S.length H.size q → s.heap.size ≤ q := by
    intro q hq
    have := hS.1
    rcases hq with hq | hq <;> omega
  obtain ⟨t2, a1, b1⟩ := kk S' T'.heap (locs ++ Lq) e5 (by rw [f1]; exact hP') hT' (by rw [f1]; omega) (fun q q1 q2 => by rw [f1]; exact hF2 q q1 q2) ⟨by rw [f1]; exact Nat.le_trans hS.1 hF1, fun q q1 q2 => by
      rw [f1, hF2 q (Nat.lt_of_lt_of_le q1 hS.1) (fun z => q2 (hsub q z))]
      exact hS.2.1 q q1 q2, fun q hq => by
      rcases List.mem_append.mp hq with h | h
      · exact hS.2.2 q h
      · exact hsub _ (hLq q h)⟩ T' rfl X'
  exact ⟨t2, stp t2 a1, b1⟩
theorem vI_in {i j L : Nat} (h : i + j < L) (hL : L ≤ 3072) : vp_in (nI i + nI j) L := by
  rw [nI_add]; exact vp_in_nI h (by omega)
set_option maxRecDepth 100000 in
set_option maxHeartbeats 8000000 in
theorem law_body {l : Launch} {G : GE} {b L : Nat} {xs : Nat → Int32} {RR : MH → MH → Prop} (j0 : J_nodes RR) (j1 : J_link RR) (j2 : J_state RR) (j3 : J_cost RR) (j4 : J_bind RR) (j5 : J_unbind RR) (j6 : J_depth RR) (j7 : J_on RR) (j8 : J_off RR) (j9 : J_label RR) (j10 : J_pop RR) (j11 : J_write RR) (j12 : J_witness RR) (j13 : J_greedy RR) (j14 : J_covers RR) (j15 : J_far RR) (j16 : J_paths RR) (j17 : J_next RR) (j18 : J_ends RR) (j19 : J_exact RR) (j20 : J_high RR) (j21 : J_course RR) (j22 : J_share RR) (j23 : J_demand RR) (j24 : J_load RR) (j25 : J_heaviest RR) (j26 : J_repair RR) (j27 : J_guards RR) (j28 : J_writable RR) (j29 : J_stays RR) (j30 : J_keep RR) (j31 : J_take RR) (j32 : J_feed RR) (j33 : J_end RR) (j34 : J_text RR) (j35 : J_fault RR) (j36 : J_undo RR) (j37 : J_at RR) (j38 : J_linkOf RR) (j39 : J_binding RR) (j40 : J_demandOf RR) (j41 : J_image RR) (j42 : J_look RR) (hL : L ≤ 3072) {i : Nat} (hi : i + 6 ≤ L) {hx hm : MH} (hR : RR hx hm) (kk : ∀ hx' hm', RR hx' hm' → LJ l G b L xs 1434 (nI i) [] hx' hm') : LJ l G b L xs 27 (nI i) [] hx hm := by
  have hi0 : vp_in (nI i) L := vp_in_nI (by omega) (by omega)
  have hi1 : vp_in (nI i + 1) L := vI_in (j := 1) (by omega) hL
  have hi2 : vp_in (nI i + 2) L := vI_in (j := 2) (by omega) hL
  have hi3 : vp_in (nI i + 3) L := vI_in (j := 3) (by omega) hL
  have hi4 : vp_in (nI i + 4) L := vI_in (j := 4) (by omega) hL
  have hi5 : vp_in (nI i + 5) L := vI_in (j := 5) (by omega) hL
  refine L_aload (pc' := 28) (q := 2) dL_law_27 rfl (by decide) ?_
  refine L_iload (pc' := 29) dL_law_28 rfl ?_
  refine L_sld (pc' := 30) dL_law_29 rfl hi0 rfl ?_
  refine L_bipush (v := 63) (pc' := 32) dL_law_30 rfl (by decide) ?_
  refine L_iand (pc' := 33) dL_law_32 rfl ?_
  generalize (xs (nI i).toNatClampNeg &&& 63) = x
  by_cases c0 : x = 0
  · refine L_tabIn (off := 187) (tgt := 220) dL_law_33 (by rw [c0]; decide) (by rw [c0]; decide) (by rw [c0]; rfl) (by decide) ?_
    exact lc_nodes j0 hi1 hi2 hi3 hi4 hi5 hR kk
  by_cases c1 : x = 1
  · refine L_tabIn (off := 210) (tgt := 243) dL_law_33 (by rw [c1]; decide) (by rw [c1]; decide) (by rw [c1]; rfl) (by decide) ?_
    exact lc_link j1 hi1 hi2 hi3 hi4 hi5 hR kk
  by_cases c2 : x = 2
  · refine L_tabIn (off := 253) (tgt := 286) dL_law_33 (by rw [c2]; decide) (by rw [c2]; decide) (by rw [c2]; rfl) (by decide) ?_
    exact lc_state j2 hi1 hi2 hi3 hi4 hi5 hR kk
  by_cases c3 : x = 3
  · refine L_tabIn (off := 302) (tgt := 335) dL_law_33 (by rw [c3]; decide) (by rw [c3]; decide) (by rw [c3]; rfl) (by decide) ?_
    exact lc_cost j3 hi1 hi2 hi3 hi4 hi5 hR kk
  by_cases c4 : x = 4
  · refine L_tabIn (off := 335) (tgt := 368) dL_law_33 (by rw [c4]; decide) (by rw [c4]; decide) (by rw [c4]; rfl) (by decide) ?_
    exact lc_bind j4 hi1 hi2 hi3 hi4 hi5 hR kk
  by_cases c5 : x = 5
  · refine L_tabIn (off := 368) (tgt := 401) dL_law_33 (by rw [c5]; decide) (by rw [c5]; decide) (by rw [c5]; rfl) (by decide) ?_
    exact lc_unbind j5 hi1 hi2 hi3 hi4 hi5 hR kk
  by_cases c6 : x = 6
  · refine L_tabIn (off := 391) (tgt := 424) dL_law_33 (by rw [c6]; decide) (by rw [c6]; decide) (by rw [c6]; rfl) (by decide) ?_
    exact lc_depth j6 hi1 hi2 hi3 hi4 hi5 hR kk
  by_cases c7 : x = 7
  · refine L_tabIn (off := 414) (tgt := 447) dL_law_33 (by rw [c7]; decide) (by rw [c7]; decide) (by rw [c7]; rfl) (by decide) ?_
    exact lc_on j7 hi1 hi2 hi3 hi4 hi5 hR kk
  by_cases c8 : x = 8
  · refine L_tabIn (off := 437) (tgt := 470) dL_law_33 (by rw [c8]; decide) (by rw [c8]; decide) (by rw [c8]; rfl) (by decide) ?_
    exact lc_off j8 hi1 hi2 hi3 hi4 hi5 hR kk
  by_cases c9 : x = 9
  · refine L_tabIn (off := 460) (tgt := 493) dL_law_33 (by rw [c9]; decide) (by rw [c9]; decide) (by rw [c9]; rfl) (by decide) ?_
    exact lc_label j9 hi1 hi2 hi3 hi4 hi5 hR kk
  by_cases c10 : x = 10
  · refine L_tabIn (off := 483) (tgt := 516) dL_law_33 (by rw [c10]; decide) (by rw [c10]; decide) (by rw [c10]; rfl) (by decide) ?_
    exact lc_pop j10 hi1 hi2 hi3 hi4 hi5 hR kk
  by_cases c11 : x = 11
  · refine L_tabIn (off := 506) (tgt := 539) dL_law_33 (by rw [c11]; decide) (by rw [c11]; decide) (by rw [c11]; rfl) (by decide) ?_
    exact lc_write j11 hi1 hi2 hi3 hi4 hi5 hR kk
  by_cases c12 : x = 12
  · refine L_tabIn (off := 519) (tgt := 552) dL_law_33 (by rw [c12]; decide) (by rw [c12]; decide) (by rw [c12]; rfl) (by decide) ?_
    exact lc_witness j12 hi1 hi2 hi3 hi4 hi5 hR kk
  by_cases c13 : x = 13
  · refine L_tabIn (off := 532) (tgt := 565) dL_law_33 (by rw [c13]; decide) (by rw [c13]; decide) (by rw [c13]; rfl) (by decide) ?_
    exact lc_greedy j13 hi1 hi2 hi3 hi4 hi5 hR kk
  by_cases c14 : x = 14
  · refine L_tabIn (off := 545) (tgt := 578) dL_law_33 (by rw [c14]; decide) (by rw [c14]; decide) (by rw [c14]; rfl) (by decide) ?_
    exact lc_covers j14 hi1 hi2 hi3 hi4 hi5 hR kk
  by_cases c15 : x = 15
  · refine L_tabIn (off := 568) (tgt := 601) dL_law_33 (by rw [c15]; decide) (by rw [c15]; decide) (by rw [c15]; rfl) (by decide) ?_
    exact lc_far j15 hi1 hi2 hi3 hi4 hi5 hR kk
  by_cases c16 : x = 16
  · refine L_tabIn (off := 601) (tgt := 634) dL_law_33 (by rw [c16]; decide) (by rw [c16]; decide) (by rw [c16]; rfl) (by decide) ?_
    exact lc_paths j16 hi1 hi2 hi3 hi4 hi5 hR kk
  by_cases c17 : x = 17
  · refine L_tabIn (off := 635) (tgt := 668) dL_law_33 (by rw [c17]; decide) (by rw [c17]; decide) (by rw [c17]; rfl) (by decide) ?_
    exact lc_next j17 hi1 hi2 hi3 hi4 hi5 hR kk
  by_cases c18 : x = 18
  · refine L_tabIn (off := 668) (tgt := 701) dL_law_33 (by rw [c18]; decide) (by rw [c18]; decide) (by rw [c18]; rfl) (by decide) ?_
    exact lc_ends j18 hi1 hi2 hi3 hi4 hi5 hR kk
  by_cases c19 : x = 19
  · refine L_tabIn (off := 691) (tgt := 724) dL_law_33 (by rw [c19]; decide) (by rw [c19]; decide) (by rw [c19]; rfl) (by decide) ?_
    exact lc_exact j19 hi1 hi2 hi3 hi4 hi5 hR kk
  by_cases c20 : x = 20
  · refine L_tabIn (off := 714) (tgt := 747) dL_law_33 (by rw [c20]; decide) (by rw [c20]; decide) (by rw [c20]; rfl) (by decide) ?_
    exact lc_high j20 hi1 hi2 hi3 hi4 hi5 hR kk
  by_cases c21 : x = 21
  · refine L_tabIn (off := 737) (tgt := 770) dL_law_33 (by rw [c21]; decide) (by rw [c21]; decide) (by rw [c21]; rfl) (by decide) ?_
    exact lc_course j21 hi1 hi2 hi3 hi4 hi5 hR kk
  by_cases c22 : x = 22
  · refine L_tabIn (off := 760) (tgt := 793) dL_law_33 (by rw [c22]; decide) (by rw [c22]; decide) (by rw [c22]; rfl) (by decide) ?_
    exact lc_share j22 hi1 hi2 hi3 hi4 hi5 hR kk
  by_cases c23 : x = 23
  · refine L_tabIn (off := 804) (tgt := 837) dL_law_33 (by rw [c23]; decide) (by rw [c23]; decide) (by rw [c23]; rfl) (by decide) ?_
    exact lc_demand j23 hi1 hi2 hi3 hi4 hi5 hR kk
  by_cases c24 : x = 24
  · refine L_tabIn (off := 847) (tgt := 880) dL_law_33 (by rw [c24]; decide) (by rw [c24]; decide) (by rw [c24]; rfl) (by decide) ?_
    exact lc_load j24 hi1 hi2 hi3 hi4 hi5 hR kk
  by_cases c25 : x = 25
  · refine L_tabIn (off := 881) (tgt := 914) dL_law_33 (by rw [c25]; decide) (by rw [c25]; decide) (by rw [c25]; rfl) (by decide) ?_
    exact lc_heaviest j25 hi1 hi2 hi3 hi4 hi5 hR kk
  by_cases c26 : x = 26
  · refine L_tabIn (off := 894) (tgt := 927) dL_law_33 (by rw [c26]; decide) (by rw [c26]; decide) (by rw [c26]; rfl) (by decide) ?_
    exact lc_repair j26 hi1 hi2 hi3 hi4 hi5 hR kk
  by_cases c27 : x = 27
  · refine L_tabIn (off := 927) (tgt := 960) dL_law_33 (by rw [c27]; decide) (by rw [c27]; decide) (by rw [c27]; rfl) (by decide) ?_
    exact lc_guards j27 hi1 hi2 hi3 hi4 hi5 hR kk
  by_cases c28 : x = 28
  · refine L_tabIn (off := 950) (tgt := 983) dL_law_33 (by rw [c28]; decide) (by rw [c28]; decide) (by rw [c28]; rfl) (by decide) ?_
    exact lc_writable j28 hi1 hi2 hi3 hi4 hi5 hR kk
  by_cases c29 : x = 29
  · refine L_tabIn (off := 1003) (tgt := 1036) dL_law_33 (by rw [c29]; decide) (by rw [c29]; decide) (by rw [c29]; rfl) (by decide) ?_
    exact lc_stays j29 hi1 hi2 hi3 hi4 hi5 hR kk
  by_cases c30 : x = 30
  · refine L_tabIn (off := 1036) (tgt := 1069) dL_law_33 (by rw [c30]; decide) (by rw [c30]; decide) (by rw [c30]; rfl) (by decide) ?_
    exact lc_keep j30 hi1 hi2 hi3 hi4 hi5 hR kk
  by_cases c31 : x = 31
  · refine L_tabIn (off := 1049) (tgt := 1082) dL_law_33 (by rw [c31]; decide) (by rw [c31]; decide) (by rw [c31]; rfl) (by decide) ?_
    exact lc_take j31 hi1 hi2 hi3 hi4 hi5 hR kk
  by_cases c32 : x = 32
  · refine L_tabIn (off := 1072) (tgt := 1105) dL_law_33 (by rw [c32]; decide) (by rw [c32]; decide) (by rw [c32]; rfl) (by decide) ?_
    exact lc_feed j32 hi1 hi2 hi3 hi4 hi5 hR kk
  by_cases c33 : x = 33
  · refine L_tabIn (off := 1135) (tgt := 1168) dL_law_33 (by rw [c33]; decide) (by rw [c33]; decide) (by rw [c33]; rfl) (by decide) ?_
    exact lc_end j33 hi1 hi2 hi3 hi4 hi5 hR kk
  by_cases c34 : x = 34
  · refine L_tabIn (off := 1158) (tgt := 1191) dL_law_33 (by rw [c34]; decide) (by rw [c34]; decide) (by rw [c34]; rfl) (by decide) ?_
    exact lc_text j34 hi1 hi2 hi3 hi4 hi5 hR kk
  by_cases c35 : x = 35
  · refine L_tabIn (off := 1171) (tgt := 1204) dL_law_33 (by rw [c35]; decide) (by rw [c35]; decide) (by rw [c35]; rfl) (by decide) ?_
    exact lc_fault j35 hi1 hi2 hi3 hi4 hi5 hR kk
  by_cases c36 : x = 36
  · refine L_tabIn (off := 1194) (tgt := 1227) dL_law_33 (by rw [c36]; decide) (by rw [c36]; decide) (by rw [c36]; rfl) (by decide) ?_
    exact lc_undo j36 hi1 hi2 hi3 hi4 hi5 hR kk
  by_cases c37 : x = 37
  · refine L_tabIn (off := 1207) (tgt := 1240) dL_law_33 (by rw [c37]; decide) (by rw [c37]; decide) (by rw [c37]; rfl) (by decide) ?_
    exact lc_at j37 hi1 hi2 hi3 hi4 hi5 hR kk
  by_cases c38 : x = 38
  · refine L_tabIn (off := 1240) (tgt := 1273) dL_law_33 (by rw [c38]; decide) (by rw [c38]; decide) (by rw [c38]; rfl) (by decide) ?_
    exact lc_linkOf j38 hi1 hi2 hi3 hi4 hi5 hR kk
  by_cases c39 : x = 39
  · refine L_tabIn (off := 1273) (tgt := 1306) dL_law_33 (by rw [c39]; decide) (by rw [c39]; decide) (by rw [c39]; rfl) (by decide) ?_
    exact lc_binding j39 hi1 hi2 hi3 hi4 hi5 hR kk
  by_cases c40 : x = 40
  · refine L_tabIn (off := 1306) (tgt := 1339) dL_law_33 (by rw [c40]; decide) (by rw [c40]; decide) (by rw [c40]; rfl) (by decide) ?_
    exact lc_demandOf j40 hi1 hi2 hi3 hi4 hi5 hR kk
  by_cases c41 : x = 41
  · refine L_tabIn (off := 1339) (tgt := 1372) dL_law_33 (by rw [c41]; decide) (by rw [c41]; decide) (by rw [c41]; rfl) (by decide) ?_
    exact lc_image j41 hi1 hi2 hi3 hi4 hi5 hR kk
  by_cases c42 : x = 42
  · refine L_tabIn (off := 1378) (tgt := 1411) dL_law_33 (by rw [c42]; decide) (by rw [c42]; decide) (by rw [c42]; rfl) (by decide) ?_
    exact lc_look j42 hi1 hi2 hi3 hi4 hi5 hR kk
  refine L_tabOut (tgt := 1434) dL_law_33 (by have e0 := tI_ne (z := 0) (by decide) c0; have e1 := tI_ne (z := 1) (by decide) c1; have e2 := tI_ne (z := 2) (by decide) c2; have e3 := tI_ne (z := 3) (by decide) c3; have e4 := tI_ne (z := 4) (by decide) c4; have e5 := tI_ne (z := 5) (by decide) c5; have e6 := tI_ne (z := 6) (by decide) c6; have e7 := tI_ne (z := 7) (by decide) c7; have e8 := tI_ne (z := 8) (by decide) c8; have e9 := tI_ne (z := 9) (by decide) c9; have e10 := tI_ne (z := 10) (by decide) c10; have e11 := tI_ne (z := 11) (by decide) c11; have e12 := tI_ne (z := 12) (by decide) c12; have e13 := tI_ne (z := 13) (by decide) c13; have e14 := tI_ne (z := 14) (by decide) c14; have e15 := tI_ne (z := 15) (by decide) c15; have e16 := tI_ne (z := 16) (by decide) c16; have e17 := tI_ne (z := 17) (by decide) c17; have e18 := tI_ne (z := 18) (by decide) c18; have e19 := tI_ne (z := 19) (by decide) c19; have e20 := tI_ne (z := 20) (by decide) c20; have e21 := tI_ne (z := 21) (by decide) c21; have e22 := tI_ne (z := 22) (by decide) c22; have e23 := tI_ne (z := 23) (by decide) c23; have e24 := tI_ne (z := 24) (by decide) c24; have e25 := tI_ne (z := 25) (by decide) c25; have e26 := tI_ne (z := 26) (by decide) c26; have e27 := tI_ne (z := 27) (by decide) c27; have e28 := tI_ne (z := 28) (by decide) c28; have e29 := tI_ne (z := 29) (by decide) c29; have e30 := tI_ne (z := 30) (by decide) c30; have e31 := tI_ne (z := 31) (by decide) c31; have e32 := tI_ne (z := 32) (by decide) c32; have e33 := tI_ne (z := 33) (by decide) c33; have e34 := tI_ne (z := 34) (by decide) c34; have e35 := tI_ne (z := 35) (by decide) c35; have e36 := tI_ne (z := 36) (by decide) c36; have e37 := tI_ne (z := 37) (by decide) c37; have e38 := tI_ne (z := 38) (by decide) c38; have e39 := tI_ne (z := 39) (by decide) c39; have e40 := tI_ne (z := 40) (by decide) c40; have e41 := tI_ne (z := 41) (by decide) c41; have e42 := tI_ne (z := 42) (by decide) c42; omega) (by decide) ?_
  exact kk _ _ hR
theorem law_gt {i L : Nat} (h : L < i + 6) (hL : L ≤ 3072) (h2 : i ≤ L + 6) : Int32.ofNat L - 6 < nI i := by
  rw [Int32.lt_iff_toInt_lt]
  have h1 : (Int32.ofNat L).toInt = L := Int32.toInt_ofNat_of_lt (by omega)
  have h3 : (nI i).toInt = i := nI_toInt (by omega)
  have h4 : (Int32.ofNat L - 6).toInt = (L : Int) - 6 := by
    rw [Int32.toInt_sub, h1]
    have h6 : (6 : Int32).toInt = 6 := rfl
    rw [h6]
    rw [Int.bmod_eq_of_le (by omega) (by omega)]
  rw [h4, h3]
  omega

theorem nI_6 (i : Nat) : nI i + 6 = nI (i + 6) := nI_add i 6
theorem law_loop {l : Launch} {G : GE} {b L : Nat} {xs : Nat → Int32} {RR : MH → MH → Prop} (j0 : J_nodes RR) (j1 : J_link RR) (j2 : J_state RR) (j3 : J_cost RR) (j4 : J_bind RR) (j5 : J_unbind RR) (j6 : J_depth RR) (j7 : J_on RR) (j8 : J_off RR) (j9 : J_label RR) (j10 : J_pop RR) (j11 : J_write RR) (j12 : J_witness RR) (j13 : J_greedy RR) (j14 : J_covers RR) (j15 : J_far RR) (j16 : J_paths RR) (j17 : J_next RR) (j18 : J_ends RR) (j19 : J_exact RR) (j20 : J_high RR) (j21 : J_course RR) (j22 : J_share RR) (j23 : J_demand RR) (j24 : J_load RR) (j25 : J_heaviest RR) (j26 : J_repair RR) (j27 : J_guards RR) (j28 : J_writable RR) (j29 : J_stays RR) (j30 : J_keep RR) (j31 : J_take RR) (j32 : J_feed RR) (j33 : J_end RR) (j34 : J_text RR) (j35 : J_fault RR) (j36 : J_undo RR) (j37 : J_at RR) (j38 : J_linkOf RR) (j39 : J_binding RR) (j40 : J_demandOf RR) (j41 : J_image RR) (j42 : J_look RR) (hL : L ≤ 3072) : ∀ (n i : Nat) (hx hm : MH), L < i + n → i ≤ L + 6 → RR hx hm → LJ l G b L xs 18 (nI i) [] hx hm := by
  intro n
  induction n with
  | zero => intro i hx hm h1 h2 hR
            refine L_iload (pc' := 19) dL_law_18 rfl ?_
            refine L_aload (pc' := 20) (q := 2) dL_law_19 rfl (by decide) ?_
            refine L_slen (pc' := 21) dL_law_20 rfl ?_
            refine L_bipush (v := 6) (pc' := 23) dL_law_21 rfl (by decide) ?_
            refine L_isub (pc' := 24) dL_law_23 rfl ?_
            refine L_gt (tgt := 1440) (pc' := 27) dL_law_24 (by decide) rfl (fun _ => ?_) (fun q => absurd (law_gt (by omega) hL h2) q)
            refine L_iconst (v := 1) (pc' := 1441) dL_law_1440 rfl (by decide) ?_
            exact L_ret dL_law_1441
  | succ n ih =>
    intro i hx hm h1 h2 hR
    refine L_iload (pc' := 19) dL_law_18 rfl ?_
    refine L_aload (pc' := 20) (q := 2) dL_law_19 rfl (by decide) ?_
    refine L_slen (pc' := 21) dL_law_20 rfl ?_
    refine L_bipush (v := 6) (pc' := 23) dL_law_21 rfl (by decide) ?_
    refine L_isub (pc' := 24) dL_law_23 rfl ?_
    refine L_gt (tgt := 1440) (pc' := 27) dL_law_24 (by decide) rfl (fun _ => ?_) (fun q => ?_)
    · refine L_iconst (v := 1) (pc' := 1441) dL_law_1440 rfl (by decide) ?_
      exact L_ret dL_law_1441
    · have hi : i + 6 ≤ L := by
        rcases Nat.lt_or_ge L (i + 6) with h | h
        · exact absurd (law_gt h hL h2) q
        · exact h
      refine law_body j0 j1 j2 j3 j4 j5 j6 j7 j8 j9 j10 j11 j12 j13 j14 j15 j16 j17 j18 j19 j20 j21 j22 j23 j24 j25 j26 j27 j28 j29 j30 j31 j32 j33 j34 j35 j36 j37 j38 j39 j40 j41 j42 hL hi hR (fun hx' hm' hR' => ?_)
      refine L_iinc (pc' := 1437) (v := nI (i + 6)) dL_law_1434 rfl (nI_6 i) ?_
      refine L_goto (tgt := 18) dL_law_1437 (by decide) ?_
      exact ih (i + 6) hx' hm' (by omega) (by omega) hR'
set_option maxRecDepth 100000 in
set_option maxHeartbeats 4000000 in
/-- the claim's walk, out of the ops' rows -/
theorem whole_of {RR : MH → MH → Prop} (h0 : ∃ hx hm : MH, f_X10_init 0 hOne = some hx ∧ f_X11_init 0 hOne = some hm ∧ RR hx hm) (j0 : J_nodes RR) (j1 : J_link RR) (j2 : J_state RR) (j3 : J_cost RR) (j4 : J_bind RR) (j5 : J_unbind RR) (j6 : J_depth RR) (j7 : J_on RR) (j8 : J_off RR) (j9 : J_label RR) (j10 : J_pop RR) (j11 : J_write RR) (j12 : J_witness RR) (j13 : J_greedy RR) (j14 : J_covers RR) (j15 : J_far RR) (j16 : J_paths RR) (j17 : J_next RR) (j18 : J_ends RR) (j19 : J_exact RR) (j20 : J_high RR) (j21 : J_course RR) (j22 : J_share RR) (j23 : J_demand RR) (j24 : J_load RR) (j25 : J_heaviest RR) (j26 : J_repair RR) (j27 : J_guards RR) (j28 : J_writable RR) (j29 : J_stays RR) (j30 : J_keep RR) (j31 : J_take RR) (j32 : J_feed RR) (j33 : J_end RR) (j34 : J_text RR) (j35 : J_fault RR) (j36 : J_undo RR) (j37 : J_at RR) (j38 : J_linkOf RR) (j39 : J_binding RR) (j40 : J_demandOf RR) (j41 : J_image RR) (j42 : J_look RR) {p : Program} {e : Env} {s : State} {m : MethodId} {below : List Frame} {meth : Method} {c : Code} (l : Launch) {b L : Nat} {xs : Nat → Int32} (hL : L ≤ 3072) (C0 : lw_At p s m meth c b L xs) : W p l e room_1 s m #[Value.ref b] below meth c s.heap [] 0 0 (lw_Z below #[Value.ref b] s) (entryFrame m ([Value.ref b] : List Value).toArray 4) := by
  obtain ⟨hts, G, hK, hE⟩ := law_env C0
  obtain ⟨hx, hb, hr, hml, hown, -, hX, hbl, hlocks, hgv⟩ := id C0
  obtain ⟨x0, m0, ex, em, hR⟩ := h0
  have C : LC G b L xs p s m meth c := ⟨hx, hb, hr, hml, hown, hts, hK, hE, hX, hbl, hlocks⟩
  have hl := lv_entry ([.ref b]) (n := 4) (Nat.le_of_ble_eq_true rfl)
  rw [lg_entry_eq]
  generalize (lg_sl ([.ref b]) ++ List.replicate (4 - (lg_sl ([.ref b])).length) Slot.unset).toArray = ls at hl ⊢
  have hl : lv_has ls 4 [(0, .ref b)] := hl
  have hS : va_S (fun q : Nat => s.heap.size ≤ q) s.heap s.heap [] := va_S.rf
  -- new LabelStacks
  refine W.newcK (cC := G.1.1 10) hx hb hown (hts _ bl_10) (hts _ bl_10i) (hts _ bl_10n) rfl dL_law_0 (Nat.le_of_ble_eq_true rfl) (Nat.le_of_ble_eq_true rfl) (hK.1 10 _ (clsAt (c := 10) (by decide))).2.1 rfl fun H1 kC hkC e1 z1 o1 => ?_
  have hP1 : va_P G.1 vwCl (wsO s.heap.size G.2.1 [.inl 10] hOne) H1 := law_born hts hK (by decide) hkC e1
  have hT1 : TY [.inl 10] hOne := ⟨rfl, fun a k b' x y h1 h2 h3 => by cases a <;> cases h3⟩
  have hS1 : va_S (fun q : Nat => s.heap.size ≤ q) s.heap H1 [] := ⟨by omega, fun q h1 h2 => o1 q h1, hS.2.2⟩
  refine lv_dup hx hb dL_law_3 rfl ?_
  have ct1 := ct_X10_init (l := l) (S := [.inl 10]) (h := hOne) (a0 := 0) rfl ex G s.heap.size H1.size hT1
  refine law_init C hS1 (Nat.le_refl _) hP1 (by rw [z1]; rfl) ct1 mok_X10_init bl_9 (by decide) (by decide) dL_law_4 hl (fun S' H2 locs2 hS' hP2 hT2 hz2 hk2 hS2 => ?_)
  have hS'' : S' = shX := hS'
  subst hS''
  refine lv_astore_n (lv' := [(1, .ref s.heap.size), (0, .ref b)]) hx hb dL_law_7 rfl hl (by decide) rfl (fun ls hl => ?_)
  -- new LabelStacksModel
  have hz2' : H2.size = s.heap.size + shX.length := hz2
  refine W.newcK (cC := G.1.1 11) hx hb hown (hts _ bl_11) (hts _ bl_11i) (hts _ bl_11n) rfl dL_law_8 (Nat.le_of_ble_eq_true rfl) (Nat.le_of_ble_eq_true rfl) (hK.1 11 _ (clsAt (c := 11) (by decide))).2.1 hz2' fun H3 kM hkM e3 z3 o3 => ?_
  have hP3 : va_P G.1 vwCl (wsO (s.heap.size + shX.length) G.2.1 [.inl 11] hOne) H3 := law_born hts hK (by decide) hkM e3
  have hT3 : TY [.inl 11] hOne := ⟨rfl, fun a k b' x y h1 h2 h3 => by cases a <;> cases h3⟩
  have hS3 : va_S (fun q : Nat => s.heap.size ≤ q) s.heap H3 locs2 := ⟨by omega, fun q h1 h2 => (o3 q (by omega)).trans (hS2.2.1 q h1 h2), hS2.2.2⟩
  have hPx3 : va_P G.1 vwCl (wsO s.heap.size G.2.1 shX x0) H3 := hP2.kept (fun k q hq => o3 _ (by rw [← hz2']; exact (hP2 k q hq).lt))
  refine lv_dup hx hb dL_law_11 rfl ?_
  have ct2 := ct_X11_init (l := l) (S := [.inl 11]) (h := hOne) (a0 := 0) rfl em G (s.heap.size + shX.length) H3.size hT3
  refine law_init C hS3 (by omega) hP3 (by rw [z3]; rfl) ct2 mok_X11_init bl_12 (by decide) (by decide) dL_law_12 hl (fun S' H4 locs4 hS' hP4 hT4 hz4 hk4 hS4 => ?_)
  have hS'' : S' = shM := hS'
  subst hS''
  have hPx4 : va_P G.1 vwCl (wsO s.heap.size G.2.1 shX x0) H4 := va_Pm hPx3 hk4 (fun a ha hq => by rcases hq with hq | hq <;> omega)
  refine lv_astore_n (lv' := [(2, .ref (s.heap.size + shX.length)), (1, .ref s.heap.size), (0, .ref b)]) hx hb dL_law_15 rfl hl (by decide) rfl (fun ls hl => ?_)
  refine lv_iconst (v := 0) hx hb dL_law_16 (by decide) ?_
  refine lv_istore_n (lv' := [(3, .int 0), (2, .ref (s.heap.size + shX.length)), (1, .ref s.heap.size), (0, .ref b)]) hx hb dL_law_17 rfl hl (by decide) rfl (fun ls hl => ?_)
  exact law_loop j0 j1 j2 j3 j4 j5 j6 j7 j8 j9 j10 j11 j12 j13 j14 j15 j16 j17 j18 j19 j20 j21 j22 j23 j24 j25 j26 j27 j28 j29 j30 j31 j32 j33 j34 j35 j36 j37 j38 j39 j40 j41 j42 hL (L + 1) 0 x0 m0 (by omega) (by omega) hR p e s m below meth c C H4 locs4 ls ⟨hPx4, hT2, hP4, hT4, hS4, hz4⟩ (lv_sub hl [3, 2, 1, 0] rfl)
