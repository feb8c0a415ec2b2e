/-! ===== the law's own walk ===== -/
def shX : List SHP := [.inl 10, .inl 7, .inl 2, .inr 0, .inr 0, .inr 0, .inr 0, .inl 6, .inr 0, .inr 0, .inr 0, .inr 0, .inl 6, .inr 0, .inr 0, .inl 6, .inr 0, .inr 0, .inl 5, .inr 0, .inl 5, .inr 0, .inl 0, .inr 3, .inl 7, .inl 2, .inr 0, .inr 0, .inr 0, .inr 0, .inl 6, .inr 0, .inr 0, .inr 0, .inr 0, .inl 6, .inr 0, .inr 0, .inl 6, .inr 0, .inr 0, .inl 5, .inr 0, .inl 7, .inl 2, .inr 0, .inr 0, .inr 0, .inr 0, .inl 6, .inr 0, .inr 0, .inr 0, .inr 0, .inl 6, .inr 0, .inr 0, .inl 6, .inr 0, .inr 0, .inl 5, .inr 0, .inl 7, .inl 2, .inr 0, .inr 0, .inr 0, .inr 0, .inl 6, .inr 0, .inr 0, .inr 0, .inr 0, .inl 6, .inr 0, .inr 0, .inl 6, .inr 0, .inr 0, .inl 5, .inr 0, .inl 7, .inl 2, .inr 0, .inr 0, .inr 0, .inr 0, .inl 6, .inr 0, .inr 0, .inr 0, .inr 0, .inl 6, .inr 0, .inr 0, .inl 6, .inr 0, .inr 0, .inl 5, .inr 0, .inl 7, .inl 2, .inr 0, .inr 0, .inr 0, .inr 0, .inl 6, .inr 0, .inr 0, .inr 0, .inr 0, .inl 6, .inr 0, .inr 0, .inl 6, .inr 0, .inr 0, .inl 5, .inr 0, .inl 7, .inl 2, .inr 0, .inr 0, .inr 0, .inr 0, .inl 6, .inr 0, .inr 0, .inr 0, .inr 0, .inl 6, .inr 0, .inr 0, .inl 6, .inr 0, .inr 0, .inl 5, .inr 0, .inl 7, .inl 2, .inr 0, .inr 0, .inr 0, .inr 0, .inl 6, .inr 0, .inr 0, .inr 0, .inr 0, .inl 6, .inr 0, .inr 0, .inl 6, .inr 0, .inr 0, .inl 5, .inr 0, .inl 5, .inr 0, .inl 8, .inr 2, .inl 2, .inr 0, .inr 0, .inr 0, .inr 0, .inl 6, .inr 0, .inr 0, .inl 4, .inr 0, .inr 1, .inl 4, .inr 0, .inr 1, .inl 4, .inr 0, .inr 1, .inl 9, .inr 0, .inr 0, .inr 0, .inr 0, .inl 3, .inl 5, .inr 0, .inl 5, .inr 0, .inl 1, .inr 1, .inr 1, .inr 0, .inr 1, .inr 1, .inl 1, .inr 1, .inr 1, .inl 5, .inr 0]
def shM : List SHP := [.inl 11, .inr 0, .inr 0, .inr 0, .inr 0, .inr 1, .inr 0, .inr 0, .inr 1, .inr 1, .inr 1, .inr 1, .inr 0, .inr 0, .inr 0, .inr 0, .inr 0, .inr 1, .inr 1, .inr 0, .inr 0, .inr 0, .inr 0]
def hNil : MH := (fun _ _ => 0, fun _ _ => 0, fun _ _ => none, fun _ => 0, 0)
def hOne : MH := nW hNil 0
def LC (G : GE) (b L : Nat) (xs : Nat → Int32) (p : Program) (s : State) (m : MethodId) (meth : Method) (c : Code) : Prop :=
  p.tables.exec = Jvm.exec ∧ c.code = code ∧ meth.sig.returnType = ret ∧ c.maxLocals = 4 ∧ s.vm.findClass R_law = some m.cls ∧ (∀ w ∈ BIG, w.before #[Value.ref b] s = true) ∧ va_K G.1 vwCl (tysG G) s ∧ SE G s.heap.size s ∧ va_X b L xs s s.heap ∧ b < s.heap.size ∧ meth.locks = false
def LW (G : GE) (s : State) (Sx : List SHP) (hx : MH) (Sm : List SHP) (hm : MH) (H : Heap) (locs : List Loc) : Prop :=
  va_P G.1 vwCl (wsO s.heap.size G.2.1 Sx hx) H ∧ TY Sx hx ∧ va_P G.1 vwCl (wsO (s.heap.size + Sx.length) G.2.1 Sm hm) H ∧ TY Sm hm ∧ va_S (fun q => s.heap.size ≤ q) s.heap H locs ∧ H.size = s.heap.size + Sx.length + Sm.length
def tr3 (n b nx : Nat) : Value → Value
  | .ref 0 => .ref n
  | .ref 1 => .ref (n + nx)
  | .ref _ => .ref b
  | v => v
/-- from a place of the law on, with the counter at x3 and the two small heaps, it comes to its end with 1 -/
def LJ (l : Launch) (G : GE) (b L : Nat) (xs : Nat → Int32) (pc : Nat) (x3 : Int32) (st : List Value) (hx hm : MH) : Prop :=
  ∀ (p : Program) (e : Env) (s : State) (m : MethodId) (below : List Frame) (meth : Method) (c : Code), LC G b L xs p s m meth c → ∀ (H : Heap) (locs : List Loc) (ls : Array Slot), LW G s shX hx shM hm H locs → lv_has ls 4 [(0, .ref b), (1, .ref s.heap.size), (2, .ref (s.heap.size + shX.length)), (3, .int x3)] →
    W p l e room_1 s m #[Value.ref b] below meth c H locs 222 25513 (lw_Z below #[Value.ref b] s) (F0 m pc ls (st.map (tr3 s.heap.size b shX.length)))
theorem SE_up {G : GE} {B B' : Nat} {U : State} (hB : B ≤ B') (h : SE G B U) : SE G B' U := by
  obtain ⟨n, ao, sr, sv, z1, z2⟩ := h
  have hn : ∀ q, B' ≤ q → B ≤ q := fun q h => Nat.le_trans hB h
  exact ⟨n, ao, sr, sv.narrow hn, z1.narrow hn, z2.imp (fun z => z.narrow hn) (fun z => z.narrow hn)⟩
section LL
variable {l : Launch} {G : GE} {b L : Nat} {xs : Nat → Int32} {pc pc' : Nat} {x3 : Int32} {st : List Value} {hx hm : MH}

theorem L_aload {n : Fin 4} {q : Nat} (hd : decode code pc = .ok (.aload_n n, 1)) (e : pc + 1 = pc') (hq : (q = 0 ∧ n = 1) ∨ (q = 1 ∧ n = 2) ∨ (q = 2 ∧ n = 0)) (k : LJ l G b L xs pc' x3 (.ref q :: st) hx hm) : LJ l G b L xs pc x3 (st) hx hm := by
  subst e
  intro p ev s m below meth c C H locs ls w hl
  exact by
    match q, n, hq with
    | 0, 1, _ => exact lv_aload_n C.1 C.2.1 hd rfl (lv_at hl 1 rfl) (k p ev s m below meth c C H locs ls w hl)
    | 1, 2, _ => exact lv_aload_n C.1 C.2.1 hd rfl (lv_at hl 2 rfl) (k p ev s m below meth c C H locs ls w hl)
    | 2, 0, _ => exact lv_aload_n C.1 C.2.1 hd rfl (lv_at hl 0 rfl) (k p ev s m below meth c C H locs ls w hl)
theorem L_iload  (hd : decode code pc = .ok (.iload_n 3, 1)) (e : pc + 1 = pc')  (k : LJ l G b L xs pc' x3 (.int x3 :: st) hx hm) : LJ l G b L xs pc x3 (st) hx hm := by
  subst e
  intro p ev s m below meth c C H locs ls w hl
  exact lv_iload_n C.1 C.2.1 hd rfl (lv_at hl 3 rfl) (k p ev s m below meth c C H locs ls w hl)
theorem L_iconst {n : Int} {v : Int32} (hd : decode code pc = .ok (.iconst n, 1)) (e : pc + 1 = pc') (hv : Int32.ofInt n = v) (k : LJ l G b L xs pc' x3 (.int v :: st) hx hm) : LJ l G b L xs pc x3 (st) hx hm := by
  subst e
  intro p ev s m below meth c C H locs ls w hl
  exact lv_iconst C.1 C.2.1 hd hv (k p ev s m below meth c C H locs ls w hl)
theorem L_bipush {n : Int} {v : Int32} (hd : decode code pc = .ok (.bipush n, 2)) (e : pc + 2 = pc') (hv : (Int8.ofInt n).toInt32 = v) (k : LJ l G b L xs pc' x3 (.int v :: st) hx hm) : LJ l G b L xs pc x3 (st) hx hm := by
  subst e
  intro p ev s m below meth c C H locs ls w hl
  exact lv_bipush C.1 C.2.1 hd hv (k p ev s m below meth c C H locs ls w hl)
theorem L_iadd {x y : Int32} (hd : decode code pc = .ok (.iadd, 1)) (e : pc + 1 = pc')  (k : LJ l G b L xs pc' x3 (.int (x + y) :: st) hx hm) : LJ l G b L xs pc x3 (.int y :: .int x :: st) hx hm := by
  subst e
  intro p ev s m below meth c C H locs ls w hl
  exact lv_iadd C.1 C.2.1 hd (k p ev s m below meth c C H locs ls w hl)
theorem L_isub {x y : Int32} (hd : decode code pc = .ok (.isub, 1)) (e : pc + 1 = pc')  (k : LJ l G b L xs pc' x3 (.int (x - y) :: st) hx hm) : LJ l G b L xs pc x3 (.int y :: .int x :: st) hx hm := by
  subst e
  intro p ev s m below meth c C H locs ls w hl
  exact lv_isub C.1 C.2.1 hd (k p ev s m below meth c C H locs ls w hl)
theorem L_iand {x y : Int32} (hd : decode code pc = .ok (.iand, 1)) (e : pc + 1 = pc')  (k : LJ l G b L xs pc' x3 (.int (x &&& y) :: st) hx hm) : LJ l G b L xs pc x3 (.int y :: .int x :: st) hx hm := by
  subst e
  intro p ev s m below meth c C H locs ls w hl
  exact lv_iand C.1 C.2.1 hd (k p ev s m below meth c C H locs ls w hl)
theorem L_lcmp {x y : Int64} (hd : decode code pc = .ok (.lcmp, 1)) (e : pc + 1 = pc')  (k : LJ l G b L xs pc' x3 (.int (lg_cmp x y) :: st) hx hm) : LJ l G b L xs pc x3 (.long y :: .long x :: st) hx hm := by
  subst e
  intro p ev s m below meth c C H locs ls w hl
  exact W.lcmp C.1 C.2.1 hd (k p ev s m below meth c C H locs ls w hl)
theorem L_sld {i : Int32} {v : Int32} (hd : decode code pc = .ok (.iaload, 1)) (e : pc + 1 = pc') (hin : vp_in i L) (hv : xs i.toNatClampNeg = v) (k : LJ l G b L xs pc' x3 (.int v :: st) hx hm) : LJ l G b L xs pc x3 (.int i :: .ref 2 :: st) hx hm := by
  subst e
  intro p ev s m below meth c C H locs ls w hl
  exact by
    have hbA : ¬ (fun q : Nat => s.heap.size ≤ q) b := Nat.not_le.mpr C.2.2.2.2.2.2.2.2.2.1
    subst hv
    exact va_sld C.1 C.2.1 C.2.2.2.2.2.2.2.2.1 C.2.2.2.2.2.2.2.2.2.1 hbA w.2.2.2.2.1 hin hd (k p ev s m below meth c C H locs ls w hl)
theorem L_slen  (hd : decode code pc = .ok (.arraylength, 1)) (e : pc + 1 = pc')  (k : LJ l G b L xs pc' x3 (.int (Int32.ofNat L) :: st) hx hm) : LJ l G b L xs pc x3 (.ref 2 :: st) hx hm := by
  subst e
  intro p ev s m below meth c C H locs ls w hl
  exact by
    have hbA : ¬ (fun q : Nat => s.heap.size ≤ q) b := Nat.not_le.mpr C.2.2.2.2.2.2.2.2.2.1
    exact va_slen C.1 C.2.1 C.2.2.2.2.2.2.2.2.1 C.2.2.2.2.2.2.2.2.2.1 hbA w.2.2.2.2.1 hd (k p ev s m below meth c C H locs ls w hl)
theorem L_goto {off : Int} {tgt : Nat} (hd : decode code pc = .ok (.goto off, 3)) (ht : (pc : Int) + off = (tgt : Int)) (k : LJ l G b L xs tgt x3 st hx hm) : LJ l G b L xs pc x3 st hx hm := by
  intro p ev s m below meth c C H locs ls w hl
  exact lv_goto C.1 C.2.1 hd ht (k p ev s m below meth c C H locs ls w hl)
theorem L_iinc {v : Int32} (hd : decode code pc = .ok (.iinc 3 6, 3)) (e : pc + 3 = pc') (hv : x3 + 6 = v) (k : LJ l G b L xs pc' v st hx hm) : LJ l G b L xs pc x3 st hx hm := by
  subst e
  intro p ev s m below meth c C H locs ls w hl
  exact lv_iinc (v := v) (k := 3) C.1 C.2.1 hd hl rfl hv (by decide) rfl (fun ls hl => k p ev s m below meth c C H locs ls w (lv_sub hl [1, 2, 3, 0] rfl))
theorem L_eq {x y : Int32} {off : Int} {tgt : Nat} (hd : decode code pc = .ok (.if_icmp .eq off, 3)) (ht : (pc : Int) + off = (tgt : Int)) (h : x = y) (k : LJ l G b L xs tgt x3 st hx hm) : LJ l G b L xs pc x3 (.int y :: .int x :: st) hx hm := by
  intro p ev s m below meth c C H locs ls w hl
  exact lv_icmp_eq C.1 C.2.1 hd ht (fun _ => k p ev s m below meth c C H locs ls w hl) (fun q => absurd h q)
theorem L_eq0 {x : Int32} {off : Int} {tgt : Nat} (hd : decode code pc = .ok (.ifCond .eq off, 3)) (ht : (pc : Int) + off = (tgt : Int)) (e : pc + 3 = pc') (k1 : x = 0 → LJ l G b L xs tgt x3 st hx hm) (k2 : ¬ x = 0 → LJ l G b L xs pc' x3 st hx hm) : LJ l G b L xs pc x3 (.int x :: st) hx hm := by
  subst e
  intro p ev s m below meth c C H locs ls w hl
  exact lv_if_eq C.1 C.2.1 hd ht (fun q => k1 q p ev s m below meth c C H locs ls w hl) (fun q => k2 q p ev s m below meth c C H locs ls w hl)
theorem L_gt {x y : Int32} {off : Int} {tgt : Nat} (hd : decode code pc = .ok (.if_icmp .gt off, 3)) (ht : (pc : Int) + off = (tgt : Int)) (e : pc + 3 = pc') (k1 : y < x → LJ l G b L xs tgt x3 st hx hm) (k2 : ¬ y < x → LJ l G b L xs pc' x3 st hx hm) : LJ l G b L xs pc x3 (.int y :: .int x :: st) hx hm := by
  subst e
  intro p ev s m below meth c C H locs ls w hl
  exact lv_icmp_gt C.1 C.2.1 hd ht (fun q => k1 q p ev s m below meth c C H locs ls w hl) (fun q => k2 q p ev s m below meth c C H locs ls w hl)
theorem L_tabIn {dflt lo hi : Int} {offs : Array Int} {len : Nat} {x : Int32} {off : Int} {tgt : Nat} (hd : decode code pc = .ok (.tableswitch dflt lo hi offs, len)) (h1 : ¬ x.toInt < lo) (h2 : ¬ hi < x.toInt) (ho : offs[(x.toInt - lo).toNat]? = some off) (ht : (pc : Int) + off = (tgt : Int)) (k : LJ l G b L xs tgt x3 st hx hm) : LJ l G b L xs pc x3 (.int x :: st) hx hm := by
  intro p ev s m below meth c C H locs ls w hl
  exact lv_tableIn C.1 C.2.1 hd h1 h2 ho ht (k p ev s m below meth c C H locs ls w hl)
theorem L_tabOut {dflt lo hi : Int} {offs : Array Int} {len : Nat} {x : Int32} {tgt : Nat} (hd : decode code pc = .ok (.tableswitch dflt lo hi offs, len)) (h1 : x.toInt < lo ∨ hi < x.toInt) (ht : (pc : Int) + dflt = (tgt : Int)) (k : LJ l G b L xs tgt x3 st hx hm) : LJ l G b L xs pc x3 (.int x :: st) hx hm := by
  intro p ev s m below meth c C H locs ls w hl
  exact lv_tableOut C.1 C.2.1 hd h1 ht (k p ev s m below meth c C H locs ls w hl)
theorem L_ret (hd : decode code pc = .ok (.ireturn, 1)) : LJ l G b L xs pc x3 [.int 1] hx hm := by
  intro p ev s m below meth c C H locs ls w hl
  refine va_forget (fun q hq => w.2.2.2.2.1.2.2 q hq) ?_
  refine W.widen (k := 600000) (n := 7302250) (Nat.le_of_ble_eq_true rfl) (Nat.le_of_ble_eq_true rfl) ?_
  exact lw_ret C.1 C.2.1 C.2.2.1 C.2.2.2.2.2.2.2.2.2.2 hd
theorem tr3_int (n b nx : Nat) (As : List Int32) : (As.map Value.int).map (tr3 n b nx) = As.map Value.int := by
  rw [List.map_map]; rfl
theorem tr_int (G : GE) (B : Nat) (As : List Int32) : (As.map Value.int).map (tr G B) = As.map Value.int := by
  rw [List.map_map]; rfl
/-- a call at the law's level on the heap at base B with shapes S -/
theorem L_pre {s : State} {p : Program} {m : MethodId} {meth : Method} {c : Code} {H : Heap} {locs : List Loc} {S : List SHP} {B : Nat} {h : MH} {al : Bool} {av : List Value} (C : LC G b L xs p s m meth c) (hB : s.heap.size ≤ B) (hS : va_S (fun q => s.heap.size ≤ q) s.heap H locs) (hP : va_P G.1 vwCl (wsO B G.2.1 S h) H) (hle : B + S.length ≤ H.size) (hal : al = true → H.size = B + S.length) {U : State} (hU : U.heap = H) (hW : s.WarmedH U.vm) : PC G B H.size al S av h (av.map (tr G B)).toArray U := by
  have hE := C.2.2.2.2.2.2.2.1
  refine ⟨rfl, by rw [hU], va_K.moved hW.alike C.2.2.2.2.2.2.1, ?_, by rw [hU]; exact hP, hle, hal⟩
  have h1 : SE G s.heap.size U := SE.warm hW (fun q q1 q2 => by rw [hU]; exact hS.2.1 q q1 q2) hE
  exact SE_up hB h1
theorem va_Pm {B : Nat} {S : List SHP} {h : MH} {H H1 : Heap} {A : Nat → Prop} (hP : va_P G.1 vwCl (wsO B G.2.1 S h) H) (ho : ∀ q, q < H.size → ¬ A q → H1[q]? = H[q]?) (hA : ∀ a, a < S.length → ¬ A (B + a)) : va_P G.1 vwCl (wsO B G.2.1 S h) H1 := by
  refine hP.kept (fun k q hq => ?_)
  obtain ⟨x, hx, rfl⟩ := wsO_of hq
  exact ho _ ((hP k _ hq).lt) (hA k (List.getElem?_eq_some_iff.mp hx).1)
end LL
theorem L_cxI {l : Launch} {G : GE} {b L : Nat} {xs : Nat → Int32} {pc pc' : Nat} {x3 : Int32} {st rest : List Value} {hx hm : MH} {M' : MI} {n d' ix : Nat} {As : List Int32} (q : Int32 × MH) (hd : decode code pc = .ok (.invokevirtual ix, 3)) (e : pc + 3 = pc') (mk : MOKv M' n) (hl0 : Cond.methodLink R_law ix M'.2.1 ∈ BIG) (hcc : M'.2.1.cls = (CLS 10).1) (hst : st = (As.map Value.int).reverse ++ .ref 0 :: rest) (hn : As.length = n) (hw : (rest.map fun v => v.category).sum ≤ 8) (hrest : ∀ n b nx, rest.map (tr3 n b nx) = rest) (hR : d' + 1 ≤ 2048 ∧ 8 + (M'.2.2.2.1 + 11) + 40 * d' ≤ 84000) (ct : CT l M' d' false 0 0 shX (.ref 0 :: As.map Value.int) hx (QI shX q)) (kk : LJ l G b L xs pc' x3 (.int q.1 :: rest) q.2 hm) : LJ l G b L xs pc x3 st hx hm := by
  subst hst
  subst e
  intro p ev s m below meth c C H locs ls w hl
  have hts := C.2.2.2.2.2.1
  obtain ⟨hPx, hTx, hPm, hTm, hS, hz⟩ := id w
  have hle : s.heap.size + shX.length ≤ H.size := by omega
  have hrun := va_runV (l := l) (p := p) (e := ev) (R := room_1) (s := s) (m := m) (args := #[Value.ref b]) (below := below) (meth := meth) (c := c) (H := H) (locs := locs) (cells := 222) (slots := 25513) (C := (CLS 10).1) (b := s.heap.size + 0) (As := As.map Value.int) (rest := rest) (nL := 4) (Ts := BIG) (g := F0 m pc ls (((As.map Value.int).reverse ++ .ref 0 :: rest).map (tr3 s.heap.size b shX.length))) ⟨C.1, C.2.1, C.2.2.2.1, C.2.2.2.2.1, hts⟩ (ct G s.heap.size H.size hTx) ⟨MOK_B (mc' := 0) (ms' := 0) hts mk.1 hR hl0, hts _ mk.2.1, by rw [← hcc]; exact hts _ mk.2.2⟩ ⟨PC_blind, ?_, ?_⟩ rfl (by rw [List.length_map]; exact hn) hl.1 ?_ (lv_room hw) hd ⟨Nat.le_of_ble_eq_true rfl, Nat.le_of_ble_eq_true rfl⟩
  rotate_left
  · exact va_recv C.2.2.2.2.2.2.1 hPx (clsAt (c := 10) (by decide)) (wsO_at (a := 0) (x := .inl 10) rfl)
  · intro U hU hW
    have := L_pre (al := false) (av := .ref 0 :: As.map Value.int) C (by omega) hS hPx hle (fun q => by cases q) hU hW
    rw [List.map_cons, tr_int] at this
    exact this
  · show List.map _ _ = _
    rw [List.map_append, List.map_cons, List.map_reverse, tr3_int, hrest]
    simp only [tr3, Nat.add_zero]
  intro T hTh X
  obtain ⟨v, st₀, t, T', Lq, h0, X', hLq, f1, f2, ⟨r, S', h', hv, hq, hP', hT', hz', hal', hF⟩, stp⟩ := hrun T hTh X
  have hv : v = r.map (tr G s.heap.size) := by injection hv
  obtain ⟨rfl, rfl, rfl⟩ := hq
  subst hv
  have hF2 := hF.2
  rw [h0] at hF2 hz'
  have hF1 := hF.1
  rw [h0] at hF1
  have hsub : ∀ q, AR s.heap.size shX.length H.size q → s.heap.size ≤ q := by
    intro q hq
    have := hS.1
    rcases hq with hq | hq <;> omega
  have hw' : LW G s shX q.2 shM hm T'.heap (locs ++ Lq) := by
    refine ⟨?_, hT', ?_, hTm, ⟨?_, ?_, ?_⟩, ?_⟩
    · rw [f1]; exact hP'
    · rw [f1]; exact va_Pm hPm hF2 (fun a ha hq => by rcases hq with hq | hq <;> omega)
    · rw [f1]; exact Nat.le_trans hS.1 hF1
    · intro q q1 q2
      rw [f1, hF2 q (Nat.lt_of_lt_of_le q1 hS.1) (fun z => q2 (hsub q z))]
      exact hS.2.1 q q1 q2
    · intro q hq
      rcases List.mem_append.mp hq with h | h
      · exact hS.2.2 q h
      · exact hsub _ (hLq q h)
    · rw [f1]; omega
  obtain ⟨t2, a1, b1⟩ := kk p ev s m below meth c C T'.heap (locs ++ Lq) ls hw' hl T' rfl X'
  refine ⟨t2, stp t2 ?_, b1⟩
  have he : (.int q.1 :: rest : List Value).map (tr3 s.heap.size b shX.length) = .int q.1 :: rest := by rw [List.map_cons, hrest]; rfl
  rw [he] at a1
  exact a1
theorem L_cxL {l : Launch} {G : GE} {b L : Nat} {xs : Nat → Int32} {pc pc' : Nat} {x3 : Int32} {st rest : List Value} {hx hm : MH} {M' : MI} {n d' ix : Nat} {As : List Int32} (q : Int64 × MH) (hd : decode code pc = .ok (.invokevirtual ix, 3)) (e : pc + 3 = pc') (mk : MOKv M' n) (hl0 : Cond.methodLink R_law ix M'.2.1 ∈ BIG) (hcc : M'.2.1.cls = (CLS 10).1) (hst : st = (As.map Value.int).reverse ++ .ref 0 :: rest) (hn : As.length = n) (hw : (rest.map fun v => v.category).sum ≤ 8) (hrest : ∀ n b nx, rest.map (tr3 n b nx) = rest) (hR : d' + 1 ≤ 2048 ∧ 8 + (M'.2.2.2.1 + 11) + 40 * d' ≤ 84000) (ct : CT l M' d' false 0 0 shX (.ref 0 :: As.map Value.int) hx (QL shX q)) (kk : LJ l G b L xs pc' x3 (.long q.1 :: rest) q.2 hm) : LJ l G b L xs pc x3 st hx hm := by
  subst hst
  subst e
  intro p ev s m below meth c C H locs ls w hl
  have hts := C.2.2.2.2.2.1
  obtain ⟨hPx, hTx, hPm, hTm, hS, hz⟩ := id w
  have hle : s.heap.size + shX.length ≤ H.size := by omega
  have hrun := va_runV (l := l) (p := p) (e := ev) (R := room_1) (s := s) (m := m) (args := #[Value.ref b]) (below := below) (meth := meth) (c := c) (H := H) (locs := locs) (cells := 222) (slots := 25513) (C := (CLS 10).1) (b := s.heap.size + 0) (As := As.map Value.int) (rest := rest) (nL := 4) (Ts := BIG) (g := F0 m pc ls (((As.map Value.int).reverse ++ .ref 0 :: rest).map (tr3 s.heap.size b shX.length))) ⟨C.1, C.2.1, C.2.2.2.1, C.2.2.2.2.1, hts⟩ (ct G s.heap.size H.size hTx) ⟨MOK_B (mc' := 0) (ms' := 0) hts mk.1 hR hl0, hts _ mk.2.1, by rw [← hcc]; exact hts _ mk.2.2⟩ ⟨PC_blind, ?_, ?_⟩ rfl (by rw [List.length_map]; exact hn) hl.1 ?_ (lv_room hw) hd ⟨Nat.le_of_ble_eq_true rfl, Nat.le_of_ble_eq_true rfl⟩
  rotate_left
  · exact va_recv C.2.2.2.2.2.2.1 hPx (clsAt (c := 10) (by decide)) (wsO_at (a := 0) (x := .inl 10) rfl)
  · intro U hU hW
    have := L_pre (al := false) (av := .ref 0 :: As.map Value.int) C (by omega) hS hPx hle (fun q => by cases q) hU hW
    rw [List.map_cons, tr_int] at this
    exact this
  · show List.map _ _ = _
    rw [List.map_append, List.map_cons, List.map_reverse, tr3_int, hrest]
    simp only [tr3, Nat.add_zero]
  intro T hTh X
  obtain ⟨v, st₀, t, T', Lq, h0, X', hLq, f1, f2, ⟨r, S', h', hv, hq, hP', hT', hz', hal', hF⟩, stp⟩ := hrun T hTh X
  have hv : v = r.map (tr G s.heap.size) := by injection hv
  obtain ⟨rfl, rfl, rfl⟩ := hq
  subst hv
  have hF2 := hF.2
  rw [h0] at hF2 hz'
  have hF1 := hF.1
  rw [h0] at hF1
  have hsub : ∀ q, AR s.heap.size shX.length H.size q → s.heap.size ≤ q := by
    intro q hq
    have := hS.1
    rcases hq with hq | hq <;> omega
  have hw' : LW G s shX q.2 shM hm T'.heap (locs ++ Lq) := by
    refine ⟨?_, hT', ?_, hTm, ⟨?_, ?_, ?_⟩, ?_⟩
    · rw [f1]; exact hP'
    · rw [f1]; exact va_Pm hPm hF2 (fun a ha hq => by rcases hq with hq | hq <;> omega)
    · rw [f1]; exact Nat.le_trans hS.1 hF1
    · intro q q1 q2
      rw [f1, hF2 q (Nat.lt_of_lt_of_le q1 hS.1) (fun z => q2 (hsub q z))]
      exact hS.2.1 q q1 q2
    · intro q hq
      rcases List.mem_append.mp hq with h | h
      · exact hS.2.2 q h
      · exact hsub _ (hLq q h)
    · rw [f1]; omega
  obtain ⟨t2, a1, b1⟩ := kk p ev s m below meth c C T'.heap (locs ++ Lq) ls hw' hl T' rfl X'
  refine ⟨t2, stp t2 ?_, b1⟩
  have he : (.long q.1 :: rest : List Value).map (tr3 s.heap.size b shX.length) = .long q.1 :: rest := by rw [List.map_cons, hrest]; rfl
  rw [he] at a1
  exact a1
theorem L_cmI {l : Launch} {G : GE} {b L : Nat} {xs : Nat → Int32} {pc pc' : Nat} {x3 : Int32} {st rest : List Value} {hx hm : MH} {M' : MI} {n d' ix : Nat} {As : List Int32} (q : Int32 × MH) (hd : decode code pc = .ok (.invokevirtual ix, 3)) (e : pc + 3 = pc') (mk : MOKv M' n) (hl0 : Cond.methodLink R_law ix M'.2.1 ∈ BIG) (hcc : M'.2.1.cls = (CLS 11).1) (hst : st = (As.map Value.int).reverse ++ .ref 1 :: rest) (hn : As.length = n) (hw : (rest.map fun v => v.category).sum ≤ 8) (hrest : ∀ n b nx, rest.map (tr3 n b nx) = rest) (hR : d' + 1 ≤ 2048 ∧ 8 + (M'.2.2.2.1 + 11) + 40 * d' ≤ 84000) (ct : CT l M' d' false 0 0 shM (.ref 0 :: As.map Value.int) hm (QI shM q)) (kk : LJ l G b L xs pc' x3 (.int q.1 :: rest) hx q.2) : LJ l G b L xs pc x3 st hx hm := by
  subst hst
  subst e
  intro p ev s m below meth c C H locs ls w hl
  have hts := C.2.2.2.2.2.1
  obtain ⟨hPx, hTx, hPm, hTm, hS, hz⟩ := id w
  have hle : (s.heap.size + shX.length) + shM.length ≤ H.size := by omega
  have hrun := va_runV (l := l) (p := p) (e := ev) (R := room_1) (s := s) (m := m) (args := #[Value.ref b]) (below := below) (meth := meth) (c := c) (H := H) (locs := locs) (cells := 222) (slots := 25513) (C := (CLS 11).1) (b := (s.heap.size + shX.length) + 0) (As := As.map Value.int) (rest := rest) (nL := 4) (Ts := BIG) (g := F0 m pc ls (((As.map Value.int).reverse ++ .ref 1 :: rest).map (tr3 s.heap.size b shX.length))) ⟨C.1, C.2.1, C.2.2.2.1, C.2.2.2.2.1, hts⟩ (ct G (s.heap.size + shX.length) H.size hTm) ⟨MOK_B (mc' := 0) (ms' := 0) hts mk.1 hR hl0, hts _ mk.2.1, by rw [← hcc]; exact hts _ mk.2.2⟩ ⟨PC_blind, ?_, ?_⟩ rfl (by rw [List.length_map]; exact hn) hl.1 ?_ (lv_room hw) hd ⟨Nat.le_of_ble_eq_true rfl, Nat.le_of_ble_eq_true rfl⟩
  rotate_left
  · exact va_recv C.2.2.2.2.2.2.1 hPm (clsAt (c := 11) (by decide)) (wsO_at (a := 0) (x := .inl 11) rfl)
  · intro U hU hW
    have := L_pre (al := false) (av := .ref 0 :: As.map Value.int) C (by omega) hS hPm hle (fun q => by cases q) hU hW
    rw [List.map_cons, tr_int] at this
    exact this
  · show List.map _ _ = _
    rw [List.map_append, List.map_cons, List.map_reverse, tr3_int, hrest]
    simp only [tr3, Nat.add_zero]
  intro T hTh X
  obtain ⟨v, st₀, t, T', Lq, h0, X', hLq, f1, f2, ⟨r, S', h', hv, hq, hP', hT', hz', hal', hF⟩, stp⟩ := hrun T hTh X
  have hv : v = r.map (tr G (s.heap.size + shX.length)) := by injection hv
  obtain ⟨rfl, rfl, rfl⟩ := hq
  subst hv
  have hF2 := hF.2
  rw [h0] at hF2 hz'
  have hF1 := hF.1
  rw [h0] at hF1
  have hsub : ∀ q, AR (s.heap.size + shX.length) shM.length H.size q → s.heap.size ≤ q := by
    intro q hq
    have := hS.1
    rcases hq with hq | hq <;> omega
  have hw' : LW G s shX hx shM q.2 T'.heap (locs ++ Lq) := by
    refine ⟨?_, hTx, ?_, hT', ⟨?_, ?_, ?_⟩, ?_⟩
    · rw [f1]; exact va_Pm hPx hF2 (fun a ha hq => by rcases hq with hq | hq <;> omega)
    · rw [f1]; exact hP'
    · rw [f1]; exact Nat.le_trans hS.1 hF1
    · intro q q1 q2
      rw [f1, hF2 q (Nat.lt_of_lt_of_le q1 hS.1) (fun z => q2 (hsub q z))]
      exact hS.2.1 q q1 q2
    · intro q hq
      rcases List.mem_append.mp hq with h | h
      · exact hS.2.2 q h
      · exact hsub _ (hLq q h)
    · rw [f1]; omega
  obtain ⟨t2, a1, b1⟩ := kk p ev s m below meth c C T'.heap (locs ++ Lq) ls hw' hl T' rfl X'
  refine ⟨t2, stp t2 ?_, b1⟩
  have he : (.int q.1 :: rest : List Value).map (tr3 s.heap.size b shX.length) = .int q.1 :: rest := by rw [List.map_cons, hrest]; rfl
  rw [he] at a1
  exact a1
theorem L_cmL {l : Launch} {G : GE} {b L : Nat} {xs : Nat → Int32} {pc pc' : Nat} {x3 : Int32} {st rest : List Value} {hx hm : MH} {M' : MI} {n d' ix : Nat} {As : List Int32} (q : Int64 × MH) (hd : decode code pc = .ok (.invokevirtual ix, 3)) (e : pc + 3 = pc') (mk : MOKv M' n) (hl0 : Cond.methodLink R_law ix M'.2.1 ∈ BIG) (hcc : M'.2.1.cls = (CLS 11).1) (hst : st = (As.map Value.int).reverse ++ .ref 1 :: rest) (hn : As.length = n) (hw : (rest.map fun v => v.category).sum ≤ 8) (hrest : ∀ n b nx, rest.map (tr3 n b nx) = rest) (hR : d' + 1 ≤ 2048 ∧ 8 + (M'.2.2.2.1 + 11) + 40 * d' ≤ 84000) (ct : CT l M' d' false 0 0 shM (.ref 0 :: As.map Value.int) hm (QL shM q)) (kk : LJ l G b L xs pc' x3 (.long q.1 :: rest) hx q.2) : LJ l G b L xs pc x3 st hx hm := by
  subst hst
  subst e
  intro p ev s m below meth c C H locs ls w hl
  have hts := C.2.2.2.2.2.1
  obtain ⟨hPx, hTx, hPm, hTm, hS, hz⟩ := id w
  have hle : (s.heap.size + shX.length) + shM.length ≤ H.size := by omega
  have hrun := va_runV (l := l) (p := p) (e := ev) (R := room_1) (s := s) (m := m) (args := #[Value.ref b]) (below := below) (meth := meth) (c := c) (H := H) (locs := locs) (cells := 222) (slots := 25513) (C := (CLS 11).1) (b := (s.heap.size + shX.length) + 0) (As := As.map Value.int) (rest := rest) (nL := 4) (Ts := BIG) (g := F0 m pc ls (((As.map Value.int).reverse ++ .ref 1 :: rest).map (tr3 s.heap.size b shX.length))) ⟨C.1, C.2.1, C.2.2.2.1, C.2.2.2.2.1, hts⟩ (ct G (s.heap.size + shX.length) H.size hTm) ⟨MOK_B (mc' := 0) (ms' := 0) hts mk.1 hR hl0, hts _ mk.2.1, by rw [← hcc]; exact hts _ mk.2.2⟩ ⟨PC_blind, ?_, ?_⟩ rfl (by rw [List.length_map]; exact hn) hl.1 ?_ (lv_room hw) hd ⟨Nat.le_of_ble_eq_true rfl, Nat.le_of_ble_eq_true rfl⟩
  rotate_left
  · exact va_recv C.2.2.2.2.2.2.1 hPm (clsAt (c := 11) (by decide)) (wsO_at (a := 0) (x := .inl 11) rfl)
  · intro U hU hW
    have := L_pre (al := false) (av := .ref 0 :: As.map Value.int) C (by omega) hS hPm hle (fun q => by cases q) hU hW
    rw [List.map_cons, tr_int] at this
    exact this
  · show List.map _ _ = _
    rw [List.map_append, List.map_cons, List.map_reverse, tr3_int, hrest]
    simp only [tr3, Nat.add_zero]
  intro T hTh X
  obtain ⟨v, st₀, t, T', Lq, h0, X', hLq, f1, f2, ⟨r, S', h', hv, hq, hP', hT', hz', hal', hF⟩, stp⟩ := hrun T hTh X
  have hv : v = r.map (tr G (s.heap.size + shX.length)) := by injection hv
  obtain ⟨rfl, rfl, rfl⟩ := hq
  subst hv
  have hF2 := hF.2
  rw [h0] at hF2 hz'
  have hF1 := hF.1
  rw [h0] at hF1
  have hsub : ∀ q, AR (s.heap.size + shX.length) shM.length H.size q → s.heap.size ≤ q := by
    intro q hq
    have := hS.1
    rcases hq with hq | hq <;> omega
  have hw' : LW G s shX hx shM q.2 T'.heap (locs ++ Lq) := by
    refine ⟨?_, hTx, ?_, hT', ⟨?_, ?_, ?_⟩, ?_⟩
    · rw [f1]; exact va_Pm hPx hF2 (fun a ha hq => by rcases hq with hq | hq <;> omega)
    · rw [f1]; exact hP'
    · rw [f1]; exact Nat.le_trans hS.1 hF1
    · intro q q1 q2
      rw [f1, hF2 q (Nat.lt_of_lt_of_le q1 hS.1) (fun z => q2 (hsub q z))]
      exact hS.2.1 q q1 q2
    · intro q hq
      rcases List.mem_append.mp hq with h | h
      · exact hS.2.2 q h
      · exact hsub _ (hLq q h)
    · rw [f1]; omega
  obtain ⟨t2, a1, b1⟩ := kk p ev s m below meth c C T'.heap (locs ++ Lq) ls hw' hl T' rfl X'
  refine ⟨t2, stp t2 ?_, b1⟩
  have he : (.long q.1 :: rest : List Value).map (tr3 s.heap.size b shX.length) = .long q.1 :: rest := by rw [List.map_cons, hrest]; rfl
  rw [he] at a1
  exact a1
