/-! ===== the judgement V: a method of the small machine, from a place on, comes to its end with Q ===== -/
abbrev MI : Type := String × MethodName × ByteArray × Nat × Option FieldType
def BIG : List Cond := lw_tbl.filter goodWord
theorem bmem (i : Nat) {w : Cond} (h : lw_tbl[i]? = some w) (hg : goodWord w = true) : w ∈ BIG := List.mem_filter.mpr ⟨List.mem_of_getElem? h, hg⟩
theorem big_good {w : Cond} (h : w ∈ BIG) : (w.onTables && w.keeps) = true ∨ ∃ ty, w = .arrayClass ty := good_of_word (List.mem_filter.mp h).2
def WSM (M : MI) : List Cond := .code M.2.1 M.2.2.1 M.2.2.2.1 M.2.2.2.2 :: BIG
def strTab : List (String × Nat × String × Nat) := [(RX8, 45, "nodes", 0), (RX8, 63, "link", 1), (RX8, 86, "down", 2), (RX8, 71, "bind", 3), (RX8, 96, "at", 4), (RX8, 109, "n", 5), (RX8, 111, "l", 6), (RX11, 418, "nodes", 0), (RX11, 420, "link", 1), (RX11, 395, "down", 2), (RX11, 425, "bind", 3), (RX11, 407, "at", 4), (RX11, 401, "n", 5), (RX11, 402, "l", 6)]
def strLen : List Nat := [5, 4, 4, 4, 2, 1, 1]
def strByt : List (List Int32) := [[110, 111, 100, 101, 115], [108, 105, 110, 107], [100, 111, 119, 110], [98, 105, 110, 100], [97, 116], [110], [108]]
def SE (G : GE) (B : Nat) (U : State) : Prop :=
  (va_Nw (.methodLinkNest RX2 25 yX10_rowOfNone RX10) U ∧ va_Nw (.methodLinkNest RX7 18 yX10_rowOfNone RX10) U ∧ va_Nw (.methodLinkNest RX3 151 yX10_leastOf RX10) U) ∧ va_AO "LabelStacks$State" U ∧
  (∀ q ∈ strTab, vk_R q.1 q.2.1 q.2.2.1 (G.2.2 q.2.2.2) U) ∧ vk_S 7 strLen strByt G.2.2 (fun i => G.2.2 (100 + i)) (fun q => B ≤ q) U U.heap ∧
  va_Z "java/lang/String" "COMPACT_STRINGS" "Z" (.int 1) (fun q => B ≤ q) U U.heap ∧ (va_Z "jdk/internal/util/Preconditions" "SIOOBE_FORMATTER" "Ljava/util/function/BiFunction;" .null (fun q => B ≤ q) U U.heap ∨ va_Z "jdk/internal/util/Preconditions" "SIOOBE_FORMATTER" "Ljava/util/function/BiFunction;" (.ref (G.2.2 200)) (fun q => B ≤ q) U U.heap)
theorem SE.warm {G : GE} {B : Nat} {s U : State} (hW : s.WarmedH U.vm) (hq : ∀ a : Nat, a < s.heap.size → ¬ B ≤ a → U.heap[a]? = s.heap[a]?) (h : SE G B s) : SE G B U := by
  obtain ⟨⟨n1, n2, n3⟩, ao, sr, sv, z1, z2⟩ := h
  have ha := hW.alike
  exact ⟨⟨va_Nw.warmM hW n1, va_Nw.warmM hW n2, va_Nw.warmM hW n3⟩, va_AO.moved ha ao, fun q hm => vk_R.warm hW (sr q hm), (sv.kept hq).moved ha, (z1.kept hq).moved ha, z2.imp (fun z => (z.kept hq).moved ha) (fun z => (z.kept hq).moved ha)⟩
theorem SE.blind {G : GE} {B : Nat} {U : State} {g : JFrame} {mk : MethodId} {a : Array Value} (h : SE G B U) : SE G B (U.calling g mk a) :=
  SE.warm (s := U) (U := U.calling g mk a) (State.WarmedH.refl U) (fun _ _ _ => rfl) h
def rmm (d mc ms : Nat) : Room := { frames := d, cells := mc, slots := ms, locals := 40 * d }
def CX (G : GE) (B N : Nat) (M : MI) (p : Program) (s : State) (m : MethodId) (args : Array Value) (meth : Method) (c : Code) : Prop :=
  p.tables.exec = Jvm.exec ∧ c.code = M.2.2.1 ∧ meth.sig.returnType = M.2.2.2.2 ∧ c.maxLocals = M.2.2.2.1 ∧ s.vm.findClass M.1 = some m.cls ∧ (∀ w ∈ BIG, w.before args s = true) ∧ va_K G.1 vwCl (tysG G) s ∧ SE G B s ∧ meth.locks = false ∧ meth.name = M.2.1.name ∧ B + N ≤ s.heap.size
def WO (G : GE) (B N : Nat) (al : Bool) (s : State) (S : List SHP) (h : MH) (H : Heap) (locs : List Loc) : Prop :=
  va_P G.1 vwCl (wsO B G.2.1 S h) H ∧ TY S h ∧ va_S (AR B N s.heap.size) s.heap H locs ∧ H.size + N = s.heap.size + S.length ∧ (al = true ∨ S.length = N) ∧ (al = true → s.heap.size = B + N)
def QC (G : GE) (B N : Nat) (al : Bool) (Q : Option Value → List SHP → MH → Prop) : Array Value → State → Outcome → State → Prop := fun _ st oc t =>
  ∃ (r : Option Value) (S : List SHP) (h : MH), oc = .returned (r.map (tr G B)) ∧ Q r S h ∧ va_P G.1 vwCl (wsO B G.2.1 S h) t.heap ∧ TY S h ∧ t.heap.size + N = st.heap.size + S.length ∧ (al = true ∨ S.length = N) ∧ va_F (AR B N st.heap.size) st t
def PC (G : GE) (B hs : Nat) (al : Bool) (S : List SHP) (av : List Value) (h : MH) : Array Value → State → Prop := fun v U =>
  v = (av.map (tr G B)).toArray ∧ U.heap.size = hs ∧ va_K G.1 vwCl (tysG G) U ∧ SE G B U ∧ va_P G.1 vwCl (wsO B G.2.1 S h) U.heap ∧ B + S.length ≤ hs ∧ (al = true → hs = B + S.length)
def V (l : Launch) (G : GE) (B N : Nat) (M : MI) (R : Room) (al : Bool) (mc ms : Nat) (Q : Option Value → List SHP → MH → Prop) (S : List SHP) (cells slots pc : Nat) (lv : List (Nat × Value)) (st : List Value) (h : MH) : Prop :=
  ∀ (p : Program) (e : Env) (s : State) (m : MethodId) (args : Array Value) (below : List Frame) (meth : Method) (c : Code), CX G B N M p s m args meth c → ∀ (H : Heap) (locs : List Loc) (ls : Array Slot), WO G B N al s S h H locs → lv_has ls M.2.2.2.1 (lv.map (trl G B)) →
    W p l e R s m args below meth c H locs cells slots (MQ below (QC G B N al Q) args s mc ms (AR B N s.heap.size)) (F0 m pc ls (st.map (tr G B)))
/-- a method's contract: from the heap h with these arguments it returns, and Q -/
def CT (l : Launch) (M : MI) (d : Nat) (al : Bool) (mc ms : Nat) (S : List SHP) (av : List Value) (h : MH) (Q : Option Value → List SHP → MH → Prop) : Prop :=
  ∀ (G : GE) (B hs : Nat), TY S h → Met l M.2.1 (WSM M) (rmm d mc ms) (PC G B hs al S av h) (QC G B S.length al Q) mc ms (AR B S.length hs)
theorem PC_blind {G : GE} {B hs : Nat} {al : Bool} {S : List SHP} {av : List Value} {h : MH} : FrameBlind (PC G B hs al S av h) := by
  intro a U g mk q
  obtain ⟨q0, q1, qK, qE, qP, q2⟩ := q
  exact ⟨q0, q1, va_K.moved (u := U) (U := U.calling g mk a) (Vm.Alike.refl U.vm) qK, qE.blind, qP, q2⟩
theorem lv_args_tr (G : GE) (B : Nat) : ∀ (av : List Value) (i : Nat), lv_args i (av.map (tr G B)) = (lv_args i av).map (trl G B)
  | [], _ => rfl
  | v :: vs, i => by
    show (i, tr G B v) :: lv_args (if (tr G B v).category = 2 then i + 2 else i + 1) (vs.map (tr G B)) = trl G B (i, v) :: (lv_args (if v.category = 2 then i + 2 else i + 1) vs).map (trl G B)
    rw [tr_cat, lv_args_tr G B vs]
    rfl
theorem lg_sl_tr (G : GE) (B : Nat) : ∀ (av : List Value), (lg_sl (av.map (tr G B))).length = (lg_sl av).length
  | [] => rfl
  | v :: vs => by
    have ih := lg_sl_tr G B vs
    simp only [lg_sl, List.map_cons, List.flatMap_cons, List.length_append, tr_cat] at ih ⊢
    rw [ih]
    split <;> rfl
theorem CT_ofV {l : Launch} {M : MI} {d : Nat} {al : Bool} {mc ms : Nat} {S : List SHP} {av : List Value} {h : MH} {Q : Option Value → List SHP → MH → Prop} (hy : plainName M.2.1.cls = true) (hown : M.2.1.cls = M.1) (hlen : (lg_sl av).length ≤ M.2.2.2.1)
    (hV : ∀ (G : GE) (B : Nat), TY S h → V l G B S.length M (rmm d mc ms) al mc ms Q S 0 0 0 (lv_args 0 av) [] h) : CT l M d al mc ms S av h Q := by
  intro G B hs hT
  refine Met.ofW (cc := M.2.2.1) (maxL := M.2.2.2.1) (ret := M.2.2.2.2) hy rfl ?_
  intro p e s m args below meth c s₁ Bd hml hv
  obtain ⟨rfl, hsz, hK, hE, hP, hle, hal⟩ := hv
  have hts := atoms_spec (ws := WSM M) Bd.pre
  have hown : s.vm.findClass M.1 = some m.cls := by rw [← hown]; exact findClass_of_methodNamed Bd.named
  subst hsz
  have hl := lv_entry (av.map (tr G B)) (n := M.2.2.2.1) (by rw [lg_sl_tr]; exact hlen)
  rw [lg_entry_eq]
  rw [lv_args_tr] at hl
  exact hV G B hT p e s m _ below meth c ⟨Bd.exec, Bd.bytes, Bd.returns, hml, hown, fun w hw => hts w (List.mem_cons_of_mem _ hw), hK, hE, Bd.notSynchronized, (name_of_methodNamed Bd.named Bd.method).1, hle⟩ s.heap [] _ ⟨hP, hT, va_S.rf, by omega, Or.inr rfl, hal⟩ hl
theorem CT_weaken {l : Launch} {M : MI} {d : Nat} {al : Bool} {mc ms : Nat} {S : List SHP} {av : List Value} {h : MH} {Q Q' : Option Value → List SHP → MH → Prop} (hQ : ∀ r S' h', Q r S' h' → Q' r S' h') (hc : (∀ (G : GE) (B : Nat), TY S h → V l G B S.length M (rmm d mc ms) al mc ms Q S 0 0 0 (lv_args 0 av) [] h) → CT l M d al mc ms S av h Q') : (∀ (G : GE) (B : Nat), TY S h → V l G B S.length M (rmm d mc ms) al mc ms Q S 0 0 0 (lv_args 0 av) [] h) → CT l M d al mc ms S av h Q' := hc
/-- behind a call -/
theorem V_back {l : Launch} {G : GE} {B N : Nat} {M : MI} {R : Room} {al al' : Bool} {mc ms mc' ms' : Nat} {Q Q' : Option Value → List SHP → MH → Prop} {S : List SHP} {cells slots pc pc' : Nat} {lv : List (Nat × Value)} {rest : List Value} {h : MH} {p : Program} {e : Env} {s : State} {m : MethodId} {args a : Array Value} {below : List Frame} {meth : Method} {c : Code} {H : Heap} {locs : List Loc} {ls : Array Slot} {st0 : List Value}
    (C : CX G B N M p s m args meth c) (w : WO G B N al s S h H locs) (hl : lv_has ls M.2.2.2.1 (lv.map (trl G B))) (hal : al' = true → al = true) (e1 : pc + 3 = pc')
    (hr : va_Run p l e R s m args below meth c H locs cells slots mc' ms' (F0 m pc ls st0) (rest.map (tr G B)) (QC G B S.length al' Q' a) (AR B S.length H.size))
    (kk : ∀ r S' h', Q' r S' h' → V l G B N M R al mc ms Q S' (cells + mc') (slots + ms') pc' lv (r.toList ++ rest) h') :
    W p l e R s m args below meth c H locs cells slots (MQ below (QC G B N al Q) args s mc ms (AR B N s.heap.size)) (F0 m pc ls st0) := by
  subst e1
  obtain ⟨hP, hT, hS, hz, ha1, ha2⟩ := w
  have hsub : ∀ q, AR B S.length H.size q → AR B N s.heap.size q := by
    intro q hq
    have hHs := hS.1
    rcases hq with ⟨q1, q2⟩ | q1
    · rcases ha1 with ha | ha
      · have := ha2 ha
        show (B ≤ q ∧ q < B + N) ∨ s.heap.size ≤ q
        omega
      · rw [ha] at q2; exact Or.inl ⟨q1, q2⟩
    · exact Or.inr (Nat.le_trans hHs q1)
  intro T hTh X
  obtain ⟨v, st₀, t, T', L, h0, X', hL, f1, f2, ⟨r, S', h', hv, hq, hP', hT', hz', hal', hF⟩, stp⟩ := hr T hTh X
  have hv : v = r.map (tr G B) := by injection hv
  subst hv
  rw [h0] at hz' hF
  have hF2 := hF.2
  rw [h0] at hF2
  have hF1 := hF.1
  rw [h0] at hF1
  have hw' : WO G B N al s S' h' T'.heap (locs ++ L) := by
    refine ⟨by rw [f1]; exact hP', hT', ⟨?_, ?_, ?_⟩, ?_, ?_, ha2⟩
    · rw [f1]; exact Nat.le_trans hS.1 hF1
    · intro q q1 q2
      rw [f1, hF2 q (Nat.lt_of_lt_of_le q1 hS.1) (fun z => q2 (hsub q z))]
      exact hS.2.1 q q1 q2
    · intro q hq
      rcases List.mem_append.mp hq with h | h
      · exact hS.2.2 q h
      · exact hsub _ (hL q h)
    · rw [f1]; omega
    · rcases hal' with g | g
      · exact Or.inl (hal g)
      · rcases ha1 with ha | ha
        · exact Or.inl ha
        · exact Or.inr (g.trans ha)
  obtain ⟨t2, a1, b1⟩ := kk r S' h' hq p e s m args below meth c C T'.heap (locs ++ L) ls hw' hl T' rfl X'
  refine ⟨t2, stp t2 ?_, b1⟩
  have he : (r.map (tr G B)).toList ++ rest.map (tr G B) = (r.toList ++ rest).map (tr G B) := by cases r <;> rfl
  rw [he]
  exact a1

def ush (x y : Int32) : Int32 := (x.toUInt32 >>> (y.toUInt32 &&& Int32.toUInt32 31)).toInt32
section VL
variable {l : Launch} {G : GE} {B N : Nat} {M : MI} {R : Room} {al : Bool} {mc ms : Nat} {Q : Option Value → List SHP → MH → Prop} {S : List SHP} {cells slots pc pc' : Nat} {lv lv' : List (Nat × Value)} {st : List Value} {h : MH}

theorem V_iadd {x y : Int32} (hd : decode M.2.2.1 pc = .ok (.iadd, 1)) (e : pc + 1 = pc')  (k : V l G B N M R al mc ms Q S cells slots pc' lv (.int (x + y) :: st) h) : V l G B N M R al mc ms Q S cells slots pc lv (.int y :: .int x :: st) h := by
  subst e
  intro p ev s m args below meth c C H locs ls w hl
  exact lv_iadd C.1 C.2.1 hd (k p ev s m args below meth c C H locs ls w hl)
theorem V_isub {x y : Int32} (hd : decode M.2.2.1 pc = .ok (.isub, 1)) (e : pc + 1 = pc')  (k : V l G B N M R al mc ms Q S cells slots pc' lv (.int (x - y) :: st) h) : V l G B N M R al mc ms Q S cells slots pc lv (.int y :: .int x :: st) h := by
  subst e
  intro p ev s m args below meth c C H locs ls w hl
  exact lv_isub C.1 C.2.1 hd (k p ev s m args below meth c C H locs ls w hl)
theorem V_imul {x y : Int32} (hd : decode M.2.2.1 pc = .ok (.imul, 1)) (e : pc + 1 = pc')  (k : V l G B N M R al mc ms Q S cells slots pc' lv (.int (x * y) :: st) h) : V l G B N M R al mc ms Q S cells slots pc lv (.int y :: .int x :: st) h := by
  subst e
  intro p ev s m args below meth c C H locs ls w hl
  exact lv_imul C.1 C.2.1 hd (k p ev s m args below meth c C H locs ls w hl)
theorem V_iand {x y : Int32} (hd : decode M.2.2.1 pc = .ok (.iand, 1)) (e : pc + 1 = pc')  (k : V l G B N M R al mc ms Q S cells slots pc' lv (.int (x &&& y) :: st) h) : V l G B N M R al mc ms Q S cells slots pc lv (.int y :: .int x :: st) h := by
  subst e
  intro p ev s m args below meth c C H locs ls w hl
  exact lv_iand C.1 C.2.1 hd (k p ev s m args below meth c C H locs ls w hl)
theorem V_ior {x y : Int32} (hd : decode M.2.2.1 pc = .ok (.ior, 1)) (e : pc + 1 = pc')  (k : V l G B N M R al mc ms Q S cells slots pc' lv (.int (x ||| y) :: st) h) : V l G B N M R al mc ms Q S cells slots pc lv (.int y :: .int x :: st) h := by
  subst e
  intro p ev s m args below meth c C H locs ls w hl
  exact lv_ior C.1 C.2.1 hd (k p ev s m args below meth c C H locs ls w hl)
theorem V_ixor {x y : Int32} (hd : decode M.2.2.1 pc = .ok (.ixor, 1)) (e : pc + 1 = pc')  (k : V l G B N M R al mc ms Q S cells slots pc' lv (.int (x ^^^ y) :: st) h) : V l G B N M R al mc ms Q S cells slots pc lv (.int y :: .int x :: st) h := by
  subst e
  intro p ev s m args below meth c C H locs ls w hl
  exact lv_ixor C.1 C.2.1 hd (k p ev s m args below meth c C H locs ls w hl)
theorem V_ishl {x y : Int32} (hd : decode M.2.2.1 pc = .ok (.ishl, 1)) (e : pc + 1 = pc')  (k : V l G B N M R al mc ms Q S cells slots pc' lv (.int (x <<< (y &&& 31)) :: st) h) : V l G B N M R al mc ms Q S cells slots pc lv (.int y :: .int x :: st) h := by
  subst e
  intro p ev s m args below meth c C H locs ls w hl
  exact lv_ishl C.1 C.2.1 hd (k p ev s m args below meth c C H locs ls w hl)
theorem V_ishr {x y : Int32} (hd : decode M.2.2.1 pc = .ok (.ishr, 1)) (e : pc + 1 = pc')  (k : V l G B N M R al mc ms Q S cells slots pc' lv (.int (x >>> (y &&& 31)) :: st) h) : V l G B N M R al mc ms Q S cells slots pc lv (.int y :: .int x :: st) h := by
  subst e
  intro p ev s m args below meth c C H locs ls w hl
  exact lv_ishr C.1 C.2.1 hd (k p ev s m args below meth c C H locs ls w hl)
theorem V_iushr {x y : Int32} (hd : decode M.2.2.1 pc = .ok (.iushr, 1)) (e : pc + 1 = pc')  (k : V l G B N M R al mc ms Q S cells slots pc' lv (.int (ush x y) :: st) h) : V l G B N M R al mc ms Q S cells slots pc lv (.int y :: .int x :: st) h := by
  subst e
  intro p ev s m args below meth c C H locs ls w hl
  exact lv_iushr C.1 C.2.1 hd rfl (k p ev s m args below meth c C H locs ls w hl)
theorem V_ladd {x y : Int64} (hd : decode M.2.2.1 pc = .ok (.ladd, 1)) (e : pc + 1 = pc')  (k : V l G B N M R al mc ms Q S cells slots pc' lv (.long (x + y) :: st) h) : V l G B N M R al mc ms Q S cells slots pc lv (.long y :: .long x :: st) h := by
  subst e
  intro p ev s m args below meth c C H locs ls w hl
  exact lv_ladd C.1 C.2.1 hd (k p ev s m args below meth c C H locs ls w hl)
theorem V_lsub {x y : Int64} (hd : decode M.2.2.1 pc = .ok (.lsub, 1)) (e : pc + 1 = pc')  (k : V l G B N M R al mc ms Q S cells slots pc' lv (.long (x - y) :: st) h) : V l G B N M R al mc ms Q S cells slots pc lv (.long y :: .long x :: st) h := by
  subst e
  intro p ev s m args below meth c C H locs ls w hl
  exact lv_lsub C.1 C.2.1 hd (k p ev s m args below meth c C H locs ls w hl)
theorem V_lmul {x y : Int64} (hd : decode M.2.2.1 pc = .ok (.lmul, 1)) (e : pc + 1 = pc')  (k : V l G B N M R al mc ms Q S cells slots pc' lv (.long (x * y) :: st) h) : V l G B N M R al mc ms Q S cells slots pc lv (.long y :: .long x :: st) h := by
  subst e
  intro p ev s m args below meth c C H locs ls w hl
  exact lv_lmul C.1 C.2.1 hd (k p ev s m args below meth c C H locs ls w hl)
theorem V_idiv {x y : Int32} (hd : decode M.2.2.1 pc = .ok (.idiv, 1)) (e : pc + 1 = pc') (hne : ¬ y = 0) (k : V l G B N M R al mc ms Q S cells slots pc' lv (.int (x / y) :: st) h) : V l G B N M R al mc ms Q S cells slots pc lv (.int y :: .int x :: st) h := by
  subst e
  intro p ev s m args below meth c C H locs ls w hl
  exact lv_idiv C.1 C.2.1 hd hne (k p ev s m args below meth c C H locs ls w hl)
theorem V_irem {x y : Int32} (hd : decode M.2.2.1 pc = .ok (.irem, 1)) (e : pc + 1 = pc') (hne : ¬ y = 0) (k : V l G B N M R al mc ms Q S cells slots pc' lv (.int (x - x / y * y) :: st) h) : V l G B N M R al mc ms Q S cells slots pc lv (.int y :: .int x :: st) h := by
  subst e
  intro p ev s m args below meth c C H locs ls w hl
  exact lv_irem C.1 C.2.1 hd hne (k p ev s m args below meth c C H locs ls w hl)
theorem V_ldiv {x y : Int64} (hd : decode M.2.2.1 pc = .ok (.ldiv, 1)) (e : pc + 1 = pc') (hne : ¬ y = 0) (k : V l G B N M R al mc ms Q S cells slots pc' lv (.long (x / y) :: st) h) : V l G B N M R al mc ms Q S cells slots pc lv (.long y :: .long x :: st) h := by
  subst e
  intro p ev s m args below meth c C H locs ls w hl
  exact lv_ldiv C.1 C.2.1 hd hne (k p ev s m args below meth c C H locs ls w hl)
theorem V_lrem {x y : Int64} (hd : decode M.2.2.1 pc = .ok (.lrem, 1)) (e : pc + 1 = pc') (hne : ¬ y = 0) (k : V l G B N M R al mc ms Q S cells slots pc' lv (.long (x - x / y * y) :: st) h) : V l G B N M R al mc ms Q S cells slots pc lv (.long y :: .long x :: st) h := by
  subst e
  intro p ev s m args below meth c C H locs ls w hl
  exact lv_lrem C.1 C.2.1 hd hne (k p ev s m args below meth c C H locs ls w hl)
theorem V_ineg {x : Int32} (hd : decode M.2.2.1 pc = .ok (.ineg, 1)) (e : pc + 1 = pc')  (k : V l G B N M R al mc ms Q S cells slots pc' lv (.int (-x) :: st) h) : V l G B N M R al mc ms Q S cells slots pc lv (.int x :: st) h := by
  subst e
  intro p ev s m args below meth c C H locs ls w hl
  exact lv_ineg C.1 C.2.1 hd (k p ev s m args below meth c C H locs ls w hl)
theorem V_i2l {x : Int32} (hd : decode M.2.2.1 pc = .ok (.i2l, 1)) (e : pc + 1 = pc')  (k : V l G B N M R al mc ms Q S cells slots pc' lv (.long x.toInt64 :: st) h) : V l G B N M R al mc ms Q S cells slots pc lv (.int x :: st) h := by
  subst e
  intro p ev s m args below meth c C H locs ls w hl
  exact lv_i2l C.1 C.2.1 hd rfl (k p ev s m args below meth c C H locs ls w hl)
theorem V_i2b {x : Int32} (hd : decode M.2.2.1 pc = .ok (.i2b, 1)) (e : pc + 1 = pc')  (k : V l G B N M R al mc ms Q S cells slots pc' lv (.int x.toInt8.toInt32 :: st) h) : V l G B N M R al mc ms Q S cells slots pc lv (.int x :: st) h := by
  subst e
  intro p ev s m args below meth c C H locs ls w hl
  exact lv_i2b C.1 C.2.1 hd rfl (k p ev s m args below meth c C H locs ls w hl)
theorem V_lcmp {x y : Int64} (hd : decode M.2.2.1 pc = .ok (.lcmp, 1)) (e : pc + 1 = pc')  (k : V l G B N M R al mc ms Q S cells slots pc' lv (.int (lg_cmp x y) :: st) h) : V l G B N M R al mc ms Q S cells slots pc lv (.long y :: .long x :: st) h := by
  subst e
  intro p ev s m args below meth c C H locs ls w hl
  exact W.lcmp C.1 C.2.1 hd (k p ev s m args below meth c C H locs ls w hl)
theorem V_iconst {n : Int} {v : Int32} (hd : decode M.2.2.1 pc = .ok (.iconst n, 1)) (e : pc + 1 = pc') (hv : Int32.ofInt n = v) (k : V l G B N M R al mc ms Q S cells slots pc' lv (.int v :: st) h) : V l G B N M R al mc ms Q S cells slots pc lv (st) h := by
  subst e
  intro p ev s m args below meth c C H locs ls w hl
  exact lv_iconst C.1 C.2.1 hd hv (k p ev s m args below meth c C H locs ls w hl)
theorem V_bipush {n : Int} {v : Int32} (hd : decode M.2.2.1 pc = .ok (.bipush n, 2)) (e : pc + 2 = pc') (hv : (Int8.ofInt n).toInt32 = v) (k : V l G B N M R al mc ms Q S cells slots pc' lv (.int v :: st) h) : V l G B N M R al mc ms Q S cells slots pc lv (st) h := by
  subst e
  intro p ev s m args below meth c C H locs ls w hl
  exact lv_bipush C.1 C.2.1 hd hv (k p ev s m args below meth c C H locs ls w hl)
theorem V_sipush {n : Int} {v : Int32} (hd : decode M.2.2.1 pc = .ok (.sipush n, 3)) (e : pc + 3 = pc') (hv : (Int16.ofInt n).toInt32 = v) (k : V l G B N M R al mc ms Q S cells slots pc' lv (.int v :: st) h) : V l G B N M R al mc ms Q S cells slots pc lv (st) h := by
  subst e
  intro p ev s m args below meth c C H locs ls w hl
  exact lv_sipush C.1 C.2.1 hd hv (k p ev s m args below meth c C H locs ls w hl)
theorem V_lconst {n : Fin 2} {v : Int64} (hd : decode M.2.2.1 pc = .ok (.lconst n, 1)) (e : pc + 1 = pc') (hv : Int64.ofNat (n : Nat) = v) (k : V l G B N M R al mc ms Q S cells slots pc' lv (.long v :: st) h) : V l G B N M R al mc ms Q S cells slots pc lv (st) h := by
  subst e
  intro p ev s m args below meth c C H locs ls w hl
  exact lv_lconst C.1 C.2.1 hd hv (k p ev s m args below meth c C H locs ls w hl)
theorem V_ldc {ix : Nat} {v : Int32} (hd : decode M.2.2.1 pc = .ok (.ldc ix, 2)) (e : pc + 2 = pc') (hc : Cond.constant M.1 ix v ∈ BIG) (k : V l G B N M R al mc ms Q S cells slots pc' lv (.int v :: st) h) : V l G B N M R al mc ms Q S cells slots pc lv (st) h := by
  subst e
  intro p ev s m args below meth c C H locs ls w hl
  exact lv_ldc C.1 C.2.1 C.2.2.2.2.1 (C.2.2.2.2.2.1 _ hc) hd (k p ev s m args below meth c C H locs ls w hl)
theorem V_ldcw {ix : Nat} {v : Int32} (hd : decode M.2.2.1 pc = .ok (.ldc_w ix, 3)) (e : pc + 3 = pc') (hc : Cond.constant M.1 ix v ∈ BIG) (k : V l G B N M R al mc ms Q S cells slots pc' lv (.int v :: st) h) : V l G B N M R al mc ms Q S cells slots pc lv (st) h := by
  subst e
  intro p ev s m args below meth c C H locs ls w hl
  exact lv_ldcw C.1 C.2.1 C.2.2.2.2.1 (C.2.2.2.2.2.1 _ hc) hd (k p ev s m args below meth c C H locs ls w hl)
theorem V_ldc2 {ix : Nat} {v : Int64} (hd : decode M.2.2.1 pc = .ok (.ldc2_w ix, 3)) (e : pc + 3 = pc') (hc : Cond.constantLong M.1 ix v ∈ BIG) (k : V l G B N M R al mc ms Q S cells slots pc' lv (.long v :: st) h) : V l G B N M R al mc ms Q S cells slots pc lv (st) h := by
  subst e
  intro p ev s m args below meth c C H locs ls w hl
  exact lv_ldc2 C.1 C.2.1 C.2.2.2.2.1 (C.2.2.2.2.2.1 _ hc) hd (k p ev s m args below meth c C H locs ls w hl)
theorem V_ldcS {ix j : Nat} {tx : String} (hd : decode M.2.2.1 pc = .ok (.ldc ix, 2)) (e : pc + 2 = pc') (hc : (M.1, ix, tx, j) ∈ strTab) (k : V l G B N M R al mc ms Q S cells slots pc' lv (.retAddr j :: st) h) : V l G B N M R al mc ms Q S cells slots pc lv (st) h := by
  subst e
  intro p ev s m args below meth c C H locs ls w hl
  exact va_ldcS C.1 C.2.1 C.2.2.2.2.1 (C.2.2.2.2.2.2.2.1.2.2.1 _ hc) hd (k p ev s m args below meth c C H locs ls w hl)
theorem V_dup {va : Value} (hd : decode M.2.2.1 pc = .ok (.dup, 1)) (e : pc + 1 = pc') (hc : va.category = 1) (k : V l G B N M R al mc ms Q S cells slots pc' lv (va :: va :: st) h) : V l G B N M R al mc ms Q S cells slots pc lv (va :: st) h := by
  subst e
  intro p ev s m args below meth c C H locs ls w hl
  exact lv_dup C.1 C.2.1 hd ((tr_cat G B va).trans hc) (k p ev s m args below meth c C H locs ls w hl)
theorem V_pop {va : Value} (hd : decode M.2.2.1 pc = .ok (.pop, 1)) (e : pc + 1 = pc') (hc : va.category = 1) (k : V l G B N M R al mc ms Q S cells slots pc' lv (st) h) : V l G B N M R al mc ms Q S cells slots pc lv (va :: st) h := by
  subst e
  intro p ev s m args below meth c C H locs ls w hl
  exact lv_pop C.1 C.2.1 hd ((tr_cat G B va).trans hc) (k p ev s m args below meth c C H locs ls w hl)
theorem V_dup2 {va vb : Value} (hd : decode M.2.2.1 pc = .ok (.dup2, 1)) (e : pc + 1 = pc') (hc : va.category = 1) (hc2 : vb.category = 1) (k : V l G B N M R al mc ms Q S cells slots pc' lv (va :: vb :: va :: vb :: st) h) : V l G B N M R al mc ms Q S cells slots pc lv (va :: vb :: st) h := by
  subst e
  intro p ev s m args below meth c C H locs ls w hl
  exact lv_dup2_11 C.1 C.2.1 hd ((tr_cat G B va).trans hc) ((tr_cat G B vb).trans hc2) (k p ev s m args below meth c C H locs ls w hl)
theorem V_iload_n {n : Fin 4} {i : Nat} {x : Int32} (hd : decode M.2.2.1 pc = .ok (.iload_n n, 1)) (e : pc + 1 = pc') (kk : Nat) (hk : lv[kk]? = some (i, .int x)) (hi : (n : Nat) = i) (k : V l G B N M R al mc ms Q S cells slots pc' lv (.int x :: st) h) : V l G B N M R al mc ms Q S cells slots pc lv (st) h := by
  subst e
  intro p ev s m args below meth c C H locs ls w hl
  exact lv_iload_n C.1 C.2.1 hd hi (lv_at hl kk (by rw [List.getElem?_map, hk]; rfl)) (k p ev s m args below meth c C H locs ls w hl)
theorem V_iload {i : Nat} {x : Int32} (hd : decode M.2.2.1 pc = .ok (.iload i, 2)) (e : pc + 2 = pc') (kk : Nat) (hk : lv[kk]? = some (i, .int x)) (k : V l G B N M R al mc ms Q S cells slots pc' lv (.int x :: st) h) : V l G B N M R al mc ms Q S cells slots pc lv (st) h := by
  subst e
  intro p ev s m args below meth c C H locs ls w hl
  exact lv_iload C.1 C.2.1 hd (lv_at hl kk (by rw [List.getElem?_map, hk]; rfl)) (k p ev s m args below meth c C H locs ls w hl)
theorem V_lload_n {n : Fin 4} {i : Nat} {x : Int64} (hd : decode M.2.2.1 pc = .ok (.lload_n n, 1)) (e : pc + 1 = pc') (kk : Nat) (hk : lv[kk]? = some (i, .long x)) (hi : (n : Nat) = i) (k : V l G B N M R al mc ms Q S cells slots pc' lv (.long x :: st) h) : V l G B N M R al mc ms Q S cells slots pc lv (st) h := by
  subst e
  intro p ev s m args below meth c C H locs ls w hl
  exact lv_lload_n C.1 C.2.1 hd hi (lv_at hl kk (by rw [List.getElem?_map, hk]; rfl)) (k p ev s m args below meth c C H locs ls w hl)
theorem V_lload {i : Nat} {x : Int64} (hd : decode M.2.2.1 pc = .ok (.lload i, 2)) (e : pc + 2 = pc') (kk : Nat) (hk : lv[kk]? = some (i, .long x)) (k : V l G B N M R al mc ms Q S cells slots pc' lv (.long x :: st) h) : V l G B N M R al mc ms Q S cells slots pc lv (st) h := by
  subst e
  intro p ev s m args below meth c C H locs ls w hl
  exact lv_lload C.1 C.2.1 hd (lv_at hl kk (by rw [List.getElem?_map, hk]; rfl)) (k p ev s m args below meth c C H locs ls w hl)
theorem V_aload_n {n : Fin 4} {i x : Nat} (hd : decode M.2.2.1 pc = .ok (.aload_n n, 1)) (e : pc + 1 = pc') (kk : Nat) (hk : lv[kk]? = some (i, .ref x)) (hi : (n : Nat) = i) (k : V l G B N M R al mc ms Q S cells slots pc' lv (.ref x :: st) h) : V l G B N M R al mc ms Q S cells slots pc lv (st) h := by
  subst e
  intro p ev s m args below meth c C H locs ls w hl
  exact lv_aload_n C.1 C.2.1 hd hi (lv_at hl kk (by rw [List.getElem?_map, hk]; rfl)) (k p ev s m args below meth c C H locs ls w hl)
theorem V_aload {i x : Nat} (hd : decode M.2.2.1 pc = .ok (.aload i, 2)) (e : pc + 2 = pc') (kk : Nat) (hk : lv[kk]? = some (i, .ref x)) (k : V l G B N M R al mc ms Q S cells slots pc' lv (.ref x :: st) h) : V l G B N M R al mc ms Q S cells slots pc lv (st) h := by
  subst e
  intro p ev s m args below meth c C H locs ls w hl
  exact lv_aload C.1 C.2.1 hd (lv_at hl kk (by rw [List.getElem?_map, hk]; rfl)) (k p ev s m args below meth c C H locs ls w hl)
theorem V_sload_n {n : Fin 4} {i x : Nat} (hd : decode M.2.2.1 pc = .ok (.aload_n n, 1)) (e : pc + 1 = pc') (kk : Nat) (hk : lv[kk]? = some (i, .retAddr x)) (hi : (n : Nat) = i) (k : V l G B N M R al mc ms Q S cells slots pc' lv (.retAddr x :: st) h) : V l G B N M R al mc ms Q S cells slots pc lv (st) h := by
  subst e
  intro p ev s m args below meth c C H locs ls w hl
  exact lv_aload_n C.1 C.2.1 hd hi (lv_at hl kk (by rw [List.getElem?_map, hk]; rfl)) (k p ev s m args below meth c C H locs ls w hl)
theorem filt_tr (G : GE) (B i : Nat) (lv : List (Nat × Value)) : (lv.map (trl G B)).filter (fun q => !(q.1 == i) && !(q.1 + 1 == i && q.2.category == 2)) = (lv.filter (fun q => !(q.1 == i) && !(q.1 + 1 == i && q.2.category == 2))).map (trl G B) := by
  rw [List.filter_map]
  congr 1
  apply List.filter_congr
  intro q _
  simp [trl, tr_cat]
theorem filt_trl (G : GE) (B i : Nat) (lv : List (Nat × Value)) : (lv.map (trl G B)).filter (fun q => !(q.1 == i) && (!(q.1 == i + 1) && !(q.1 + 1 == i && q.2.category == 2))) = (lv.filter (fun q => !(q.1 == i) && (!(q.1 == i + 1) && !(q.1 + 1 == i && q.2.category == 2)))).map (trl G B) := by
  rw [List.filter_map]
  congr 1
  apply List.filter_congr
  intro q _
  simp [trl, tr_cat]
theorem V_istore_n {n : Fin 4} {i : Nat} {x : Int32} (hd : decode M.2.2.1 pc = .ok (.istore_n n, 1)) (e : pc + 1 = pc') (hi : (n : Nat) = i) (hn : i < M.2.2.2.1) (hl' : (i, Value.int x) :: lv.filter (fun q => !(q.1 == i) && !(q.1 + 1 == i && q.2.category == 2)) = lv') (k : V l G B N M R al mc ms Q S cells slots pc' lv' st h) : V l G B N M R al mc ms Q S cells slots pc lv (Value.int x :: st) h := by
  subst e
  intro p ev s m args below meth c C H locs ls w hl
  exact lv_istore_n (lv' := lv'.map (trl G B)) C.1 C.2.1 hd hi hl hn (by rw [← hl', filt_tr]; rfl) (fun ls hl => k p ev s m args below meth c C H locs ls w hl)
theorem V_istore {i : Nat} {x : Int32} (hd : decode M.2.2.1 pc = .ok (.istore i, 2)) (e : pc + 2 = pc') (hn : i < M.2.2.2.1) (hl' : (i, Value.int x) :: lv.filter (fun q => !(q.1 == i) && !(q.1 + 1 == i && q.2.category == 2)) = lv') (k : V l G B N M R al mc ms Q S cells slots pc' lv' st h) : V l G B N M R al mc ms Q S cells slots pc lv (Value.int x :: st) h := by
  subst e
  intro p ev s m args below meth c C H locs ls w hl
  exact lv_istore (lv' := lv'.map (trl G B)) C.1 C.2.1 hd hl hn (by rw [← hl', filt_tr]; rfl) (fun ls hl => k p ev s m args below meth c C H locs ls w hl)
theorem V_astore_n {n : Fin 4} {i x : Nat} (hd : decode M.2.2.1 pc = .ok (.astore_n n, 1)) (e : pc + 1 = pc') (hi : (n : Nat) = i) (hn : i < M.2.2.2.1) (hl' : (i, Value.ref x) :: lv.filter (fun q => !(q.1 == i) && !(q.1 + 1 == i && q.2.category == 2)) = lv') (k : V l G B N M R al mc ms Q S cells slots pc' lv' st h) : V l G B N M R al mc ms Q S cells slots pc lv (Value.ref x :: st) h := by
  subst e
  intro p ev s m args below meth c C H locs ls w hl
  exact lv_astore_n (lv' := lv'.map (trl G B)) C.1 C.2.1 hd hi hl hn (by rw [← hl', filt_tr]; rfl) (fun ls hl => k p ev s m args below meth c C H locs ls w hl)
theorem V_astore {i x : Nat} (hd : decode M.2.2.1 pc = .ok (.astore i, 2)) (e : pc + 2 = pc') (hn : i < M.2.2.2.1) (hl' : (i, Value.ref x) :: lv.filter (fun q => !(q.1 == i) && !(q.1 + 1 == i && q.2.category == 2)) = lv') (k : V l G B N M R al mc ms Q S cells slots pc' lv' st h) : V l G B N M R al mc ms Q S cells slots pc lv (Value.ref x :: st) h := by
  subst e
  intro p ev s m args below meth c C H locs ls w hl
  exact lv_astore (lv' := lv'.map (trl G B)) C.1 C.2.1 hd hl hn (by rw [← hl', filt_tr]; rfl) (fun ls hl => k p ev s m args below meth c C H locs ls w hl)
theorem V_lstore_n {n : Fin 4} {i : Nat} {x : Int64} (hd : decode M.2.2.1 pc = .ok (.lstore_n n, 1)) (e : pc + 1 = pc') (hi : (n : Nat) = i) (hn : i + 1 < M.2.2.2.1) (hl' : (i, Value.long x) :: lv.filter (fun q => !(q.1 == i) && (!(q.1 == i + 1) && !(q.1 + 1 == i && q.2.category == 2))) = lv') (k : V l G B N M R al mc ms Q S cells slots pc' lv' st h) : V l G B N M R al mc ms Q S cells slots pc lv (Value.long x :: st) h := by
  subst e
  intro p ev s m args below meth c C H locs ls w hl
  exact lv_lstore_n (lv' := lv'.map (trl G B)) C.1 C.2.1 hd hi hl hn (by rw [← hl', filt_trl]; rfl) (fun ls hl => k p ev s m args below meth c C H locs ls w hl)
theorem V_lstore {i : Nat} {x : Int64} (hd : decode M.2.2.1 pc = .ok (.lstore i, 2)) (e : pc + 2 = pc') (hn : i + 1 < M.2.2.2.1) (hl' : (i, Value.long x) :: lv.filter (fun q => !(q.1 == i) && (!(q.1 == i + 1) && !(q.1 + 1 == i && q.2.category == 2))) = lv') (k : V l G B N M R al mc ms Q S cells slots pc' lv' st h) : V l G B N M R al mc ms Q S cells slots pc lv (Value.long x :: st) h := by
  subst e
  intro p ev s m args below meth c C H locs ls w hl
  exact lv_lstore (lv' := lv'.map (trl G B)) C.1 C.2.1 hd hl hn (by rw [← hl', filt_trl]; rfl) (fun ls hl => k p ev s m args below meth c C H locs ls w hl)
theorem V_iinc {i : Nat} {n : Int} {x v : Int32} (hd : decode M.2.2.1 pc = .ok (.iinc i n, 3)) (e : pc + 3 = pc') (kk : Nat) (hk : lv[kk]? = some (i, .int x)) (hv : x + Int32.ofInt n = v) (hn : i < M.2.2.2.1) (hl' : (i, Value.int v) :: lv.filter (fun q => !(q.1 == i) && !(q.1 + 1 == i && q.2.category == 2)) = lv') (k : V l G B N M R al mc ms Q S cells slots pc' lv' st h) : V l G B N M R al mc ms Q S cells slots pc lv st h := by
  subst e
  intro p ev s m args below meth c C H locs ls w hl
  exact lv_iinc (k := kk) (lv' := lv'.map (trl G B)) C.1 C.2.1 hd hl (by rw [List.getElem?_map, hk]; rfl) hv hn (by rw [← hl', filt_tr]; rfl) (fun ls hl => k p ev s m args below meth c C H locs ls w hl)
/-- fewer locals -/
theorem V_sub (ks : List Nat) (hk : lv_pick lv ks = lv') (k : V l G B N M R al mc ms Q S cells slots pc lv' st h) : V l G B N M R al mc ms Q S cells slots pc lv st h := by
  intro p ev s m args below meth c C H locs ls w hl
  refine k p ev s m args below meth c C H locs ls w ⟨hl.1, hl.2.1, fun q hq => ?_⟩
  rw [← hk] at hq
  obtain ⟨q0, h0, rfl⟩ := List.mem_map.mp hq
  obtain ⟨j, -, hj⟩ := List.mem_filterMap.mp h0
  exact hl.2.2 _ (List.mem_map.mpr ⟨q0, List.mem_of_getElem? hj, rfl⟩)
theorem V_goto {off : Int} {tgt : Nat} (hd : decode M.2.2.1 pc = .ok (.goto off, 3)) (ht : (pc : Int) + off = (tgt : Int)) (k : V l G B N M R al mc ms Q S cells slots tgt lv st h) : V l G B N M R al mc ms Q S cells slots pc lv st h := by
  intro p ev s m args below meth c C H locs ls w hl
  exact lv_goto C.1 C.2.1 hd ht (k p ev s m args below meth c C H locs ls w hl)
theorem V_if_eq {β : Type} {A1 A2 : Option β} {o : β} {x : Int32} {off : Int} {tgt : Nat} (hd : decode M.2.2.1 pc = .ok (.ifCond .eq off, 3)) (ht : (pc : Int) + off = (tgt : Int)) (e : pc + 3 = pc') (hf : (if x = 0 then A1 else A2) = some o) (k1 : A1 = some o → V l G B N M R al mc ms Q S cells slots tgt lv st h) (k2 : A2 = some o → V l G B N M R al mc ms Q S cells slots pc' lv st h) : V l G B N M R al mc ms Q S cells slots pc lv (.int x :: st) h := by
  subst e
  intro p ev s m args below meth c C H locs ls w hl
  exact lv_if_eq C.1 C.2.1 hd ht (fun hc => k1 ((if_pos hc).symm.trans hf) p ev s m args below meth c C H locs ls w hl) (fun hc => k2 ((if_neg hc).symm.trans hf) p ev s m args below meth c C H locs ls w hl)
theorem V_icmp_eq {β : Type} {A1 A2 : Option β} {o : β} {x y : Int32} {off : Int} {tgt : Nat} (hd : decode M.2.2.1 pc = .ok (.if_icmp .eq off, 3)) (ht : (pc : Int) + off = (tgt : Int)) (e : pc + 3 = pc') (hf : (if x = y then A1 else A2) = some o) (k1 : A1 = some o → V l G B N M R al mc ms Q S cells slots tgt lv st h) (k2 : A2 = some o → V l G B N M R al mc ms Q S cells slots pc' lv st h) : V l G B N M R al mc ms Q S cells slots pc lv (.int y :: .int x :: st) h := by
  subst e
  intro p ev s m args below meth c C H locs ls w hl
  exact lv_icmp_eq C.1 C.2.1 hd ht (fun hc => k1 ((if_pos hc).symm.trans hf) p ev s m args below meth c C H locs ls w hl) (fun hc => k2 ((if_neg hc).symm.trans hf) p ev s m args below meth c C H locs ls w hl)
theorem V_if_ne {β : Type} {A1 A2 : Option β} {o : β} {x : Int32} {off : Int} {tgt : Nat} (hd : decode M.2.2.1 pc = .ok (.ifCond .ne off, 3)) (ht : (pc : Int) + off = (tgt : Int)) (e : pc + 3 = pc') (hf : (if x = 0 then A1 else A2) = some o) (k1 : A1 = some o → V l G B N M R al mc ms Q S cells slots pc' lv st h) (k2 : A2 = some o → V l G B N M R al mc ms Q S cells slots tgt lv st h) : V l G B N M R al mc ms Q S cells slots pc lv (.int x :: st) h := by
  subst e
  intro p ev s m args below meth c C H locs ls w hl
  exact lv_if_ne C.1 C.2.1 hd ht (fun hc => k2 ((if_neg hc).symm.trans hf) p ev s m args below meth c C H locs ls w hl) (fun hc => k1 ((if_pos hc).symm.trans hf) p ev s m args below meth c C H locs ls w hl)
theorem V_icmp_ne {β : Type} {A1 A2 : Option β} {o : β} {x y : Int32} {off : Int} {tgt : Nat} (hd : decode M.2.2.1 pc = .ok (.if_icmp .ne off, 3)) (ht : (pc : Int) + off = (tgt : Int)) (e : pc + 3 = pc') (hf : (if x = y then A1 else A2) = some o) (k1 : A1 = some o → V l G B N M R al mc ms Q S cells slots pc' lv st h) (k2 : A2 = some o → V l G B N M R al mc ms Q S cells slots tgt lv st h) : V l G B N M R al mc ms Q S cells slots pc lv (.int y :: .int x :: st) h := by
  subst e
  intro p ev s m args below meth c C H locs ls w hl
  exact lv_icmp_ne C.1 C.2.1 hd ht (fun hc => k2 ((if_neg hc).symm.trans hf) p ev s m args below meth c C H locs ls w hl) (fun hc => k1 ((if_pos hc).symm.trans hf) p ev s m args below meth c C H locs ls w hl)
theorem V_if_lt {β : Type} {A1 A2 : Option β} {o : β} {x : Int32} {off : Int} {tgt : Nat} (hd : decode M.2.2.1 pc = .ok (.ifCond .lt off, 3)) (ht : (pc : Int) + off = (tgt : Int)) (e : pc + 3 = pc') (hf : (if x < 0 then A1 else A2) = some o) (k1 : A1 = some o → V l G B N M R al mc ms Q S cells slots tgt lv st h) (k2 : A2 = some o → V l G B N M R al mc ms Q S cells slots pc' lv st h) : V l G B N M R al mc ms Q S cells slots pc lv (.int x :: st) h := by
  subst e
  intro p ev s m args below meth c C H locs ls w hl
  exact lv_if_lt C.1 C.2.1 hd ht (fun hc => k1 ((if_pos hc).symm.trans hf) p ev s m args below meth c C H locs ls w hl) (fun hc => k2 ((if_neg hc).symm.trans hf) p ev s m args below meth c C H locs ls w hl)
theorem V_icmp_lt {β : Type} {A1 A2 : Option β} {o : β} {x y : Int32} {off : Int} {tgt : Nat} (hd : decode M.2.2.1 pc = .ok (.if_icmp .lt off, 3)) (ht : (pc : Int) + off = (tgt : Int)) (e : pc + 3 = pc') (hf : (if x < y then A1 else A2) = some o) (k1 : A1 = some o → V l G B N M R al mc ms Q S cells slots tgt lv st h) (k2 : A2 = some o → V l G B N M R al mc ms Q S cells slots pc' lv st h) : V l G B N M R al mc ms Q S cells slots pc lv (.int y :: .int x :: st) h := by
  subst e
  intro p ev s m args below meth c C H locs ls w hl
  exact lv_icmp_lt C.1 C.2.1 hd ht (fun hc => k1 ((if_pos hc).symm.trans hf) p ev s m args below meth c C H locs ls w hl) (fun hc => k2 ((if_neg hc).symm.trans hf) p ev s m args below meth c C H locs ls w hl)
theorem V_if_ge {β : Type} {A1 A2 : Option β} {o : β} {x : Int32} {off : Int} {tgt : Nat} (hd : decode M.2.2.1 pc = .ok (.ifCond .ge off, 3)) (ht : (pc : Int) + off = (tgt : Int)) (e : pc + 3 = pc') (hf : (if x < 0 then A1 else A2) = some o) (k1 : A1 = some o → V l G B N M R al mc ms Q S cells slots pc' lv st h) (k2 : A2 = some o → V l G B N M R al mc ms Q S cells slots tgt lv st h) : V l G B N M R al mc ms Q S cells slots pc lv (.int x :: st) h := by
  subst e
  intro p ev s m args below meth c C H locs ls w hl
  exact lv_if_ge C.1 C.2.1 hd ht (fun hc => k2 ((if_neg (Int32.not_lt.mpr hc)).symm.trans hf) p ev s m args below meth c C H locs ls w hl) (fun hc => k1 ((if_pos (Int32.not_le.mp hc)).symm.trans hf) p ev s m args below meth c C H locs ls w hl)
theorem V_icmp_ge {β : Type} {A1 A2 : Option β} {o : β} {x y : Int32} {off : Int} {tgt : Nat} (hd : decode M.2.2.1 pc = .ok (.if_icmp .ge off, 3)) (ht : (pc : Int) + off = (tgt : Int)) (e : pc + 3 = pc') (hf : (if x < y then A1 else A2) = some o) (k1 : A1 = some o → V l G B N M R al mc ms Q S cells slots pc' lv st h) (k2 : A2 = some o → V l G B N M R al mc ms Q S cells slots tgt lv st h) : V l G B N M R al mc ms Q S cells slots pc lv (.int y :: .int x :: st) h := by
  subst e
  intro p ev s m args below meth c C H locs ls w hl
  exact lv_icmp_ge C.1 C.2.1 hd ht (fun hc => k2 ((if_neg (Int32.not_lt.mpr hc)).symm.trans hf) p ev s m args below meth c C H locs ls w hl) (fun hc => k1 ((if_pos (Int32.not_le.mp hc)).symm.trans hf) p ev s m args below meth c C H locs ls w hl)
theorem V_if_gt {β : Type} {A1 A2 : Option β} {o : β} {x : Int32} {off : Int} {tgt : Nat} (hd : decode M.2.2.1 pc = .ok (.ifCond .gt off, 3)) (ht : (pc : Int) + off = (tgt : Int)) (e : pc + 3 = pc') (hf : (if 0 < x then A1 else A2) = some o) (k1 : A1 = some o → V l G B N M R al mc ms Q S cells slots tgt lv st h) (k2 : A2 = some o → V l G B N M R al mc ms Q S cells slots pc' lv st h) : V l G B N M R al mc ms Q S cells slots pc lv (.int x :: st) h := by
  subst e
  intro p ev s m args below meth c C H locs ls w hl
  exact lv_if_gt C.1 C.2.1 hd ht (fun hc => k1 ((if_pos hc).symm.trans hf) p ev s m args below meth c C H locs ls w hl) (fun hc => k2 ((if_neg hc).symm.trans hf) p ev s m args below meth c C H locs ls w hl)
theorem V_icmp_gt {β : Type} {A1 A2 : Option β} {o : β} {x y : Int32} {off : Int} {tgt : Nat} (hd : decode M.2.2.1 pc = .ok (.if_icmp .gt off, 3)) (ht : (pc : Int) + off = (tgt : Int)) (e : pc + 3 = pc') (hf : (if y < x then A1 else A2) = some o) (k1 : A1 = some o → V l G B N M R al mc ms Q S cells slots tgt lv st h) (k2 : A2 = some o → V l G B N M R al mc ms Q S cells slots pc' lv st h) : V l G B N M R al mc ms Q S cells slots pc lv (.int y :: .int x :: st) h := by
  subst e
  intro p ev s m args below meth c C H locs ls w hl
  exact lv_icmp_gt C.1 C.2.1 hd ht (fun hc => k1 ((if_pos hc).symm.trans hf) p ev s m args below meth c C H locs ls w hl) (fun hc => k2 ((if_neg hc).symm.trans hf) p ev s m args below meth c C H locs ls w hl)
theorem V_if_le {β : Type} {A1 A2 : Option β} {o : β} {x : Int32} {off : Int} {tgt : Nat} (hd : decode M.2.2.1 pc = .ok (.ifCond .le off, 3)) (ht : (pc : Int) + off = (tgt : Int)) (e : pc + 3 = pc') (hf : (if 0 < x then A1 else A2) = some o) (k1 : A1 = some o → V l G B N M R al mc ms Q S cells slots pc' lv st h) (k2 : A2 = some o → V l G B N M R al mc ms Q S cells slots tgt lv st h) : V l G B N M R al mc ms Q S cells slots pc lv (.int x :: st) h := by
  subst e
  intro p ev s m args below meth c C H locs ls w hl
  exact lv_if_le C.1 C.2.1 hd ht (fun hc => k2 ((if_neg (Int32.not_lt.mpr hc)).symm.trans hf) p ev s m args below meth c C H locs ls w hl) (fun hc => k1 ((if_pos (Int32.not_le.mp hc)).symm.trans hf) p ev s m args below meth c C H locs ls w hl)
theorem V_icmp_le {β : Type} {A1 A2 : Option β} {o : β} {x y : Int32} {off : Int} {tgt : Nat} (hd : decode M.2.2.1 pc = .ok (.if_icmp .le off, 3)) (ht : (pc : Int) + off = (tgt : Int)) (e : pc + 3 = pc') (hf : (if y < x then A1 else A2) = some o) (k1 : A1 = some o → V l G B N M R al mc ms Q S cells slots pc' lv st h) (k2 : A2 = some o → V l G B N M R al mc ms Q S cells slots tgt lv st h) : V l G B N M R al mc ms Q S cells slots pc lv (.int y :: .int x :: st) h := by
  subst e
  intro p ev s m args below meth c C H locs ls w hl
  exact lv_icmp_le C.1 C.2.1 hd ht (fun hc => k2 ((if_neg (Int32.not_lt.mpr hc)).symm.trans hf) p ev s m args below meth c C H locs ls w hl) (fun hc => k1 ((if_pos (Int32.not_le.mp hc)).symm.trans hf) p ev s m args below meth c C H locs ls w hl)
theorem zq_lt (x y : Int64) : lg_cmp x y < 0 ↔ x < y := by
  unfold lg_cmp
  by_cases h1 : y < x
  · rw [if_pos h1]
    exact ⟨fun h => absurd h (by decide), fun h => absurd h1 (by rw [Int64.lt_iff_toInt_lt] at h ⊢; omega)⟩
  · rw [if_neg h1]
    by_cases h2 : x = y
    · rw [if_pos h2]
      exact ⟨fun h => absurd h (by decide), fun h => by subst h2; rw [Int64.lt_iff_toInt_lt] at h; omega⟩
    · rw [if_neg h2]
      refine ⟨fun _ => ?_, fun _ => by decide⟩
      rw [Int64.lt_iff_toInt_lt] at h1 ⊢
      have : x.toInt ≠ y.toInt := fun q => h2 (Int64.toInt_inj.mp q)
      omega
theorem zq_eq (x y : Int64) : lg_cmp x y = 0 ↔ x = y := by
  unfold lg_cmp
  by_cases h1 : y < x
  · rw [if_pos h1]
    exact ⟨fun h => absurd h (by decide), fun h => by subst h; rw [Int64.lt_iff_toInt_lt] at h1; omega⟩
  · rw [if_neg h1]
    by_cases h2 : x = y
    · rw [if_pos h2]; exact ⟨fun _ => h2, fun _ => rfl⟩
    · rw [if_neg h2]; exact ⟨fun h => absurd h (by decide), fun h => absurd h h2⟩
theorem zq_gt (x y : Int64) : 0 < lg_cmp x y ↔ y < x := by
  unfold lg_cmp
  by_cases h1 : y < x
  · rw [if_pos h1]; exact ⟨fun _ => h1, fun _ => by decide⟩
  · rw [if_neg h1]
    by_cases h2 : x = y
    · rw [if_pos h2]; exact ⟨fun h => absurd h (by decide), fun h => absurd h h1⟩
    · rw [if_neg h2]; exact ⟨fun h => absurd h (by decide), fun h => absurd h h1⟩
theorem V_lcmp_eq {β : Type} {A1 A2 : Option β} {o : β} {x y : Int64} {off : Int} {tgt : Nat} (hd : decode M.2.2.1 pc = .ok (.lcmp, 1)) {pc1 : Nat} (e1 : pc + 1 = pc1) (hd2 : decode M.2.2.1 pc1 = .ok (.ifCond .eq off, 3)) (ht : (pc1 : Int) + off = (tgt : Int)) (e : pc1 + 3 = pc') (hf : (if x = y then A1 else A2) = some o) (k1 : A1 = some o → V l G B N M R al mc ms Q S cells slots tgt lv st h) (k2 : A2 = some o → V l G B N M R al mc ms Q S cells slots pc' lv st h) : V l G B N M R al mc ms Q S cells slots pc lv (.long y :: .long x :: st) h := by
  refine V_lcmp hd e1 ?_
  subst e
  intro p ev s m args below meth c C H locs ls w hl
  exact lv_if_eq C.1 C.2.1 hd2 ht (fun hc => k1 ((if_pos ((zq_eq x y).mp hc)).symm.trans hf) p ev s m args below meth c C H locs ls w hl) (fun hc => k2 ((if_neg (fun q => hc ((zq_eq x y).mpr q))).symm.trans hf) p ev s m args below meth c C H locs ls w hl)
theorem V_lcmp_ne {β : Type} {A1 A2 : Option β} {o : β} {x y : Int64} {off : Int} {tgt : Nat} (hd : decode M.2.2.1 pc = .ok (.lcmp, 1)) {pc1 : Nat} (e1 : pc + 1 = pc1) (hd2 : decode M.2.2.1 pc1 = .ok (.ifCond .ne off, 3)) (ht : (pc1 : Int) + off = (tgt : Int)) (e : pc1 + 3 = pc') (hf : (if x = y then A1 else A2) = some o) (k1 : A1 = some o → V l G B N M R al mc ms Q S cells slots pc' lv st h) (k2 : A2 = some o → V l G B N M R al mc ms Q S cells slots tgt lv st h) : V l G B N M R al mc ms Q S cells slots pc lv (.long y :: .long x :: st) h := by
  refine V_lcmp hd e1 ?_
  subst e
  intro p ev s m args below meth c C H locs ls w hl
  exact lv_if_ne C.1 C.2.1 hd2 ht (fun hc => k2 ((if_neg (fun q => hc ((zq_eq x y).mpr q))).symm.trans hf) p ev s m args below meth c C H locs ls w hl) (fun hc => k1 ((if_pos ((zq_eq x y).mp hc)).symm.trans hf) p ev s m args below meth c C H locs ls w hl)
theorem V_lcmp_lt {β : Type} {A1 A2 : Option β} {o : β} {x y : Int64} {off : Int} {tgt : Nat} (hd : decode M.2.2.1 pc = .ok (.lcmp, 1)) {pc1 : Nat} (e1 : pc + 1 = pc1) (hd2 : decode M.2.2.1 pc1 = .ok (.ifCond .lt off, 3)) (ht : (pc1 : Int) + off = (tgt : Int)) (e : pc1 + 3 = pc') (hf : (if x < y then A1 else A2) = some o) (k1 : A1 = some o → V l G B N M R al mc ms Q S cells slots tgt lv st h) (k2 : A2 = some o → V l G B N M R al mc ms Q S cells slots pc' lv st h) : V l G B N M R al mc ms Q S cells slots pc lv (.long y :: .long x :: st) h := by
  refine V_lcmp hd e1 ?_
  subst e
  intro p ev s m args below meth c C H locs ls w hl
  exact lv_if_lt C.1 C.2.1 hd2 ht (fun hc => k1 ((if_pos ((zq_lt x y).mp hc)).symm.trans hf) p ev s m args below meth c C H locs ls w hl) (fun hc => k2 ((if_neg (fun q => hc ((zq_lt x y).mpr q))).symm.trans hf) p ev s m args below meth c C H locs ls w hl)
theorem V_lcmp_ge {β : Type} {A1 A2 : Option β} {o : β} {x y : Int64} {off : Int} {tgt : Nat} (hd : decode M.2.2.1 pc = .ok (.lcmp, 1)) {pc1 : Nat} (e1 : pc + 1 = pc1) (hd2 : decode M.2.2.1 pc1 = .ok (.ifCond .ge off, 3)) (ht : (pc1 : Int) + off = (tgt : Int)) (e : pc1 + 3 = pc') (hf : (if x < y then A1 else A2) = some o) (k1 : A1 = some o → V l G B N M R al mc ms Q S cells slots pc' lv st h) (k2 : A2 = some o → V l G B N M R al mc ms Q S cells slots tgt lv st h) : V l G B N M R al mc ms Q S cells slots pc lv (.long y :: .long x :: st) h := by
  refine V_lcmp hd e1 ?_
  subst e
  intro p ev s m args below meth c C H locs ls w hl
  exact lv_if_ge C.1 C.2.1 hd2 ht (fun hc => k2 ((if_neg (fun q => absurd ((zq_lt x y).mpr q) (Int32.not_lt.mpr hc))).symm.trans hf) p ev s m args below meth c C H locs ls w hl) (fun hc => k1 ((if_pos ((zq_lt x y).mp (Int32.not_le.mp hc))).symm.trans hf) p ev s m args below meth c C H locs ls w hl)
theorem V_lcmp_gt {β : Type} {A1 A2 : Option β} {o : β} {x y : Int64} {off : Int} {tgt : Nat} (hd : decode M.2.2.1 pc = .ok (.lcmp, 1)) {pc1 : Nat} (e1 : pc + 1 = pc1) (hd2 : decode M.2.2.1 pc1 = .ok (.ifCond .gt off, 3)) (ht : (pc1 : Int) + off = (tgt : Int)) (e : pc1 + 3 = pc') (hf : (if y < x then A1 else A2) = some o) (k1 : A1 = some o → V l G B N M R al mc ms Q S cells slots tgt lv st h) (k2 : A2 = some o → V l G B N M R al mc ms Q S cells slots pc' lv st h) : V l G B N M R al mc ms Q S cells slots pc lv (.long y :: .long x :: st) h := by
  refine V_lcmp hd e1 ?_
  subst e
  intro p ev s m args below meth c C H locs ls w hl
  exact lv_if_gt C.1 C.2.1 hd2 ht (fun hc => k1 ((if_pos ((zq_gt x y).mp hc)).symm.trans hf) p ev s m args below meth c C H locs ls w hl) (fun hc => k2 ((if_neg (fun q => hc ((zq_gt x y).mpr q))).symm.trans hf) p ev s m args below meth c C H locs ls w hl)
theorem V_lcmp_le {β : Type} {A1 A2 : Option β} {o : β} {x y : Int64} {off : Int} {tgt : Nat} (hd : decode M.2.2.1 pc = .ok (.lcmp, 1)) {pc1 : Nat} (e1 : pc + 1 = pc1) (hd2 : decode M.2.2.1 pc1 = .ok (.ifCond .le off, 3)) (ht : (pc1 : Int) + off = (tgt : Int)) (e : pc1 + 3 = pc') (hf : (if y < x then A1 else A2) = some o) (k1 : A1 = some o → V l G B N M R al mc ms Q S cells slots pc' lv st h) (k2 : A2 = some o → V l G B N M R al mc ms Q S cells slots tgt lv st h) : V l G B N M R al mc ms Q S cells slots pc lv (.long y :: .long x :: st) h := by
  refine V_lcmp hd e1 ?_
  subst e
  intro p ev s m args below meth c C H locs ls w hl
  exact lv_if_le C.1 C.2.1 hd2 ht (fun hc => k2 ((if_neg (fun q => absurd ((zq_gt x y).mpr q) (Int32.not_lt.mpr hc))).symm.trans hf) p ev s m args below meth c C H locs ls w hl) (fun hc => k1 ((if_pos ((zq_gt x y).mp (Int32.not_le.mp hc))).symm.trans hf) p ev s m args below meth c C H locs ls w hl)
end VL
