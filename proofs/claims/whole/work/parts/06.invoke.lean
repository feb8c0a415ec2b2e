/-! ===== calls ===== -/
def cpI (h : MH) (a : Nat) (sp : Int32) (b : Nat) (dp n : Int32) : Option MH := if sp < 0 ∨ dp < 0 ∨ n < 0 ∨ gN h a < sp.toNatClampNeg + n.toNatClampNeg ∨ gN h b < dp.toNatClampNeg + n.toNatClampNeg then none else some ((fun x j => if x = b then va_cpy (gI h a) (gI h b) sp.toNatClampNeg dp.toNatClampNeg n.toNatClampNeg j else gI h x j), h.2)
theorem bw_maxC : Cond.code Lib.Math.max.name Lib.Math.max.code 2 (some .int) ∈ BIG := big_of (ws := [_]) (by decide +kernel) (by decide +kernel) _ List.mem_cons_self
theorem bw_minC : Cond.code Lib.Math.min.name Lib.Math.min.code 2 (some .int) ∈ BIG := big_of (ws := [_]) (by decide +kernel) (by decide +kernel) _ List.mem_cons_self
theorem bw_maxS : Cond.static Lib.Math.max.name ∈ BIG := big_of (ws := [_]) (by decide +kernel) (by decide +kernel) _ List.mem_cons_self
theorem bw_minS : Cond.static Lib.Math.min.name ∈ BIG := big_of (ws := [_]) (by decide +kernel) (by decide +kernel) _ List.mem_cons_self
theorem bw_mathI : Cond.initialized "java/lang/Math" ∈ BIG := big_of (ws := [_]) (by decide +kernel) (by decide +kernel) _ List.mem_cons_self
theorem bw_sysI : Cond.initialized "java/lang/System" ∈ BIG := big_of (ws := [_]) (by decide +kernel) (by decide +kernel) _ List.mem_cons_self
theorem bw_cpyN : Cond.native arraycopyName ∈ BIG := big_of (ws := [_]) (by decide +kernel) (by decide +kernel) _ List.mem_cons_self
theorem bw_cpyS : Cond.static arraycopyName ∈ BIG := big_of (ws := [_]) (by decide +kernel) (by decide +kernel) _ List.mem_cons_self
theorem bw_objI : Cond.instanceMethod objectInit ∈ BIG := big_of (ws := [_]) (by decide +kernel) (by decide +kernel) _ List.mem_cons_self
theorem bw_objC : Cond.code objectInit ⟨#[0xb1]⟩ 1 none ∈ BIG := big_of (ws := [_]) (by decide +kernel) (by decide +kernel) _ List.mem_cons_self
theorem bw_arrI : Cond.arrayClass .int ∈ BIG := big_of (ws := [_]) (by decide +kernel) (by decide +kernel) _ List.mem_cons_self
theorem bw_arrJ : Cond.arrayClass .long ∈ BIG := big_of (ws := [_]) (by decide +kernel) (by decide +kernel) _ List.mem_cons_self
theorem bw_arrB : Cond.arrayClass .byte ∈ BIG := big_of (ws := [_]) (by decide +kernel) (by decide +kernel) _ List.mem_cons_self
/-- what the tables say of a method that is called -/
def MOK (M : MI) (n : Nat) : Prop := Cond.code M.2.1 M.2.2.1 M.2.2.2.1 M.2.2.2.2 ∈ BIG ∧ Cond.initialized M.2.1.cls ∈ BIG ∧ (M.2.1.cls ≠ "java/lang/invoke/MethodHandle" ∧ M.2.1.cls ≠ "java/lang/invoke/VarHandle") ∧ (parseMethodDescriptor M.2.1.desc).map (fun d => d.parameters.length) = some n
def MOKv (M : MI) (n : Nat) : Prop := MOK M n ∧ Cond.instanceMethod M.2.1 ∈ BIG ∧ Cond.selects M.2.1.cls M.2.1 M.2.1 ∈ BIG
def MOKs (M : MI) (n : Nat) : Prop := MOK M n ∧ Cond.static M.2.1 ∈ BIG
def MOKi (M : MI) (n : Nat) : Prop := MOK M n ∧ Cond.instanceMethod M.2.1 ∈ BIG ∧ M.2.1.name = "<init>" ∧ M.2.2.2.2 = none
section VC
variable {l : Launch} {G : GE} {B N : Nat} {M M' : MI} {R : Room} {al al' : Bool} {mc ms mc' ms' n d' : Nat} {Q Q' : Option Value → List SHP → MH → Prop} {S : List SHP} {cells slots pc pc' ix : Nat} {lv lv' : List (Nat × Value)} {st rest As : List Value} {h : MH} {β : Type} {o : β} {a b : Nat}
theorem PC_at {s U : State} {H : Heap} {locs : List Loc} {p : Program} {m : MethodId} {args : Array Value} {meth : Method} {c : Code} (C : CX G B N M p s m args meth c) (w : WO G B N al s S h H locs) (hal : al' = true → al = true) (hU : U.heap = H) (hW : s.WarmedH U.vm) : PC G B H.size al' S As h (As.map (tr G B)).toArray U := by
  obtain ⟨hP, hT, hS, hz, h1, h2⟩ := w
  have hBN := C.2.2.2.2.2.2.2.2.2.2
  refine ⟨rfl, by rw [hU], va_K.moved hW.alike C.2.2.2.2.2.2.1, SE.warm hW (fun q q1 q2 => ?_) C.2.2.2.2.2.2.2.1, by rw [hU]; exact hP, by omega, fun q => ?_⟩
  · rw [hU]
    refine hS.2.1 q q1 (fun z => ?_)
    rcases z with z | z
    · exact q2 z.1
    · omega
  · have := h2 (hal q)
    omega
theorem MOK_B {s : State} {args : Array Value} (hts : ∀ w ∈ BIG, w.before args s = true) (mk : MOK M' n) (hR : d' + 1 ≤ R.frames ∧ 8 + (M'.2.2.2.1 + 11) + 40 * d' ≤ R.locals) {own : String} (hl : Cond.methodLink own ix M'.2.1 ∈ BIG) : CallB R s args own ix M'.2.1 M'.2.2.1 M'.2.2.2.1 M'.2.2.2.2 (WSM M') (rmm d' mc' ms') mc' ms' n := by
  obtain ⟨h1, h2, h3, h4⟩ := mk
  refine ⟨rfl, rfl, hR.1, hR.2, fun w hw a' U hW => ?_, List.mem_cons_self, hts _ h1, hts _ h2, h3, fun sig hs => ?_, hts _ hl⟩
  · rcases List.mem_cons.mp hw with e | e
    · subst e; exact word_at hW (big_good h1) (hts _ h1)
    · exact word_at hW (big_good e) (hts _ e)
  · rw [hs] at h4
    exact (Option.some.inj h4).symm
theorem V_callv (hd : decode M.2.2.1 pc = .ok (.invokevirtual ix, 3)) (e : pc + 3 = pc') (mk : MOKv M' n) (hl : Cond.methodLink M.1 ix M'.2.1 ∈ BIG) (c : Nat) (hc : c < 12) (hcc : M'.2.1.cls = (CLS c).1) (hs : S[b]? = some (.inl c)) (hst : st = As.reverse ++ .ref b :: rest) (hn : As.length = n) (hw : (rest.map fun v => v.category).sum ≤ 8) (hal : al' = true → al = true)
    (hR : d' + 1 ≤ R.frames ∧ 8 + (M'.2.2.2.1 + 11) + 40 * d' ≤ R.locals) (hR2 : cells + mc' ≤ R.cells ∧ slots + ms' ≤ R.slots) (ct : CT l M' d' al' mc' ms' S (.ref b :: As) h Q') (kk : ∀ r S' h', Q' r S' h' → V l G B N M R al mc ms Q S' (cells + mc') (slots + ms') pc' lv (r.toList ++ rest) h') : V l G B N M R al mc ms Q S cells slots pc lv st h := by
  subst hst
  intro p ev s m args below meth cd C H locs ls w hll
  have hts := C.2.2.2.2.2.1
  refine V_back (a := ((Value.ref (B + b)) :: As.map (tr G B)).toArray) C w hll hal e ?_ kk
  refine va_runV (C := (CLS c).1) (b := B + b) (As := As.map (tr G B)) (rest := rest.map (tr G B)) (nL := M.2.2.2.1) (Ts := BIG) ⟨C.1, C.2.1, C.2.2.2.1, C.2.2.2.2.1, hts⟩ (ct G B H.size w.2.1) ⟨MOK_B hts mk.1 hR hl, hts _ mk.2.1, by rw [← hcc]; exact hts _ mk.2.2⟩ ⟨PC_blind, ?_, fun U hU hW => PC_at (As := .ref b :: As) C w hal hU hW⟩ rfl (by rw [List.length_map]; exact hn) hll.1 ?_ (lv_room ?_) hd hR2
  · exact va_recv C.2.2.2.2.2.2.1 w.1 (clsAt hc) (wsO_at hs)
  · show List.map (tr G B) (As.reverse ++ .ref b :: rest) = _
    simp [List.map_reverse, tr]
  · rw [List.map_map]
    have : (List.map ((fun v => v.category) ∘ tr G B) rest) = rest.map fun v => v.category := by
      apply List.map_congr_left
      intro v _
      exact tr_cat G B v
    rw [this]
    exact hw
theorem V_calls (hd : decode M.2.2.1 pc = .ok (.invokestatic ix, 3)) (e : pc + 3 = pc') (mk : MOKs M' n) (hl : Cond.methodLink M.1 ix M'.2.1 ∈ BIG) (hst : st = As.reverse ++ rest) (hn : As.length = n) (hw : (rest.map fun v => v.category).sum ≤ 8) (hal : al' = true → al = true)
    (hR : d' + 1 ≤ R.frames ∧ 8 + (M'.2.2.2.1 + 11) + 40 * d' ≤ R.locals) (hR2 : cells + mc' ≤ R.cells ∧ slots + ms' ≤ R.slots) (ct : CT l M' d' al' mc' ms' S As h Q') (kk : ∀ r S' h', Q' r S' h' → V l G B N M R al mc ms Q S' (cells + mc') (slots + ms') pc' lv (r.toList ++ rest) h') : V l G B N M R al mc ms Q S cells slots pc lv st h := by
  subst hst
  intro p ev s m args below meth cd C H locs ls w hll
  have hts := C.2.2.2.2.2.1
  refine V_back (a := (As.map (tr G B)).toArray) C w hll hal e ?_ kk
  refine va_runS (As := As.map (tr G B)) (rest := rest.map (tr G B)) (nL := M.2.2.2.1) (Ts := BIG) ⟨C.1, C.2.1, C.2.2.2.1, C.2.2.2.2.1, hts⟩ (ct G B H.size w.2.1) ⟨MOK_B hts mk.1 hR hl, hts _ mk.2⟩ ⟨PC_blind, fun U hU hW => PC_at C w hal hU hW⟩ rfl (by rw [List.length_map]; exact hn) hll.1 ?_ (lv_room ?_) hd hR2
  · show List.map (tr G B) (As.reverse ++ rest) = _
    simp [List.map_reverse]
  · rw [List.map_map]
    have : (List.map ((fun v => v.category) ∘ tr G B) rest) = rest.map fun v => v.category := by
      apply List.map_congr_left
      intro v _
      exact tr_cat G B v
    rw [this]
    exact hw
theorem V_callsN {host : String} (hd : decode M.2.2.1 pc = .ok (.invokestatic ix, 3)) (e : pc + 3 = pc') (mk : MOKs M' n) (hl : ∀ (G : GE) (B : Nat) (s : State), SE G B s → va_Nw (.methodLinkNest M.1 ix M'.2.1 host) s) (hst : st = As.reverse ++ rest) (hn : As.length = n) (hw : (rest.map fun v => v.category).sum ≤ 8) (hal : al' = true → al = true)
    (hR : d' + 1 ≤ R.frames ∧ 8 + (M'.2.2.2.1 + 11) + 40 * d' ≤ R.locals) (hR2 : cells + mc' ≤ R.cells ∧ slots + ms' ≤ R.slots) (ct : CT l M' d' al' mc' ms' S As h Q') (kk : ∀ r S' h', Q' r S' h' → V l G B N M R al mc ms Q S' (cells + mc') (slots + ms') pc' lv (r.toList ++ rest) h') : V l G B N M R al mc ms Q S cells slots pc lv st h := by
  subst hst
  intro p ev s m args below meth cd C H locs ls w hll
  have hts := C.2.2.2.2.2.1
  refine V_back (a := (As.map (tr G B)).toArray) C w hll hal e ?_ kk
  obtain ⟨⟨m1, m2, m3, m4⟩, m5⟩ := mk
  refine va_runSN (n := n) (As := As.map (tr G B)) (rest := rest.map (tr G B)) (nL := M.2.2.2.1) (Ts := BIG) ⟨C.1, C.2.1, C.2.2.2.1, C.2.2.2.2.1, hts⟩ (ct G B H.size w.2.1) ⟨⟨⟨rfl, rfl, hR.1, hR.2, fun w hw a' U hW => ?_, List.mem_cons_self⟩, hts _ m1, hts _ m2, m3, fun sig hs => ?_, va_Nw.use rfl (hl G B s C.2.2.2.2.2.2.2.1)⟩, hts _ m5, trivial⟩ ⟨PC_blind, fun U hU hW => PC_at C w hal hU hW⟩ rfl (by rw [List.length_map]; exact hn) hll.1 ?_ (lv_room ?_) hd hR2
  · rcases List.mem_cons.mp hw with e | e
    · subst e; exact word_at hW (big_good m1) (hts _ m1)
    · exact word_at hW (big_good e) (hts _ e)
  · rw [hs] at m4
    exact (Option.some.inj m4).symm
  · show List.map (tr G B) (As.reverse ++ rest) = _
    simp [List.map_reverse]
  · rw [List.map_map]
    have : (List.map ((fun v => v.category) ∘ tr G B) rest) = rest.map fun v => v.category := by
      apply List.map_congr_left
      intro v _
      exact tr_cat G B v
    rw [this]
    exact hw
theorem V_calli (hd : decode M.2.2.1 pc = .ok (.invokespecial ix, 3)) (e : pc + 3 = pc') (mk : MOKi M' n) (hl : Cond.methodLink M.1 ix M'.2.1 ∈ BIG) (hst : st = As.reverse ++ .ref b :: rest) (hn : As.length = n) (hw : (rest.map fun v => v.category).sum ≤ 8) (hal : al' = true → al = true)
    (hR : d' + 1 ≤ R.frames ∧ 8 + (M'.2.2.2.1 + 11) + 40 * d' ≤ R.locals) (hR2 : cells + mc' ≤ R.cells ∧ slots + ms' ≤ R.slots) (ct : CT l M' d' al' mc' ms' S (.ref b :: As) h Q') (kk : ∀ r S' h', Q' r S' h' → V l G B N M R al mc ms Q S' (cells + mc') (slots + ms') pc' lv (r.toList ++ rest) h') : V l G B N M R al mc ms Q S cells slots pc lv st h := by
  subst hst
  intro p ev s m args below meth cd C H locs ls w hll
  have hts := C.2.2.2.2.2.1
  obtain ⟨m0, m1, m2, m3⟩ := mk
  have hB := MOK_B (mc' := mc') (ms' := ms') hts m0 hR hl
  have ct0 := ct G B H.size w.2.1
  refine V_back (a := ((Value.ref (B + b)) :: As.map (tr G B)).toArray) C w hll hal e ?_ kk
  rw [m3] at hB
  refine va_runI (b := B + b) (As := As.map (tr G B)) (rest := rest.map (tr G B)) (nL := M.2.2.2.1) (Ts := BIG) ⟨C.1, C.2.1, C.2.2.2.1, C.2.2.2.2.1, hts⟩ ct0 ⟨hB, m2, hts _ m1⟩ ⟨PC_blind, fun U hU hW => PC_at (As := .ref b :: As) C w hal hU hW⟩ rfl (by rw [List.length_map]; exact hn) hll.1 ?_ (lv_room ?_) hd hR2
  · show List.map (tr G B) (As.reverse ++ .ref b :: rest) = _
    simp [List.map_reverse, tr]
  · rw [List.map_map]
    have : (List.map ((fun v => v.category) ∘ tr G B) rest) = rest.map fun v => v.category := by
      apply List.map_congr_left
      intro v _
      exact tr_cat G B v
    rw [this]
    exact hw
theorem cat_le (hw : (rest.map fun v => v.category).sum ≤ 8) : ((rest.map (tr G B)).map fun v => v.category).sum ≤ 8 := by
  rw [List.map_map]
  have : (List.map ((fun v => v.category) ∘ tr G B) rest) = rest.map fun v => v.category := by
    apply List.map_congr_left
    intro v _
    exact tr_cat G B v
  rw [this]
  exact hw
theorem V_objInit (hd : decode M.2.2.1 pc = .ok (.invokespecial ix, 3)) (e : pc + 3 = pc') (hl : Cond.methodLink M.1 ix objectInit ∈ BIG) (hw : (st.map fun v => v.category).sum ≤ 8) (hR : 1 ≤ R.frames ∧ 20 ≤ R.locals) (kk : V l G B N M R al mc ms Q S cells slots pc' lv st h) : V l G B N M R al mc ms Q S cells slots pc lv (.ref a :: st) h := by
  subst e
  intro p ev s m args below meth cd C H locs ls w hll
  have hts := C.2.2.2.2.2.1
  have := cat_le (G := G) (B := B) hw
  exact W.objInit C.1 C.2.1 C.2.2.2.2.1 (hts _ hl) (hts _ bw_objI) (hts _ bw_objC) rfl (hll.1.trans C.2.2.2.1.symm) rfl hd hR.1 (by have := hR.2; show 2 * 0 + _ + 12 ≤ _; omega) (kk p ev s m args below meth cd C H locs ls w hll)
theorem V_max {x y : Int32} (hd : decode M.2.2.1 pc = .ok (.invokestatic ix, 3)) (e : pc + 3 = pc') (hl : Cond.methodLink M.1 ix Lib.Math.max.name ∈ BIG) (hw : (st.map fun v => v.category).sum ≤ 8) (hR : 1 ≤ R.frames ∧ 21 ≤ R.locals ∧ cells ≤ R.cells ∧ slots ≤ R.slots) (kk : V l G B N M R al mc ms Q S cells slots pc' lv (.int (if x < y then y else x) :: st) h) : V l G B N M R al mc ms Q S cells slots pc lv (.int y :: .int x :: st) h := by
  subst e
  intro p ev s m args below meth cd C H locs ls w hll
  have hts := C.2.2.2.2.2.1
  have := cat_le (G := G) (B := B) hw
  exact va_mmax C.1 C.2.1 (C.2.2.2.1.trans hll.1.symm) C.2.2.2.2.1 (hts _ hl) (hts _ bw_maxS) (hts _ bw_mathI) (hts _ bw_maxC) hR.1 (by have := hR.2.1; omega) hR.2.2.1 hR.2.2.2 hd (kk p ev s m args below meth cd C H locs ls w hll)
theorem V_min {x y : Int32} (hd : decode M.2.2.1 pc = .ok (.invokestatic ix, 3)) (e : pc + 3 = pc') (hl : Cond.methodLink M.1 ix Lib.Math.min.name ∈ BIG) (hw : (st.map fun v => v.category).sum ≤ 8) (hR : 1 ≤ R.frames ∧ 21 ≤ R.locals ∧ cells ≤ R.cells ∧ slots ≤ R.slots) (kk : V l G B N M R al mc ms Q S cells slots pc' lv (.int (if y < x then y else x) :: st) h) : V l G B N M R al mc ms Q S cells slots pc lv (.int y :: .int x :: st) h := by
  subst e
  intro p ev s m args below meth cd C H locs ls w hll
  have hts := C.2.2.2.2.2.1
  have := cat_le (G := G) (B := B) hw
  exact va_mmin C.1 C.2.1 (C.2.2.2.1.trans hll.1.symm) C.2.2.2.2.1 (hts _ hl) (hts _ bw_minS) (hts _ bw_mathI) (hts _ bw_minC) hR.1 (by have := hR.2.1; omega) hR.2.2.1 hR.2.2.2 hd (kk p ev s m args below meth cd C H locs ls w hll)
theorem ent_cp {cid : Nat → ClassId} {b : Nat} {f : Nat → Int32} : ∀ x, x ≠ b → ∀ y, ent B cid ((fun x j => if x = b then f j else gI h x j), h.2) x y = ent B cid h x y := by
  intro x hx y
  have e : gI ((fun x j => if x = b then f j else gI h x j), h.2) x = gI h x := by funext j; simp [gI, hx]
  have e1 : ∀ j, gI ((fun x j => if x = b then f j else gI h x j), h.2) x j = gI h x j := fun j => by rw [e]
  have ef : ∀ ty j, fvl B ty ((fun x j => if x = b then f j else gI h x j), h.2) x j = fvl B ty h x j := by
    intro ty j
    cases ty <;> simp only [fvl, e1] <;> rfl
  cases y with
  | inl c => simp only [ent, ef]
  | inr t => simp only [ent, e]; rfl
theorem V_cpI {kf : MH → Option β} {sp dp n : Int32} (hd : decode M.2.2.1 pc = .ok (.invokestatic ix, 3)) (e : pc + 3 = pc') (hl : Cond.methodLink M.1 ix arraycopyName ∈ BIG) (hsa : S[a]? = some (.inr 0)) (hsb : S[b]? = some (.inr 0)) (hw : (st.map fun v => v.category).sum ≤ 8) (hR : 1 ≤ R.frames ∧ 8 + (nativeFrameWords "java/lang/System" "arraycopy" 5 + 11) ≤ R.locals) (hf : (cpI h a sp b dp n).bind kf = some o) (kk : ∀ h', kf h' = some o → V l G B N M R al mc ms Q S cells slots pc' lv st h') : V l G B N M R al mc ms Q S cells slots pc lv (.int n :: .int dp :: .ref b :: .int sp :: .ref a :: st) h := by
  obtain ⟨h', h1, hk⟩ := bind_of hf
  unfold cpI at h1
  by_cases hb : sp < 0 ∨ dp < 0 ∨ n < 0 ∨ gN h a < sp.toNatClampNeg + n.toNatClampNeg ∨ gN h b < dp.toNatClampNeg + n.toNatClampNeg
  · rw [if_pos hb] at h1; cases h1
  rw [if_neg hb] at h1
  simp only [not_or] at hb
  obtain ⟨i1, i2, i3, i4, i5⟩ := hb
  have i4 := Nat.not_lt.mp i4
  have i5 := Nat.not_lt.mp i5
  cases h1
  subst e
  intro p ev s m args below meth cd C H locs ls w hll
  have hts := C.2.2.2.2.2.1
  have hcat := cat_le (G := G) (B := B) hw
  have nn : ∀ z : Int32, ¬ z < 0 → z.toInt = (z.toNatClampNeg : Int) := by
    intro z hz
    have hz0 : (0 : Int) ≤ z.toInt := by
      have := Int32.not_lt.mp hz
      simpa using Int32.le_iff_toInt_le.mp this
    show z.toInt = ((z.toInt.toNat : Nat) : Int)
    omega
  intro T hT X
  have hK := C.2.2.2.2.2.2.1
  have hc0 : H[B + a]? = some (vp_cell (G.2.1 0) (gN h a, .inl (gI h a))) := w.1 a _ (wsO_at hsa)
  have hc1 : H[B + b]? = some (vp_cell (G.2.1 0) (gN h b, .inl (gI h b))) := w.1 b _ (wsO_at hsb)
  obtain ⟨-, k0, hk0, cm0, hkk0⟩ := (hK.2 0 _ rfl).1 (gN h a) (fun j => .int (gI h a j))
  obtain ⟨-, k1, hk1, cm1, hkk1⟩ := (hK.2 0 _ rfl).1 (gN h b) (fun j => .int (gI h b j))
  obtain ⟨vm', X', step⟩ := X.arraycopy C.1 C.2.2.2.2.1 (hts _ hl) (hts _ bw_cpyN) (hts _ bw_cpyS) (hts _ bw_sysI) (src := B + a) (dst := B + b) (cs := vp_cell (G.2.1 0) (gN h a, .inl (gI h a))) (cd := vp_cell (G.2.1 0) (gN h b, .inl (gI h b))) (srcPos := sp) (destPos := dp) (n := n) (by rw [hT]; exact hc0) (by rw [hT]; exact hc1)
    (fun _ h => by cases h) (fun _ h => by cases h) (fun h => by cases h) (fun h => by cases h) hk0 hk1 hkk0 hkk1 (by simp [refKind]) i1 i2 i3
    (by rw [nn sp i1, nn n i3]; show ¬ _ > ((arrV _ (gN h a) (fun j => .int (gI h a j))).slots.size : Int); rw [arrV_size]; omega)
    (by rw [nn dp i2, nn n i3]; show ¬ _ > ((arrV _ (gN h b) (fun j => .int (gI h b j))).slots.size : Int); rw [arrV_size]; omega)
    (fun vm₁ _ i hi => by
      have e : (vp_cell (G.2.1 0) (gN h a, .inl (gI h a))).slots.getD (sp.toNatClampNeg + i) .null = .int (gI h a (sp.toNatClampNeg + i)) := by
        show (arrV _ (gN h a) (fun j => .int (gI h a j))).slots.getD _ _ = _
        rw [Array.getD_eq_getD_getElem?, arrV_read _ _ (by omega)]
        rfl
      refine ⟨?_, ?_⟩
      · rw [e]
        rfl
      · rw [e]
        exact trivial)
    (g := F0 m pc ls ((Value.int n :: .int dp :: .ref b :: .int sp :: .ref a :: st).map (tr G B))) rfl (by rw [C.2.2.2.1]; exact hll.1) (rest := st.map (tr G B)) rfl (by rw [C.2.1]; exact hd) hR.1 (by have := hR.2; show 2 * 0 + _ + _ ≤ _; omega)
  have e1 : copied (vp_cell (G.2.1 0) (gN h a, .inl (gI h a))) (vp_cell (G.2.1 0) (gN h b, .inl (gI h b))) sp dp n = vp_cell (G.2.1 0) (gN h b, .inl (va_cpy (gI h a) (gI h b) sp.toNatClampNeg dp.toNatClampNeg n.toNatClampNeg)) := va_copied (fun z => .int z) (G.2.1 0) (G.2.1 0) (gI h a) (gI h b) i4
  rw [e1] at X' step
  have hl1 : B + b < H.size := (Array.getElem?_eq_some_iff.mp hc1).1
  have hheap : ((T.setVm vm').setCell (B + b) (vp_cell (G.2.1 0) (gN h b, .inl (va_cpy (gI h a) (gI h b) sp.toNatClampNeg dp.toNatClampNeg n.toNatClampNeg)))).heap = H.setIfInBounds (B + b) (vp_cell (G.2.1 0) (gN h b, .inl (va_cpy (gI h a) (gI h b) sp.toNatClampNeg dp.toNatClampNeg n.toNatClampNeg))) := by rw [← hT]; rfl
  have oq : ∀ q : Nat, q ≠ B + b → (H.setIfInBounds (B + b) (vp_cell (G.2.1 0) (gN h b, .inl (va_cpy (gI h a) (gI h b) sp.toNatClampNeg dp.toNatClampNeg n.toNatClampNeg))))[q]? = H[q]? := fun q hq => by simp [Array.getElem?_setIfInBounds, Ne.symm hq]
  have hat : va_at G.1 vwCl (B + b, ent B G.2.1 ((fun x j => if x = b then va_cpy (gI h a) (gI h b) sp.toNatClampNeg dp.toNatClampNeg n.toNatClampNeg j else gI h x j), h.2) b (.inr 0)) (H.setIfInBounds (B + b) (vp_cell (G.2.1 0) (gN h b, .inl (va_cpy (gI h a) (gI h b) sp.toNatClampNeg dp.toNatClampNeg n.toNatClampNeg)))) := by
    show (H.setIfInBounds (B + b) _)[B + b]? = some (vp_cell (G.2.1 0) (gN h b, .inl (gI ((fun x j => if x = b then va_cpy (gI h a) (gI h b) sp.toNatClampNeg dp.toNatClampNeg n.toNatClampNeg j else gI h x j), h.2) b)))
    have e2 : gI ((fun x j => if x = b then va_cpy (gI h a) (gI h b) sp.toNatClampNeg dp.toNatClampNeg n.toNatClampNeg j else gI h x j), h.2) b = va_cpy (gI h a) (gI h b) sp.toNatClampNeg dp.toNatClampNeg n.toNatClampNeg := by funext j; simp [gI]
    rw [e2]
    simp [Array.getElem?_setIfInBounds, hl1]
  obtain ⟨hP, hTy, hS, hz, h8, h9⟩ := id w
  have hD : va_D (AR B N s.heap.size) (wsO B G.2.1 S h) := wsO_D (h8.symm.imp id (fun q => h9 q))
  have hA := hD.2 b _ (wsO_at hsb)
  have w1 := WO_put (h' := ((fun x j => if x = b then va_cpy (gI h a) (gI h b) sp.toNatClampNeg dp.toNatClampNeg n.toNatClampNeg j else gI h x j), h.2)) (j := 0) w hsb ent_cp hTy hat (by simp) oq
  obtain ⟨t, a1, b1⟩ := kk _ hk p ev s m args below meth cd C _ _ ls ⟨w1.1, w1.2.1, ⟨w1.2.2.1.1, w1.2.2.1.2.1, fun q hq => by
      rcases List.mem_append.mp hq with h | h
      · exact hS.2.2 q h
      · obtain ⟨z, -, hz⟩ := List.mem_map.mp h
        rw [← hz]
        exact hA⟩, w1.2.2.2⟩ hll _ hheap X'
  exact ⟨t, step t a1, b1⟩
end VC
