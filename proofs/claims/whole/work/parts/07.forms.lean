/-! ===== the forms that the turned methods use ===== -/
def lt {α β : Type} (e : α) (k : α → β) : β := k e
def lp {P R : Type} (body : (P → MH → Option R) → P → MH → Option R) : Nat → P → MH → Option R
  | 0, _, _ => none
  | n + 1, p, h => body (lp body n) p h
def FU : Nat := 5000
def DG : Nat := 120
def DW : Nat := 10
theorem V_lp {P R : Type} {body : (P → MH → Option R) → P → MH → Option R} {o : R} {VV : P → MH → Prop} (hb : ∀ k, (∀ p h, k p h = some o → VV p h) → ∀ p h, body k p h = some o → VV p h) : ∀ n p h, lp body n p h = some o → VV p h
  | 0, _, _, hf => by cases hf
  | n + 1, p, h, hf => hb (lp body n) (fun p h hq => V_lp hb n p h hq) p h hf
def QI (S : List SHP) (o : Int32 × MH) : Option Value → List SHP → MH → Prop := fun r S' h' => r = some (.int o.1) ∧ S' = S ∧ h' = o.2
def QL (S : List SHP) (o : Int64 × MH) : Option Value → List SHP → MH → Prop := fun r S' h' => r = some (.long o.1) ∧ S' = S ∧ h' = o.2
def QV (S : List SHP) (o : MH) : Option Value → List SHP → MH → Prop := fun r S' h' => r = none ∧ S' = S ∧ h' = o
def QR (S : List SHP) (x : SHP) (o : Nat × MH) : Option Value → List SHP → MH → Prop := fun r S' h' => r = some (.ref o.1) ∧ S' = S ∧ h' = o.2 ∧ S[o.1]? = some x
theorem tI_ne {x k : Int32} {z : Int} (hz : k.toInt = z) (h : ¬ x = k) : x.toInt ≠ z := fun e => h (Int32.toInt_inj.mp (e.trans hz.symm))
section VF
variable {l : Launch} {G : GE} {B N : Nat} {M M' : MI} {R : Room} {al : Bool} {mc ms n d' : Nat} {Q : Option Value → List SHP → MH → Prop} {S : List SHP} {cells slots pc pc' ix : Nat} {lv lv' : List (Nat × Value)} {st rest As : List Value} {h : MH} {β : Type} {o : β} {a b : Nat}
theorem V_nmI {e : Int32} {kf : Int32 → Option β} (hf : lt e kf = some o) (kk : ∀ x, kf x = some o → V l G B N M R al mc ms Q S cells slots pc lv (.int x :: st) h) : V l G B N M R al mc ms Q S cells slots pc lv (.int e :: st) h := kk e hf
theorem V_nmJ {e : Int64} {kf : Int64 → Option β} (hf : lt e kf = some o) (kk : ∀ x, kf x = some o → V l G B N M R al mc ms Q S cells slots pc lv (.long x :: st) h) : V l G B N M R al mc ms Q S cells slots pc lv (.long e :: st) h := kk e hf
theorem V_nmH {e : MH} {kf : MH → Option β} (hf : lt e kf = some o) (kk : ∀ x, kf x = some o → V l G B N M R al mc ms Q S cells slots pc lv st x) : V l G B N M R al mc ms Q S cells slots pc lv st e := kk e hf
theorem V_idivF {x y : Int32} {A1 : Option β} (hd : decode M.2.2.1 pc = .ok (.idiv, 1)) (e : pc + 1 = pc') (hf : (if y = 0 then none else A1) = some o) (k : A1 = some o → V l G B N M R al mc ms Q S cells slots pc' lv (.int (x / y) :: st) h) : V l G B N M R al mc ms Q S cells slots pc lv (.int y :: .int x :: st) h := by
  by_cases hy : y = 0
  · rw [if_pos hy] at hf; cases hf
  · rw [if_neg hy] at hf; exact V_idiv hd e hy (k hf)
theorem V_iremF {x y : Int32} {A1 : Option β} (hd : decode M.2.2.1 pc = .ok (.irem, 1)) (e : pc + 1 = pc') (hf : (if y = 0 then none else A1) = some o) (k : A1 = some o → V l G B N M R al mc ms Q S cells slots pc' lv (.int (x - x / y * y) :: st) h) : V l G B N M R al mc ms Q S cells slots pc lv (.int y :: .int x :: st) h := by
  by_cases hy : y = 0
  · rw [if_pos hy] at hf; cases hf
  · rw [if_neg hy] at hf; exact V_irem hd e hy (k hf)
theorem V_ldivF {x y : Int64} {A1 : Option β} (hd : decode M.2.2.1 pc = .ok (.ldiv, 1)) (e : pc + 1 = pc') (hf : (if y = 0 then none else A1) = some o) (k : A1 = some o → V l G B N M R al mc ms Q S cells slots pc' lv (.long (x / y) :: st) h) : V l G B N M R al mc ms Q S cells slots pc lv (.long y :: .long x :: st) h := by
  by_cases hy : y = 0
  · rw [if_pos hy] at hf; cases hf
  · rw [if_neg hy] at hf; exact V_ldiv hd e hy (k hf)
theorem V_lremF {x y : Int64} {A1 : Option β} (hd : decode M.2.2.1 pc = .ok (.lrem, 1)) (e : pc + 1 = pc') (hf : (if y = 0 then none else A1) = some o) (k : A1 = some o → V l G B N M R al mc ms Q S cells slots pc' lv (.long (x - x / y * y) :: st) h) : V l G B N M R al mc ms Q S cells slots pc lv (.long y :: .long x :: st) h := by
  by_cases hy : y = 0
  · rw [if_pos hy] at hf; cases hf
  · rw [if_neg hy] at hf; exact V_lrem hd e hy (k hf)
theorem V_putZL {v : Int32} (c k : Nat) (hd : decode M.2.2.1 pc = .ok (.putfield ix, 3)) (e : pc + 3 = pc') (hc : c < 12) (hk : k < (CLS c).2.2) (hl : Cond.fieldLink M.1 ix (fT c k).1 (fT c k).2.1 (fT c k).2.2.1 ∈ BIG) (hs : S[a]? = some (.inl c)) (hfin : (fT c k).2.2.2 = false) (hty : tyOf c k = .boolean) (hv : v = 0 ∨ v = 1) (kk : V l G B N M R al mc ms Q S cells slots pc' lv st (sI h a k v)) : V l G B N M R al mc ms Q S cells slots pc lv (.int v :: .ref a :: st) h :=
  V_putZ (A1 := some ()) (o := ()) c k hd e hc hk hl hs hfin hty (if_pos hv) (fun _ => kk)
theorem V_zretL {v : Int32} (hd : decode M.2.2.1 pc = .ok (.ireturn, 1)) (hr : M.2.2.2.2 = some .boolean) (hc : cells = mc) (hm : slots = ms) (hv : v = 0 ∨ v = 1) (hq : Q (some (.int v)) S h) : V l G B N M R al mc ms Q S cells slots pc lv [.int v] h :=
  V_zret (A1 := some ()) (o := ()) hd hr hc hm (if_pos hv) (fun _ => hq)
theorem V_tabIn {dflt lo hi : Int} {offs : Array Int} {len : Nat} {x : Int32} {off : Int} {tgt : Nat} (hd : decode M.2.2.1 pc = .ok (.tableswitch dflt lo hi offs, len)) (h1 : ¬ x.toInt < lo) (h2 : ¬ hi < x.toInt) (ho : offs[(x.toInt - lo).toNat]? = some off) (ht : (pc : Int) + off = (tgt : Int)) (k : V l G B N M R al mc ms Q S cells slots tgt lv st h) : V l G B N M R al mc ms Q S cells slots pc lv (.int x :: st) h := by
  intro p ev s m args below meth c C H locs ls w hl
  exact lv_tableIn C.1 C.2.1 hd h1 h2 ho ht (k p ev s m args below meth c C H locs ls w hl)
theorem V_tabOut {dflt lo hi : Int} {offs : Array Int} {len : Nat} {x : Int32} {tgt : Nat} (hd : decode M.2.2.1 pc = .ok (.tableswitch dflt lo hi offs, len)) (h1 : x.toInt < lo ∨ hi < x.toInt) (ht : (pc : Int) + dflt = (tgt : Int)) (k : V l G B N M R al mc ms Q S cells slots tgt lv st h) : V l G B N M R al mc ms Q S cells slots pc lv (.int x :: st) h := by
  intro p ev s m args below meth c C H locs ls w hl
  exact lv_tableOut C.1 C.2.1 hd h1 ht (k p ev s m args below meth c C H locs ls w hl)
theorem V_look {dflt : Int} {ps : Array (Int × Int)} {len : Nat} {x : Int32} {off : Int} {tgt : Nat} (hd : decode M.2.2.1 pc = .ok (.lookupswitch dflt ps, len)) (hp : (ps.toList.zip (ps.toList.drop 1)).all (fun (a, next) => a.1 < next.1) = true) (ho : Op.lookupswitch.offset ps.toList dflt x.toInt = off) (ht : (pc : Int) + off = (tgt : Int)) (k : V l G B N M R al mc ms Q S cells slots tgt lv st h) : V l G B N M R al mc ms Q S cells slots pc lv (.int x :: st) h := by
  intro p ev s m args below meth c C H locs ls w hl
  exact lv_lookup C.1 C.2.1 hd hp ho ht (k p ev s m args below meth c C H locs ls w hl)
theorem V_cvI {fc : Option (Int32 × MH)} {kf : Int32 × MH → Option β} (hd : decode M.2.2.1 pc = .ok (.invokevirtual ix, 3)) (e : pc + 3 = pc') (mk : MOKv M' n) (hl : Cond.methodLink M.1 ix M'.2.1 ∈ BIG) (c : Nat) (hc : c < 12) (hcc : M'.2.1.cls = (CLS c).1) (hs : S[b]? = some (.inl c)) (hst : st = As.reverse ++ .ref b :: rest) (hn : As.length = n) (hw : (rest.map fun v => v.category).sum ≤ 8) (hR : d' + 1 ≤ R.frames ∧ 8 + (M'.2.2.2.1 + 11) + 40 * d' ≤ R.locals ∧ cells ≤ R.cells ∧ slots ≤ R.slots) (hf : fc.bind kf = some o) (ct : ∀ q, fc = some q → CT l M' d' false 0 0 S (.ref b :: As) h (QI S q)) (kk : ∀ q, kf q = some o → V l G B N M R al mc ms Q S cells slots pc' lv (.int q.1 :: rest) q.2) : V l G B N M R al mc ms Q S cells slots pc lv st h := by
  obtain ⟨q, h1, h2⟩ := bind_of hf
  refine V_callv (al' := false) (mc' := 0) (ms' := 0) hd e mk hl c hc hcc hs hst hn hw (fun q => by cases q) ⟨hR.1, hR.2.1⟩ hR.2.2 (ct q h1) (fun r S' h' hq => ?_)
  obtain ⟨rfl, rfl, rfl⟩ := hq
  exact kk q h2
theorem V_csI {fc : Option (Int32 × MH)} {kf : Int32 × MH → Option β} (hd : decode M.2.2.1 pc = .ok (.invokestatic ix, 3)) (e : pc + 3 = pc') (mk : MOKs M' n) (hl : Cond.methodLink M.1 ix M'.2.1 ∈ BIG) (hst : st = As.reverse ++ rest) (hn : As.length = n) (hw : (rest.map fun v => v.category).sum ≤ 8) (hR : d' + 1 ≤ R.frames ∧ 8 + (M'.2.2.2.1 + 11) + 40 * d' ≤ R.locals ∧ cells ≤ R.cells ∧ slots ≤ R.slots) (hf : fc.bind kf = some o) (ct : ∀ q, fc = some q → CT l M' d' false 0 0 S As h (QI S q)) (kk : ∀ q, kf q = some o → V l G B N M R al mc ms Q S cells slots pc' lv (.int q.1 :: rest) q.2) : V l G B N M R al mc ms Q S cells slots pc lv st h := by
  obtain ⟨q, h1, h2⟩ := bind_of hf
  refine V_calls (al' := false) (mc' := 0) (ms' := 0) hd e mk hl hst hn hw (fun q => by cases q) ⟨hR.1, hR.2.1⟩ hR.2.2 (ct q h1) (fun r S' h' hq => ?_)
  obtain ⟨rfl, rfl, rfl⟩ := hq
  exact kk q h2
theorem V_cnI {host : String} {fc : Option (Int32 × MH)} {kf : Int32 × MH → Option β} (hd : decode M.2.2.1 pc = .ok (.invokestatic ix, 3)) (e : pc + 3 = pc') (mk : MOKs M' n) (hl : ∀ (G : GE) (B : Nat) (s : State), SE G B s → va_Nw (.methodLinkNest M.1 ix M'.2.1 host) s) (hst : st = As.reverse ++ rest) (hn : As.length = n) (hw : (rest.map fun v => v.category).sum ≤ 8) (hR : d' + 1 ≤ R.frames ∧ 8 + (M'.2.2.2.1 + 11) + 40 * d' ≤ R.locals ∧ cells ≤ R.cells ∧ slots ≤ R.slots) (hf : fc.bind kf = some o) (ct : ∀ q, fc = some q → CT l M' d' false 0 0 S As h (QI S q)) (kk : ∀ q, kf q = some o → V l G B N M R al mc ms Q S cells slots pc' lv (.int q.1 :: rest) q.2) : V l G B N M R al mc ms Q S cells slots pc lv st h := by
  obtain ⟨q, h1, h2⟩ := bind_of hf
  refine V_callsN (al' := false) (mc' := 0) (ms' := 0) hd e mk hl hst hn hw (fun q => by cases q) ⟨hR.1, hR.2.1⟩ hR.2.2 (ct q h1) (fun r S' h' hq => ?_)
  obtain ⟨rfl, rfl, rfl⟩ := hq
  exact kk q h2
theorem V_cvL {fc : Option (Int64 × MH)} {kf : Int64 × MH → Option β} (hd : decode M.2.2.1 pc = .ok (.invokevirtual ix, 3)) (e : pc + 3 = pc') (mk : MOKv M' n) (hl : Cond.methodLink M.1 ix M'.2.1 ∈ BIG) (c : Nat) (hc : c < 12) (hcc : M'.2.1.cls = (CLS c).1) (hs : S[b]? = some (.inl c)) (hst : st = As.reverse ++ .ref b :: rest) (hn : As.length = n) (hw : (rest.map fun v => v.category).sum ≤ 8) (hR : d' + 1 ≤ R.frames ∧ 8 + (M'.2.2.2.1 + 11) + 40 * d' ≤ R.locals ∧ cells ≤ R.cells ∧ slots ≤ R.slots) (hf : fc.bind kf = some o) (ct : ∀ q, fc = some q → CT l M' d' false 0 0 S (.ref b :: As) h (QL S q)) (kk : ∀ q, kf q = some o → V l G B N M R al mc ms Q S cells slots pc' lv (.long q.1 :: rest) q.2) : V l G B N M R al mc ms Q S cells slots pc lv st h := by
  obtain ⟨q, h1, h2⟩ := bind_of hf
  refine V_callv (al' := false) (mc' := 0) (ms' := 0) hd e mk hl c hc hcc hs hst hn hw (fun q => by cases q) ⟨hR.1, hR.2.1⟩ hR.2.2 (ct q h1) (fun r S' h' hq => ?_)
  obtain ⟨rfl, rfl, rfl⟩ := hq
  exact kk q h2
theorem V_csL {fc : Option (Int64 × MH)} {kf : Int64 × MH → Option β} (hd : decode M.2.2.1 pc = .ok (.invokestatic ix, 3)) (e : pc + 3 = pc') (mk : MOKs M' n) (hl : Cond.methodLink M.1 ix M'.2.1 ∈ BIG) (hst : st = As.reverse ++ rest) (hn : As.length = n) (hw : (rest.map fun v => v.category).sum ≤ 8) (hR : d' + 1 ≤ R.frames ∧ 8 + (M'.2.2.2.1 + 11) + 40 * d' ≤ R.locals ∧ cells ≤ R.cells ∧ slots ≤ R.slots) (hf : fc.bind kf = some o) (ct : ∀ q, fc = some q → CT l M' d' false 0 0 S As h (QL S q)) (kk : ∀ q, kf q = some o → V l G B N M R al mc ms Q S cells slots pc' lv (.long q.1 :: rest) q.2) : V l G B N M R al mc ms Q S cells slots pc lv st h := by
  obtain ⟨q, h1, h2⟩ := bind_of hf
  refine V_calls (al' := false) (mc' := 0) (ms' := 0) hd e mk hl hst hn hw (fun q => by cases q) ⟨hR.1, hR.2.1⟩ hR.2.2 (ct q h1) (fun r S' h' hq => ?_)
  obtain ⟨rfl, rfl, rfl⟩ := hq
  exact kk q h2
theorem V_cnL {host : String} {fc : Option (Int64 × MH)} {kf : Int64 × MH → Option β} (hd : decode M.2.2.1 pc = .ok (.invokestatic ix, 3)) (e : pc + 3 = pc') (mk : MOKs M' n) (hl : ∀ (G : GE) (B : Nat) (s : State), SE G B s → va_Nw (.methodLinkNest M.1 ix M'.2.1 host) s) (hst : st = As.reverse ++ rest) (hn : As.length = n) (hw : (rest.map fun v => v.category).sum ≤ 8) (hR : d' + 1 ≤ R.frames ∧ 8 + (M'.2.2.2.1 + 11) + 40 * d' ≤ R.locals ∧ cells ≤ R.cells ∧ slots ≤ R.slots) (hf : fc.bind kf = some o) (ct : ∀ q, fc = some q → CT l M' d' false 0 0 S As h (QL S q)) (kk : ∀ q, kf q = some o → V l G B N M R al mc ms Q S cells slots pc' lv (.long q.1 :: rest) q.2) : V l G B N M R al mc ms Q S cells slots pc lv st h := by
  obtain ⟨q, h1, h2⟩ := bind_of hf
  refine V_callsN (al' := false) (mc' := 0) (ms' := 0) hd e mk hl hst hn hw (fun q => by cases q) ⟨hR.1, hR.2.1⟩ hR.2.2 (ct q h1) (fun r S' h' hq => ?_)
  obtain ⟨rfl, rfl, rfl⟩ := hq
  exact kk q h2
theorem V_cvV {fc : Option (MH)} {kf : MH → Option β} (hd : decode M.2.2.1 pc = .ok (.invokevirtual ix, 3)) (e : pc + 3 = pc') (mk : MOKv M' n) (hl : Cond.methodLink M.1 ix M'.2.1 ∈ BIG) (c : Nat) (hc : c < 12) (hcc : M'.2.1.cls = (CLS c).1) (hs : S[b]? = some (.inl c)) (hst : st = As.reverse ++ .ref b :: rest) (hn : As.length = n) (hw : (rest.map fun v => v.category).sum ≤ 8) (hR : d' + 1 ≤ R.frames ∧ 8 + (M'.2.2.2.1 + 11) + 40 * d' ≤ R.locals ∧ cells ≤ R.cells ∧ slots ≤ R.slots) (hf : fc.bind kf = some o) (ct : ∀ q, fc = some q → CT l M' d' false 0 0 S (.ref b :: As) h (QV S q)) (kk : ∀ q, kf q = some o → V l G B N M R al mc ms Q S cells slots pc' lv rest q) : V l G B N M R al mc ms Q S cells slots pc lv st h := by
  obtain ⟨q, h1, h2⟩ := bind_of hf
  refine V_callv (al' := false) (mc' := 0) (ms' := 0) hd e mk hl c hc hcc hs hst hn hw (fun q => by cases q) ⟨hR.1, hR.2.1⟩ hR.2.2 (ct q h1) (fun r S' h' hq => ?_)
  obtain ⟨rfl, rfl, e3⟩ := hq
  rw [e3]
  exact kk q h2
theorem V_csV {fc : Option (MH)} {kf : MH → Option β} (hd : decode M.2.2.1 pc = .ok (.invokestatic ix, 3)) (e : pc + 3 = pc') (mk : MOKs M' n) (hl : Cond.methodLink M.1 ix M'.2.1 ∈ BIG) (hst : st = As.reverse ++ rest) (hn : As.length = n) (hw : (rest.map fun v => v.category).sum ≤ 8) (hR : d' + 1 ≤ R.frames ∧ 8 + (M'.2.2.2.1 + 11) + 40 * d' ≤ R.locals ∧ cells ≤ R.cells ∧ slots ≤ R.slots) (hf : fc.bind kf = some o) (ct : ∀ q, fc = some q → CT l M' d' false 0 0 S As h (QV S q)) (kk : ∀ q, kf q = some o → V l G B N M R al mc ms Q S cells slots pc' lv rest q) : V l G B N M R al mc ms Q S cells slots pc lv st h := by
  obtain ⟨q, h1, h2⟩ := bind_of hf
  refine V_calls (al' := false) (mc' := 0) (ms' := 0) hd e mk hl hst hn hw (fun q => by cases q) ⟨hR.1, hR.2.1⟩ hR.2.2 (ct q h1) (fun r S' h' hq => ?_)
  obtain ⟨rfl, rfl, e3⟩ := hq
  rw [e3]
  exact kk q h2
theorem V_cnV {host : String} {fc : Option (MH)} {kf : MH → Option β} (hd : decode M.2.2.1 pc = .ok (.invokestatic ix, 3)) (e : pc + 3 = pc') (mk : MOKs M' n) (hl : ∀ (G : GE) (B : Nat) (s : State), SE G B s → va_Nw (.methodLinkNest M.1 ix M'.2.1 host) s) (hst : st = As.reverse ++ rest) (hn : As.length = n) (hw : (rest.map fun v => v.category).sum ≤ 8) (hR : d' + 1 ≤ R.frames ∧ 8 + (M'.2.2.2.1 + 11) + 40 * d' ≤ R.locals ∧ cells ≤ R.cells ∧ slots ≤ R.slots) (hf : fc.bind kf = some o) (ct : ∀ q, fc = some q → CT l M' d' false 0 0 S As h (QV S q)) (kk : ∀ q, kf q = some o → V l G B N M R al mc ms Q S cells slots pc' lv rest q) : V l G B N M R al mc ms Q S cells slots pc lv st h := by
  obtain ⟨q, h1, h2⟩ := bind_of hf
  refine V_callsN (al' := false) (mc' := 0) (ms' := 0) hd e mk hl hst hn hw (fun q => by cases q) ⟨hR.1, hR.2.1⟩ hR.2.2 (ct q h1) (fun r S' h' hq => ?_)
  obtain ⟨rfl, rfl, e3⟩ := hq
  rw [e3]
  exact kk q h2
theorem V_cvR {x : SHP} {fc : Option (Nat × MH)} {kf : Nat × MH → Option β} (hd : decode M.2.2.1 pc = .ok (.invokevirtual ix, 3)) (e : pc + 3 = pc') (mk : MOKv M' n) (hl : Cond.methodLink M.1 ix M'.2.1 ∈ BIG) (c : Nat) (hc : c < 12) (hcc : M'.2.1.cls = (CLS c).1) (hs : S[b]? = some (.inl c)) (hst : st = As.reverse ++ .ref b :: rest) (hn : As.length = n) (hw : (rest.map fun v => v.category).sum ≤ 8) (hR : d' + 1 ≤ R.frames ∧ 8 + (M'.2.2.2.1 + 11) + 40 * d' ≤ R.locals ∧ cells ≤ R.cells ∧ slots ≤ R.slots) (hf : fc.bind kf = some o) (ct : ∀ q, fc = some q → CT l M' d' false 0 0 S (.ref b :: As) h (QR S x q)) (kk : ∀ q, S[q.1]? = some x → kf q = some o → V l G B N M R al mc ms Q S cells slots pc' lv (.ref q.1 :: rest) q.2) : V l G B N M R al mc ms Q S cells slots pc lv st h := by
  obtain ⟨q, h1, h2⟩ := bind_of hf
  refine V_callv (al' := false) (mc' := 0) (ms' := 0) hd e mk hl c hc hcc hs hst hn hw (fun q => by cases q) ⟨hR.1, hR.2.1⟩ hR.2.2 (ct q h1) (fun r S' h' hq => ?_)
  obtain ⟨rfl, rfl, rfl, hx⟩ := hq
  exact kk q hx h2
theorem V_csR {x : SHP} {fc : Option (Nat × MH)} {kf : Nat × MH → Option β} (hd : decode M.2.2.1 pc = .ok (.invokestatic ix, 3)) (e : pc + 3 = pc') (mk : MOKs M' n) (hl : Cond.methodLink M.1 ix M'.2.1 ∈ BIG) (hst : st = As.reverse ++ rest) (hn : As.length = n) (hw : (rest.map fun v => v.category).sum ≤ 8) (hR : d' + 1 ≤ R.frames ∧ 8 + (M'.2.2.2.1 + 11) + 40 * d' ≤ R.locals ∧ cells ≤ R.cells ∧ slots ≤ R.slots) (hf : fc.bind kf = some o) (ct : ∀ q, fc = some q → CT l M' d' false 0 0 S As h (QR S x q)) (kk : ∀ q, S[q.1]? = some x → kf q = some o → V l G B N M R al mc ms Q S cells slots pc' lv (.ref q.1 :: rest) q.2) : V l G B N M R al mc ms Q S cells slots pc lv st h := by
  obtain ⟨q, h1, h2⟩ := bind_of hf
  refine V_calls (al' := false) (mc' := 0) (ms' := 0) hd e mk hl hst hn hw (fun q => by cases q) ⟨hR.1, hR.2.1⟩ hR.2.2 (ct q h1) (fun r S' h' hq => ?_)
  obtain ⟨rfl, rfl, rfl, hx⟩ := hq
  exact kk q hx h2
theorem V_cnR {x : SHP} {host : String} {fc : Option (Nat × MH)} {kf : Nat × MH → Option β} (hd : decode M.2.2.1 pc = .ok (.invokestatic ix, 3)) (e : pc + 3 = pc') (mk : MOKs M' n) (hl : ∀ (G : GE) (B : Nat) (s : State), SE G B s → va_Nw (.methodLinkNest M.1 ix M'.2.1 host) s) (hst : st = As.reverse ++ rest) (hn : As.length = n) (hw : (rest.map fun v => v.category).sum ≤ 8) (hR : d' + 1 ≤ R.frames ∧ 8 + (M'.2.2.2.1 + 11) + 40 * d' ≤ R.locals ∧ cells ≤ R.cells ∧ slots ≤ R.slots) (hf : fc.bind kf = some o) (ct : ∀ q, fc = some q → CT l M' d' false 0 0 S As h (QR S x q)) (kk : ∀ q, S[q.1]? = some x → kf q = some o → V l G B N M R al mc ms Q S cells slots pc' lv (.ref q.1 :: rest) q.2) : V l G B N M R al mc ms Q S cells slots pc lv st h := by
  obtain ⟨q, h1, h2⟩ := bind_of hf
  refine V_callsN (al' := false) (mc' := 0) (ms' := 0) hd e mk hl hst hn hw (fun q => by cases q) ⟨hR.1, hR.2.1⟩ hR.2.2 (ct q h1) (fun r S' h' hq => ?_)
  obtain ⟨rfl, rfl, rfl, hx⟩ := hq
  exact kk q hx h2
end VF
