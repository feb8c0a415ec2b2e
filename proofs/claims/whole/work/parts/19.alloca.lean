/-! ===== cells that are made ===== -/
def nwA (h : MH) (n : Int32) (bnd : Nat) : Option MH := if n < 0 ∨ bnd < n.toNatClampNeg then none else some (nW h n.toNatClampNeg)
def QA (S T : List SHP) (o : MH) : Option Value → List SHP → MH → Prop := fun r S' h' => r = none ∧ S' = S ++ T ∧ h' = o
def QAR (S T : List SHP) (x : SHP) (o : Nat × MH) : Option Value → List SHP → MH → Prop := fun r S' h' => r = some (.ref o.1) ∧ S' = S ++ T ∧ h' = o.2 ∧ (S ++ T)[o.1]? = some x
theorem sh_app {S T : List SHP} {a : Nat} {x : SHP} (h : S[a]? = some x) : (S ++ T)[a]? = some x := by
  rw [List.getElem?_append_left (List.getElem?_eq_some_iff.mp h).1]; exact h
theorem sh_new {S : List SHP} {x : SHP} {a : Nat} (h : S.length = a) : (S ++ [x])[a]? = some x := by
  subst h; simp
def okTy (t : FieldType) : Bool := match t with
  | .int => true
  | .boolean => true
  | .long => true
  | .object _ => true
  | .array _ => true
  | _ => false
theorem okTy_all : ∀ c, c < 12 → ∀ k, k < (CLS c).2.2 → okTy (tyOf c k) = true := by decide +kernel
theorem ent_N {B : Nat} {cid : Nat → ClassId} {h : MH} {n a : Nat} (ha : a ≠ gZ h) : ∀ y, ent B cid (nW h n) a y = ent B cid h a y := by
  intro y
  have e1 : gI (nW h n) a = gI h a := by funext j; simp [gI, nW, ha]
  have e2 : gL (nW h n) a = gL h a := by funext j; simp [gL, nW, ha]
  have e3 : ∀ j, gR (nW h n) a j = gR h a j := by intro j; simp [gR, nW, ha]
  have e4 : gN (nW h n) a = gN h a := by simp [gN, nW, ha]
  have ef : ∀ ty j, fvl B ty (nW h n) a j = fvl B ty h a j := by
    intro ty j
    cases ty <;> simp only [fvl, e1, e2, e3]
  cases y with
  | inl c => simp only [ent, ef]
  | inr t => simp only [ent, e1, e2, e3, e4]
theorem wsO_N {B : Nat} {cid : Nat → ClassId} {S : List SHP} {h : MH} {n : Nat} {x : SHP} (hz : S.length = gZ h) : wsO B cid (S ++ [x]) (nW h n) = wsO B cid S h ++ [(B + gZ h, ent B cid (nW h n) (gZ h) x)] := by
  apply List.ext_getElem?
  intro i
  by_cases hi : i < S.length
  · rw [List.getElem?_append_left (by simpa [wsO] using hi)]
    simp only [wsO, List.getElem?_mapIdx]
    rw [List.getElem?_append_left hi]
    cases S[i]? with
    | none => rfl
    | some y => simp [ent_N (B := B) (cid := cid) (h := h) (n := n) (a := i) (by omega) y]
  · rw [List.getElem?_append_right (by simpa [wsO] using hi)]
    simp only [wsO, List.getElem?_mapIdx]
    rw [List.getElem?_append_right (by omega)]
    by_cases h0 : i = S.length
    · subst h0
      simp [hz]
    · rw [List.getElem?_eq_none (by simp; omega), List.getElem?_eq_none (by simp; omega)]
      rfl
theorem TY_N {S : List SHP} {h : MH} {n : Nat} {x : SHP} (hT : TY S h) : TY (S ++ [x]) (nW h n) := by
  refine ⟨by simp [hT.1, gZ, nW], fun a k b u y h1 h2 h3 => ?_⟩
  by_cases ha : a = gZ h
  · subst ha
    simp [gR, nW, gZ] at h3
  · have hl : a < S.length := by
      have := (List.getElem?_eq_some_iff.mp h1).1
      have hz := hT.1
      simp at this
      omega
    rw [List.getElem?_append_left hl] at h1
    have h3 : gR h a k = some b := by simpa [gR, nW, ha] using h3
    exact sh_app (hT.2 a k b u y h1 h2 h3)
section VN
variable {l : Launch} {G : GE} {B N : Nat} {M M' : MI} {R : Room} {al : Bool} {mc ms mc' ms' n d' : Nat} {Q : Option Value → List SHP → MH → Prop} {S T : List SHP} {cells slots pc pc' ix : Nat} {lv : List (Nat × Value)} {st rest As : List Value} {h : MH} {β : Type} {o : β} {b : Nat}
theorem WO_N {s : State} {H H1 : Heap} {locs : List Loc} {n : Nat} {x : SHP} (w : WO G B N true s S h H locs) (he : va_at G.1 vwCl (B + gZ h, ent B G.2.1 (nW h n) (gZ h) x) H1) (z : H1.size = H.size + 1) (oq : ∀ q : Nat, q < H.size → H1[q]? = H[q]?) : WO G B N true s (S ++ [x]) (nW h n) H1 locs := by
  obtain ⟨hP, hT, hS, hz, h1, h2⟩ := w
  refine ⟨?_, TY_N hT, ⟨Nat.le_trans hS.1 (by omega), fun q g1 g2 => (oq q (Nat.lt_of_lt_of_le g1 hS.1)).trans (hS.2.1 q g1 g2), hS.2.2⟩, by rw [z, List.length_append]; show _ = _ + (S.length + 1); omega, Or.inl rfl, h2⟩
  rw [wsO_N hT.1]
  refine va_P.app (hP.kept (fun k q hq => oq _ (hP k q hq).lt)) (fun k q hq => ?_)
  have hk : k < 1 := (List.getElem?_eq_some_iff.mp hq).1
  rw [show k = 0 by omega] at hq
  cases hq
  exact he
theorem V_newA {n : Int32} {kf : MH → Option β} (bnd : Nat) (t : Nat) {at0 : ArrayType} (hd : decode M.2.2.1 pc = .ok (.newarray at0, 2)) (e : pc + 2 = pc') (hat : (t = 0 ∧ at0 = .int) ∨ (t = 1 ∧ at0 = .long) ∨ (t = 2 ∧ at0 = .byte)) (hb : bnd ≤ 100000) (hR : cells + 1 ≤ R.cells ∧ slots + bnd ≤ R.slots) (hf : (nwA h n bnd).bind kf = some o) (kk : ∀ h', (S ++ [.inr t])[gZ h]? = some (.inr t) → kf h' = some o → V l G B N M R true mc ms Q (S ++ [.inr t]) (cells + 1) (slots + bnd) pc' lv (.ref (gZ h) :: st) h') : V l G B N M R true mc ms Q S cells slots pc lv (.int n :: st) h := by
  obtain ⟨h', h1, h2⟩ := bind_of hf
  unfold nwA at h1
  by_cases hq : n < 0 ∨ bnd < n.toNatClampNeg
  · rw [if_pos hq] at h1; cases h1
  rw [if_neg hq] at h1
  cases h1
  simp only [not_or] at hq
  have hle := Nat.not_lt.mp hq.2
  subst e
  intro p ev s m args below meth cd C H locs ls w hll
  have hts := C.2.2.2.2.2.1
  have hK := C.2.2.2.2.2.2.1
  have hz := w.2.2.2.1
  have hsz := w.2.2.2.2.2 rfl
  have hTz := w.2.1.1
  have hH : H.size = B + gZ h := by omega
  have go : ∀ (H1 : Heap), H1[B + gZ h]? = some (vp_cell (G.2.1 t) (n.toNatClampNeg, if t = 1 then .inr (.inl (fun _ => 0)) else .inl (fun _ => 0))) → H1.size = B + gZ h + 1 → (∀ q, q < B + gZ h → H1[q]? = H[q]?) → W p l ev R s m args below meth cd H1 locs (cells + 1) (slots + n.toNatClampNeg) (MQ below (QC G B N true Q) args s mc ms (AR B N s.heap.size)) (F0 m (pc + 2) ls (.ref (B + gZ h) :: st.map (tr G B))) := by
    intro H1 e1 z1 o1
    refine W.widen (k := cells + 1) (n := slots + bnd) (Nat.le_refl _) (by omega) ?_
    refine kk _ (sh_new hTz) h2 p ev s m args below meth cd C H1 locs ls (WO_N w ?_ (by rw [z1, hH]) (fun q g => o1 q (by omega))) hll
    rcases hat with ⟨rfl, -⟩ | ⟨rfl, -⟩ | ⟨rfl, -⟩
    · show H1[B + gZ h]? = some (vp_cell (G.2.1 0) (gN (nW h n.toNatClampNeg) (gZ h), .inl (gI (nW h n.toNatClampNeg) (gZ h))))
      have x1 : gN (nW h n.toNatClampNeg) (gZ h) = n.toNatClampNeg := by simp [gN, nW]
      have x2 : gI (nW h n.toNatClampNeg) (gZ h) = fun _ => 0 := by funext j; simp [gI, nW]
      rw [x1, x2]; exact e1
    · show H1[B + gZ h]? = some (vp_cell (G.2.1 1) (gN (nW h n.toNatClampNeg) (gZ h), .inr (.inl (gL (nW h n.toNatClampNeg) (gZ h)))))
      have x1 : gN (nW h n.toNatClampNeg) (gZ h) = n.toNatClampNeg := by simp [gN, nW]
      have x2 : gL (nW h n.toNatClampNeg) (gZ h) = fun _ => 0 := by funext j; simp [gL, nW]
      rw [x1, x2]; exact e1
    · show H1[B + gZ h]? = some (vp_cell (G.2.1 2) (gN (nW h n.toNatClampNeg) (gZ h), .inl (gI (nW h n.toNatClampNeg) (gZ h))))
      have x1 : gN (nW h n.toNatClampNeg) (gZ h) = n.toNatClampNeg := by simp [gN, nW]
      have x2 : gI (nW h n.toNatClampNeg) (gZ h) = fun _ => 0 := by funext j; simp [gI, nW]
      rw [x1, x2]; exact e1
  rcases hat with ⟨rfl, rfl⟩ | ⟨rfl, rfl⟩ | ⟨rfl, rfl⟩
  · refine va_newaK (atype := .int) C.1 C.2.1 (hts _ bw_arrI) rfl hd rfl hq.1 rfl (by show _ * 4 ≤ _; omega) hR.1 (by omega) hH fun H1 cA e1 z1 o1 hAr hNm => ?_
    have hc : cA = G.2.1 0 := Option.some.inj (hNm.symm.trans (hK.2 0 _ rfl).2)
    subst hc
    exact go H1 e1 z1 o1
  · refine va_newaK (atype := .long) C.1 C.2.1 (hts _ bw_arrJ) rfl hd rfl hq.1 rfl (by show _ * 8 ≤ _; omega) hR.1 (by omega) hH fun H1 cA e1 z1 o1 hAr hNm => ?_
    have hc : cA = G.2.1 1 := Option.some.inj (hNm.symm.trans (hK.2 1 _ rfl).2)
    subst hc
    exact go H1 e1 z1 o1
  · refine va_newaK (atype := .byte) C.1 C.2.1 (hts _ bw_arrB) rfl hd rfl hq.1 rfl (by show _ * 1 ≤ _; omega) hR.1 (by omega) hH fun H1 cA e1 z1 o1 hAr hNm => ?_
    have hc : cA = G.2.1 2 := Option.some.inj (hNm.symm.trans (hK.2 2 _ rfl).2)
    subst hc
    exact go H1 e1 z1 o1
theorem V_newO {kf : MH → Option β} (c : Nat) (hc : c < 12) (hd : decode M.2.2.1 pc = .ok (.new ix, 3)) (e : pc + 3 = pc') (hcl : Cond.classLink M.1 ix (CLS c).1 ∈ BIG) (hins : Cond.instantiable (CLS c).1 (CLS c).2.2 ∈ BIG) (hini : Cond.initialized (CLS c).1 ∈ BIG) (hR : cells + 1 ≤ R.cells ∧ slots + (CLS c).2.2 ≤ R.slots) (hf : lt (nW h 0) kf = some o) (kk : ∀ h', (S ++ [.inl c])[gZ h]? = some (.inl c) → kf h' = some o → V l G B N M R true mc ms Q (S ++ [.inl c]) (cells + 1) (slots + (CLS c).2.2) pc' lv (.ref (gZ h) :: st) h') : V l G B N M R true mc ms Q S cells slots pc lv st h := by
  subst e
  intro p ev s m args below meth cd C H locs ls w hll
  have hts := C.2.2.2.2.2.1
  have hK := C.2.2.2.2.2.2.1
  have hz := w.2.2.2.1
  have hsz := w.2.2.2.2.2 rfl
  have hTz := w.2.1.1
  have hH : H.size = B + gZ h := by omega
  have hKn := hK.1 c _ (clsAt hc)
  refine W.newcK C.1 C.2.1 C.2.2.2.2.1 (hts _ hcl) (hts _ hins) (hts _ hini) rfl hd hR.1 hR.2 hKn.2.1 hH fun H1 kC hkC e1 z1 o1 => ?_
  refine kk _ (sh_new hTz) hf p ev s m args below meth cd C H1 locs ls (WO_N w ?_ (by rw [z1, hH]) (fun q g => o1 q (by omega))) hll
  refine ⟨_, clsAt hc, (u_born (tyOf c) hts (clsIn hc) hKn hkC e1 (clsTy hc)).to (fun j hj => ?_)⟩
  show defaultValue (tyOf c j) = vp_V ((List.range (CLS c).2.2).map (fun k => fvl B (tyOf c k) (nW h 0) (gZ h) k)) j
  have hj' : j < (CLS c).2.2 := hj
  have x2 : gI (nW h 0) (gZ h) j = 0 := by simp [gI, nW]
  have x3 : gL (nW h 0) (gZ h) j = 0 := by simp [gL, nW]
  have x4 : gR (nW h 0) (gZ h) j = none := by simp [gR, nW]
  have hv : vp_V ((List.range (CLS c).2.2).map (fun k => fvl B (tyOf c k) (nW h 0) (gZ h) k)) j = fvl B (tyOf c j) (nW h 0) (gZ h) j := by
    simp [vp_V, hj']
  rw [hv]
  have ok := okTy_all c hc j hj'
  cases htj : tyOf c j <;> rw [htj] at ok <;> first | (cases ok; done) | (simp only [fvl, x2, x3, x4, rfv]; rfl)
theorem V_newS {n : Int32} {kf : MH → Option β} (bnd : Nat) (hd : decode M.2.2.1 pc = .ok (.anewarray ix, 3)) (e : pc + 3 = pc') (hcl : Cond.classLink M.1 ix "LabelStacks$State" ∈ BIG) (hb : bnd ≤ 100000) (hR : cells + 1 ≤ R.cells ∧ slots + bnd ≤ R.slots) (hf : (nwA h n bnd).bind kf = some o) (kk : ∀ h', (S ++ [.inr 3])[gZ h]? = some (.inr 3) → kf h' = some o → V l G B N M R true mc ms Q (S ++ [.inr 3]) (cells + 1) (slots + bnd) pc' lv (.ref (gZ h) :: st) h') : V l G B N M R true mc ms Q S cells slots pc lv (.int n :: st) h := by
  obtain ⟨h', h1, h2⟩ := bind_of hf
  unfold nwA at h1
  by_cases hq : n < 0 ∨ bnd < n.toNatClampNeg
  · rw [if_pos hq] at h1; cases h1
  rw [if_neg hq] at h1
  cases h1
  simp only [not_or] at hq
  have hle := Nat.not_lt.mp hq.2
  subst e
  intro p ev s m args below meth cd C H locs ls w hll
  have hts := C.2.2.2.2.2.1
  have hK := C.2.2.2.2.2.2.1
  have hz := w.2.2.2.1
  have hsz := w.2.2.2.2.2 rfl
  have hTz := w.2.1.1
  have hH : H.size = B + gZ h := by omega
  refine W.anew C.1 C.2.1 C.2.2.2.2.1 (hts _ hcl) (va_AO.use C.2.2.2.2.2.2.2.1.2.1) rfl hd rfl hq.1 (by omega) hR.1 (by omega) fun cA kA comp f1 f2 f3 f4 => ?_
  obtain ⟨kA', comp', k1, k2, k3, k4⟩ := (hK.2 3 _ rfl).2
  have hc : cA = G.2.1 3 := Option.some.inj (f1.symm.trans k4)
  subst hc
  generalize hH1 : H.push ({ cls := G.2.1 3, slots := Array.replicate n.toNatClampNeg .null, vm := .none } : Cell) = H1
  have z1 : H1.size = H.size + 1 := by rw [← hH1, Array.size_push]
  have e1 : H1[H.size]? = some (arrV (G.2.1 3) n.toNatClampNeg (fun _ => .null)) := by rw [← hH1, Array.getElem?_push_size, ← arrV_new]
  have o1 : ∀ q : Nat, q < H.size → H1[q]? = H[q]? := fun q hq => by rw [← hH1, Array.getElem?_push, if_neg (Nat.ne_of_lt hq)]
  refine W.widen (k := cells + 1) (n := slots + bnd) (Nat.le_refl _) (by omega) ?_
  rw [hH] at e1
  have := kk _ (sh_new hTz) h2 p ev s m args below meth cd C H1 locs ls (WO_N w (by
    show H1[B + gZ h]? = some (vp_cell (G.2.1 3) (gN (nW h n.toNatClampNeg) (gZ h), .inr (.inr (.inr (.inr (fun j => (gR (nW h n.toNatClampNeg) (gZ h) j).map (B + ·)))))))
    have x1 : gN (nW h n.toNatClampNeg) (gZ h) = n.toNatClampNeg := by simp [gN, nW]
    have x2 : ∀ j, gR (nW h n.toNatClampNeg) (gZ h) j = none := by intro j; simp [gR, nW]
    rw [x1]; simp only [x2]
    rw [vp_cell_q]; exact e1) z1 o1) hll
  show W p l ev R s m args below meth cd H1 locs (cells + 1) (slots + bnd) _ (F0 m (pc + 3) ls (.ref H.size :: st.map (tr G B)))
  rw [hH]
  exact this
theorem V_ciA {fc : Option MH} {kf : MH → Option β} (hd : decode M.2.2.1 pc = .ok (.invokespecial ix, 3)) (e : pc + 3 = pc') (mk : MOKi M' n) (hl : Cond.methodLink M.1 ix M'.2.1 ∈ BIG) (hst : st = As.reverse ++ .ref b :: rest) (hn : As.length = n) (hw : (rest.map fun v => v.category).sum ≤ 8) (hR : d' + 1 ≤ R.frames ∧ 8 + (M'.2.2.2.1 + 11) + 40 * d' ≤ R.locals) (hR2 : cells + mc' ≤ R.cells ∧ slots + ms' ≤ R.slots) (hf : fc.bind kf = some o) (ct : ∀ q, fc = some q → CT l M' d' true mc' ms' S (.ref b :: As) h (QA S T q)) (kk : ∀ q, kf q = some o → V l G B N M R true mc ms Q (S ++ T) (cells + mc') (slots + ms') pc' lv rest q) : V l G B N M R true mc ms Q S cells slots pc lv st h := by
  obtain ⟨q, h1, h2⟩ := bind_of hf
  refine V_calli (al' := true) hd e mk hl hst hn hw (fun q => q) hR hR2 (ct q h1) (fun r S' h' hq => ?_)
  obtain ⟨rfl, rfl, e3⟩ := hq
  rw [e3]
  exact kk q h2
theorem V_csA {x : SHP} {fc : Option (Nat × MH)} {kf : Nat × MH → Option β} (hd : decode M.2.2.1 pc = .ok (.invokestatic ix, 3)) (e : pc + 3 = pc') (mk : MOKs M' n) {host : String} (hl : ∀ (G : GE) (B : Nat) (s : State), SE G B s → va_Nw (.methodLinkNest M.1 ix M'.2.1 host) s) (hst : st = As.reverse ++ rest) (hn : As.length = n) (hw : (rest.map fun v => v.category).sum ≤ 8) (hR : d' + 1 ≤ R.frames ∧ 8 + (M'.2.2.2.1 + 11) + 40 * d' ≤ R.locals) (hR2 : cells + mc' ≤ R.cells ∧ slots + ms' ≤ R.slots) (hf : fc.bind kf = some o) (ct : ∀ q, fc = some q → CT l M' d' true mc' ms' S As h (QAR S T x q)) (kk : ∀ q, (S ++ T)[q.1]? = some x → kf q = some o → V l G B N M R true mc ms Q (S ++ T) (cells + mc') (slots + ms') pc' lv (.ref q.1 :: rest) q.2) : V l G B N M R true mc ms Q S cells slots pc lv st h := by
  obtain ⟨q, h1, h2⟩ := bind_of hf
  refine V_callsN (al' := true) hd e mk hl hst hn hw (fun q => q) hR hR2 (ct q h1) (fun r S' h' hq => ?_)
  obtain ⟨rfl, rfl, rfl, hx⟩ := hq
  exact kk q hx h2
end VN
