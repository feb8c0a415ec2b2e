/-! ===== rows of the heap, calls, returns ===== -/
theorem clsAt {c : Nat} (hc : c < 12) : vwCl[c]? = some ((CLS c).1, (CLS c).2.1, (CLS c).2.2) := by
  match c, hc with
  | 0, _ => rfl
  | 1, _ => rfl
  | 2, _ => rfl
  | 3, _ => rfl
  | 4, _ => rfl
  | 5, _ => rfl
  | 6, _ => rfl
  | 7, _ => rfl
  | 8, _ => rfl
  | 9, _ => rfl
  | 10, _ => rfl
  | 11, _ => rfl
theorem clsNm {c : Nat} (hc : c < 12) : ∀ a, a < (CLS c).2.2 → ∀ b, b < (CLS c).2.2 → a ≠ b → ((CLS c).2.1 a).2.1 ≠ ((CLS c).2.1 b).2.1 := by
  match c, hc with
  | 0, _ => exact nmX0
  | 1, _ => exact nmX1
  | 2, _ => exact nmX2
  | 3, _ => exact nmX3
  | 4, _ => exact nmX4
  | 5, _ => exact nmX5
  | 6, _ => exact nmX6
  | 7, _ => exact nmX7
  | 8, _ => exact nmX8
  | 9, _ => exact nmX9
  | 10, _ => exact nmX10
  | 11, _ => exact nmX11
theorem clsTy {c : Nat} (hc : c < 12) : ∀ k, k < (CLS c).2.2 → parseFieldDescriptor ((CLS c).2.1 k).2.2.1 = some (tyOf c k) := by
  match c, hc with
  | 0, _ => exact tyX0_ok
  | 1, _ => exact tyX1_ok
  | 2, _ => exact tyX2_ok
  | 3, _ => exact tyX3_ok
  | 4, _ => exact tyX4_ok
  | 5, _ => exact tyX5_ok
  | 6, _ => exact tyX6_ok
  | 7, _ => exact tyX7_ok
  | 8, _ => exact tyX8_ok
  | 9, _ => exact tyX9_ok
  | 10, _ => exact tyX10_ok
  | 11, _ => exact tyX11_ok
theorem sub_of_all {ws big : List Cond} (h : ws.all (fun w => decide (w ∈ big)) = true) : ∀ w ∈ ws, w ∈ big := fun w hw => by simpa using List.all_eq_true.mp h w hw
theorem big_of {ws : List Cond} (h : ∀ w ∈ ws, w ∈ lw_tbl) (hg : ws.all goodWord = true) : ∀ w ∈ ws, w ∈ BIG := fun w hw => List.mem_filter.mpr ⟨h w hw, List.all_eq_true.mp hg w hw⟩
theorem inX0 : ∀ w ∈ u_ws RX0 TX0 2, w ∈ BIG := big_of (by decide +kernel) (by decide +kernel)
theorem inX1 : ∀ w ∈ u_ws RX1 TX1 2, w ∈ BIG := big_of (by decide +kernel) (by decide +kernel)
theorem inX2 : ∀ w ∈ u_ws RX2 TX2 8, w ∈ BIG := big_of (by decide +kernel) (by decide +kernel)
theorem inX3 : ∀ w ∈ u_ws RX3 TX3 12, w ∈ BIG := big_of (by decide +kernel) (by decide +kernel)
theorem inX4 : ∀ w ∈ u_ws RX4 TX4 2, w ∈ BIG := big_of (by decide +kernel) (by decide +kernel)
theorem inX5 : ∀ w ∈ u_ws RX5 TX5 2, w ∈ BIG := big_of (by decide +kernel) (by decide +kernel)
theorem inX6 : ∀ w ∈ u_ws RX6 TX6 3, w ∈ BIG := big_of (by decide +kernel) (by decide +kernel)
theorem inX7 : ∀ w ∈ u_ws RX7 TX7 7, w ∈ BIG := big_of (by decide +kernel) (by decide +kernel)
theorem inX8 : ∀ w ∈ u_ws RX8 TX8 6, w ∈ BIG := big_of (by decide +kernel) (by decide +kernel)
theorem inX9 : ∀ w ∈ u_ws RX9 TX9 9, w ∈ BIG := big_of (by decide +kernel) (by decide +kernel)
theorem inX10 : ∀ w ∈ u_ws RX10 TX10 17, w ∈ BIG := big_of (by decide +kernel) (by decide +kernel)
theorem inX11 : ∀ w ∈ u_ws RX11 TX11 46, w ∈ BIG := big_of (by decide +kernel) (by decide +kernel)
theorem clsIn {c : Nat} (hc : c < 12) : ∀ w ∈ u_ws (CLS c).1 (CLS c).2.1 (CLS c).2.2, w ∈ BIG := by
  match c, hc with
  | 0, _ => exact inX0
  | 1, _ => exact inX1
  | 2, _ => exact inX2
  | 3, _ => exact inX3
  | 4, _ => exact inX4
  | 5, _ => exact inX5
  | 6, _ => exact inX6
  | 7, _ => exact inX7
  | 8, _ => exact inX8
  | 9, _ => exact inX9
  | 10, _ => exact inX10
  | 11, _ => exact inX11
theorem ent_I {B : Nat} {cid : Nat → ClassId} {h : MH} {a k : Nat} {v : Int32} : ∀ b, b ≠ a → ∀ y, ent B cid (sI h a k v) b y = ent B cid h b y := by
  intro b hb y
  have e : gI (sI h a k v) b = gI h b := by funext j; simp [gI, sI, up2, hb]
  have e1 : ∀ j, gI (sI h a k v) b j = gI h b j := fun j => by rw [e]
  have ef : ∀ ty j, fvl B ty (sI h a k v) b j = fvl B ty h b j := by
    intro ty j
    cases ty <;> simp only [fvl, e1] <;> rfl
  cases y with
  | inl c => simp only [ent, ef]
  | inr t => simp only [ent, e]; rfl
theorem ent_L {B : Nat} {cid : Nat → ClassId} {h : MH} {a k : Nat} {v : Int64} : ∀ b, b ≠ a → ∀ y, ent B cid (sL h a k v) b y = ent B cid h b y := by
  intro b hb y
  have e : gL (sL h a k v) b = gL h b := by funext j; simp [gL, sL, up2, hb]
  have e1 : ∀ j, gL (sL h a k v) b j = gL h b j := fun j => by rw [e]
  have ef : ∀ ty j, fvl B ty (sL h a k v) b j = fvl B ty h b j := by
    intro ty j
    cases ty <;> simp only [fvl, e1] <;> rfl
  cases y with
  | inl c => simp only [ent, ef]
  | inr t => simp only [ent, e]; rfl
theorem ent_R {B : Nat} {cid : Nat → ClassId} {h : MH} {a k : Nat} {v : Option Nat} : ∀ b, b ≠ a → ∀ y, ent B cid (sR h a k v) b y = ent B cid h b y := by
  intro b hb y
  have e : gR (sR h a k v) b = gR h b := by funext j; simp [gR, sR, up2, hb]
  have e1 : ∀ j, gR (sR h a k v) b j = gR h b j := fun j => by rw [e]
  have ef : ∀ ty j, fvl B ty (sR h a k v) b j = fvl B ty h b j := by
    intro ty j
    cases ty <;> simp only [fvl, e1] <;> rfl
  cases y with
  | inl c => simp only [ent, ef]
  | inr t => simp only [ent, e1]; rfl
theorem TY_I {S : List SHP} {h : MH} {a k : Nat} {v : Int32} (hT : TY S h) : TY S (sI h a k v) := hT
theorem TY_L {S : List SHP} {h : MH} {a k : Nat} {v : Int64} (hT : TY S h) : TY S (sL h a k v) := hT
theorem TY_R {S : List SHP} {h : MH} {a k b : Nat} {x y : SHP} (hT : TY S h) (hx : S[a]? = some x) (he : elt x k = some y) (hb : S[b]? = some y) : TY S (sR h a k (some b)) := by
  refine ⟨hT.1, fun a1 k1 b1 x1 y1 h1 h2 h3 => ?_⟩
  by_cases hq : a1 = a ∧ k1 = k
  · obtain ⟨rfl, rfl⟩ := hq
    simp [gR, sR, up2] at h3
    subst h3
    cases hx.symm.trans h1
    cases he.symm.trans h2
    exact hb
  · exact hT.2 a1 k1 b1 x1 y1 h1 h2 (by simpa [gR, sR, up2, hq] using h3)
theorem fs_upd {B c a k : Nat} {h h' : MH} {v : Value} (hk : fvl B (tyOf c k) h' a k = v) (ho : ∀ j, j ≠ k → ∀ ty, fvl B ty h' a j = fvl B ty h a j) : ((List.range (CLS c).2.2).map (fun j => fvl B (tyOf c j) h a j)).set k v = (List.range (CLS c).2.2).map (fun j => fvl B (tyOf c j) h' a j) := by
  apply List.ext_getElem?
  intro i
  by_cases hl : i < (CLS c).2.2
  · by_cases hi : i = k
    · subst hi
      rw [List.getElem?_set_self (by simpa using hl)]
      simp [hl, hk]
    · rw [List.getElem?_set_ne (Ne.symm hi), List.getElem?_map, List.getElem?_map, List.getElem?_range hl]
      exact congrArg some (ho i hi _).symm
  · rw [List.getElem?_eq_none (by simpa using hl), List.getElem?_eq_none (by simpa using hl)]
theorem fo_I {B a k : Nat} {h : MH} {v : Int32} : ∀ j, j ≠ k → ∀ ty, fvl B ty (sI h a k v) a j = fvl B ty h a j := by
  intro j hj ty
  have e1 : gI (sI h a k v) a j = gI h a j := by simp [gI, sI, up2, hj]
  cases ty <;> simp only [fvl, e1] <;> rfl
theorem fo_L {B a k : Nat} {h : MH} {v : Int64} : ∀ j, j ≠ k → ∀ ty, fvl B ty (sL h a k v) a j = fvl B ty h a j := by
  intro j hj ty
  have e1 : gL (sL h a k v) a j = gL h a j := by simp [gL, sL, up2, hj]
  cases ty <;> simp only [fvl, e1] <;> rfl
theorem fo_R {B a k : Nat} {h : MH} {v : Option Nat} : ∀ j, j ≠ k → ∀ ty, fvl B ty (sR h a k v) a j = fvl B ty h a j := by
  intro j hj ty
  have e1 : gR (sR h a k v) a j = gR h a j := by simp [gR, sR, up2, hj]
  cases ty <;> simp only [fvl, e1] <;> rfl
theorem gI_s (h : MH) (a k : Nat) (v : Int32) : gI (sI h a k v) a k = v := by simp [gI, sI, up2]
theorem gL_s (h : MH) (a k : Nat) (v : Int64) : gL (sL h a k v) a k = v := by simp [gL, sL, up2]
theorem gR_s (h : MH) (a k : Nat) (v : Option Nat) : gR (sR h a k v) a k = v := by simp [gR, sR, up2]
abbrev fT (c k : Nat) : String × String × String × Bool := (CLS c).2.1 k
section VH
variable {l : Launch} {G : GE} {B N : Nat} {M : MI} {R : Room} {al : Bool} {mc ms : Nat} {Q : Option Value → List SHP → MH → Prop} {S : List SHP} {cells slots pc pc' : Nat} {lv lv' : List (Nat × Value)} {st : List Value} {h : MH}
/-- a world moves: one cell changed -/
theorem WO_put {h' : MH} {s : State} {H H1 : Heap} {locs : List Loc} {a j : Nat} {x : SHP} (w : WO G B N al s S h H locs) (hx : S[a]? = some x) (ho : ∀ b, b ≠ a → ∀ y, ent B G.2.1 h' b y = ent B G.2.1 h b y) (hT : TY S h') (he : va_at G.1 vwCl (B + a, ent B G.2.1 h' a x) H1) (z : H1.size = H.size) (oq : ∀ q : Nat, q ≠ B + a → H1[q]? = H[q]?) : WO G B N al s S h' H1 (locs ++ [⟨B + a, j⟩]) := by
  obtain ⟨hP, -, hS, hz, h1, h2⟩ := w
  have hD : va_D (AR B N s.heap.size) (wsO B G.2.1 S h) := wsO_D (h1.symm.imp id (fun q => h2 q))
  refine ⟨?_, hT, hS.put z oq (hD.2 a _ (wsO_at hx)), by rw [z]; exact hz, h1, h2⟩
  rw [← wsO_set (B := B) (cid := G.2.1) (h := h) hx ho]
  exact hP.set hD (wsO_at hx) he oq
theorem V_get {ix c k a : Nat} {v : Value} (hd : decode M.2.2.1 pc = .ok (.getfield ix, 3)) (e : pc + 3 = pc') (hc : c < 12) (hk : k < (CLS c).2.2) (hl : Cond.fieldLink M.1 ix (fT c k).1 (fT c k).2.1 (fT c k).2.2.1 ∈ BIG) (hs : S[a]? = some (.inl c)) (hv : ∀ G : GE, ∀ B : Nat, fvl B (tyOf c k) h a k = tr G B v) (kk : V l G B N M R al mc ms Q S cells slots pc' lv (v :: st) h) : V l G B N M R al mc ms Q S cells slots pc lv (.ref a :: st) h := by
  subst e
  intro p ev s m args below meth cd C H locs ls w hll
  have hP := w.1
  refine va_get C.1 C.2.1 C.2.2.2.2.2.1 (clsIn hc) C.2.2.2.2.1 C.2.2.2.2.2.2.1 hP a (wsO_at hs) (clsAt hc) k hk (C.2.2.2.2.2.1 _ hl) (fun x q => q) (v := tr G B v) ?_ hd (kk p ev s m args below meth cd C H locs ls w hll)
  show ((List.range (CLS c).2.2).map (fun k => fvl B (tyOf c k) h a k))[k]? = some (tr G B v)
  rw [List.getElem?_map, List.getElem?_range hk]
  exact congrArg some (hv G B)
theorem V_getI {ix a : Nat} (c k : Nat) (hd : decode M.2.2.1 pc = .ok (.getfield ix, 3)) (e : pc + 3 = pc') (hc : c < 12) (hk : k < (CLS c).2.2) (hl : Cond.fieldLink M.1 ix (fT c k).1 (fT c k).2.1 (fT c k).2.2.1 ∈ BIG) (hs : S[a]? = some (.inl c)) (hv : ∀ (B : Nat) (h : MH) (a : Nat), fvl B (tyOf c k) h a k = .int (gI h a k)) (kk : V l G B N M R al mc ms Q S cells slots pc' lv (.int (gI h a k) :: st) h) : V l G B N M R al mc ms Q S cells slots pc lv (.ref a :: st) h :=
  V_get (v := .int (gI h a k)) hd e hc hk hl hs (fun _ B => hv B h a) kk
theorem V_getL {ix a : Nat} (c k : Nat) (hd : decode M.2.2.1 pc = .ok (.getfield ix, 3)) (e : pc + 3 = pc') (hc : c < 12) (hk : k < (CLS c).2.2) (hl : Cond.fieldLink M.1 ix (fT c k).1 (fT c k).2.1 (fT c k).2.2.1 ∈ BIG) (hs : S[a]? = some (.inl c)) (hv : ∀ (B : Nat) (h : MH) (a : Nat), fvl B (tyOf c k) h a k = .long (gL h a k)) (kk : V l G B N M R al mc ms Q S cells slots pc' lv (.long (gL h a k) :: st) h) : V l G B N M R al mc ms Q S cells slots pc lv (.ref a :: st) h :=
  V_get (v := .long (gL h a k)) hd e hc hk hl hs (fun _ B => hv B h a) kk
theorem V_getR {β : Type} {o : β} {kf : Nat → Option β} {ix a : Nat} {y : SHP} (c k : Nat) (hd : decode M.2.2.1 pc = .ok (.getfield ix, 3)) (e : pc + 3 = pc') (hc : c < 12) (hk : k < (CLS c).2.2) (hl : Cond.fieldLink M.1 ix (fT c k).1 (fT c k).2.1 (fT c k).2.2.1 ∈ BIG) (hs : S[a]? = some (.inl c)) (hv : ∀ (B : Nat) (h : MH) (a : Nat), fvl B (tyOf c k) h a k = rfv B (gR h a k)) (hy : fsh c k = some y) (hf : (gR h a k).bind kf = some o) (kk : ∀ b, S[b]? = some y → kf b = some o → V l G B N M R al mc ms Q S cells slots pc' lv (.ref b :: st) h) : V l G B N M R al mc ms Q S cells slots pc lv (.ref a :: st) h := by
  cases hb : gR h a k with
  | none => rw [hb] at hf; cases hf
  | some b =>
    rw [hb] at hf
    intro p ev s m args below meth cd C H locs ls w hll
    exact V_get hd e hc hk hl hs (fun _ B => by rw [hv B h a, hb]; rfl) (kk b (w.2.1.2 a k b (.inl c) y hs hy hb) hf) p ev s m args below meth cd C H locs ls w hll
theorem V_put {ix c k a : Nat} {v : Value} {h' : MH} (hd : decode M.2.2.1 pc = .ok (.putfield ix, 3)) (e : pc + 3 = pc') (hc : c < 12) (hk : k < (CLS c).2.2) (hl : Cond.fieldLink M.1 ix (fT c k).1 (fT c k).2.1 (fT c k).2.2.1 ∈ BIG) (hs : S[a]? = some (.inl c)) (hfin : (fT c k).2.2.2 = false ∨ ((fT c k).2.2.2 = true ∧ M.2.1.name = "<init>" ∧ (fT c k).1 = M.1))
    (hn : narrow (tyOf c k) (tr G B v) = tr G B v) (hfit : fits (tyOf c k) (tr G B v) = true) (hv' : fvl B (tyOf c k) h' a k = tr G B v) (ho : ∀ j, j ≠ k → ∀ ty, fvl B ty h' a j = fvl B ty h a j) (hoe : ∀ b, b ≠ a → ∀ y, ent B G.2.1 h' b y = ent B G.2.1 h b y) (hT : TY S h → TY S h')
    (kk : V l G B N M R al mc ms Q S cells slots pc' lv st h') : V l G B N M R al mc ms Q S cells slots pc lv (v :: .ref a :: st) h := by
  subst e
  intro p ev s m args below meth cd C H locs ls w hll
  have hP := w.1
  have hts := C.2.2.2.2.2.1
  have hK := C.2.2.2.2.2.2.1
  have hin := clsIn hc
  have hty := clsTy hc
  have hap := va_apart (own := M.1) hts hin (tyOf c) hty (clsNm hc) hK (clsAt hc)
  obtain ⟨r, h1, cell, q1, q2, q3, q4⟩ := hP a _ (wsO_at hs)
  have hr : r = ((CLS c).1, (CLS c).2.1, (CLS c).2.2) := Option.some.inj (h1.symm.trans (clsAt hc))
  subst hr
  obtain ⟨hS, hfc, kC, hkC, hkind⟩ := hK.1 c _ (clsAt hc)
  obtain ⟨cf, kf, fi, f, hi, hsl⟩ := hS k hk
  have hlay := hts _ (hin _ (u_in_lay hk))
  have hst := (u_facts hfc hkC (u_lays hts hin hk) hi).1
  have fin : ∀ (H' : Heap), H'[B + a]? = some (cell.setSlot f.slot (tr G B v)) → H'.size = H.size → (∀ q : Nat, q ≠ B + a → H'[q]? = H[q]?) → W p l ev R s m args below meth cd H' (locs ++ [⟨B + a, f.slot⟩]) cells slots (MQ below (QC G B N al Q) args s mc ms (AR B N s.heap.size)) (F0 m (pc + 3) ls (st.map (tr G B))) := by
    intro H' e1 e2 e3
    refine kk p ev s m args below meth cd C H' _ ls (WO_put w hs hoe (hT w.2.1) ?_ e2 e3) hll
    show va_at G.1 vwCl (B + a, .inr (c, (List.range (CLS c).2.2).map (fun j => fvl B (tyOf c j) h' a j))) H'
    rw [← fs_upd hv' ho]
    refine ⟨_, clsAt hc, t_OB.to (V := updV (vp_V ((List.range (CLS c).2.2).map (fun j => fvl B (tyOf c j) h a j))) k (tr G B v)) ⟨_, e1, q2, q3, ?_⟩ (fun j _ => vp_updV_set (by simpa using hk) (tr G B v) j)⟩
    rw [hsl]
    exact t_set q4 hap hk (tr G B v)
  rcases hfin with hfin | ⟨hfin, hini, hdecl⟩
  · unfold u_lay at hlay
    rw [if_neg (by rw [hfin]; decide)] at hlay
    have h6 := u_store hfc hkC hkind hlay hi (hty k hk) hn hfit
    exact W.putK C.1 C.2.1 (f := f) ⟨C.2.2.2.2.1, hts _ hl, ⟨_, _, _, hi⟩, hst⟩ (by rw [q2]; exact h6) q1 q3 (by rw [hsl]; exact k2_hasslot (q4 k hk)) rfl rfl hd fin
  · unfold u_lay at hlay
    rw [if_pos hfin] at hlay
    have hcf : m.cls = cf := by
      obtain ⟨_, _, c', _, _, _, -, -, hf', -, -, -, hown2, -⟩ := Cond.laysFinal_spec hlay
      have e1 : c' = cf := by have := hi.symm.trans hf'; simp at this; exact this.1.symm
      rw [hdecl] at hown2
      rw [← e1]; exact Option.some.inj (C.2.2.2.2.1.symm.trans hown2)
    have h6 := u_fits hfc hkC hkind (Or.inr hlay) hi (hty k hk) hn hfit
    exact W.putFinK C.1 C.2.1 C.2.2.2.2.1 (hts _ hl) hi hst hcf (C.2.2.2.2.2.2.2.2.2.1.trans hini) (by rw [q2]; exact h6) q1 q3 (by rw [hsl]; exact k2_hasslot (q4 k hk)) rfl rfl hd fin
theorem V_putI {ix a : Nat} {v : Int32} (c k : Nat) (hd : decode M.2.2.1 pc = .ok (.putfield ix, 3)) (e : pc + 3 = pc') (hc : c < 12) (hk : k < (CLS c).2.2) (hl : Cond.fieldLink M.1 ix (fT c k).1 (fT c k).2.1 (fT c k).2.2.1 ∈ BIG) (hs : S[a]? = some (.inl c)) (hfin : (fT c k).2.2.2 = false ∨ ((fT c k).2.2.2 = true ∧ M.2.1.name = "<init>" ∧ (fT c k).1 = M.1)) (hty : tyOf c k = .int) (kk : V l G B N M R al mc ms Q S cells slots pc' lv st (sI h a k v)) : V l G B N M R al mc ms Q S cells slots pc lv (.int v :: .ref a :: st) h :=
  V_put (c := c) (k := k) (v := .int v) hd e hc hk hl hs hfin (by rw [hty]; rfl) (by rw [hty]; rfl) (by rw [hty]; show Value.int _ = _; rw [gI_s]; rfl) fo_I ent_I TY_I kk
theorem V_putZ {ix a : Nat} {v : Int32} {β : Type} {o : β} {A1 : Option β} (c k : Nat) (hd : decode M.2.2.1 pc = .ok (.putfield ix, 3)) (e : pc + 3 = pc') (hc : c < 12) (hk : k < (CLS c).2.2) (hl : Cond.fieldLink M.1 ix (fT c k).1 (fT c k).2.1 (fT c k).2.2.1 ∈ BIG) (hs : S[a]? = some (.inl c)) (hfin : (fT c k).2.2.2 = false) (hty : tyOf c k = .boolean) (hf : (if v = 0 ∨ v = 1 then A1 else none) = some o) (kk : A1 = some o → V l G B N M R al mc ms Q S cells slots pc' lv st (sI h a k v)) : V l G B N M R al mc ms Q S cells slots pc lv (.int v :: .ref a :: st) h := by
  by_cases hb : v = 0 ∨ v = 1
  · rw [if_pos hb] at hf
    refine V_put (c := c) (k := k) (v := .int v) hd e hc hk hl hs (Or.inl hfin) ?_ ?_ (by rw [hty]; show Value.int _ = _; rw [gI_s]; rfl) fo_I ent_I TY_I (kk hf)
    · rw [hty]; rcases hb with rfl | rfl <;> rfl
    · rw [hty]; rcases hb with rfl | rfl <;> rfl
  · rw [if_neg hb] at hf; cases hf
theorem V_putL {ix a : Nat} {v : Int64} (c k : Nat) (hd : decode M.2.2.1 pc = .ok (.putfield ix, 3)) (e : pc + 3 = pc') (hc : c < 12) (hk : k < (CLS c).2.2) (hl : Cond.fieldLink M.1 ix (fT c k).1 (fT c k).2.1 (fT c k).2.2.1 ∈ BIG) (hs : S[a]? = some (.inl c)) (hfin : (fT c k).2.2.2 = false ∨ ((fT c k).2.2.2 = true ∧ M.2.1.name = "<init>" ∧ (fT c k).1 = M.1)) (hty : tyOf c k = .long) (kk : V l G B N M R al mc ms Q S cells slots pc' lv st (sL h a k v)) : V l G B N M R al mc ms Q S cells slots pc lv (.long v :: .ref a :: st) h :=
  V_put (c := c) (k := k) (v := .long v) hd e hc hk hl hs hfin (by rw [hty]; rfl) (by rw [hty]; rfl) (by rw [hty]; show Value.long _ = _; rw [gL_s]; rfl) fo_L ent_L TY_L kk
theorem V_putR {ix a b : Nat} {y : SHP} (c k : Nat) (hd : decode M.2.2.1 pc = .ok (.putfield ix, 3)) (e : pc + 3 = pc') (hc : c < 12) (hk : k < (CLS c).2.2) (hl : Cond.fieldLink M.1 ix (fT c k).1 (fT c k).2.1 (fT c k).2.2.1 ∈ BIG) (hs : S[a]? = some (.inl c)) (hfin : (fT c k).2.2.2 = false ∨ ((fT c k).2.2.2 = true ∧ M.2.1.name = "<init>" ∧ (fT c k).1 = M.1)) (hv : ∀ (B : Nat) (h : MH) (a : Nat), fvl B (tyOf c k) h a k = rfv B (gR h a k)) (hn : ∀ q : Nat, narrow (tyOf c k) (.ref q) = .ref q) (hfit : ∀ q : Nat, fits (tyOf c k) (.ref q) = true) (hy : fsh c k = some y) (hb : S[b]? = some y) (kk : V l G B N M R al mc ms Q S cells slots pc' lv st (sR h a k (some b))) : V l G B N M R al mc ms Q S cells slots pc lv (.ref b :: .ref a :: st) h :=
  V_put (c := c) (k := k) (v := .ref b) hd e hc hk hl hs hfin (hn _) (hfit _) (by rw [hv]; rw [gR_s]; rfl) fo_R ent_R (fun hT => TY_R hT hs hy hb) kk
end VH
