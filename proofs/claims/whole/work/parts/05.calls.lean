/-! ===== arrays, calls, returns ===== -/
theorem inb_of {i : Int32} {n : Nat} {β : Type} {A : Option β} {o : β} (hf : (if i < 0 ∨ n ≤ i.toNatClampNeg then none else A) = some o) : vp_in i n ∧ A = some o := by
  by_cases hb : i < 0 ∨ n ≤ i.toNatClampNeg
  · rw [if_pos hb] at hf; cases hf
  · rw [if_neg hb] at hf; exact ⟨hb, hf⟩
theorem bind_of {α β : Type} {x : Option α} {kf : α → Option β} {o : β} (hf : x.bind kf = some o) : ∃ v, x = some v ∧ kf v = some o := by
  cases x with
  | none => cases hf
  | some v => exact ⟨v, rfl, hf⟩
section VA
variable {l : Launch} {G : GE} {B N : Nat} {M : MI} {R : Room} {al : Bool} {mc ms : Nat} {Q : Option Value → List SHP → MH → Prop} {S : List SHP} {cells slots pc pc' : Nat} {lv lv' : List (Nat × Value)} {st : List Value} {h : MH} {β : Type} {o : β} {a : Nat}
theorem V_iald {kf : Int32 → Option β} {i : Int32} (hd : decode M.2.2.1 pc = .ok (.iaload, 1)) (e : pc + 1 = pc') (hs : S[a]? = some (.inr 0)) (hf : (ldI h a i).bind kf = some o) (kk : ∀ v, kf v = some o → V l G B N M R al mc ms Q S cells slots pc' lv (.int v :: st) h) : V l G B N M R al mc ms Q S cells slots pc lv (.int i :: .ref a :: st) h := by
  obtain ⟨v, h1, h2⟩ := bind_of hf
  obtain ⟨hin, h1⟩ := inb_of h1
  cases h1
  subst e
  intro p ev s m args below meth cd C H locs ls w hll
  exact va_iald C.1 C.2.1 C.2.2.2.2.2.2.1 w.1 a 0 (wsO_at hs) rfl hin hd (kk _ h2 p ev s m args below meth cd C H locs ls w hll)
theorem V_bald {kf : Int32 → Option β} {i : Int32} (hd : decode M.2.2.1 pc = .ok (.baload, 1)) (e : pc + 1 = pc') (hs : S[a]? = some (.inr 2)) (hf : (ldI h a i).bind kf = some o) (kk : ∀ v, kf v = some o → V l G B N M R al mc ms Q S cells slots pc' lv (.int v :: st) h) : V l G B N M R al mc ms Q S cells slots pc lv (.int i :: .ref a :: st) h := by
  obtain ⟨v, h1, h2⟩ := bind_of hf
  obtain ⟨hin, h1⟩ := inb_of h1
  cases h1
  subst e
  intro p ev s m args below meth cd C H locs ls w hll
  exact va_bald C.1 C.2.1 C.2.2.2.2.2.2.1 w.1 a 2 (wsO_at hs) rfl hin hd (kk _ h2 p ev s m args below meth cd C H locs ls w hll)
theorem V_lald {kf : Int64 → Option β} {i : Int32} (hd : decode M.2.2.1 pc = .ok (.laload, 1)) (e : pc + 1 = pc') (hs : S[a]? = some (.inr 1)) (hf : (ldL h a i).bind kf = some o) (kk : ∀ v, kf v = some o → V l G B N M R al mc ms Q S cells slots pc' lv (.long v :: st) h) : V l G B N M R al mc ms Q S cells slots pc lv (.int i :: .ref a :: st) h := by
  obtain ⟨v, h1, h2⟩ := bind_of hf
  obtain ⟨hin, h1⟩ := inb_of h1
  cases h1
  subst e
  intro p ev s m args below meth cd C H locs ls w hll
  exact va_lald C.1 C.2.1 C.2.2.2.2.2.2.1 w.1 a 1 (wsO_at hs) rfl hin hd (kk _ h2 p ev s m args below meth cd C H locs ls w hll)
theorem V_aald {kf : Nat → Option β} {i : Int32} (hd : decode M.2.2.1 pc = .ok (.aaload, 1)) (e : pc + 1 = pc') (hs : S[a]? = some (.inr 3)) (hf : (ldR h a i).bind kf = some o) (kk : ∀ b, S[b]? = some (.inl 7) → kf b = some o → V l G B N M R al mc ms Q S cells slots pc' lv (.ref b :: st) h) : V l G B N M R al mc ms Q S cells slots pc lv (.int i :: .ref a :: st) h := by
  obtain ⟨v, h1, h2⟩ := bind_of hf
  obtain ⟨hin, h1⟩ := inb_of h1
  subst e
  intro p ev s m args below meth cd C H locs ls w hll
  refine va_aldq C.1 C.2.1 C.2.2.2.2.2.2.1 w.1 a 3 (wsO_at hs) rfl hin hd ?_
  have := kk v (w.2.1.2 a _ v (.inr 3) (.inl 7) hs rfl h1) h2 p ev s m args below meth cd C H locs ls w hll
  rw [h1]
  exact this
theorem V_alen {t : Nat} (hd : decode M.2.2.1 pc = .ok (.arraylength, 1)) (e : pc + 1 = pc') (hs : S[a]? = some (.inr t)) (ht : t < 4) (kk : V l G B N M R al mc ms Q S cells slots pc' lv (.int (Int32.ofNat (gN h a)) :: st) h) : V l G B N M R al mc ms Q S cells slots pc lv (.ref a :: st) h := by
  subst e
  intro p ev s m args below meth cd C H locs ls w hll
  match t, ht with
  | 0, _ => exact va_alen C.1 C.2.1 C.2.2.2.2.2.2.1 w.1 a 0 (wsO_at hs) rfl rfl hd (kk p ev s m args below meth cd C H locs ls w hll)
  | 1, _ => exact va_alen C.1 C.2.1 C.2.2.2.2.2.2.1 w.1 a 1 (wsO_at hs) rfl rfl hd (kk p ev s m args below meth cd C H locs ls w hll)
  | 2, _ => exact va_alen C.1 C.2.1 C.2.2.2.2.2.2.1 w.1 a 2 (wsO_at hs) rfl rfl hd (kk p ev s m args below meth cd C H locs ls w hll)
  | 3, _ => exact va_alen C.1 C.2.1 C.2.2.2.2.2.2.1 w.1 a 3 (wsO_at hs) rfl rfl hd (kk p ev s m args below meth cd C H locs ls w hll)
theorem V_iast {kf : MH → Option β} {i x : Int32} (hd : decode M.2.2.1 pc = .ok (.iastore, 1)) (e : pc + 1 = pc') (hs : S[a]? = some (.inr 0)) (hf : (stI h a i x).bind kf = some o) (kk : ∀ h', kf h' = some o → V l G B N M R al mc ms Q S cells slots pc' lv st h') : V l G B N M R al mc ms Q S cells slots pc lv (.int x :: .int i :: .ref a :: st) h := by
  obtain ⟨h', h1, h2⟩ := bind_of hf
  obtain ⟨hin, h1⟩ := inb_of h1
  cases h1
  subst e
  intro p ev s m args below meth cd C H locs ls w hll
  have hP := w.1 a _ (wsO_at hs)
  refine W.iast C.1 C.2.1 hP ((C.2.2.2.2.2.2.1.2 0 _ rfl).1 _ (fun j => .int (gI h a j))) (fun q => by cases q) (by show ¬ (i < 0 ∨ (arrV _ _ _).slots.size ≤ _); rw [arrV_size]; exact hin) rfl rfl hd fun H1 e1 z oq => ?_
  refine kk _ h2 p ev s m args below meth cd C H1 _ ls (WO_put w hs ent_I (TY_I w.2.1) ?_ z oq) hll
  show H1[B + a]? = some (vp_cell _ _)
  rw [e1]
  show some (Cell.setSlot (vp_cell _ (gN h a, .inl (gI h a))) _ _) = some (vp_cell _ (gN h a, .inl (gI (sI h a i.toNatClampNeg x) a)))
  rw [vp_cell_i, vp_cell_i, arrV_store]
  congr 2
  funext q
  by_cases hq : q = i.toNatClampNeg
  · subst hq
    simp [updV, gI, sI, up2]
  · simp [updV, gI, sI, up2, hq]
theorem V_bast {kf : MH → Option β} {i x : Int32} (hd : decode M.2.2.1 pc = .ok (.bastore, 1)) (e : pc + 1 = pc') (hs : S[a]? = some (.inr 2)) (hf : (stB h a i x).bind kf = some o) (kk : ∀ h', kf h' = some o → V l G B N M R al mc ms Q S cells slots pc' lv st h') : V l G B N M R al mc ms Q S cells slots pc lv (.int x :: .int i :: .ref a :: st) h := by
  obtain ⟨h', h1, h2⟩ := bind_of hf
  obtain ⟨hin, h1⟩ := inb_of h1
  cases h1
  subst e
  intro p ev s m args below meth cd C H locs ls w hll
  have hP := w.1 a _ (wsO_at hs)
  refine W.bast C.1 C.2.1 hP ((C.2.2.2.2.2.2.1.2 2 _ rfl).1 _ (fun j => .int (gI h a j))) (fun q => by cases q) (by show ¬ (i < 0 ∨ (arrV _ _ _).slots.size ≤ _); rw [arrV_size]; exact hin) rfl rfl hd fun H1 e1 z oq => ?_
  refine kk _ h2 p ev s m args below meth cd C H1 _ ls (WO_put w hs ent_I (TY_I w.2.1) ?_ z oq) hll
  show H1[B + a]? = some (vp_cell _ _)
  rw [e1]
  show some (Cell.setSlot (vp_cell _ (gN h a, .inl (gI h a))) _ _) = some (vp_cell _ (gN h a, .inl (gI (sI h a i.toNatClampNeg x.toInt8.toInt32) a)))
  rw [vp_cell_i, vp_cell_i, arrV_store]
  congr 2
  funext q
  by_cases hq : q = i.toNatClampNeg
  · subst hq
    simp [updV, gI, sI, up2, narrow]
  · simp [updV, gI, sI, up2, hq]
theorem V_last {kf : MH → Option β} {i : Int32} {x : Int64} (hd : decode M.2.2.1 pc = .ok (.lastore, 1)) (e : pc + 1 = pc') (hs : S[a]? = some (.inr 1)) (hf : (stL h a i x).bind kf = some o) (kk : ∀ h', kf h' = some o → V l G B N M R al mc ms Q S cells slots pc' lv st h') : V l G B N M R al mc ms Q S cells slots pc lv (.long x :: .int i :: .ref a :: st) h := by
  obtain ⟨h', h1, h2⟩ := bind_of hf
  obtain ⟨hin, h1⟩ := inb_of h1
  cases h1
  subst e
  intro p ev s m args below meth cd C H locs ls w hll
  have hP := w.1 a _ (wsO_at hs)
  refine W.last C.1 C.2.1 hP ((C.2.2.2.2.2.2.1.2 1 _ rfl).1 _ (fun j => .long (gL h a j))) (fun q => by cases q) (by show ¬ (i < 0 ∨ (arrV _ _ _).slots.size ≤ _); rw [arrV_size]; exact hin) rfl rfl hd fun H1 e1 z oq => ?_
  refine kk _ h2 p ev s m args below meth cd C H1 _ ls (WO_put w hs ent_L (TY_L w.2.1) ?_ z oq) hll
  show H1[B + a]? = some (vp_cell _ _)
  rw [e1]
  show some (Cell.setSlot (vp_cell _ (gN h a, .inr (.inl (gL h a)))) _ _) = some (vp_cell _ (gN h a, .inr (.inl (gL (sL h a i.toNatClampNeg x) a))))
  rw [vp_cell_l, vp_cell_l, arrV_store]
  congr 2
  funext q
  by_cases hq : q = i.toNatClampNeg
  · subst hq
    simp [updV, gL, sL, up2]
  · simp [updV, gL, sL, up2, hq]
theorem V_aast {kf : MH → Option β} {i : Int32} {b : Nat} (hd : decode M.2.2.1 pc = .ok (.aastore, 1)) (e : pc + 1 = pc') (hs : S[a]? = some (.inr 3)) (hb : S[b]? = some (.inl 7)) (hf : (stR h a i b).bind kf = some o) (kk : ∀ h', kf h' = some o → V l G B N M R al mc ms Q S cells slots pc' lv st h') : V l G B N M R al mc ms Q S cells slots pc lv (.ref b :: .int i :: .ref a :: st) h := by
  obtain ⟨h', h1, h2⟩ := bind_of hf
  obtain ⟨hin, h1⟩ := inb_of h1
  cases h1
  subst e
  intro p ev s m args below meth cd C H locs ls w hll
  have hP := w.1 a _ (wsO_at hs)
  have hlt : i.toNatClampNeg < gN h a := Nat.not_le.mp fun q => hin (Or.inr q)
  have h0 : ¬ i < 0 := fun q => hin (Or.inl q)
  have hK := C.2.2.2.2.2.2.1
  obtain ⟨r', hr', cellV, g1, g2, g3, -⟩ := w.1 b _ (wsO_at hb)
  have hcls := (hK.1 7 _ (clsAt (by decide))).2
  obtain ⟨kA, comp, k1, k2, k3, -⟩ := (hK.2 3 _ rfl).2
  have hcomp : comp = G.1.1 7 := Option.some.inj (k3.symm.trans hcls.1)
  subst hcomp
  have hkk := hcls.2
  obtain ⟨kC, hkC, -⟩ := hkk
  refine W.aast C.1 C.2.1 hP (fun q h => by cases h) (fun h => by cases h) k1 k2 rfl hkC ⟨h0, by show _ < (arrV _ _ _).slots.size; rw [arrV_size]; exact hlt⟩ g1 (fun q h => by rw [g3] at h; cases h) (by rw [g2]; exact hkC) (by rw [g2]; exact va_assign hcls) rfl rfl hd fun H1 e1 z oq => ?_
  refine kk _ h2 p ev s m args below meth cd C H1 _ ls (WO_put w hs ent_R (TY_R w.2.1 hs rfl hb) ?_ z oq) hll
  show H1[B + a]? = some (vp_cell _ _)
  rw [e1]
  show some (Cell.setSlot (vp_cell _ (gN h a, .inr (.inr (.inr (.inr (fun j => (gR h a j).map (B + ·))))))) _ _) = some (vp_cell _ (gN h a, .inr (.inr (.inr (.inr (fun j => (gR (sR h a i.toNatClampNeg (some b)) a j).map (B + ·)))))))
  rw [vp_cell_q, vp_cell_q, arrV_store]
  congr 2
  funext q
  by_cases hq : q = i.toNatClampNeg
  · subst hq
    simp [updV, gR, sR, up2, va_rf]
  · simp [updV, gR, sR, up2, hq]
/-! returns -/
theorem V_iret {v : Int32} (hd : decode M.2.2.1 pc = .ok (.ireturn, 1)) (hr : M.2.2.2.2 = some .int) (hc : cells = mc) (hm : slots = ms) (hq : Q (some (.int v)) S h) : V l G B N M R al mc ms Q S cells slots pc lv [.int v] h := by
  subst hc; subst hm
  intro p ev s m args below meth cd C H locs ls w hll
  exact W.iret C.1 C.2.1 (C.2.2.1.trans hr) (fun t ht hW => ⟨some (.int v), S, h, rfl, hq, by rw [ht]; exact w.1, w.2.1, by rw [ht]; exact w.2.2.2.1, w.2.2.2.2.1, w.2.2.1.F ht⟩) w.2.2.1.2.2 hd C.2.2.2.2.2.2.2.2.1
theorem V_zret {v : Int32} {A1 : Option β} (hd : decode M.2.2.1 pc = .ok (.ireturn, 1)) (hr : M.2.2.2.2 = some .boolean) (hc : cells = mc) (hm : slots = ms) (hf : (if v = 0 ∨ v = 1 then A1 else none) = some o) (hq : A1 = some o → Q (some (.int v)) S h) : V l G B N M R al mc ms Q S cells slots pc lv [.int v] h := by
  subst hc; subst hm
  intro p ev s m args below meth cd C H locs ls w hll
  by_cases hb : v = 0 ∨ v = 1
  · rw [if_pos hb] at hf
    exact W.zret C.1 C.2.1 (C.2.2.1.trans hr) (by rcases hb with rfl | rfl <;> rfl) (fun t ht hW => ⟨some (.int v), S, h, rfl, hq hf, by rw [ht]; exact w.1, w.2.1, by rw [ht]; exact w.2.2.2.1, w.2.2.2.2.1, w.2.2.1.F ht⟩) w.2.2.1.2.2 hd C.2.2.2.2.2.2.2.2.1
  · rw [if_neg hb] at hf; cases hf
theorem V_lret {v : Int64} (hd : decode M.2.2.1 pc = .ok (.lreturn, 1)) (hr : M.2.2.2.2 = some .long) (hc : cells = mc) (hm : slots = ms) (hq : Q (some (.long v)) S h) : V l G B N M R al mc ms Q S cells slots pc lv [.long v] h := by
  subst hc; subst hm
  intro p ev s m args below meth cd C H locs ls w hll
  exact W.lret C.1 C.2.1 (C.2.2.1.trans hr) (fun t ht hW => ⟨some (.long v), S, h, rfl, hq, by rw [ht]; exact w.1, w.2.1, by rw [ht]; exact w.2.2.2.1, w.2.2.2.2.1, w.2.2.1.F ht⟩) w.2.2.1.2.2 hd C.2.2.2.2.2.2.2.2.1
theorem V_vret (hd : decode M.2.2.1 pc = .ok (.return_, 1)) (hr : M.2.2.2.2 = none) (hc : cells = mc) (hm : slots = ms) (hq : Q none S h) : V l G B N M R al mc ms Q S cells slots pc lv [] h := by
  subst hc; subst hm
  intro p ev s m args below meth cd C H locs ls w hll
  exact W.vret C.1 C.2.1 (C.2.2.1.trans hr) (fun t ht hW => ⟨none, S, h, rfl, hq, by rw [ht]; exact w.1, w.2.1, by rw [ht]; exact w.2.2.2.1, w.2.2.2.2.1, w.2.2.1.F ht⟩) w.2.2.1.2.2 hd C.2.2.2.2.2.2.2.2.1
theorem V_aret {b : Nat} {rt : FieldType} (hd : decode M.2.2.1 pc = .ok (.areturn, 1)) (hr : M.2.2.2.2 = some rt) (hrt : (∃ n, rt = .object n) ∨ ∃ t, rt = .array t) (hc : cells = mc) (hm : slots = ms) (hq : Q (some (.ref b)) S h) : V l G B N M R al mc ms Q S cells slots pc lv [.ref b] h := by
  subst hc; subst hm
  intro p ev s m args below meth cd C H locs ls w hll
  exact W.aret C.1 C.2.1 (C.2.2.1.trans hr) hrt (Or.inr ⟨_, rfl⟩) (fun t ht hW => ⟨some (.ref b), S, h, rfl, hq, by rw [ht]; exact w.1, w.2.1, by rw [ht]; exact w.2.2.2.1, w.2.2.2.2.1, w.2.2.1.F ht⟩) w.2.2.1.2.2 hd C.2.2.2.2.2.2.2.2.1
theorem V_widen {k n : Nat} (h1 : cells ≤ k) (h2 : slots ≤ n) (kk : V l G B N M R al mc ms Q S k n pc lv st h) : V l G B N M R al mc ms Q S cells slots pc lv st h := by
  intro p ev s m args below meth cd C H locs ls w hll
  exact W.widen h1 h2 (kk p ev s m args below meth cd C H locs ls w hll)
end VA
