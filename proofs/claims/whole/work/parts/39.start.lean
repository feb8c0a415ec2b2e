/-! ===== what holds at the law's start: classes, array classes, strings ===== -/
def tmS (i : Nat) : Term := Term.string RX8 ([45, 63, 86, 71, 96, 109, 111].getD i 0)
def saG (adK adV : Nat → Nat) (f : Nat) : Nat → Nat := fun j => if j < 100 then adK j else if j < 200 then adV (j - 100) else f
set_option maxRecDepth 100000 in
set_option maxHeartbeats 4000000 in
theorem law_str {s : State} {b : Nat} (hg : (Jvm.Cond.and given_1 narrow_1).before #[Value.ref b] s = true) : ∃ adK adV : Nat → Nat, vk_S 7 strLen strByt adK adV (fun q => s.heap.size ≤ q) s s.heap ∧ ∀ i : Nat, i < 7 → (tmS i).eval #[Value.ref b] s none [] s = some (.ref (adK i)) := by
  have hs := flat_of_before _ hg
  refine vk_Sof (tm := tmS) (len := strLen) (byt := strByt) (fun i hi => st_len31 i hi) ?_ ?_ ?_ ?_ ?_ ?_ (fun a h => Nat.not_le.mpr h)
  · intro i hi
    rcases (show i = 0 ∨ i = 1 ∨ i = 2 ∨ i = 3 ∨ i = 4 ∨ i = 5 ∨ i = 6 by omega) with rfl | rfl | rfl | rfl | rfl | rfl | rfl <;> exact hs _ (by decide +kernel)
  · intro i hi
    rcases (show i = 0 ∨ i = 1 ∨ i = 2 ∨ i = 3 ∨ i = 4 ∨ i = 5 ∨ i = 6 by omega) with rfl | rfl | rfl | rfl | rfl | rfl | rfl <;> exact hs _ (by decide +kernel)
  · intro i hi
    rcases (show i = 0 ∨ i = 1 ∨ i = 2 ∨ i = 3 ∨ i = 4 ∨ i = 5 ∨ i = 6 by omega) with rfl | rfl | rfl | rfl | rfl | rfl | rfl <;> exact hs _ (by decide +kernel)
  · intro i hi
    rcases (show i = 0 ∨ i = 1 ∨ i = 2 ∨ i = 3 ∨ i = 4 ∨ i = 5 ∨ i = 6 by omega) with rfl | rfl | rfl | rfl | rfl | rfl | rfl <;> exact hs _ (by decide +kernel)
  · intro i hi j hj
    rcases (show i = 0 ∨ i = 1 ∨ i = 2 ∨ i = 3 ∨ i = 4 ∨ i = 5 ∨ i = 6 by omega) with rfl | rfl | rfl | rfl | rfl | rfl | rfl
    · rcases (show j = 0 ∨ j = 1 ∨ j = 2 ∨ j = 3 ∨ j = 4 by simp [strLen] at hj; omega) with rfl | rfl | rfl | rfl | rfl <;> exact hs _ (by decide +kernel)
    · rcases (show j = 0 ∨ j = 1 ∨ j = 2 ∨ j = 3 by simp [strLen] at hj; omega) with rfl | rfl | rfl | rfl <;> exact hs _ (by decide +kernel)
    · rcases (show j = 0 ∨ j = 1 ∨ j = 2 ∨ j = 3 by simp [strLen] at hj; omega) with rfl | rfl | rfl | rfl <;> exact hs _ (by decide +kernel)
    · rcases (show j = 0 ∨ j = 1 ∨ j = 2 ∨ j = 3 by simp [strLen] at hj; omega) with rfl | rfl | rfl | rfl <;> exact hs _ (by decide +kernel)
    · rcases (show j = 0 ∨ j = 1 by simp [strLen] at hj; omega) with rfl | rfl <;> exact hs _ (by decide +kernel)
    · rcases (show j = 0 by simp [strLen] at hj; omega) with rfl; exact hs _ (by decide +kernel)
    · rcases (show j = 0 by simp [strLen] at hj; omega) with rfl; exact hs _ (by decide +kernel)
  · intro i j hi hj hne
    rcases (show i = 0 ∨ i = 1 ∨ i = 2 ∨ i = 3 ∨ i = 4 ∨ i = 5 ∨ i = 6 by omega) with rfl | rfl | rfl | rfl | rfl | rfl | rfl <;> rcases (show j = 0 ∨ j = 1 ∨ j = 2 ∨ j = 3 ∨ j = 4 ∨ j = 5 ∨ j = 6 by omega) with rfl | rfl | rfl | rfl | rfl | rfl | rfl <;> first | exact absurd rfl hne | exact Or.inl (hs _ (by decide +kernel)) | exact Or.inr (hs _ (by decide +kernel))
theorem law_K {s : State} {b : Nat} (hts : ∀ w ∈ BIG, w.before #[Value.ref b] s = true) (hao : (Cond.arrayOver (.object "LabelStacks$State")).before #[Value.ref b] s = true) : ∃ (D : va_G) (cid : Nat → ClassId), ∀ sa, va_K D vwCl (tysG (D, cid, sa)) s := by
  have hcl : ∀ k : Nat, ∃ q : ClassId × (Nat → Nat), ∀ r : vw_C, vwCl[k]? = some r → u_Kn s r.1 r.2.1 r.2.2 q.1 q.2 := by
    intro k
    by_cases hk : k < 12
    · have hi : Cond.instantiable (CLS k).1 (CLS k).2.2 ∈ BIG := by
        match k, hk with
        | 0, _ => exact big1 (by decide +kernel) (by decide +kernel)
        | 1, _ => exact big1 (by decide +kernel) (by decide +kernel)
        | 2, _ => exact big1 (by decide +kernel) (by decide +kernel)
        | 3, _ => exact big1 (by decide +kernel) (by decide +kernel)
        | 4, _ => exact big1 (by decide +kernel) (by decide +kernel)
        | 5, _ => exact big1 (by decide +kernel) (by decide +kernel)
        | 6, _ => exact big1 (by decide +kernel) (by decide +kernel)
        | 7, _ => exact big1 (by decide +kernel) (by decide +kernel)
        | 8, _ => exact big1 (by decide +kernel) (by decide +kernel)
        | 9, _ => exact big1 (by decide +kernel) (by decide +kernel)
        | 10, _ => exact big1 (by decide +kernel) (by decide +kernel)
        | 11, _ => exact big1 (by decide +kernel) (by decide +kernel)
      obtain ⟨cC, iS, h⟩ := u_known (C := (CLS k).1) (T := (CLS k).2.1) (N := (CLS k).2.2) hts (clsIn hk) (hts _ hi)
      refine ⟨(cC, iS), fun r hr => ?_⟩
      rw [clsAt hk] at hr
      cases hr
      exact h
    · refine ⟨(0, fun _ => 0), fun r hr => ?_⟩
      have := (List.getElem?_eq_some_iff.mp hr).1
      exact absurd this hk
  obtain ⟨d, hd⟩ := Classical.axiomOfChoice hcl
  obtain ⟨c0, k0, m0, f0, g0, e0⟩ := Cond.arrayClass_spec (hts _ bw_arrI)
  obtain ⟨c1, k1, m1, f1, g1, e1⟩ := Cond.arrayClass_spec (hts _ bw_arrJ)
  obtain ⟨c2, k2, m2, f2, g2, e2⟩ := Cond.arrayClass_spec (hts _ bw_arrB)
  obtain ⟨comp, c3, k3, h1, h2, h3, h4, h5⟩ := Cond.arrayOver_spec hao
  refine ⟨(fun k => (d k).1, fun k => (d k).2), fun t => if t = 0 then c0 else if t = 1 then c1 else if t = 2 then c2 else c3, fun sa => ⟨fun c q hq => hd c q hq, fun k q hq => ?_⟩⟩
  match k, hq with
  | 0, hq => cases hq; exact ⟨fun n z => ⟨fun k h => (by cases h), k0, g0, m0, e0⟩, f0⟩
  | 1, hq => cases hq; exact ⟨fun n z => ⟨fun k h => (by cases h), k1, g1, m1, e1⟩, f1⟩
  | 2, hq => cases hq; exact ⟨fun n z => ⟨fun k h => (by cases h), k2, g2, m2, e2⟩, f2⟩
  | 3, hq => cases hq; exact ⟨fun n z => ⟨fun k h => (by cases h), k3, h3, comp, h4⟩, k3, comp, h3, h4, h1, h5⟩
  | k + 4, hq => simp [tysG] at hq
theorem tbl_in (i : Nat) {w : Cond} (h : lw_tbl[i]? = some w) : w ∈ lw_tbl := List.mem_of_getElem? h
set_option maxRecDepth 100000 in
set_option maxHeartbeats 4000000 in
theorem law_env {p : Program} {s : State} {m : MethodId} {meth : Method} {c : Code} {b L : Nat} {xs : Nat → Int32} (C0 : lw_At p s m meth c b L xs) : (∀ w ∈ BIG, w.before #[Value.ref b] s = true) ∧ ∃ G : GE, va_K G.1 vwCl (tysG G) s ∧ SE G s.heap.size s := by
  obtain ⟨hx, hb, hr, hml, hown, hts, hX, hbl, hlocks, hgv⟩ := id C0
  have htb : ∀ w ∈ BIG, w.before #[Value.ref b] s = true := fun w hw => hts w (List.mem_filter.mp hw).1
  refine ⟨htb, ?_⟩
  have hs := flat_of_before _ hgv
  obtain ⟨adK, adV, hS, hE⟩ := law_str hgv
  have hao := hts _ (tbl_in 300 (w := Cond.arrayOver (.object "LabelStacks$State")) (by decide +kernel))
  obtain ⟨D, cid, hK⟩ := law_K htb hao
  have hA : ∀ a : Nat, a < s.heap.size → ¬ (fun q => s.heap.size ≤ q) a := fun a h => Nat.not_le.mpr h
  have hz1 : va_Z "java/lang/String" "COMPACT_STRINGS" "Z" (.int 1) (fun q => s.heap.size ≤ q) s s.heap := va_Zof (hts _ (tbl_in 1082 (by decide +kernel))) (hts _ (tbl_in 130 (by decide +kernel))) (va_eqi (hs _ (by decide +kernel))) hA
  have hz2 : va_Zq "jdk/internal/util/Preconditions" "SIOOBE_FORMATTER" "Ljava/util/function/BiFunction;" (fun q => s.heap.size ≤ q) s s.heap := va_Zqof (hts _ (tbl_in 1098 (by decide +kernel))) (hts _ (tbl_in 132 (by decide +kernel))) (hs _ (by decide +kernel)) hA
  obtain ⟨f, hf⟩ : ∃ f : Nat, va_Z "jdk/internal/util/Preconditions" "SIOOBE_FORMATTER" "Ljava/util/function/BiFunction;" .null (fun q => s.heap.size ≤ q) s s.heap ∨ va_Z "jdk/internal/util/Preconditions" "SIOOBE_FORMATTER" "Ljava/util/function/BiFunction;" (.ref f) (fun q => s.heap.size ≤ q) s s.heap := by
    rcases hz2 with z | ⟨t, z⟩
    · exact ⟨0, Or.inl z⟩
    · exact ⟨t, Or.inr z⟩
  have ek : ∀ i, i < 7 → saG adK adV f i = adK i := fun i hi => if_pos (by omega)
  have ev : ∀ i, i < 7 → saG adK adV f (100 + i) = adV i := fun i hi => by
    show (if 100 + i < 100 then _ else if 100 + i < 200 then adV (100 + i - 100) else f) = _
    rw [if_neg (by omega), if_pos (by omega), Nat.add_sub_cancel_left]
  refine ⟨(D, cid, saG adK adV f), hK _, ⟨?_, ?_, ?_⟩, va_AO.of hao, ?_, ⟨fun i hi => ?_, fun i j hi hj e => ?_⟩, hz1, ?_⟩
  · exact va_Nw.of rfl (hts _ (tbl_in 154 (by decide +kernel)))
  · exact va_Nw.of rfl (hts _ (tbl_in 237 (by decide +kernel)))
  · exact va_Nw.of rfl (hts _ (tbl_in 870 (by decide +kernel)))
  · intro q hq
    have e0 := hE 0 (by decide)
    have e1 := hE 1 (by decide)
    have e2 := hE 2 (by decide)
    have e3 := hE 3 (by decide)
    have e4 := hE 4 (by decide)
    have e5 := hE 5 (by decide)
    have e6 := hE 6 (by decide)
    simp only [strTab, List.mem_cons, List.not_mem_nil, or_false] at hq
    have mk : ∀ {own tx : String} {k j : Nat} (h1 : (Cond.stringRef own k tx).before #[Value.ref b] s = true) (h2 : (Term.string own k).eval #[Value.ref b] s none [] s = some (.ref (adK j))) (hj : j < 7), vk_R own k tx (saG adK adV f j) s := by
      intro own tx k j h1 h2 hj
      rw [ek j hj]
      exact ⟨(by first | exact h1 | (simp only [Cond.before, Cond.holds, Cond.value] at h1 ⊢; exact h1)), (Term.string_eval_of_vm (args := #[Value.ref b]) (args' := #[]) (U := s) (V := s) rfl).trans h2⟩
    rcases hq with rfl | rfl | rfl | rfl | rfl | rfl | rfl | rfl | rfl | rfl | rfl | rfl | rfl | rfl
    · exact mk (hts _ (tbl_in 1064 (by decide +kernel))) e0 (by decide)
    · exact mk (hts _ (tbl_in 1147 (by decide +kernel))) e1 (by decide)
    · exact mk (hts _ (tbl_in 1152 (by decide +kernel))) e2 (by decide)
    · exact mk (hts _ (tbl_in 1154 (by decide +kernel))) e3 (by decide)
    · exact mk (hts _ (tbl_in 1159 (by decide +kernel))) e4 (by decide)
    · exact mk (hts _ (tbl_in 1168 (by decide +kernel))) e5 (by decide)
    · exact mk (hts _ (tbl_in 1169 (by decide +kernel))) e6 (by decide)
    · exact mk (hts _ (tbl_in 1739 (by decide +kernel))) (va_eqR (hs _ (by decide +kernel)) e0) (by decide)
    · exact mk (hts _ (tbl_in 1782 (by decide +kernel))) (va_eqR (hs _ (by decide +kernel)) e1) (by decide)
    · exact mk (hts _ (tbl_in 1787 (by decide +kernel))) (va_eqR (hs _ (by decide +kernel)) e2) (by decide)
    · exact mk (hts _ (tbl_in 1788 (by decide +kernel))) (va_eqR (hs _ (by decide +kernel)) e3) (by decide)
    · exact mk (hts _ (tbl_in 1793 (by decide +kernel))) (va_eqR (hs _ (by decide +kernel)) e4) (by decide)
    · exact mk (hts _ (tbl_in 1798 (by decide +kernel))) (va_eqR (hs _ (by decide +kernel)) e5) (by decide)
    · exact mk (hts _ (tbl_in 1799 (by decide +kernel))) (va_eqR (hs _ (by decide +kernel)) e6) (by decide)
  · have h := hS.1 i hi
    show va_O "java/lang/String" (saG adK adV f i) _ s s.heap ∧ va_OF "java/lang/String" "coder" "B" (.int 0) (saG adK adV f i) _ s s.heap ∧ va_OF "java/lang/String" "value" "[B" (.ref (saG adK adV f (100 + i))) (saG adK adV f i) _ s s.heap ∧ va_T .byte (saG adK adV f (100 + i)) _ _ _ s s.heap
    rw [ek i hi, ev i hi]
    exact h
  · have e' : saG adK adV f i = saG adK adV f j := e
    rw [ek i hi, ek j hj] at e'
    exact hS.2 i j hi hj e'
  · exact hf
