/-! ===== the class's writer: the plan ===== -/
def prX (h : MH) (j : Nat) (y : Option TR) : Prop := match y with
  | none => gI h 180 j = nI 1000
  | some z => gI h 180 j = nI z.1 ∧ gI h 181 j = nI z.2.2 ∧ gI h 182 j = nI z.2.1
def okT (y : Option TR) : Prop := ∀ z, y = some z → z.1 ≤ 12 ∧ z.2.1 ≤ 17 ∧ z.2.2 < 300 ∧ 1 ≤ z.2.1 ∧ 1 ≤ z.1
def fwv (y : Option TR) : Nat := match y with
  | none => 1000
  | some z => z.1
theorem prX.fw {h : MH} {j : Nat} {y : Option TR} (p : prX h j y) : gI h 180 j = nI (fwv y) := by
  cases y with
  | none => exact p
  | some z => exact p.1
theorem prX.cg {h h' : MH} {j : Nat} {y : Option TR} (hg : ∀ a, gI h' a j = gI h a j) (p : prX h j y) : prX h' j y := by
  cases y with
  | none => show gI h' 180 j = _; rw [hg]; exact p
  | some z =>
    obtain ⟨p1, p2, p3⟩ := p
    exact ⟨by rw [hg]; exact p1, by rw [hg]; exact p2, by rw [hg]; exact p3⟩
/-- the places from i on -/
def xrep (h : MH) (i : Nat) (ys : List (Option TR)) : Prop := (∀ j, j < ys.length → prX h (i + j) (ys.getD j none) ∧ okT (ys.getD j none)) ∧ gI h 180 (i + ys.length) = nI 0
section WP
variable {h : MH} {r : Nat} {t : NT} {B : Nat → Option (Nat × List Nat)}
theorem XL.w180 (L : XL h) : gN h 180 = 17 := L.2.2.2.2.2.2.2.2.2.2.1.2.2.2.2.2.1
theorem XL.w181 (L : XL h) : gN h 181 = 17 := L.2.2.2.2.2.2.2.2.2.2.1.2.2.2.2.2.2.1
theorem XL.w182 (L : XL h) : gN h 182 = 17 := L.2.2.2.2.2.2.2.2.2.2.1.2.2.2.2.2.2.2
theorem XL.w179 (L : XL h) : gN h 179 = 16 := L.2.2.2.2.2.2.2.2.2.2.1.2.2.2.2.1
theorem offs_is {zs : List (Option TR)} {c : Nat} (hc : 1 ≤ c) (hc2 : c ≤ zs.length + 1) : (c = zs.length + 1 ∧ offs zs c = some 0) ∨ (c ≤ zs.length ∧ ∃ y, zs.getD (c - 1) none = y ∧ offs zs c = (match y with
  | some z => some z.1
  | none => none)) := by
  unfold offs
  by_cases q : c = zs.length + 1
  · exact Or.inl ⟨q, if_pos q⟩
  · refine Or.inr ⟨by omega, _, rfl, ?_⟩
    rw [if_neg q]
    cases zs.getD (c - 1) none <;> rfl
theorem x_fwAt {i c : Nat} {zs : List (Option TR)} (R : xrep h (i + 1) zs) (hc : 1 ≤ c) (hc2 : c ≤ zs.length + 1) : gI h 180 (i + c) = nI (match offs zs c with
  | some f => f
  | none => 1000) := by
  rcases offs_is hc hc2 with ⟨e, o⟩ | ⟨e, y, ey, o⟩
  · rw [o, e, show i + (zs.length + 1) = i + 1 + zs.length by omega]; exact R.2
  · rw [o]
    have := (R.1 (c - 1) (by omega)).1
    rw [ey, show i + 1 + (c - 1) = i + c by omega] at this
    cases y with
    | none => exact this
    | some z => exact this.1
theorem offs_bd {zs : List (Option TR)} {c f : Nat} (ok : ∀ j, j < zs.length → okT (zs.getD j none)) (hc : 1 ≤ c) (hc2 : c ≤ zs.length + 1) (e : offs zs c = some f) : f ≤ 12 := by
  rcases offs_is hc hc2 with ⟨_, o⟩ | ⟨e1, y, ey, o⟩
  · rw [o] at e; have := Option.some.inj e; omega
  · rw [o] at e
    have := ok (c - 1) (by omega)
    rw [ey] at this
    cases y with
    | none => cases e
    | some z => rw [← Option.some.inj e]; exact (this z rfl).1
theorem x_offer {i c lab g D : Nat} {zs : List (Option TR)} {cur : Option TR} {S : TR → Prop} (L : XL h) (eE : gI h 178 1 = nI (i + 1 + zs.length)) (eD : gI h 178 2 = nI D) (hD : D ≤ 12) (h16 : i + 1 + zs.length ≤ 16) (R : xrep h (i + 1) zs) (C : prX h i cur) (okc : okT cur) (hc : c ≤ 16) (hlab : lab < 300) (hg : 1 ≤ g) (hg2 : g ≤ 12) (hb : isBest S cur) : ∃ h' cur', f_X9_offer 178 (nI i) (nI c) (nI lab) (nI g) h = some h' ∧ frm [180, 181, 182] h h' ∧ (∀ a j, j ≠ i → gI h' a j = gI h a j) ∧ prX h' i cur' ∧ okT cur' ∧ isBest (fun x => S x ∨ totL D zs g c lab x) cur' := by
  -- nothing comes of it
  have same : (∀ x, ¬ totL D zs g c lab x) → f_X9_offer 178 (nI i) (nI c) (nI lab) (nI g) h = some h → ∃ h' cur', f_X9_offer 178 (nI i) (nI c) (nI lab) (nI g) h = some h' ∧ frm [180, 181, 182] h h' ∧ (∀ a j, j ≠ i → gI h' a j = gI h a j) ∧ prX h' i cur' ∧ okT cur' ∧ isBest (fun x => S x ∨ totL D zs g c lab x) cur' := fun hn e =>
    ⟨h, cur, e, frm.rf, fun _ _ _ => rfl, C, okc, isBest_cg (fun x => ⟨Or.inl, fun z => z.elim id (fun z => absurd z (hn x))⟩) hb⟩
  by_cases c0 : c = 0
  · refine same (fun x z => by have := z.1; omega) ?_
    unfold f_X9_offer
    rw [if_pos (by rw [c0]; decide)]
  · have l1 : ¬ nI c < 1 := nI_nlt (b := 1) (by omega) (by omega)
    by_cases c1 : zs.length + 1 < c
    · refine same (fun x z => by have := z.2.1; omega) ?_
      unfold f_X9_offer
      rw [if_neg l1, eE, nI_add, if_pos (nI_lt (by omega) (by omega))]
    · have l2 : ¬ nI (i + 1 + zs.length) < nI (i + c) := nI_nlt (by omega) (by omega)
      have hf := x_fwAt R (c := c) (by omega) (by omega)
      have q1 : ldI h 180 (nI (i + c)) = some (gI h 180 (i + c)) := ldI_ok (by rw [L.w180]; omega) (by omega)
      have q2 : ldI h 180 (nI i) = some (nI (fwv cur)) := by rw [ldI_ok (by rw [L.w180]; omega) (by omega), C.fw]
      have q3 : ldI h 181 (nI i) = some (gI h 181 i) := ldI_ok (by rw [L.w181]; omega) (by omega)
      have q4 : ldI h 182 (nI i) = some (gI h 182 i) := ldI_ok (by rw [L.w182]; omega) (by omega)
      cases eo : offs zs c with
      | none =>
        rw [eo] at hf
        have hf : gI h 180 (i + c) = nI 1000 := hf
        refine same (fun x z => by obtain ⟨_, _, f, z3, _⟩ := z; rw [eo] at z3; cases z3) ?_
        unfold f_X9_offer
        rw [if_neg l1, eE, nI_add, if_neg l2, L.i3, Option.bind_some, q1, Option.bind_some, hf, eD, nI_add, if_pos (nI_lt (by omega) (by omega))]
      | some f =>
        rw [eo] at hf
        have hf : gI h 180 (i + c) = nI f := hf
        have hfb := offs_bd (fun j hj => (R.1 j hj).2) (by omega) (by omega) eo
        by_cases c2 : D < f + g
        · refine same (fun x z => by obtain ⟨_, _, f', z3, z4, _⟩ := z; rw [eo] at z3; have := Option.some.inj z3; omega) ?_
          unfold f_X9_offer
          rw [if_neg l1, eE, nI_add, if_neg l2, L.i3, Option.bind_some, q1, Option.bind_some, hf, eD, nI_add, if_pos (nI_lt (by omega) (by omega))]
        · have l3 : ¬ nI D < nI (f + g) := nI_nlt (by omega) (by omega)
          have htot : ∀ x, totL D zs g c lab x ↔ x = (f + 1, c, lab) := fun x => by
            constructor
            · rintro ⟨_, _, f', z3, z4, z5⟩
              rw [eo] at z3
              rw [z5, ← Option.some.inj z3]
            · rintro rfl
              exact ⟨by omega, by omega, f, eo, by omega, rfl⟩
          have hcg : ∀ cur', isBest (fun x => S x ∨ x = (f + 1, c, lab)) cur' → isBest (fun x => S x ∨ totL D zs g c lab x) cur' := fun cur' z => isBest_cg (fun x => by rw [htot x]) z
          have pre : f_X9_offer 178 (nI i) (nI c) (nI lab) (nI g) h = (if nI (fwv cur) < nI (f + 1) then some h else if nI (f + 1) = nI (fwv cur) then (if nI c < gI h 182 i then some h else if nI c = gI h 182 i then (if gI h 181 i < nI lab then some h else f_X9_offer_100 178 (nI i) (nI c) (nI lab) (nI (f + 1)) h) else f_X9_offer_100 178 (nI i) (nI c) (nI lab) (nI (f + 1)) h) else f_X9_offer_100 178 (nI i) (nI c) (nI lab) (nI (f + 1)) h) := by
            unfold f_X9_offer
            rw [if_neg l1, eE, nI_add, if_neg l2]
            simp only [L.i3, L.i4, L.i5, Option.bind_some, q1, q2, q3, q4, hf, eD, lt_def, nI_1, nI_add, if_neg l3]
          have keep : ∀ z, cur = some z → ¬ bet (f + 1, c, lab) z → f_X9_offer 178 (nI i) (nI c) (nI lab) (nI g) h = some h → ∃ h' cur', f_X9_offer 178 (nI i) (nI c) (nI lab) (nI g) h = some h' ∧ frm [180, 181, 182] h h' ∧ (∀ a j, j ≠ i → gI h' a j = gI h a j) ∧ prX h' i cur' ∧ okT cur' ∧ isBest (fun x => S x ∨ totL D zs g c lab x) cur' := fun z ez hz e =>
            ⟨h, cur, e, frm.rf, fun _ _ _ => rfl, C, okc, hcg _ (by rw [ez] at hb ⊢; exact isBest_old hb hz)⟩
          have set : (∀ z, cur = some z → ¬ bet z (f + 1, c, lab)) → f_X9_offer 178 (nI i) (nI c) (nI lab) (nI g) h = f_X9_offer_100 178 (nI i) (nI c) (nI lab) (nI (f + 1)) h → ∃ h' cur', f_X9_offer 178 (nI i) (nI c) (nI lab) (nI g) h = some h' ∧ frm [180, 181, 182] h h' ∧ (∀ a j, j ≠ i → gI h' a j = gI h a j) ∧ prX h' i cur' ∧ okT cur' ∧ isBest (fun x => S x ∨ totL D zs g c lab x) cur' := fun hz e => by
            refine ⟨sI (sI (sI h 180 i (nI (f + 1))) 181 i (nI lab)) 182 i (nI c), some (f + 1, c, lab), ?_, frm.sI (by decide) (frm.sI (by decide) (frm.sI (by decide) frm.rf)), fun a j hj => by rw [gI_sI_nk hj, gI_sI_nk hj, gI_sI_nk hj], ⟨?_, ?_, ?_⟩, fun z ez => ?_, hcg _ (isBest_new hb hz)⟩
            · rw [e]
              unfold f_X9_offer_100
              rw [L.i3, Option.bind_some, stI_ok (by rw [L.w180]; omega) (by omega), Option.bind_some, show gR (sI h 180 i (nI (f + 1))) 178 4 = some 181 from L.i4, Option.bind_some, stI_ok (by rw [gN_sI, L.w181]; omega) (by omega), Option.bind_some, show gR (sI (sI h 180 i (nI (f + 1))) 181 i (nI lab)) 178 5 = some 182 from L.i5, Option.bind_some, stI_ok (by rw [gN_sI, gN_sI, L.w182]; omega) (by omega), Option.bind_some]
            · rw [gI_sI_ne (by decide), gI_sI_ne (by decide), gI_s]
            · rw [gI_sI_ne (by decide), gI_s]
            · rw [gI_s]
            · rw [← Option.some.inj ez]
              exact ⟨by dsimp only; omega, by dsimp only; omega, hlab, by dsimp only; omega, by dsimp only; omega⟩
          cases hcur : cur with
          | none =>
            rw [hcur] at pre
            have e1 : fwv (none : Option TR) = 1000 := rfl
            rw [e1, if_neg (nI_nlt (by omega) (by omega)), if_neg (fun z => by have := nI_inj (by omega) (by omega) z; omega)] at pre
            have := set (fun z ez => by rw [hcur] at ez; cases ez) pre
            exact this
          | some z =>
            rw [hcur] at pre C okc
            obtain ⟨o1, o2, o3, o4, o5⟩ := okc z rfl
            obtain ⟨p1, p2, p3⟩ := C
            have e1 : fwv (some z) = z.1 := rfl
            rw [e1, p2, p3] at pre
            by_cases d1 : z.1 < f + 1
            · rw [if_pos (nI_lt d1 (by omega))] at pre
              exact keep z hcur (by unfold bet; dsimp only; omega) pre
            · rw [if_neg (nI_nlt (by omega) (by omega))] at pre
              by_cases d2 : f + 1 = z.1
              · rw [if_pos (by rw [d2])] at pre
                by_cases d3 : c < z.2.1
                · rw [if_pos (nI_lt d3 (by omega))] at pre
                  exact keep z hcur (by unfold bet; dsimp only; omega) pre
                · rw [if_neg (nI_nlt (by omega) (by omega))] at pre
                  by_cases d4 : c = z.2.1
                  · rw [if_pos (by rw [d4])] at pre
                    by_cases d5 : z.2.2 < lab
                    · rw [if_pos (nI_lt d5 (by omega))] at pre
                      exact keep z hcur (by unfold bet; dsimp only; omega) pre
                    · rw [if_neg (nI_nlt (by omega) (by omega))] at pre
                      exact set (fun z' ez => by rw [hcur] at ez; rw [← Option.some.inj ez]; unfold bet; dsimp only; omega) pre
                  · rw [if_neg (fun q => d4 (nI_inj (by omega) (by omega) q))] at pre
                    exact set (fun z' ez => by rw [hcur] at ez; rw [← Option.some.inj ez]; unfold bet; dsimp only; omega) pre
              · rw [if_neg (fun q => d2 (nI_inj (by omega) (by omega) q))] at pre
                exact set (fun z' ez => by rw [hcur] at ez; rw [← Option.some.inj ez]; unfold bet; dsimp only; omega) pre
/-- one place is written -/
theorem x_writeFrom {i l D u e : Nat} {ls : List Nat} {zs : List (Option TR)} (w : wfN t) (wB : wfB t B) (E : WE h r t B) (hr : r + 2 < 178) (hL : lrep (gI h 179) i (l :: ls)) (h16 : i + 1 + ls.length ≤ 16) (hzl : zs.length = ls.length) (eE : gI h 178 1 = nI (i + 1 + ls.length)) (eD : gI h 178 2 = nI D) (hD : D ≤ 12) (hch : chF t u (l :: ls) e) (R : xrep h (i + 1) zs) : Ev (f_X9_writeFrom 178 2 r (nI i) h) (fun h' => ∃ y, frm [180, 181, 182] h h' ∧ (∀ a j, j ≠ i → gI h' a j = gI h a j) ∧ prX h' i y ∧ okT y ∧ isBest (candS t B D l ls zs) y) := by
  have hn10 := w.2.1
  have hm30 := w.2.2.1
  have L := E.1
  have hl := hch.1
  have hFl : nF t l = u := hch.2.1
  have hu : u < nN t := by rw [← hFl]; exact (w.2.2.2 l hl).1
  have hlen : (l :: ls).length = ls.length + 1 := rfl
  unfold f_X9_writeFrom
  rw [L.i3, Option.bind_some, stI_ok (by rw [L.w180]; omega) (by omega), Option.bind_some, show gR (sI h 180 i 1000) 178 4 = some 181 from L.i4, Option.bind_some, stI_ok (by rw [gN_sI, L.w181]; omega) (by omega), Option.bind_some, show gR (sI (sI h 180 i 1000) 181 i (-1)) 178 5 = some 182 from L.i5, Option.bind_some, stI_ok (by rw [gN_sI, gN_sI, L.w182]; omega) (by omega), Option.bind_some]
  generalize hh : sI (sI (sI h 180 i 1000) 181 i (-1)) 182 i 0 = h0
  have f0 : frm [180, 181, 182] h h0 := by rw [← hh]; exact frm.sI (by decide) (frm.sI (by decide) (frm.sI (by decide) frm.rf))
  have g0 : ∀ a j, j ≠ i → gI h0 a j = gI h a j := fun a j hj => by rw [← hh, gI_sI_nk hj, gI_sI_nk hj, gI_sI_nk hj]
  have c0 : prX h0 i none := by
    show gI h0 180 i = nI 1000
    rw [← hh, gI_sI_ne (by decide), gI_sI_ne (by decide), gI_s]; rfl
  -- what every later heap has
  have up : ∀ h1, frm [180, 181, 182] h h1 → (∀ a j, j ≠ i → gI h1 a j = gI h a j) → WE h1 r t B ∧ gI h1 178 1 = nI (i + 1 + zs.length) ∧ gI h1 178 2 = nI D ∧ xrep h1 (i + 1) zs ∧ lrep (gI h1 179) i (l :: ls) := fun h1 f g => by
    refine ⟨E.fr f (by decide) hr, ?_, ?_, ⟨fun j hj => ⟨(R.1 j hj).1.cg (fun a => g a _ (by omega)), (R.1 j hj).2⟩, by rw [g 180 _ (by omega)]; exact R.2⟩, ?_⟩
    · rw [f.1 178 (by decide), hzl]; exact eE
    · rw [f.1 178 (by decide)]; exact eD
    · rw [f.1 179 (by decide)]; exact hL
  obtain ⟨E0, eE0, eD0, R0, hL0⟩ := up h0 f0 g0
  rw [x_nodeReach w E0 hL0 (by rw [hlen]; omega) (by rw [eE0, hzl, hlen]; congr 1; omega) hch hu (by rw [hlen]; omega), Option.bind_some]
  dsimp only
  have hrl := nr_le (t := t) (u := u) (ls := l :: ls) (s := 0)
  rw [hlen] at hrl
  unfold f_X9_writeFrom_35
  refine Ev_FU (fun m p h1 => ∃ c cur, c + m = nr t u 0 (l :: ls) + 1 ∧ 1 ≤ c ∧ p = nI c ∧ frm [180, 181, 182] h h1 ∧ (∀ a j, j ≠ i → gI h1 a j = gI h a j) ∧ prX h1 i cur ∧ okT cur ∧ isBest (fun x => ∃ c', 1 ≤ c' ∧ c' < c ∧ totL D zs 1 c' (nT t ((l :: ls).getD (c' - 1) 0)) x) cur) (nr t u 0 (l :: ls)) 1 h0 (by omega) ⟨1, none, by omega, Nat.le_refl _, rfl, f0, g0, c0, fun z ez => (by cases ez), fun x z => by obtain ⟨c', z1, z2, _⟩ := z; omega⟩ ?_
  rintro m p h1 rec ⟨c, cur, hcm, hc1, rfl, f1, g1, C1, okc1, hb1⟩ ih
  obtain ⟨E1, eE1, eD1, R1, hL1⟩ := up h1 f1 g1
  have L1 := E1.1
  unfold f_X9_writeFrom_35b
  by_cases q : nr t u 0 (l :: ls) < c
  · have hc' : c = nr t u 0 (l :: ls) + 1 := by omega
    rw [if_pos (nI_lt q (by omega)), L1.i0, Option.bind_some]
    have hli := w_link E1 hL1 (k := 0) (by rw [hlen]; omega) (by rw [hlen]; omega)
    rw [Nat.add_zero] at hli
    have hli : ldI h1 179 (nI i) = some (nI l) := hli
    rw [hli, Option.bind_some, w_isUp w E1 hl, Option.bind_some]
    -- the bindings
    have tail : ∀ h2 cur2, frm [180, 181, 182] h h2 → (∀ a j, j ≠ i → gI h2 a j = gI h a j) → prX h2 i cur2 → okT cur2 → isBest (fun x => (∃ c', 1 ≤ c' ∧ c' < c ∧ totL D zs 1 c' (nT t ((l :: ls).getD (c' - 1) 0)) x) ∨ (nU t l = true ∧ totL D zs 1 1 (100 + l) x)) cur2 → Ev (f_X9_writeFrom_100 178 2 r (nI i) h2) (fun h' => ∃ y, frm [180, 181, 182] h h' ∧ (∀ a j, j ≠ i → gI h' a j = gI h a j) ∧ prX h' i y ∧ okT y ∧ isBest (candS t B D l ls zs) y) := fun h2 cur2 f2 g2 C2 okc2 hb2 => by
      obtain ⟨E2, eE2, eD2, R2, hL2⟩ := up h2 f2 g2
      unfold f_X9_writeFrom_100
      have hli := w_link E2 hL2 (k := 0) (by rw [hlen]; omega) (by rw [hlen]; omega)
      rw [Nat.add_zero] at hli
      have hli : ldI h2 179 (nI i) = some (nI l) := hli
      rw [E2.1.i0, Option.bind_some, hli, Option.bind_some, w_fromOf w E2 hl, Option.bind_some, hFl]
      dsimp only
      unfold f_X9_writeFrom_115
      refine Ev_FU (fun m p h3 => ∃ b cur3, b + m = 6 ∧ p = nI b ∧ frm [180, 181, 182] h h3 ∧ (∀ a j, j ≠ i → gI h3 a j = gI h a j) ∧ prX h3 i cur3 ∧ okT cur3 ∧ isBest (fun x => ((∃ c', 1 ≤ c' ∧ c' < c ∧ totL D zs 1 c' (nT t ((l :: ls).getD (c' - 1) 0)) x) ∨ (nU t l = true ∧ totL D zs 1 1 (100 + l) x)) ∨ ∃ b' y, b' < b ∧ B b' = some y ∧ y.1 = u ∧ totL D zs y.2.length (cvd (pkt t B u y.2) (l :: ls)) (200 + b') x) cur3) 6 0 h2 (by omega) ⟨0, cur2, by omega, rfl, f2, g2, C2, okc2, isBest_cg (fun x => ⟨Or.inl, fun z => z.elim id (fun z => by obtain ⟨b', y, z1, _⟩ := z; omega)⟩) hb2⟩ ?_
      rintro m p h3 rec ⟨b, cur3, hbm, rfl, f3, g3, C3, okc3, hb3⟩ ih
      obtain ⟨E3, eE3, eD3, R3, hL3⟩ := up h3 f3 g3
      unfold f_X9_writeFrom_115b f_X9_writeFrom_164
      by_cases qb : b < 6
      · have XB := E3.2.1.2.2.2.2 b qb
        rw [if_pos (show nI b < 6 from (nI_ltI (b := 6) (by omega) (by decide)).mpr qb), E3.1.n6, Option.bind_some, ldI_ok (by rw [E3.1.z6]; omega) (by omega), Option.bind_some, nI_1]
        have skip : (∀ y, B b = some y → y.1 ≠ u) → Ev (rec (nI (b + 1)) h3) (fun h' => ∃ y, frm [180, 181, 182] h h' ∧ (∀ a j, j ≠ i → gI h' a j = gI h a j) ∧ prX h' i y ∧ okT y ∧ isBest (candS t B D l ls zs) y) := fun hno => by
          refine ih (m - 1) _ _ (by omega) ⟨b + 1, cur3, by omega, rfl, f3, g3, C3, okc3, isBest_cg (fun x => ?_) hb3⟩
          refine or_congr Iff.rfl ⟨?_, ?_⟩
          · rintro ⟨b', y, z1, z2⟩; exact ⟨b', y, by omega, z2⟩
          · rintro ⟨b', y, z1, z2, z3, z4⟩
            by_cases qq : b' = b
            · rw [qq] at z2; exact absurd z3 (hno y z2)
            · exact ⟨b', y, by omega, z2, z3, z4⟩
        cases eB : B b with
        | none =>
          rw [show gI h3 6 b = -1 from XB.1 eB, if_neg (fun z => nI_m1 (by omega) z.symm)]
          exact skip (fun y hy => by rw [eB] at hy; cases hy)
        | some y =>
          obtain ⟨b1, b2, b3, b4⟩ := wB b qb y eB
          obtain ⟨y1, y2, y3⟩ := XB.2 y eB
          rw [show gI h3 6 b = nI y.1 from y1]
          by_cases cu : y.1 = u
          · have hcl := cvd_le (r := pkt t B u y.2) (ls := l :: ls)
            rw [hlen] at hcl
            rw [if_pos (by rw [cu]), x_bindingReach w wB E3 hL3 (by rw [hlen]; omega) (by rw [hlen]; omega) (by rw [eE3, hzl, hlen]; congr 1; omega) hch hu qb eB, Option.bind_some]
            dsimp only
            rw [E3.1.n7, Option.bind_some, E3.1.p7, Option.bind_some, ldI_ok (by rw [E3.1.z8]; omega) (by omega), Option.bind_some, show gI h3 8 b = nI y.2.length from y2, show (200 : Int32) + nI b = nI (200 + b) from nI_add 200 b]
            obtain ⟨h4, cur4, e4, f4, g4, C4, okc4, hb4⟩ := x_offer (c := cvd (pkt t B u y.2) (l :: ls)) (lab := 200 + b) (g := y.2.length) E3.1 eE3 eD3 hD (by omega) R3 C3 okc3 (by omega) (by omega) b2 (by omega) hb3
            rw [e4, Option.bind_some]
            refine ih (m - 1) _ _ (by omega) ⟨b + 1, cur4, by omega, rfl, frm.tr f3 f4, fun a j hj => (g4 a j hj).trans (g3 a j hj), C4, okc4, isBest_cg (fun x => ?_) hb4⟩
            constructor
            · rintro ((z | ⟨b', y', z1, z2⟩) | z)
              · exact Or.inl z
              · exact Or.inr ⟨b', y', by omega, z2⟩
              · exact Or.inr ⟨b, y, by omega, eB, cu, z⟩
            · rintro (z | ⟨b', y', z1, z2, z3, z4⟩)
              · exact Or.inl (Or.inl z)
              · by_cases qq : b' = b
                · subst qq
                  rw [eB] at z2
                  have := Option.some.inj z2
                  subst this
                  exact Or.inr z4
                · exact Or.inl (Or.inr ⟨b', y', by omega, z2, z3, z4⟩)
          · rw [if_neg (fun z => cu (nI_inj (by omega) (by omega) z))]
            exact skip (fun y' hy' => by rw [eB] at hy'; rw [← Option.some.inj hy']; exact cu)
      · have : b = 6 := by omega
        subst this
        rw [if_neg (show ¬ nI 6 < 6 by decide)]
        refine Ev_some ⟨cur3, f3, g3, C3, okc3, isBest_cg (fun x => ?_) hb3⟩
        constructor
        · rintro ((⟨c', z1, z2, z3⟩ | ⟨z1, z2⟩) | ⟨b', y, z1, z2, z3, z4⟩)
          · have := (cvd_nodeC (B := B) (v := nT t ((l :: ls).getD (c' - 1) 0)) w hu hch z1).mpr ⟨by omega, rfl⟩
            exact ⟨1, c', _, Or.inl ⟨rfl, this.1, by rw [hFl]; exact this.2⟩, z3⟩
          · exact ⟨1, 1, _, Or.inr (Or.inl ⟨rfl, rfl, rfl, z1⟩), z2⟩
          · exact ⟨y.2.length, _, _, Or.inr (Or.inr ⟨b', y, z1, z2, by rw [hFl]; exact z3, rfl, rfl, rfl⟩), by rw [hFl]; exact z4⟩
        · rintro ⟨g, c', lab, hk, z⟩
          rcases hk with ⟨k1, k2, k3⟩ | ⟨k1, k2, k3, k4⟩ | ⟨b', y, k1, k2, k3, k4, k5, k6⟩
          · have hc1' := z.1
            rw [hFl] at k3
            have := (cvd_nodeC (B := B) (v := lab) w hu hch hc1').mp ⟨k2, k3⟩
            refine Or.inl (Or.inl ⟨c', hc1', by omega, ?_⟩)
            rw [← this.2, ← k1]; exact z
          · subst k1 k2 k3
            exact Or.inl (Or.inr ⟨k4, z⟩)
          · subst k4 k5 k6
            rw [hFl] at k3 z
            exact Or.inr ⟨b', y, k1, k2, k3, z⟩
    by_cases cU : nU t l = true
    · rw [if_neg (fun z => bI_0.mp z cU)]
      dsimp only
      rw [L1.i0, Option.bind_some, hli, Option.bind_some, show (100 : Int32) + nI l = nI (100 + l) from nI_add 100 l]
      obtain ⟨h4, cur4, e4, f4, g4, C4, okc4, hb4⟩ := x_offer (c := 1) (lab := 100 + l) (g := 1) L1 eE1 eD1 hD (by omega) R1 C1 okc1 (by decide) (by omega) (by decide) (by decide) hb1
      rw [show f_X9_offer 178 (nI i) 1 (nI (100 + l)) 1 h1 = some h4 from e4, Option.bind_some]
      exact tail h4 cur4 (frm.tr f1 f4) (fun a j hj => (g4 a j hj).trans (g1 a j hj)) C4 okc4 (isBest_cg (fun x => or_congr Iff.rfl ⟨fun z => ⟨cU, z⟩, fun z => z.2⟩) hb4)
    · rw [if_pos (bI_0.mpr cU)]
      exact tail h1 cur f1 g1 C1 okc1 (isBest_cg (fun x => ⟨Or.inl, fun z => z.elim id (fun z => absurd z.1 cU)⟩) hb1)
  · have hlc := chF_mem hch (c - 1) (by rw [hlen]; omega)
    rw [if_neg (nI_nlt (by omega) (by omega)), L1.i0, Option.bind_some, nI_add, pI_sub, show pI (i + c) = nI (i + (c - 1)) from by rw [show i + c = (i + (c - 1)) + 1 by omega, pI_s], w_link E1 hL1 (by rw [hlen]; omega) (by rw [hlen]; omega), Option.bind_some, w_toOf w E1 hlc, Option.bind_some]
    dsimp only
    have hto := (w.2.2.2 _ hlc).2.1
    obtain ⟨h4, cur4, e4, f4, g4, C4, okc4, hb4⟩ := x_offer (c := c) (lab := nT t ((l :: ls).getD (c - 1) 0)) (g := 1) L1 eE1 eD1 hD (by omega) R1 C1 okc1 (by omega) (by omega) (by decide) (by decide) hb1
    rw [show f_X9_offer 178 (nI i) (nI c) (nI (nT t ((l :: ls).getD (c - 1) 0))) 1 h1 = some h4 from e4, Option.bind_some, nI_1]
    refine ih (m - 1) _ _ (by omega) ⟨c + 1, cur4, by omega, by omega, rfl, frm.tr f1 f4, fun a j hj => (g4 a j hj).trans (g1 a j hj), C4, okc4, isBest_cg (fun x => ?_) hb4⟩
    constructor
    · rintro (⟨c', z1, z2, z3⟩ | z)
      · exact ⟨c', z1, by omega, z3⟩
      · exact ⟨c, hc1, by omega, z⟩
    · rintro ⟨c', z1, z2, z3⟩
      by_cases qq : c' = c
      · subst qq; exact Or.inr z3
      · exact Or.inl ⟨c', z1, by omega, z3⟩
end WP
