/-! ===== both readers, side by side ===== -/
def txX : List Nat := [159, 161, 162, 163, 164, 165, 167, 168]
def sTB (t : NT) (B : Nat → Option (Nat × List Nat)) : ST := (t, B, (fun _ => none), [], [])
def frY (b h : MH) : Prop := frm [0, 1] b h ∧ ∀ k, k ≠ 38 → k ≠ 39 → k ≠ 40 → k ≠ 42 → gI h 0 k = gI b 0 k
def seB (x : Int32) (B : Nat → Option (Nat × List Nat)) : Prop := ∀ b, b < 6 → (bit x b = true ↔ B b ≠ none)
def CP (bx bm hx hm : MH) (P : List Nat) (i : Nat) (t : NT) (B : Nat → Option (Nat × List Nat)) : Prop := (TX hx P i ∧ XN hx 161 t B ∧ frm txX bx hx ∧ gI hx 159 3 = 0 ∧ gI hx 159 4 = -1 ∧ ∀ b, b < 6 → B b = none → gI hx 167 b = 0) ∧ (TM hm P i ∧ MS (gI hm 1) (sTB t B) ∧ frY bm hm ∧ seB (gI hm 0 42) B ∧ gI hm 0 38 = 0) ∧ i ≤ P.length ∧ wfS (sTB t B)
def FP (bx bm hx hm : MH) (P : List Nat) (k p : Nat) : Prop := (XL hx ∧ frm txX bx hx ∧ FT hx k p) ∧ frY bm hm ∧ TW hm P k p ∧ 1 ≤ k ∧ k ≤ 4
theorem frY.E {b h h' : MH} (f : frE h h') (a : frY b h) : frY b h' := ⟨frm.tr a.1 (f.1.up (by decide)), fun k h1 h2 h3 h4 => (f.2 k h1 h2 h3).trans (a.2 k h1 h2 h3 h4)⟩
theorem CP.to {bx bm hx hm hx' hm' : MH} {P : List Nat} {i j : Nat} {t : NT} {B : Nat → Option (Nat × List Nat)} (C : CP bx bm hx hm P i t B) (fx : frT hx hx') (Tx : TX hx' P j) (fm : frG hm hm') (Tm : TM hm' P j) (hj : j ≤ P.length) : CP bx bm hx' hm' P j t B := by
  obtain ⟨⟨x1, x2, x3, x4, x5, x6⟩, ⟨m1, m2, m3, m4, m5⟩, hi, w⟩ := C
  exact ⟨⟨Tx, x2.fr (fun k hk => fx.1.1 _ (by simp; omega)), frm.tr x3 (fx.1.up (by decide)), by rw [fx.2 3 (by decide)]; exact x4, by rw [fx.2 4 (by decide)]; exact x5, by rw [fx.1.1 167 (by decide)]; exact x6⟩, ⟨Tm, by rw [fm.1.1 1 (by decide)]; exact m2, m3.E fm.E, by rw [fm.2 42 (by decide)]; exact m4, by rw [fm.2 38 (by decide)]; exact m5⟩, hj, w⟩
theorem CP.bad {bx bm hx hm hx' hm' : MH} {P : List Nat} {i k p : Nat} {t : NT} {B : Nat → Option (Nat × List Nat)} (C : CP bx bm hx hm P i t B) (fx : frF hx hx') (F : FT hx' k p) (fm : frE hm hm') (W : TW hm' P k p) (hk : 1 ≤ k ∧ k ≤ 4) : FP bx bm hx' hm' P k p := ⟨⟨C.1.1.1.fr fx.1 (by decide), frm.tr C.1.2.2.1 (fx.1.up (by decide)), F⟩, C.2.1.2.2.1.E fm, W, hk⟩
theorem FP.m {bx bm hx hm hm' : MH} {P : List Nat} {k p : Nat} (F : FP bx bm hx hm P k p) (f : frE hm hm') (W : TW hm' P k p) : FP bx bm hx hm' P k p := ⟨F.1, F.2.1.E f, W, F.2.2.2⟩
theorem nmb_bad {P : List Nat} {i lo hi k p : Nat} (e : nmb P i lo hi = .inl (k, p)) : 1 ≤ k ∧ k ≤ 4 := by
  unfold nmb at e
  by_cases q : rn (dgB P) i = 0
  · rw [if_pos q] at e
    have : 1 = k := congrArg Prod.fst (Sum.inl.inj e)
    omega
  · rw [if_neg q] at e
    by_cases q2 : lo ≤ dv P i (rn (dgB P) i) ∧ dv P i (rn (dgB P) i) ≤ hi
    · rw [if_pos q2] at e; cases e
    · rw [if_neg q2] at e
      have : 2 = k := congrArg Prod.fst (Sum.inl.inj e)
      omega
section RW
variable {bx bm hx hm : MH} {P : List Nat} {i : Nat} {t : NT} {B : Nat → Option (Nat × List Nat)}
theorem TW.bl {h : MH} {k p : Nat} (o : okP P) (T : TW h P k p) : ∃ v h', f_X11_behindBlanks 0 h = some (v, h') ∧ frE h h' ∧ TW h' P k p := by
  obtain ⟨⟨j, hj, T0⟩, a1, a2, a3⟩ := T
  obtain ⟨h', e, f, T'⟩ := m_blanks o T0 hj
  exact ⟨_, h', e, f.E, ⟨skp P j, (skp_in o hj).2, T'⟩, by rw [f.2 38 (by decide)]; exact a1, by rw [f.2 39 (by decide)]; exact a2, a3⟩
theorem TW.n {h : MH} {k p : Nat} (T : TW h P k p) : ∃ v, f_X11_n 0 h = some (v, h) := by
  obtain ⟨⟨j, hj, T0⟩, -⟩ := T
  have L := T0.1
  refine ⟨gI h 1 0 + 2, ?_⟩
  unfold f_X11_n
  rw [L.r1, Option.bind_some, show ldI h 1 0 = some (gI h 1 0) from ldI_ok (i := 0) (by rw [L.n1]; decide) (by decide), Option.bind_some]
theorem c_num {lo hi' : Nat} (o : okP P) (C : CP bx bm hx hm P i t B) (hlo : lo ≤ 99) (hhi : hi' ≤ 99) : ∃ hx1, f_X8_skipBlanks 159 hx = some hx1 ∧ gI hx1 159 2 = nI (skp P i) ∧ XL hx1 ∧ gI hx1 161 0 = nI (nN t) ∧ ∀ hm2 j, frG hm hm2 → TM hm2 P j → j ≤ P.length → skp P j = skp P i → ((∃ k p hx' hm', f_X8_takeNumber 159 (nI lo) (nI hi') hx1 = some (-1, hx') ∧ f_X11_number 0 (nI lo) (nI hi') hm2 = some (0, hm') ∧ FP bx bm hx' hm' P k p) ∨ (∃ v e hx' hm', f_X8_takeNumber 159 (nI lo) (nI hi') hx1 = some (nI v, hx') ∧ f_X11_number 0 (nI lo) (nI hi') hm2 = some (nI v, hm') ∧ lo ≤ v ∧ v ≤ hi' ∧ skp P i < e ∧ CP bx bm hx' hm' P e t B)) := by
  obtain ⟨hx1, e1, f1, T1⟩ := x_skip o C.1.1 C.2.2.1
  have hsk := skp_in o C.2.2.1
  refine ⟨hx1, e1, T1.2.2, T1.1, by rw [f1.1.1 161 (by decide)]; exact C.1.2.1.1, fun hm2 j fm Tm hj ej => ?_⟩
  obtain ⟨x1, x2⟩ := x_takeNumber (lo := lo) (hi' := hi') o T1 hsk.2 hlo hhi
  obtain ⟨m1, m2⟩ := m_number (lo := lo) (hi' := hi') o Tm hj hlo hhi
  rw [ej] at m1 m2
  cases en : nmb P (skp P i) lo hi' with
  | inl f =>
    obtain ⟨k, p⟩ := f
    obtain ⟨hx', a1, a2, a3⟩ := x1 k p en
    obtain ⟨hm', b1, b2, b3⟩ := m1 k p en
    exact Or.inl ⟨k, p, hx', hm', a1, b1, C.bad (f1.F.tr a2) a3 (fm.E.tr b2) b3 (nmb_bad en)⟩
  | inr r =>
    obtain ⟨v, e⟩ := r
    obtain ⟨hx', a1, a2, a3⟩ := x2 v e en
    obtain ⟨hm', b1, b2, b3⟩ := m2 v e en
    have := nmb_ok o hsk.2 en
    exact Or.inr ⟨v, e, hx', hm', a1, b1, this.1, this.2.1, this.2.2.1, C.to (f1.tr a2) a3 (fm.tr b2) b3 this.2.2.2⟩
theorem c_sign {c : Nat} (o : okP P) (C : CP bx bm hx hm P i t B) (hc : c < 256) : (∃ p hx' hm', f_X8_takeSign 159 (nI c) hx = some (0, hx') ∧ f_X11_must 0 (nI c) hm = some hm' ∧ FP bx bm hx' hm' P 1 p) ∨ (∃ e hx' hm', f_X8_takeSign 159 (nI c) hx = some (1, hx') ∧ f_X11_must 0 (nI c) hm = some hm' ∧ i < e ∧ CP bx bm hx' hm' P e t B) := by
  have hsk := skp_in o C.2.2.1
  obtain ⟨x1, x2⟩ := x_takeSign (c := c) o C.1.1 C.2.2.1 hc
  obtain ⟨m1, m2⟩ := m_must (c := c) o C.2.1.1 C.2.2.1 hc
  by_cases q : bt P (skp P i) = c
  · obtain ⟨hx', a1, a2, a3⟩ := x1 q
    obtain ⟨hm', b1, b2, b3⟩ := m1 q
    have := (bt_lt (i := skp P i) o).mp (by omega)
    exact Or.inr ⟨_, hx', hm', a1, b1, by omega, C.to a2 a3 b2 b3 (by omega)⟩
  · obtain ⟨hx', a1, a2, a3⟩ := x2 q
    obtain ⟨hm', b1, b2, b3⟩ := m2 q
    exact Or.inl ⟨_, hx', hm', a1, b1, C.bad a2 a3 b2 b3 (by decide)⟩
/-- a row's end: both at fault, or both behind it -/
def RS (bx bm : MH) (P : List Nat) (i : Nat) (rx : Option (Int32 × MH)) (rm : Option MH) : Prop := (∃ k p hx hm, rx = some (0, hx) ∧ rm = some hm ∧ FP bx bm hx hm P k p) ∨ (∃ e t B hx hm, rx = some (1, hx) ∧ rm = some hm ∧ i < e ∧ CP bx bm hx hm P e t B)
theorem w_link72 {h : MH} {k p : Nat} {x y : Int32} (T : TW h P k p) : f_X11_readLink_72 0 x y h = some h := by
  unfold f_X11_readLink_72
  rw [m_numberW T, Option.bind_some]
  dsimp only
  rw [m_takesWordW T, Option.bind_some]
  dsimp only
  rw [m_wrong T, Option.bind_some]
  rfl
theorem n1_sub {n : Nat} (h : 1 ≤ n) : nI n - 1 = nI (n - 1) := by
  rw [pI_sub, show n = (n - 1) + 1 by omega, pI_s]; rfl
/-- a link, laid in both -/
theorem c_add {u v c : Nat} {d : Bool} (C : CP bx bm hx hm P i t B) (hM : nM t < 30) (hu : u < nN t) (hv : v < nN t) (huv : v ≠ u) (hc : 1 ≤ c ∧ c ≤ 99) : ∃ hx' hm', f_X2_addLink 161 (nI u) (nI v) (nI c) (if d then 0 else 1) hx = some (nI (nM t), hx') ∧ f_X11_lays 0 (nI u) (nI v) (nI c) (if d then 1 else 0) hm = some hm' ∧ CP bx bm hx' hm' P i (tAdd t u v c (!d)) B := by
  obtain ⟨⟨x1, x2, x3, x4, x5, x6⟩, ⟨m1, m2, m3, m4, m5⟩, hi, w⟩ := C
  obtain ⟨hx', a1, a2, a3⟩ := x_addLink (x := u) (y := v) (c := c) (x4 := if d then 0 else 1) x1.1.tape.2.2.2 x2 hM w.1.2.1 hu hv
  obtain ⟨hm', b1, b2, b3, b4⟩ := m_lays (t := t) (x := u) (y := v) (c := c) (x4 := if d then 1 else 0) m1.1.1 m2.1 hM
  have wN := w.1
  have wt : wfN (tAdd t u v c (!d)) := by
    refine ⟨wN.1, wN.2.1, by show nM t + 1 ≤ 30; omega, fun l hl => ?_⟩
    have hl : l < nM t + 1 := hl
    show (if l = nM t then u else nF t l) < nN t ∧ (if l = nM t then v else nT t l) < nN t ∧ (if l = nM t then u else nF t l) ≠ (if l = nM t then v else nT t l) ∧ 1 ≤ (if l = nM t then c else nC t l) ∧ (if l = nM t then c else nC t l) ≤ 99
    by_cases q : l = nM t
    · rw [if_pos q, if_pos q, if_pos q]; exact ⟨hu, hv, fun z => huv z.symm, hc⟩
    · rw [if_neg q, if_neg q, if_neg q]; exact wN.2.2.2 l (show l < nM t by omega)
  have g159 : gI hx' 159 = gI hx 159 := a2.1 159 (by decide)
  refine ⟨hx', hm', a1, b1, ⟨⟨x1.1.fr a2 (by decide), x1.2.1.fr (by rw [g159]) (a2.1 160 (by decide)), by rw [g159]; exact x1.2.2⟩, ?_, frm.tr x3 (a2.up (by decide)), by rw [g159]; exact x4, by rw [g159]; exact x5, by rw [a2.1 167 (by decide)]; exact x6⟩, ⟨⟨⟨m1.1.1.fr b2, by rw [b2.1 20 (by decide)]; exact m1.1.2.1, by rw [b2.1 0 (by decide)]; exact m1.1.2.2.1, by rw [b2.1 0 (by decide)]; exact m1.1.2.2.2⟩, by rw [b2.1 0 (by decide)]; exact m1.2⟩, ?_, ⟨frm.tr m3.1 (b2.up (by decide)), fun k h1 h2 h3 h4 => by rw [b2.1 0 (by decide)]; exact m3.2 k h1 h2 h3 h4⟩, by rw [b2.1 0 (by decide)]; exact m4, by rw [b2.1 0 (by decide)]; exact m5⟩, hi, ?_⟩
  · have : decide ((if d then (0 : Int32) else 1) ≠ 0) = !d := by cases d <;> rfl
    rw [← this]; exact a3
  · have : decide ((if d then (1 : Int32) else 0) = 0) = !d := by cases d <;> rfl
    rw [← this]
    exact MS.net (s := sTB t B) b3 b4 m2
  · exact w.net (s := sTB t B) wt rfl (Nat.le_succ _) (fun l hl => by
      show (if l = nM t then u else nF t l) = nF t l ∧ (if l = nM t then v else nT t l) = nT t l
      have hl : l < nM t := hl
      rw [if_neg (by omega), if_neg (by omega)]; exact ⟨rfl, rfl⟩)
theorem row_link (o : okP P) (C : CP bx bm hx hm P i t B) (hw : isWd P 1 i) {hm1 : MH} (fm : frG hm hm1) (Tm : TM hm1 P (i + 4)) : RS bx bm P i (f_X8_readLink 159 hx) ((f_X11_readLink 0 (nI i) hm1).bind fun q_1 => f_X11_must 0 59 q_1) := by
  have h500 := o.1
  have wN := C.2.2.2.1
  have hn10 : nN t ≤ 10 := wN.2.1
  have hn2 : 2 ≤ nN t := wN.1
  have hm30 : nM t ≤ 30 := wN.2.2.1
  have hL : XL hx := C.1.1.1
  have eM : gI hx 161 1 = nI (nM t) := C.1.2.1.2.1
  have MS1 : MN (gI hm1 1) t := by rw [fm.1.1 1 (by decide)]; exact C.2.1.2.1.1
  have elk : f_X11_links 0 hm1 = some (nI (nM t), hm1) := m_links Tm.1.1 MS1
  have hil := isWd_in o (by decide : 1 < 7) hw
  have hil : i + 4 ≤ P.length := hil
  unfold f_X8_readLink f_X11_readLink
  rw [hL.t159, Option.bind_some, eM, elk, Option.bind_some]
  dsimp only
  by_cases c30 : nM t < 30
  · rw [if_pos (show nI (nM t) < 30 from nI_lt (b := 30) c30 (by decide)), if_neg (show ¬ nI (nM t) = 30 from fun z => by have := nI_inj (b := 30) (by omega) (by decide) z; omega)]
    obtain ⟨hxa, ea, fa, Ta⟩ := (x_takeWord (s := 1) o C.1.1 C.2.2.1 (by decide)).1 hw
    have Ta : TX hxa P (i + 4) := Ta
    have C1 : CP bx bm hxa hm1 P (i + 4) t B := C.to fa Ta fm Tm hil
    rw [ea, Option.bind_some, m_n Tm.1.1 MS1 wN, Option.bind_some]
    dsimp only
    obtain ⟨hxb, eb, gb, Lb, nb, kb⟩ := c_num (lo := 0) (hi' := nN t - 1) o C1 (by omega) (by omega)
    rw [eb, Option.bind_some, Lb.t159, Option.bind_some, nb, n1_sub (n := nN t) (by omega)]
    rcases kb hm1 (i + 4) frG.rf Tm hil rfl with ⟨k, p, hxc, hmc, e1, e2, F⟩ | ⟨u, e, hxc, hmc, e1, e2, u0, u1, ue, C2⟩
    · -- the first node is at fault
      left
      have e1 : f_X8_takeNumber 159 0 (nI (nN t - 1)) hxb = some (-1, hxc) := e1
      have e2 : f_X11_number 0 0 (nI (nN t - 1)) hm1 = some (0, hmc) := e2
      rw [e1, e2, Option.bind_some, Option.bind_some]
      dsimp only
      rw [if_pos rfl]
      obtain ⟨v, hmd, e3, f3, T3⟩ := F.2.2.1.bl o
      obtain ⟨v2, e4⟩ := T3.n
      refine ⟨k, p, hxc, hmd, rfl, ?_, F.m f3 T3⟩
      rw [e3, Option.bind_some, lt_def]
      dsimp only
      rw [e4, Option.bind_some]
      dsimp only
      rw [m_numberW T3, Option.bind_some]
      dsimp only
      rw [m_wrong T3, Option.bind_some]
      dsimp only
      rw [if_neg (by decide), w_link72 T3, Option.bind_some, m_mustW T3]
    · have e1 : f_X8_takeNumber 159 0 (nI (nN t - 1)) hxb = some (nI u, hxc) := e1
      have e2 : f_X11_number 0 0 (nI (nN t - 1)) hm1 = some (nI u, hmc) := e2
      rw [e1, e2, Option.bind_some, Option.bind_some]
      dsimp only
      rw [if_neg (nI_m1 (by omega))]
      have hwN2 := C2.2.2.1
      obtain ⟨hxd, ed, gd, Ld, nd, kd⟩ := c_num (lo := 0) (hi' := nN t - 1) o C2 (by omega) (by omega)
      obtain ⟨hmd, em, fmd, Tmd⟩ := m_blanks o C2.2.1.1.1 C2.2.2.1
      have TMd : TM hmd P (skp P e) := C2.2.1.1.fr fmd Tmd
      have MSd : MN (gI hmd 1) t := by rw [fmd.1.1 1 (by decide)]; exact C2.2.1.2.1.1
      have hsk := skp_in o C2.2.2.1
      rw [ed, Option.bind_some, lt_def, Ld.t159, Option.bind_some, nd, n1_sub (by omega), em, Option.bind_some, lt_def]
      dsimp only
      rw [m_n TMd.1.1 MSd wN, Option.bind_some]
      dsimp only
      rw [n1_sub (by omega)]
      rcases kd hmd (skp P e) fmd TMd hsk.2 (skp_skp o) with ⟨k, p, hxe, hme, e3, e4, F⟩ | ⟨v, e', hxe, hme, e3, e4, v0, v1, ve, C3⟩
      · left
        have e3 : f_X8_takeNumber 159 0 (nI (nN t - 1)) hxd = some (-1, hxe) := e3
        have e4 : f_X11_number 0 0 (nI (nN t - 1)) hmd = some (0, hme) := e4
        rw [e3, e4, Option.bind_some, Option.bind_some]
        dsimp only
        rw [if_pos rfl]
        have T3 := F.2.2.1
        refine ⟨k, p, hxe, hme, rfl, ?_, F⟩
        rw [m_wrong T3, Option.bind_some]
        dsimp only
        rw [if_neg (by decide), w_link72 T3, Option.bind_some, m_mustW T3]
      · have e3 : f_X8_takeNumber 159 0 (nI (nN t - 1)) hxd = some (nI v, hxe) := e3
        have e4 : f_X11_number 0 0 (nI (nN t - 1)) hmd = some (nI v, hme) := e4
        rw [e3, e4, Option.bind_some, Option.bind_some]
        dsimp only
        rw [if_neg (nI_m1 (by omega)), m_noWrong C3.2.1.1, Option.bind_some]
        dsimp only
        rw [if_pos rfl]
        by_cases cuv : v = u
        · left
          subst cuv
          obtain ⟨hmf, e5, f5, T5⟩ := m_errs (k := 2) (p := skp P e) C3.2.1.1 C3.2.2.1 (by omega)
          rw [if_pos rfl, if_pos rfl, gd, Tmd.2.2.1, show f_X8_foundFault 159 2 (nI (skp P e)) hxe = _ from (x_fault (h := hxe) (k := 2) (p := skp P e)).1, Option.bind_some, show f_X11_errs 0 2 (nI (skp P e)) hme = _ from e5, Option.bind_some]
          dsimp only
          refine ⟨2, skp P e, _, hmf, if_pos (Or.inl rfl), ?_, C3.bad x_fault.2.1 x_fault.2.2 f5 T5 (by decide)⟩
          rw [w_link72 T5, Option.bind_some, m_mustW T5]
        · rw [if_neg (fun z => cuv (nI_inj (by omega) (by omega) z)), if_neg (fun z => cuv (nI_inj (by omega) (by omega) z).symm)]
          obtain ⟨hxf, ef, gf, Lf, nf, kf⟩ := c_num (lo := 1) (hi' := 99) o C3 (by omega) (by omega)
          unfold f_X11_readLink_72
          rw [ef, Option.bind_some]
          rcases kf hme e' frG.rf C3.2.1.1 C3.2.2.1 rfl with ⟨k, p, hxg, hmg, e5, e6, F⟩ | ⟨c, e'', hxg, hmg, e5, e6, c0, c1, ce, C4⟩
          · left
            have T5 := F.2.2.1
            have e5 : f_X8_takeNumber 159 1 99 hxf = some (-1, hxg) := e5
            have e6 : f_X11_number 0 1 99 hme = some (0, hmg) := e6
            rw [e5, e6, Option.bind_some, Option.bind_some]
            dsimp only
            rw [if_pos rfl]
            refine ⟨k, p, hxg, hmg, rfl, ?_, F⟩
            rw [m_takesWordW T5, Option.bind_some]
            dsimp only
            rw [m_wrong T5, Option.bind_some]
            dsimp only
            rw [if_neg (by decide), Option.bind_some, m_mustW T5]
          · have e5' : f_X8_takeNumber 159 1 99 hxf = some (nI c, hxg) := e5
            have e6' : f_X11_number 0 1 99 hme = some (nI c, hmg) := e6
            rw [e5', e6', Option.bind_some, Option.bind_some]
            dsimp only
            rw [if_neg (nI_m1 (by omega))]
            obtain ⟨hxh, eh, fh, Th⟩ := x_skip o C4.1.1 C4.2.2.1
            have hsk4 := skp_in o C4.2.2.1
            have hsk3 := skp_in o C3.2.2.1
            have hsk1 := skp_in o hil
            obtain ⟨w1, w2⟩ := m_takesWord (s := 2) o C4.2.1.1 C4.2.2.1 (by decide)
            rw [eh, Option.bind_some, x_isWord o Th hsk4.2 (by decide), Option.bind_some]
            -- the end, with the link laid
            have tail : ∀ (d : Bool) hxi hmi j, CP bx bm hxi hmi P j t B → i < j → RS bx bm P i (f_X8_readLink_143 159 (nI u) (nI v) (nI c) (if d then 1 else 0) hxi) (((f_X11_isWrong 0 hmi).bind fun q_3 => if q_3.1 = 0 then (f_X11_lays 0 (nI u) (nI v) (nI c) (if d then 1 else 0) q_3.2).bind fun q_4 => some q_4 else some q_3.2).bind fun q_1 => f_X11_must 0 59 q_1) := fun d hxi hmi j Ci hij => by
              obtain ⟨hxj, hmj, ej, el, Cj⟩ := c_add (u := u) (v := v) (c := c) (d := d) Ci c30 (by omega) (by omega) cuv ⟨c0, c1⟩
              have red : f_X8_readLink_143 159 (nI u) (nI v) (nI c) (if d then 1 else 0) hxi = (f_X8_takeSign 159 59 hxj).bind fun q_2 => if q_2.1 = 0 ∨ q_2.1 = 1 then some (q_2.1, q_2.2) else none := by
                unfold f_X8_readLink_143 f_X8_readLink_161
                rw [Ci.1.1.1.t159, Option.bind_some]
                cases d with
                | true =>
                  rw [if_neg (by decide)]
                  have ej : f_X2_addLink 161 (nI u) (nI v) (nI c) 0 hxi = some (nI (nM t), hxj) := ej
                  rw [ej, Option.bind_some]
                | false =>
                  rw [if_pos (show (if false = true then (1 : Int32) else 0) = 0 from rfl)]
                  have ej : f_X2_addLink 161 (nI u) (nI v) (nI c) 1 hxi = some (nI (nM t), hxj) := ej
                  rw [ej, Option.bind_some]
              rw [red, m_noWrong Ci.2.1.1, Option.bind_some]
              dsimp only
              rw [if_pos rfl, el, Option.bind_some, Option.bind_some]
              rcases c_sign (c := 59) o Cj (by decide) with ⟨p, hxk, hmk, e7, e8, F⟩ | ⟨e9, hxk, hmk, e7, e8, i9, C9⟩
              · have e7 : f_X8_takeSign 159 59 hxj = some (0, hxk) := e7
                exact Or.inl ⟨1, p, hxk, hmk, by rw [e7, Option.bind_some, if_pos (Or.inl rfl)], e8, F⟩
              · have e7 : f_X8_takeSign 159 59 hxj = some (1, hxk) := e7
                exact Or.inr ⟨e9, _, _, hxk, hmk, by rw [e7, Option.bind_some, if_pos (Or.inr rfl)], e8, by omega, C9⟩
            by_cases cd : isWd P 2 (skp P e'')
            · obtain ⟨hmh, em2, fm2, Tm2⟩ := w1 cd
              obtain ⟨hxi, ei, fi, Ti⟩ := (x_takeWord (s := 2) o Th hsk4.2 (by decide)).1 cd
              have hin := isWd_in o (by decide : 2 < 7) cd
              rw [em2, Option.bind_some, if_neg (fun z => bI_0.mp z cd)]
              dsimp only
              rw [ei, Option.bind_some, show bI (isWd P 2 (skp P e'')) = 1 from if_pos cd]
              exact tail true hxi hmh _ (C4.to (fh.tr fi) Ti fm2 Tm2 hin) (by omega)
            · obtain ⟨hmh, em2, fm2, Tm2⟩ := w2 cd
              rw [em2, Option.bind_some, if_pos (bI_0.mpr cd), show bI (isWd P 2 (skp P e'')) = 0 from if_neg cd]
              exact tail false hxh hmh _ (C4.to fh Th fm2 Tm2 hsk4.2) (by omega)
  · left
    obtain ⟨hmf, e5, f5, T5⟩ := m_errs (k := 3) (p := i) Tm hil (by omega)
    rw [if_neg (show ¬ nI (nM t) < 30 from nI_nlt (b := 30) (by omega) (by omega)), if_pos (show nI (nM t) = 30 from by rw [show nM t = 30 by omega]; rfl), C.1.1.2.2, show f_X8_foundFault 159 3 (nI i) hx = _ from (x_fault (h := hx) (k := 3) (p := i)).1, Option.bind_some, show f_X11_errs 0 3 (nI i) hm1 = _ from e5, Option.bind_some]
    dsimp only
    refine ⟨3, i, _, hmf, if_pos (Or.inl rfl), ?_, C.bad x_fault.2.1 x_fault.2.2 (fm.E.tr f5) T5 (by decide)⟩
    rw [Option.bind_some, m_mustW T5]
end RW
