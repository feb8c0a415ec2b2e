/-! ===== the nearest node each time, over the heap ===== -/
def tabX (h : MH) (r v : Nat) (T K : Nat → Nat) (n : Nat) : Prop := ∀ u, u < n → gI h (r + 1) (10 * v + u) = nI (T u) ∧ gL h (r + 2) (10 * v + u) = lN (K u)
def othX (h h' : MH) (r v : Nat) : Prop := ∀ j, (j < 10 * v ∨ 10 * v + 10 ≤ j) → gI h' (r + 1) j = gI h (r + 1) j ∧ gL h' (r + 2) j = gL h (r + 2) j
theorem othX.rf {h : MH} {r v : Nat} : othX h h r v := fun _ _ => ⟨rfl, rfl⟩
theorem othX.tr {h h1 h2 : MH} {r v : Nat} (a : othX h h1 r v) (b : othX h1 h2 r v) : othX h h2 r v := fun j hj => ⟨(b j hj).1.trans (a j hj).1, (b j hj).2.trans (a j hj).2⟩
def XB (h : MH) (a : Nat) (t : NT) (U : Nat → Bool) : Prop := gI h a 0 = nI (nN t) ∧ gI h a 1 = nI (nM t) ∧ gI h a 2 = setF U (nM t) ∧ ∀ l, l < nM t → gI h (a + 1) l = nI (nF t l) ∧ gI h (a + 2) l = nI (nT t l) ∧ gI h (a + 3) l = nI (nC t l)
theorem XB.fr {h h' : MH} {a : Nat} {t : NT} {U : Nat → Bool} (hg : ∀ k, k < 8 → gI h' (a + k) = gI h (a + k)) (X : XB h a t U) : XB h' a t U := by
  have g0 := hg 0 (by decide); have g1 := hg 1 (by decide); have g2 := hg 2 (by decide); have g3 := hg 3 (by decide)
  rw [Nat.add_zero] at g0
  unfold XB
  rw [g0, g1, g2, g3]
  exact X
def barO (t : NT) (o : Option Nat) : NT := match o with
  | none => t
  | some b => barN t b
theorem wfN.barO {t : NT} (h : wfN t) (o : Option Nat) : wfN (barO t o) := by
  cases o with
  | none => exact h
  | some b => exact h
theorem barO_U {t : NT} {o : Option Nat} (l : Nat) : nU (barO t o) l = true ↔ nU t l = true ∧ o ≠ some l := by
  cases o with
  | none => exact ⟨fun h => ⟨h, fun z => by cases z⟩, fun h => h.1⟩
  | some b =>
    show (if l = b then false else nU t l) = true ↔ _
    by_cases q : l = b
    · rw [if_pos q, q]; exact ⟨fun h => (by cases h), fun h => absurd rfl h.2⟩
    · rw [if_neg q]; exact ⟨fun h => ⟨h, fun z => q (Option.some.inj z).symm⟩, fun h => h.1⟩
theorem XN.xb {h : MH} {a : Nat} {t : NT} {B : Nat → Option (Nat × List Nat)} (X : XN h a t B) (o : Option Nat) : XB h a (barO t o) (nU t) := by
  cases o with
  | none => exact ⟨X.1, X.2.1, X.2.2.1, X.2.2.2.1⟩
  | some b => exact ⟨X.1, X.2.1, X.2.2.1, X.2.2.2.1⟩
theorem fpl_is {o : Option Nat} {i : Nat} (ho : ∀ b, o = some b → b < 2 ^ 31) (hi : i < 2 ^ 31) : nI i = fpl o ↔ o = some i := by
  cases o with
  | none => exact ⟨fun h => absurd h (nI_m1 hi), fun h => by cases h⟩
  | some b =>
    show nI i = nI b ↔ _
    exact ⟨fun h => by rw [nI_inj hi (ho b rfl) h], fun h => by rw [Option.some.inj h]⟩
theorem x10 (v : Nat) : nI v * 10 = nI (10 * v) := by
  show nI v * nI 10 = _
  rw [pk_mul, Nat.mul_comm]
theorem x_nearest {h : MH} {r v n : Nat} {Q : Nat → Bool} {T : Nat → Nat} {X : Int32} (R : rtAt h r 100) (hn : n ≤ 10) (hv : v < 10) (hT : ∀ u, u < n → gI h (r + 1) (10 * v + u) = nI (T u) ∧ T u ≤ 1000000) (hX : ∀ u, u < 10 → bit X u = (decide (u < n) && !Q u)) : Ev (f_X4_nearest r (nI (10 * v)) X h) (fun q => q.2 = h ∧ ((q.1 = -1 ∧ ∀ u, u < n → Q u = false → ¬ T u < 1000000) ∨ ∃ w, q.1 = nI w ∧ w < n ∧ Q w = false ∧ T w < 1000000 ∧ ∀ u, u < n → Q u = false → T w ≤ T u)) := by
  unfold f_X4_nearest f_X4_nearest_9
  refine Ev_FU (fun m p h1 => ∃ i b d, i + m = 10 ∧ h1 = h ∧ p = (b, nI d, nI i) ∧ d ≤ 1000000 ∧ (∀ u, u < i → u < n → Q u = false → d ≤ T u) ∧ ((b = -1 ∧ d = 1000000) ∨ ∃ w, b = nI w ∧ d = T w ∧ w < n ∧ Q w = false ∧ T w < 1000000)) 10 (-1, 1000000, 0) h (by omega) ⟨0, -1, 1000000, by omega, rfl, rfl, Nat.le_refl _, fun u hu => absurd hu (Nat.not_lt_zero _), Or.inl ⟨rfl, rfl⟩⟩ ?_
  rintro m p h1 rec ⟨i, b, d, hi, rfl, rfl, hd, hl, hb⟩ ih
  unfold f_X4_nearest_9b f_X4_nearest_53
  dsimp only
  by_cases q : i < 10
  · rw [if_pos (show nI i < 10 from (nI_ltI (by omega) (by decide)).mpr q), nI_1]
    by_cases c : i < n ∧ Q i = false
    · obtain ⟨t1, t2⟩ := hT i c.1
      rw [if_neg (fun z => by rw [bit_ush (by omega), hX i q, c.2] at z; simp [c.1] at z), R.1, Option.bind_some, nI_add, ldI_ok (by rw [R.2.2.1]; omega) (by omega), Option.bind_some, t1]
      by_cases c2 : T i < d
      · rw [if_pos ((nI_ltI (by omega) (by omega)).mpr c2), Option.bind_some, ldI_ok (by rw [R.2.2.1]; omega) (by omega), Option.bind_some, t1]
        refine ih (m - 1) _ _ (by omega) ⟨i + 1, nI i, T i, by omega, rfl, rfl, t2, fun u hu hun hQ => ?_, Or.inr ⟨i, rfl, rfl, c.1, c.2, by omega⟩⟩
        by_cases q2 : u = i
        · rw [q2]; exact Nat.le_refl _
        · have := hl u (by omega) hun hQ; omega
      · rw [if_neg (fun z => c2 ((nI_ltI (by omega) (by omega)).mp z))]
        refine ih (m - 1) _ _ (by omega) ⟨i + 1, b, d, by omega, rfl, rfl, hd, fun u hu hun hQ => ?_, hb⟩
        by_cases q2 : u = i
        · rw [q2]; omega
        · exact hl u (by omega) hun hQ
    · rw [if_pos (by
        rw [bit_ush (by omega), hX i q]
        by_cases c1 : i < n
        · cases e : Q i with
          | true => simp
          | false => exact absurd ⟨c1, e⟩ c
        · simp [c1])]
      refine ih (m - 1) _ _ (by omega) ⟨i + 1, b, d, by omega, rfl, rfl, hd, fun u hu hun hQ => ?_, hb⟩
      by_cases q2 : u = i
      · rw [q2] at hun hQ; exact absurd ⟨hun, hQ⟩ c
      · exact hl u (by omega) hun hQ
  · rw [if_neg (show ¬ nI i < 10 from fun z => q ((nI_ltI (by omega) (by decide)).mp z))]
    refine Ev_some ⟨rfl, ?_⟩
    rcases hb with ⟨b1, b2⟩ | ⟨x, b1, b2, b3, b4, b5⟩
    · exact Or.inl ⟨b1, fun u hu hQ => by have := hl u (by omega) hu hQ; omega⟩
    · exact Or.inr ⟨x, b1, b3, b4, b5, fun u hu hQ => by rw [← b2]; exact hl u (by omega) hu hQ⟩
theorem x_comeInto {h : MH} {r a v n : Nat} {t : NT} {U : Nat → Bool} {ob : Option Nat} {Q : Nat → Bool} {T K : Nat → Nat} (w : wfN t) (hv : v < nN t) (R : rtAt h r 100) (A : netAt h a) (X : XB h a t U) (hU : ∀ l, nU t l = true ↔ U l = true ∧ ob ≠ some l) (hob : ∀ b, ob = some b → b < 2 ^ 31) (hr : ∀ k, k < 8 → a + k ≠ r + 1 ∧ a + k ≠ r + 2) (hj : dj t v Q T K) (hn : n < nN t) (hq : Q n = false) (hT1 : T n < 1000000) (he : T n = dist t v n) (hk : K n = cnt t v n) (hm : ∀ u, u < nN t → Q u = false → T n ≤ T u) (TX : tabX h r v T K (nN t)) : Ev (f_X4_comeInto r a (nI (10 * v)) (nI n) (fpl ob) h) (fun h' => ∃ T' K', frm [r + 1, r + 2] h h' ∧ tabX h' r v T' K' (nN t) ∧ djC t v n Q T K (nM t) T' K' ∧ othX h h' r v) := by
  have hn10 := w.2.1
  have hm30 := w.2.2.1
  unfold f_X4_comeInto f_X4_comeInto_3
  refine Ev_FU (fun m p h1 => ∃ i T' K', i + m = nM t ∧ p = nI i ∧ frm [r + 1, r + 2] h h1 ∧ tabX h1 r v T' K' (nN t) ∧ djC t v n Q T K i T' K' ∧ othX h h1 r v) (nM t) 0 h (by omega) ⟨0, T, K, by omega, rfl, frm.rf, TX, djC_0 hj he hm, othX.rf⟩ ?_
  rintro m p h1 rec ⟨i, T', K', hi, rfl, f, TX1, C1, o1⟩ ih
  have R1 := R.fr f
  have A1 : netAt h1 a := A.fr f (by have := hr 5 (by decide); simp; omega)
  have X1 : XB h1 a t U := X.fr (fun k hk => f.1 _ (by have := hr k hk; simp; omega))
  unfold f_X4_comeInto_3b f_X4_comeInto_143
  rw [X1.2.1]
  by_cases q : i < nM t
  · obtain ⟨w1, w2, w3, w4, w5⟩ := w.2.2.2 i q
    obtain ⟨y1, y2, y3⟩ := X1.2.2.2 i q
    rw [if_pos (nI_lt q (by omega)), A1.2.1, Option.bind_some, ldI_ok (by rw [A1.2.2.2.2.2.2.1]; omega) (by omega), Option.bind_some, y2, nI_1]
    by_cases c0 : nT t i = n
    · rw [if_pos (by rw [c0])]
      by_cases c1 : ob = some i
      · rw [if_pos ((fpl_is hob (by omega)).mpr c1)]
        exact ih (m - 1) _ _ (by omega) ⟨i + 1, T', K', by omega, rfl, f, TX1, djC_skip (fun z => ((hU i).mp z.1).2 c1) C1, o1⟩
      · rw [if_neg (fun z => c1 ((fpl_is hob (by omega)).mp z)), X1.2.2.1]
        by_cases c2 : U i = true
        · have hUi : nU t i = true := (hU i).mpr ⟨c2, c1⟩
          have eT : T' n = dist t v n := by rw [(C1.2.1 n hn (Or.inr (Or.inl rfl))).1, he]
          have eK : K' n = cnt t v n := by rw [(C1.2.1 n hn (Or.inr (Or.inl rfl))).2, hk]
          have g1 := TX1 n hn
          have g2 := TX1 _ w1
          rw [eT, eK] at g1
          have bF := C1.1 _ w1
          have b1 : dist t v n ≤ 1000000 := (dist_bel w hv).2.1 _ hn
          rw [if_neg (fun z => by rw [bit_ush (by omega), bit_setF (by omega)] at z; simp [q, c2] at z), A1.1, Option.bind_some, ldI_ok (by rw [A1.2.2.2.2.2.1]; omega) (by omega), Option.bind_some, y1, lt_def, A1.2.2.1, Option.bind_some, ldI_ok (by rw [A1.2.2.2.2.2.2.2.1]; omega) (by omega), Option.bind_some, y3, R1.1, Option.bind_some, nI_add, nI_add, ldI_ok (by rw [R1.2.2.1]; omega) (by omega), Option.bind_some, g1.1, lt_def, nI_add, Option.bind_some, ldI_ok (by rw [R1.2.2.1]; omega) (by omega), Option.bind_some, g2.1]
          by_cases c3 : nC t i + dist t v n < T' (nF t i)
          · rw [if_pos ((nI_ltI (by omega) (by omega)).mpr c3), Option.bind_some, stI_ok (by rw [R1.2.2.1]; omega) (by omega), Option.bind_some]
            rw [show gR (sI h1 (r + 1) (10 * v + nF t i) (nI (nC t i + dist t v n))) r 1 = some (r + 2) from R1.2.1, Option.bind_some, Option.bind_some]
            rw [show ldL (sI h1 (r + 1) (10 * v + nF t i) (nI (nC t i + dist t v n))) (r + 2) (nI (10 * v + n)) = some (lN (cnt t v n)) from by
              rw [ldL_ok (by rw [gN_sI, R1.2.2.2]; omega) (by omega), gL_sI, g1.2], Option.bind_some]
            rw [stL_ok (by rw [gN_sI, R1.2.2.2]; omega) (by omega), Option.bind_some]
            refine ih (m - 1) _ _ (by omega) ⟨i + 1, _, _, by omega, rfl, frm.sL (by simp) (frm.sI (by simp) f), fun u hu => ?_, djC_lt w hj hn hq hT1 he q hUi c0 c3 C1, fun j hj' => ?_⟩
            · show gI (sI h1 _ _ _) _ _ = nI (if u = nF t i then _ else _) ∧ gL (sL (sI h1 _ _ _) _ _ _) _ _ = lN (if u = nF t i then _ else _)
              by_cases q2 : u = nF t i
              · rw [if_pos q2, if_pos q2, q2, gI_s, gL_s]; exact ⟨rfl, rfl⟩
              · rw [if_neg q2, if_neg q2, gI_sI_nk (by omega), gL_sL, if_neg (fun z => q2 (by omega)), gL_sI]
                exact TX1 u hu
            · obtain ⟨z1, z2⟩ := o1 j hj'
              refine ⟨?_, ?_⟩
              · show gI (sI h1 _ _ _) _ _ = _
                rw [gI_sI_nk (by omega)]; exact z1
              · rw [gL_sL, if_neg (fun z => by omega), gL_sI]; exact z2
          · rw [if_neg (fun z => c3 ((nI_ltI (by omega) (by omega)).mp z)), Option.bind_some, ldI_ok (by rw [R1.2.2.1]; omega) (by omega), Option.bind_some, g2.1]
            by_cases c4 : nC t i + dist t v n = T' (nF t i)
            · rw [if_pos (by rw [c4]), R1.2.1, Option.bind_some, ldL_ok (by rw [R1.2.2.2]; omega) (by omega), Option.bind_some, Option.bind_some, ldL_ok (by rw [R1.2.2.2]; omega) (by omega), Option.bind_some, g1.2, g2.2, lN_add, stL_ok (by rw [R1.2.2.2]; omega) (by omega), Option.bind_some]
              refine ih (m - 1) _ _ (by omega) ⟨i + 1, _, _, by omega, rfl, frm.sL (by simp) f, fun u hu => ?_, djC_eq w hj hn hq he q hUi c0 c4 C1, fun j hj' => ?_⟩
              · refine ⟨(TX1 u hu).1, ?_⟩
                show gL (sL h1 _ _ _) _ _ = lN (if u = nF t i then _ else _)
                by_cases q2 : u = nF t i
                · rw [if_pos q2, q2, gL_s]
                · rw [if_neg q2, gL_sL, if_neg (fun z => q2 (by omega))]
                  exact (TX1 u hu).2
              · obtain ⟨z1, z2⟩ := o1 j hj'
                refine ⟨z1, ?_⟩
                rw [gL_sL, if_neg (fun z => by omega)]; exact z2
            · rw [if_neg (fun z => c4 (nI_inj (by omega) (by omega) z))]
              exact ih (m - 1) _ _ (by omega) ⟨i + 1, T', K', by omega, rfl, f, TX1, djC_gt hq q hUi c0 (by omega) C1, o1⟩
        · rw [if_pos (by rw [bit_ush (by omega), bit_setF (by omega)]; simp [c2])]
          exact ih (m - 1) _ _ (by omega) ⟨i + 1, T', K', by omega, rfl, f, TX1, djC_skip (fun z => c2 ((hU i).mp z.1).1) C1, o1⟩
    · rw [if_neg (fun z => c0 (nI_inj (by omega) (by omega) z))]
      exact ih (m - 1) _ _ (by omega) ⟨i + 1, T', K', by omega, rfl, f, TX1, djC_skip (fun z => c0 z.2) C1, o1⟩
  · have : i = nM t := by omega
    subst this
    rw [if_neg (nI_nlt (Nat.le_refl _) (by omega))]
    exact Ev_some ⟨T', K', f, TX1, C1, o1⟩
theorem zf_open : ∀ n, n ≤ 10 → ∀ u, u < 10 → bit (((1 : Int32) <<< (nI n &&& 31)) - 1) u = decide (u < n) := by decide +kernel
def nmQ (Q : Nat → Bool) (n : Nat) : Nat := sumTo (fun u => if Q u = true then 1 else 0) n
theorem nmQ_all {Q : Nat → Bool} : ∀ n, nmQ Q n = n → ∀ u, u < n → Q u = true := by
  intro n h u hu
  cases e : Q u with
  | true => rfl
  | false =>
    have := sumTo_strict (f := fun u => if Q u = true then 1 else 0) (g := fun _ => 1) (j := u) n (fun i _ => by split <;> omega) hu (by rw [e]; decide)
    rw [sumTo_one] at this
    unfold nmQ at h
    omega
theorem nmQ_up {Q : Nat → Bool} {x : Nat} {n : Nat} (hx : x < n) (hq : Q x = false) : nmQ (fun u => Q u || decide (u = x)) n = nmQ Q n + 1 := by
  unfold nmQ
  have := sumTo_upd (f := fun u => if Q u = true then 1 else 0) (g := fun u => if (Q u || decide (u = x)) = true then 1 else 0) (i := x) n hx (fun l _ hne => by simp [hne])
  rw [hq] at this
  simpa using this
theorem x_toward78 {h : MH} {r a v : Nat} {t : NT} {U : Nat → Bool} {ob : Option Nat} {Q0 : Nat → Bool} {T0 K0 : Nat → Nat} {X0 : Int32} (w : wfN t) (hv : v < nN t) (R : rtAt h r 100) (A : netAt h a) (X : XB h a t U) (hU : ∀ l, nU t l = true ↔ U l = true ∧ ob ≠ some l) (hob : ∀ b, ob = some b → b < 2 ^ 31) (hr : ∀ k, k < 8 → a + k ≠ r + 1 ∧ a + k ≠ r + 2) (hj : dj t v Q0 T0 K0) (h0 : nmQ Q0 (nN t) = 0) (hX : ∀ u, u < 10 → bit X0 u = (decide (u < nN t) && !Q0 u)) (TX : tabX h r v T0 K0 (nN t)) : Ev (f_X4_findToward_87 r a (fpl ob) (nI (10 * v)) FU (X0, 0) h) (fun h' => frm [r + 1, r + 2] h h' ∧ tabX h' r v (dist t v) (cnt t v) (nN t) ∧ othX h h' r v) := by
  have hn10 := w.2.1
  unfold f_X4_findToward_87
  refine Ev_FU (fun m p h1 => ∃ i Q T K X, i + m = nN t ∧ p = (X, nI i) ∧ frm [r + 1, r + 2] h h1 ∧ dj t v Q T K ∧ nmQ Q (nN t) = i ∧ (∀ u, u < 10 → bit X u = (decide (u < nN t) && !Q u)) ∧ tabX h1 r v T K (nN t) ∧ othX h h1 r v) (nN t) (X0, 0) h (by omega) ⟨0, Q0, T0, K0, X0, by omega, rfl, frm.rf, hj, h0, hX, TX, othX.rf⟩ ?_
  rintro m p h1 rec ⟨i, Q, T, K, X', hi, rfl, f, J1, n1, X1', T1, o1⟩ ih
  have R1 := R.fr f
  have A1 : netAt h1 a := A.fr f (by have := hr 5 (by decide); simp; omega)
  have X1 : XB h1 a t U := X.fr (fun k hk => f.1 _ (by have := hr k hk; simp; omega))
  have fin : (∀ u, u < nN t → Q u = false → ¬ T u < 1000000) → tabX h1 r v (dist t v) (cnt t v) (nN t) := fun hf u hu => by
    have := dj_done w hv J1 hf u hu
    rw [← this.1, ← this.2]; exact T1 u hu
  unfold f_X4_findToward_87b
  dsimp only
  rw [X1.1]
  by_cases q : i < nN t
  · rw [if_pos (nI_lt q (by omega)), nI_1]
    refine Ev_to (x_nearest R1 hn10 (by omega) (fun u hu => ⟨(T1 u hu).1, J1.1 u hu⟩) X1') (fun z hz => ?_)
    obtain ⟨z1, z2⟩ := z
    obtain ⟨rfl, hz⟩ := hz
    dsimp only at hz ⊢
    rcases hz with ⟨rfl, hz⟩ | ⟨x, rfl, hx, hq, hT, hmin⟩
    · rw [if_pos rfl]
      exact Ev_some ⟨f, fin hz, o1⟩
    · rw [if_neg (nI_m1 (by omega)), lt_def]
      obtain ⟨e1, e2, e3⟩ := dj_near w hv J1 hx hq hT hmin
      refine Ev_to (x_comeInto w hv R1 A1 X1 hU hob hr J1 hx hq hT e1 e2 hmin T1) (fun h2 hz => ?_)
      obtain ⟨T', K', f', TX', C', o'⟩ := hz
      refine ih (m - 1) _ _ (by omega) ⟨i + 1, _, T', K', _, by omega, rfl, frm.tr f f', djC_end hv J1 hx hq hT e1 e2 hmin C', ?_, fun u hu => ?_, TX', o1.tr o'⟩
      · rw [nmQ_up hx hq, n1]
      · rw [bit_and, bit_xor, X1' u hu, bit_one (by omega), bit_m1 u (by omega)]
        by_cases q2 : u = x
        · subst q2; simp
        · have : ¬ x = u := fun z => q2 z.symm
          simp [q2, this]
  · rw [if_neg (fun z => q ((nI_ltI (by omega) (by omega)).mp z))]
    refine Ev_some ⟨f, fin (fun u hu hQ => ?_), o1⟩
    rw [nmQ_all (Q := Q) (nN t) (by omega) u hu] at hQ
    cases hQ
theorem x_findToward {h : MH} {r a v : Nat} {t : NT} {U : Nat → Bool} {ob : Option Nat} (w : wfN t) (hv : v < nN t) (R : rtAt h r 100) (A : netAt h a) (X : XB h a t U) (hU : ∀ l, nU t l = true ↔ U l = true ∧ ob ≠ some l) (hob : ∀ b, ob = some b → b < 2 ^ 31) (hr : ∀ k, k < 8 → a + k ≠ r + 1 ∧ a + k ≠ r + 2) : Ev (f_X4_findToward r a (nI v) (fpl ob) h) (fun h' => frm [r + 1, r + 2] h h' ∧ tabX h' r v (dist t v) (cnt t v) (nN t) ∧ othX h h' r v) := by
  have hn10 := w.2.1
  unfold f_X4_findToward
  rw [x_hasNode X.1 (by omega), Option.bind_some]
  dsimp only
  rw [if_neg (fun z => bI_0.mp z (by rw [nI_toInt (by omega)]; omega))]
  unfold f_X4_findToward_18
  rw [lt_def, x10]
  refine Ev_FU (fun m p h1 => ∃ i, i + m = 10 ∧ p = nI i ∧ frm [r + 1, r + 2] h h1 ∧ tabX h1 r v (fun _ => 1000000) (fun _ => 0) i ∧ othX h h1 r v) 10 0 h (by omega) ⟨0, by omega, rfl, frm.rf, fun u hu => absurd hu (Nat.not_lt_zero _), othX.rf⟩ ?_
  rintro m p h1 rec ⟨i, hi, rfl, f, T1, o1⟩ ih
  have R1 := R.fr f
  have A1 : netAt h1 a := A.fr f (by have := hr 5 (by decide); simp; omega)
  have X1 : XB h1 a t U := X.fr (fun k hk => f.1 _ (by have := hr k hk; simp; omega))
  unfold f_X4_findToward_18b
  by_cases q : i < 10
  · rw [if_pos (show nI i < 10 from (nI_ltI (by omega) (by decide)).mpr q), R1.1, Option.bind_some, nI_add, stI_ok (by rw [R1.2.2.1]; omega) (by omega), Option.bind_some, show gR (sI h1 (r + 1) (10 * v + i) 1000000) r 1 = some (r + 2) from R1.2.1, Option.bind_some, stL_ok (by rw [gN_sI, R1.2.2.2]; omega) (by omega), Option.bind_some, nI_1]
    refine ih (m - 1) _ _ (by omega) ⟨i + 1, by omega, rfl, frm.sL (by simp) (frm.sI (by simp) f), fun u hu => ?_, fun j hj' => ?_⟩
    · show gI (sI h1 _ _ _) _ _ = _ ∧ gL (sL (sI h1 _ _ _) _ _ _) _ _ = _
      by_cases q2 : u = i
      · rw [q2, gI_s, gL_s]; exact ⟨rfl, rfl⟩
      · rw [gI_sI_nk (by omega), gL_sL, if_neg (fun z => q2 (by omega)), gL_sI]
        exact T1 u (by omega)
    · obtain ⟨z1, z2⟩ := o1 j hj'
      refine ⟨?_, ?_⟩
      · show gI (sI h1 _ _ _) _ _ = _
        rw [gI_sI_nk (by omega)]; exact z1
      · rw [gL_sL, if_neg (fun z => by omega), gL_sI]; exact z2
  · have : i = 10 := by omega
    subst this
    rw [if_neg (show ¬ nI 10 < 10 by decide), R1.1, Option.bind_some, nI_add, stI_ok (by rw [R1.2.2.1]; omega) (by omega), Option.bind_some, show gR (sI h1 (r + 1) (10 * v + v) 0) r 1 = some (r + 2) from R1.2.1, Option.bind_some, stL_ok (by rw [gN_sI, R1.2.2.2]; omega) (by omega), Option.bind_some, lt_def]
    have f2 : frm [r + 1, r + 2] h (sL (sI h1 (r + 1) (10 * v + v) 0) (r + 2) (10 * v + v) 1) := frm.sL (by simp) (frm.sI (by simp) f)
    have R2 := R.fr f2
    have A2 := A.fr f2 (by have := hr 5 (by decide); simp; omega)
    have X2 : XB (sL (sI h1 (r + 1) (10 * v + v) 0) (r + 2) (10 * v + v) 1) a t U := X.fr (fun k hk => f2.1 _ (by have := hr k hk; simp; omega))
    rw [X2.1]
    refine Ev_mono (x_toward78 (Q0 := fun _ => false) (T0 := fun u => if u = v then 0 else 1000000) (K0 := fun u => if u = v then 1 else 0) w hv R2 A2 X2 hU hob hr ⟨fun u hu => ?_, fun u hu hQ => ?_, ⟨if_pos rfl, if_pos rfl⟩, fun u hu _ huv => ⟨fun l hl hs => ?_, fun hx => ?_, ?_⟩, fun q u _ _ hQ => ?_⟩ ?_ (fun u hu => ?_) (fun u hu => ?_)) (fun h' z => ⟨frm.tr f2 z.1, z.2.1, othX.tr (fun j hj' => ?_) z.2.2⟩)
    · dsimp only; split <;> omega
    · cases hQ
    · unfold djQ at hs; simp at hs
    · have hx : (if u = v then 0 else 1000000) < 1000000 := hx
      rw [if_neg huv] at hx; omega
    · show (if u = v then 1 else 0) = _
      rw [if_neg huv]
      refine ((sumTo_congr (g := fun _ => 0) _ (fun l _ => if_neg (fun z => ?_))).trans (sumTo_zero _)).symm
      have := z.1
      unfold djQ at this; simp at this
    · cases hQ
    · unfold nmQ
      exact (sumTo_congr (g := fun _ => 0) _ (fun l _ => if_neg (fun z => by cases z))).trans (sumTo_zero _)
    · rw [zf_open (nN t) hn10 u hu]; simp
    · show gI (sI h1 _ _ _) _ _ = nI (if u = v then 0 else 1000000) ∧ gL (sL (sI h1 _ _ _) _ _ _) _ _ = lN (if u = v then 1 else 0)
      by_cases q2 : u = v
      · rw [if_pos q2, if_pos q2, q2, gI_s, gL_s]; exact ⟨rfl, rfl⟩
      · rw [if_neg q2, if_neg q2, gI_sI_nk (by omega), gL_sL, if_neg (fun z => q2 (by omega)), gL_sI]
        exact T1 u (by omega)
    · obtain ⟨z1, z2⟩ := o1 j hj'
      refine ⟨?_, ?_⟩
      · show gI (sI h1 _ _ _) _ _ = _
        rw [gI_sI_nk (by omega)]; exact z1
      · rw [gL_sL, if_neg (fun z => by omega), gL_sI]; exact z2
theorem x_findAll {h : MH} {r a : Nat} {t : NT} {U : Nat → Bool} {ob : Option Nat} (w : wfN t) (R : rtAt h r 100) (A : netAt h a) (X : XB h a t U) (hU : ∀ l, nU t l = true ↔ U l = true ∧ ob ≠ some l) (hob : ∀ b, ob = some b → b < 2 ^ 31) (hr : ∀ k, k < 8 → a + k ≠ r + 1 ∧ a + k ≠ r + 2) : Ev (f_X4_findAll r a (fpl ob) h) (fun h' => frm [r + 1, r + 2] h h' ∧ rtIs h' r t) := by
  have hn10 := w.2.1
  unfold f_X4_findAll f_X4_findAll_2
  refine Ev_FU (fun m p h1 => ∃ i, i + m = nN t ∧ p = nI i ∧ frm [r + 1, r + 2] h h1 ∧ ∀ u v, u < nN t → v < i → gI h1 (r + 1) (10 * v + u) = nI (dist t v u) ∧ gL h1 (r + 2) (10 * v + u) = lN (cnt t v u)) (nN t) 0 h (by omega) ⟨0, by omega, rfl, frm.rf, fun u v _ hu => absurd hu (Nat.not_lt_zero _)⟩ ?_
  rintro m p h1 rec ⟨i, hi, rfl, f, T1⟩ ih
  have R1 := R.fr f
  have A1 : netAt h1 a := A.fr f (by have := hr 5 (by decide); simp; omega)
  have X1 : XB h1 a t U := X.fr (fun k hk => f.1 _ (by have := hr k hk; simp; omega))
  unfold f_X4_findAll_2b
  rw [X1.1]
  by_cases q : i < nN t
  · rw [if_pos (nI_lt q (by omega)), nI_1]
    refine Ev_to (x_findToward w q R1 A1 X1 hU hob hr) (fun h2 z => ?_)
    refine ih (m - 1) _ _ (by omega) ⟨i + 1, by omega, rfl, frm.tr f z.1, fun u v hu hv => ?_⟩
    by_cases q2 : v = i
    · rw [q2]; exact z.2.1 u hu
    · obtain ⟨z1, z2⟩ := z.2.2 (10 * v + u) (by omega)
      rw [z1, z2]; exact T1 u v hu (by omega)
  · rw [if_neg (fun z => q ((nI_ltI (by omega) (by omega)).mp z))]
    exact Ev_some ⟨f, fun u v hu hv => T1 u v hu (by omega)⟩
theorem freshX2 (h : MH) (a : AB) (w : wfA a) (X : XR h a) : ∃ h', f_X10_freshRoutes 0 h = some (169, h') ∧ XR h' a ∧ gI h' 0 12 = 0 ∧ rtIs h' 169 (sN (aS a)) ∧ frm [0, 170, 171] h h' ∧ ∀ k, k ≠ 12 → gI h' 0 k = gI h 0 k := by
  obtain ⟨L, S, K, D, A, I, P, F, C⟩ := XR_iff.mp X
  have wN := w.1.1
  rcases C with C | C
  · refine ⟨h, ?_, X, C.1, C.2, frm.rf, fun _ _ => rfl⟩
    unfold f_X10_freshRoutes f_X10_freshRoutes_27
    rw [C.1, if_pos rfl, L.r9, Option.bind_some]
  · obtain ⟨h1, e, f, R⟩ := x_findAll (ob := none) wN L.rt L.nt (S.1.xb none) (fun l => barO_U (o := none) l) (fun b hb => by cases hb) (by omega)
    have g0 : ∀ k, k ≠ 12 → gI (sI h1 0 12 0) 0 k = gI h 0 k := fun k hk => by rw [gI_sI_nk hk, f.1 0 (by decide)]
    have gb : ∀ b, b ≠ 0 → b ∉ [169 + 1, 169 + 2] → gI (sI h1 0 12 0) b = gI h b := fun b h0 hb => by rw [gI_sI_f h0, f.1 b hb]
    have e12 : gI (sI h1 0 12 0) 0 12 = 0 := gI_s _ _ _ _
    have Q : rtIs (sI h1 0 12 0) 169 (sN (aS a)) := by
      refine rtIs.fr ?_ rfl R
      exact gI_sI_f (by decide)
    have L' : XL (sI h1 0 12 0) := XL.fr (h := h1) (X := [0]) (frm.sI (by decide) frm.rf) (by decide) (L.fr f (by decide))
    refine ⟨sI h1 0 12 0, ?_, XR_iff.mpr ⟨L', S.fr (fun k hk => gb _ (by omega) (by simp; omega)), K.fr (gb _ (by decide) (by decide)) (gb _ (by decide) (by decide)), by rw [g0 2 (by decide)]; exact D, A.fr (fun b h1 h2 => gb b (by omega) (by simp; omega)) f.2.2.1, I.fr (g0 7 (by decide)) (g0 6 (by decide)) (fun b h1 h2 => gb b (by omega) (by simp; omega)), P.fr (by rw [gb 159 (by decide) (by decide)]) (gb _ (by decide) (by decide)), F.fr (by rw [gb 159 (by decide) (by decide)]) (by rw [gb 159 (by decide) (by decide)]), Or.inl ⟨e12, Q⟩⟩, e12, Q, frm.sI (by decide) (f.up (by decide)), g0⟩
    unfold f_X10_freshRoutes f_X10_freshRoutes_27
    rw [C, if_neg (by decide), L.r9, Option.bind_some, L.r0, Option.bind_some, L.s0, Option.bind_some, show f_X4_findAll 169 2 (-1) h = some h1 from e, Option.bind_some, lt_def, show gR (sI h1 0 12 0) 0 9 = some 169 from by rw [← L.r9]; exact congrFun (congrFun f.2.2.1 0) 9]
    rfl
theorem freshX : FreshX := fun h a w X => by
  obtain ⟨h', e1, e2, e3, e4, _⟩ := freshX2 h a w X
  exact ⟨h', e1, e2, e3, e4⟩
