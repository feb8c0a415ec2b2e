theorem ini_x0 : (f_X10_init 0 hOne).isSome = true := by decide +kernel
def hXi : MH := (f_X10_init 0 hOne).get ini_x0
theorem ini_x1 : f_X10_init 0 hOne = some hXi := (Option.some_get ini_x0).symm
theorem ini_xs : ∀ i, i < 6 → stAt hXi (svAd i) := by
  intro i hi
  rcases (show i = 0 ∨ i = 1 ∨ i = 2 ∨ i = 3 ∨ i = 4 ∨ i = 5 by omega) with rfl | rfl | rfl | rfl | rfl | rfl
  all_goals (refine ⟨?_, ?_, ?_, ?_, ?_, ?_, ⟨?_, ?_, ?_, ?_, ?_, ?_, ?_, ?_, ?_, ⟨?_, ?_, ?_, ?_, ?_⟩⟩, ?_, ?_, ⟨?_, ?_, ?_, ?_, ?_⟩, ⟨?_, ?_, ?_, ?_, ?_⟩, ⟨?_, ?_⟩⟩ <;> decide +kernel)
theorem ini_s1 : stAt hXi 1 := by
  refine ⟨?_, ?_, ?_, ?_, ?_, ?_, ⟨?_, ?_, ?_, ?_, ?_, ?_, ?_, ?_, ?_, ⟨?_, ?_, ?_, ?_, ?_⟩⟩, ?_, ?_, ⟨?_, ?_, ?_, ?_, ?_⟩, ⟨?_, ?_, ?_, ?_, ?_⟩, ⟨?_, ?_⟩⟩ <;> decide +kernel
theorem ini_s138 : stAt hXi 138 := by
  refine ⟨?_, ?_, ?_, ?_, ?_, ?_, ⟨?_, ?_, ?_, ?_, ?_, ?_, ?_, ?_, ?_, ⟨?_, ?_, ?_, ?_, ?_⟩⟩, ?_, ?_, ⟨?_, ?_, ?_, ?_, ?_⟩, ⟨?_, ?_, ?_, ?_, ?_⟩, ⟨?_, ?_⟩⟩ <;> decide +kernel
theorem ini_xl : XL hXi := by
  refine ⟨⟨?_, ?_, ?_, ?_, ?_, ?_, ?_, ?_, ?_, ?_, ?_, ?_, ?_⟩, ini_s1, ⟨?_, ?_⟩, ⟨?_, ?_, ini_xs⟩, ini_s138, ⟨?_, ?_⟩, ⟨?_, ?_, ?_, ⟨?_, ?_, ?_, ?_, ?_, ?_, ?_, ?_, ?_, ⟨?_, ?_, ?_, ?_, ?_⟩⟩⟩, ⟨?_, ?_, ?_, ?_⟩, ⟨?_, ?_, ?_, ?_⟩, ⟨?_, ?_, ?_, ?_⟩, ⟨?_, ?_, ?_, ?_, ?_, ?_, ?_, ?_⟩, ⟨?_, ?_, ?_, ?_, ?_, ?_, ⟨?_, ?_⟩, ⟨?_, ?_⟩, ⟨?_, ?_, ?_, ?_⟩, ?_, ?_, ?_⟩, ⟨?_, ?_, ?_, ?_⟩, ⟨?_, ?_⟩⟩ <;> decide +kernel
theorem ini_6 : ∀ b, b < 6 → gI hXi 6 b = -1 := by decide +kernel
theorem ini_10 : ∀ b, b < 8 → gI hXi 10 b = -1 := by decide +kernel
theorem ini_23 : ∀ i, i < 6 → gR hXi 23 i = some (svAd i) := by decide +kernel
theorem init_x : XR hXi aIni := by
  refine ⟨ini_xl, ⟨⟨?_, ?_, ?_, fun l hl => absurd hl (Nat.not_lt_zero _), fun b hb => ⟨fun _ => ini_6 b hb, fun q e => nono e⟩⟩, fun d hd => ⟨fun _ => ini_10 d hd, fun q e => nono e⟩, ⟨?_, fun k hk => absurd hk (Nat.not_lt_zero _)⟩, ?_, fun i hi => absurd hi (Nat.not_lt_zero _)⟩, ⟨?_, fun i hi => absurd hi (Nat.not_lt_zero _)⟩, ?_, ⟨?_, ?_, fun i => i, fun i hi => ⟨hi, ini_23 i hi⟩, fun i j _ _ e => e, fun i hi => absurd hi (Nat.not_lt_zero _)⟩, ⟨fun _ => ?_, fun q e => nono e⟩, ⟨?_, fun i hi => absurd hi (Nat.not_lt_zero _)⟩, ⟨?_, ?_⟩, Or.inr ?_⟩
  all_goals decide +kernel
theorem ini_both : ∃ hx hm : MH, f_X10_init 0 hOne = some hx ∧ f_X11_init 0 hOne = some hm ∧ RR hx hm := by
  obtain ⟨hm, e, M⟩ := init_m
  exact ⟨hXi, hm, ini_x1, e, aIni, wf_ini, init_x, M⟩
