/-! ===== both at their beginning ===== -/
def aIni : AB := (sNew 2, [], 5, [], none, [], 0, none)
theorem wf_ini : wfA aIni := ⟨wfS_new (by decide) (by decide), ⟨Nat.zero_le _, fun i hi => absurd hi (Nat.not_lt_zero _)⟩, ⟨by decide, by decide⟩, ⟨Nat.zero_le _, fun s hs => by cases hs⟩, fun q e => nono e, ⟨Nat.zero_le _, fun i hi => absurd hi (Nat.not_lt_zero _)⟩, by decide, fun p e => nono e⟩
theorem init_m : ∃ hm, f_X11_init 0 hOne = some hm ∧ MR hm aIni := by
  refine ⟨_, rfl, ⟨?_, ?_⟩, ⟨⟨?_, ?_, fun l hl => absurd hl (Nat.not_lt_zero _)⟩, fun b hb => ⟨fun _ => ?_, fun q e => nono e⟩, fun d hd => ⟨fun _ => ?_, fun q e => nono e⟩, ⟨?_, fun k hk => absurd hk (Nat.not_lt_zero _)⟩, ?_, fun i hi => absurd hi (Nat.not_lt_zero _)⟩, ⟨?_, fun i hi => absurd hi (Nat.not_lt_zero _)⟩, ?_, ⟨?_, fun i hi => absurd hi (Nat.not_lt_zero _)⟩, ⟨fun _ => ?_, fun q e => nono e⟩, ⟨?_, fun i hi => absurd hi (Nat.not_lt_zero _)⟩, ⟨?_, ?_⟩, Or.inr ?_⟩
  all_goals first | rfl | exact ⟨rfl, rfl, rfl, rfl, rfl, rfl, rfl, rfl, rfl, rfl, rfl, rfl, rfl, rfl, rfl, rfl, rfl, rfl, rfl, rfl, rfl, rfl⟩
