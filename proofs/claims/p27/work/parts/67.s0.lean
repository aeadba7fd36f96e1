/-! the state that both begin with -/
theorem gm_D0 : GM D0 := by
  refine ⟨fun i _ => if_pos rfl, fun i j _ _ h => by unfold D0; rw [if_neg h]; omega, fun i j _ _ => ?_, fun i j k _ _ _ => ?_, fun i j d _ _ h hd => ?_, fun i j _ _ => by unfold D0; split <;> omega⟩
  · unfold D0
    by_cases h : i = j
    · rw [if_pos h, if_pos h.symm]
    · rw [if_neg h, if_neg (fun q => h q.symm)]
  · unfold D0
    split <;> split <;> split <;> omega
  · exfalso
    unfold D0 at h
    split at h <;> omega
theorem inv_S0 : Inv S0 := by
  refine ⟨gm_D0, ⟨Nat.zero_le _, fun v hv => absurd hv (Nat.not_lt_zero v)⟩, Nat.zero_le _, fun v _ => Nat.zero_le _, fun v a b ha => absurd ha (Nat.not_lt_zero a), fun v _ => ⟨rfl, rfl, rfl⟩, fun v j h => ?_, fun j hj => absurd hj (Nat.not_lt_zero j), fun j _ => ⟨rfl, rfl⟩, fun j => Or.inl rfl, ?_⟩
  · cases h
  · have : cntS S0 = 1 := by
      show cntP 0 _ _ _ 0 = 1
      unfold cntP cnt cnF bsy
      rfl
    omega
