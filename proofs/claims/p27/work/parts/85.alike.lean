/-! both objects answer alike, where they stand alike -/
section AK
variable {K : KX} {S : SS} {Q : Res → AG → AM → Prop}
theorem lp_alike (hst : K.1.stackTraces = false) (hI : Inv S) (hQ : ∀ M', DB S S M' → Q (.inl (some (aI 1))) GG M') : ∀ (d i : Nat) (M : AM) (uc us : Nat), i + d = snV S → uc + 8 * d + 8 ≤ 60 → us + 48 * d + 48 ≤ 400 → DB S S M → WM K fL_areAlike (EM K fL_areAlike 126 Q) 30 [some (aR 0), some (aR 63), some (aI 1), some (aI i)] [] GG M uc us := by
  have h6 := hI.2.1.1
  intro d
  induction d with
  | zero =>
    intro i M uc us hi hu hw h
    refine BL_areAlike_30 _ _ (by omega) (by omega) (o_vehicles hst hI h (fun M1 d1 => ⟨fun _ => ⟨Or.inr rfl, hQ M1 d1⟩, fun c => absurd ?_ c⟩))
    rw [wrn (by omega), wrn (by omega)]
    omega
  | succ d ih =>
    intro i M uc us hi hu hw h
    have hv : i < snV S := by omega
    refine BL_areAlike_30 _ _ (by omega) (by omega) (o_vehicles hst hI h (fun M1 d1 => ⟨fun c => ?_, fun _ => ⟨fun c => absurd c (by rw [wr_1]; decide), fun _ => ?_⟩⟩))
    · rw [wrn (by omega), wrn (by omega)] at c; omega
    · refine o_zoneOf hst hI d1 hv (fun M2 d2 => p_zoneOf hst hI d2 hv (fun M3 d3 => ⟨fun _ => ?_, fun c => absurd rfl c⟩))
      refine o_energy hst hI d3 hv (fun M4 d4 => p_energy hst hI d4 hv (fun M5 d5 => ⟨fun _ => ?_, fun c => absurd rfl c⟩))
      refine o_routeLength hst hI d5 hv (fun M6 d6 => p_routeLength hst hI d6 hv (fun M7 d7 => ⟨fun _ => ?_, fun c => absurd rfl c⟩))
      refine o_waited hst hI d7 hv (fun M8 d8 => p_waited hst hI d8 hv (fun M9 d9 => ⟨fun _ => ?_, fun c => absurd rfl c⟩))
      exact ih (i + 1) M9 _ _ (by omega) (by omega) (by omega) d9
theorem l_alike (hst : K.1.stackTraces = false) (hI : Inv S) {M : AM} (h : DB S S M) (hQ : ∀ M', DB S S M' → Q (.inl (some (aI 1))) GG M') : MetA K fL_areAlike [aR 0, aR 63] GG M Q := by
  have h6 := hI.2.1.1
  refine EL_areAlike hst (BL_areAlike_0 (by omega) (by omega) ?_)
  refine o_vehicles hst hI h (fun M1 d1 => p_vehicles hst hI d1 (fun M2 d2 => ⟨fun _ => ?_, fun c => absurd rfl c⟩))
  refine o_orders hst hI d2 (fun M3 d3 => p_orders hst hI d3 (fun M4 d4 => ⟨fun _ => ?_, fun c => absurd rfl c⟩))
  exact lp_alike hst hI hQ (snV S) 0 M4 0 0 (by omega) (by omega) (by omega) d4
end AK
