/-! vehicles in zones of their own, routes along lanes, the first order -/
def bzc (rl : Nat → Nat) (i : Nat) : Nat := sumN (fun u => if 0 < rl u then 1 else 0) i
theorem sumN_ext {f : Nat → Nat} {n : Nat} (h : ∀ i, n ≤ i → f i = 0) : ∀ d, sumN f (n + d) = sumN f n := by
  intro d
  induction d with
  | zero => rfl
  | succ d ih =>
    show sumN f (n + d) + f (n + d) = _
    rw [ih, h _ (by omega), Nat.add_zero]
theorem bzc_all {S : SS} (h : Inv S) : bzc (srl S) (snV S) = popc (gS S) := by
  have h6 := h.2.1.1
  unfold popc bzc
  have e := sumN_ext (f := fun v => if (gS S).testBit v = true then 1 else 0) (n := snV S) (fun i hi => by
    show (if (bsy (snV S) (srl S)).testBit i = true then 1 else 0) = 0
    rw [bsy_bit, if_neg]
    simp
    omega) (6 - snV S)
  rw [show snV S + (6 - snV S) = 6 by omega] at e
  rw [e]
  refine sumN_congr (fun i hi => ?_)
  show (if 0 < srl S i then 1 else 0) = if (bsy (snV S) (srl S)).testBit i = true then 1 else 0
  rw [bsy_bit]
  by_cases c : 0 < srl S i
  · rw [if_pos c, if_pos (by simp [hi, c])]
  · rw [if_neg c, if_neg (by simp [c])]
theorem popc_0 : ∀ g : Nat, g < 64 → popc g = 0 → g = 0 := by decide +kernel
theorem bit_at : ∀ m : Nat, m < 64 → ∀ v : Nat, v < 6 → wr (wia (wsr (m : Int) (v : Int)) 1) = if m.testBit v = true then 1 else 0 := by decide +kernel
theorem or_at : ∀ m : Nat, m < 64 → ∀ v : Nat, v < 6 → wio (m : Int) (wsl 1 (v : Int)) = ((m ||| 2 ^ v : Nat) : Int) := by decide +kernel
theorem okS_spec {S : SS} {T v : Nat} (h : okS S T v = true) : v < snV S ∧ 0 < srl S v ∧ T.testBit v = false ∧ ∀ k, k < srl S v → ∀ o, o < snV S → o ≠ v → plc (szn S) (srl S) (srz S) o T ≠ srz S v k := by
  unfold okS okP at h
  simp only [Bool.and_eq_true, decide_eq_true_eq, Bool.not_eq_true'] at h
  exact ⟨h.1.1.1, h.1.1.2, h.1.2, h.2⟩
theorem fr_ok {S : SS} (h : Inv S) {k : Nat} (hk : k < popc (gS S)) : ∃ v, fr1 (okS S) (gS S) (foS (okS S) (gS S) k) = some v ∧ okS S (foS (okS S) (gS S) k) v = true ∧ foS (okS S) (gS S) (k + 1) = foS (okS S) (gS S) k ||| 2 ^ v ∧ 0 < cnt (okS S) (gS S) (foS (okS S) (gS S) k ||| 2 ^ v) := by
  have hg : gS S < 64 := bsy_lt h.2.1.1
  obtain ⟨h1, h2⟩ := fo_ok hg okP_fit h.2.2.2.2.2.2.2.2.2.2 k (by omega)
  have hne : foS (okS S) (gS S) k ≠ gS S := fun e => by
    have h3 : popc (foS (okS S) (gS S) k) = k := h1
    rw [e] at h3
    omega
  obtain ⟨v, g1, g2, g3, g4⟩ := fr1_some hg okP_fit (foS_sub okP_fit k) h2 hne
  refine ⟨v, g1, g3, ?_, g4⟩
  have g1' : fr1 (okS S) (gS S) (foS (okS S) (gS S) k) = some v := g1
  show (match fr1 (okS S) (gS S) (foS (okS S) (gS S) k) with | some v => _ | none => _) = _
  rw [g1']
theorem aFin_ok {S : SS} {k : Nat} (hk : k < popc (gS S)) : aFin S (k : Int) = ((0, o2i (fr1 (okS S) (gS S) (foS (okS S) (gS S) k))), S) := by
  unfold aFin
  rw [if_pos (by omega), tn]
theorem aFin_no {S : SS} {k : Nat} (hk : ¬ k < popc (gS S)) : aFin S (k : Int) = ((1, 0), S) := by
  unfold aFin
  rw [if_neg (by omega)]
theorem way_le {D : Nat → Nat → Nat} (h : GM D) {z l : Nat} {r : Nat → Nat} (hz : z < 20) (hr : ∀ k, k < l → r k < 20) (h1 : ∀ k, k < l → D (pz z r k) (r k) = 1) : ∀ k, k < l → D z (r k) ≤ k + 1 := by
  intro k
  induction k with
  | zero => intro hk; have := h1 0 hk; exact Nat.le_of_eq this
  | succ k ih =>
    intro hk
    have e := h1 (k + 1) hk
    have e2 : pz z r (k + 1) = r k := by
      unfold pz
      rw [if_neg (by omega)]
      rfl
    rw [e2] at e
    have t := h.2.2.2.1 z (r k) (r (k + 1)) hz (hr k (by omega)) (hr (k + 1) hk)
    have := ih (by omega)
    omega
theorem fnd_own {S : SS} (h : Inv3 S) {v : Nat} (hv : v < snV S) : fnd (snV S) (szn S) (szn S v) = some v :=
  List.find?_range_eq_some.mpr ⟨by simp, List.mem_range.mpr hv, fun j hj => by
    have := h.2.1 j v (by omega) hv
    simp
    intro e
    have := this e
    omega⟩
section VS
variable {K : KX} {S T : SS} {Q : Res → AG → AM → Prop}
theorem lo_finisher (hst : K.1.stackTraces = false) (hI : Inv S) {M : AM} (h : DB S T M) {k : Nat} (hk : k ≤ 6) {k0 : Int → AM → Prop} {x : String → AM → Prop} (hQ : ∀ M', DB S T M' → k0 (if (aFin S k).1.1 = 0 then (aFin S k).1.2 else -1) M') : MetA K fL_finisher [aR 0, aI k] GG M (cI GG k0 x) :=
  l_finisher hst hI h.1 ⟨by omega, by omega⟩ (fun M' r f => ⟨rfl, hQ M' (h.o r f)⟩)
theorem lp_fin (hst : K.1.stackTraces = false) (hI : Inv S) (hQ : ∀ M', DB S T M' → Q (.inl (some (aI 1))) GG M') : ∀ (d k : Nat) (M : AM) (uc us : Nat), k + d = popc (gS S) → uc + 2 * d + 2 ≤ 1000 → us + 12 * d + 12 ≤ 6000 → DB S T M →
    WM K fL_areVehiclesSo (EM K fL_areVehiclesSo 126 Q) 142 [some (aR 0), some (aI (popc (gS S) : Nat)), some (aI (foS (okS S) (gS S) k : Nat)), some (aI k), none, none, none, none] [] GG M uc us := by
  have h6 := hI.2.1.1
  have hp := popc_le (g := gS S)
  have hg : gS S < 64 := bsy_lt h6
  have hc : cntS S ≤ 46656 := cnt_bd
  have hc0 : 0 < cntS S := hI.2.2.2.2.2.2.2.2.2.2
  intro d
  induction d with
  | zero =>
    intro k M uc us hk hu hw h
    have hk2 : k = popc (gS S) := by omega
    refine BL_areVehiclesSo_142 _ _ _ (by omega) (by omega) ⟨fun _ => ?_, fun c => absurd ?_ c⟩
    · refine o_orders hst hI h (fun M1 d1 => ?_)
      rw [wrn (by omega), wr_1]
      refine ⟨fun c => by omega, fun _ => ?_⟩
      rw [show ((popc (gS S) : Nat) : Int) = (k : Int) by omega]
      refine lo_finisher hst hI d1 (by omega) (fun M2 d2 => ?_)
      rw [aFin_no (by omega)]
      refine ⟨fun _ => ⟨fun _ => hQ M2 d2, fun c => ?_⟩, fun c => absurd rfl c⟩
      rw [wrn (by omega)] at c
      refine o_orders hst hI d2 (fun M3 d3 => ?_)
      have h0 : popc (gS S) = 0 := by omega
      have hg0 := popc_0 _ hg h0
      have e1 : cntS S = 1 := by
        show cnt (okS S) (gS S) 0 = 1
        rw [hg0]
        unfold cnt cnF
        rfl
      rw [e1]
      exact ⟨fun _ => hQ M3 d3, fun c => absurd rfl c⟩
    · rw [wrn (by omega), wrn (by omega)]; omega
  | succ d ih =>
    intro k M uc us hk hu hw h
    obtain ⟨v, g1, g2, g3, g4⟩ := fr_ok hI (k := k) (by omega)
    obtain ⟨q1, q2, q3, q4⟩ := okS_spec g2
    have hm : foS (okS S) (gS S) k < 64 := sub_lt hg (foS_sub okP_fit k)
    refine BL_areVehiclesSo_142 _ _ _ (by omega) (by omega) ⟨fun c => ?_, fun _ => ?_⟩
    · rw [wrn (by omega), wrn (by omega)] at c; omega
    · refine lo_finisher hst hI h (by omega) (fun M1 d1 => ?_)
      rw [aFin_ok (by omega), g1, if_pos rfl]
      have e : o2i (some v) = (v : Int) := rfl
      rw [e, wrn (by omega), bit_at _ hm v (by omega), if_neg (by rw [q3]; decide), wr_1]
      refine ⟨fun c => by omega, fun _ => ⟨fun c => absurd c (by decide), fun _ => ?_⟩⟩
      refine o_routeLength hst hI d1 q1 (fun M2 d2 => ?_)
      have hl := hI.2.2.2.1 v (by omega)
      rw [wrn (by omega)]
      refine ⟨fun c => by omega, fun _ => ?_⟩
      rw [or_at _ hm v (by omega), ← g3]
      exact ih (k + 1) M2 _ _ (by omega) (by omega) (by omega) d2
theorem lp_way (hst : K.1.stackTraces = false) (hI : Inv3 S) {v : Nat} (hv : v < snV S) {x1 x2 : Int} {UB SB : Nat} (hUB : UB + 7 ≤ 1000) (hSB : SB + 42 ≤ 6000)
    (hk : ∀ (M' : AM) (uc us : Nat), DB S T M' → uc ≤ UB → us ≤ SB → WM K fL_areVehiclesSo (EM K fL_areVehiclesSo 126 Q) 6 [some (aR 0), some (aI (x1 + (if 0 < srl S v then 1 else 0))), some (aI x2), some (aI (v + 1)), none, none, none, none] [] GG M' uc us) :
    ∀ (d k : Nat) (M : AM) (uc us : Nat), k + d = srl S v → uc + 7 * d ≤ UB → us + 42 * d ≤ SB → DB S T M →
    WM K fL_areVehiclesSo (EM K fL_areVehiclesSo 126 Q) 63 [some (aR 0), some (aI x1), some (aI x2), some (aI v), some (aI (pz (szn S v) (srz S v) k : Nat)), some (aI (srl S v : Nat)), some (aI k), none] [] GG M uc us := by
  have h6 := hI.1.2.1.1
  have hl := hI.1.2.2.2.1 v (by omega)
  have hp := hI.1.2.1.2 v hv
  obtain ⟨v1, v2, v3, v4⟩ := hI.2.2.1 v hv
  intro d
  induction d with
  | zero =>
    intro k M uc us hk2 hu hw h
    have hk3 : k = srl S v := by omega
    refine BL_areVehiclesSo_63 _ _ _ _ _ _ (by omega) (by omega) ⟨fun _ => ⟨fun c => ?_, fun c => ?_⟩, fun c => absurd ?_ c⟩
    · rw [wrn (by omega)] at c
      have := hk M uc us h (by omega) (by omega)
      rw [if_neg (by omega)] at this
      exact this
    · rw [wrn (by omega)] at c
      have := hk M uc us h (by omega) (by omega)
      rw [if_pos (by omega)] at this
      exact this
    · rw [wrn (by omega), wrn (by omega)]; omega
  | succ d ih =>
    intro k M uc us hk2 hu hw h
    have hkl : k < srl S v := by omega
    have hat := pz_lt hI.1 hv hkl
    have hr := (hp.2 k hkl).1
    refine BL_areVehiclesSo_63 _ _ _ _ _ _ (by omega) (by omega) ⟨fun c => ?_, fun _ => ?_⟩
    · rw [wrn (by omega), wrn (by omega)] at c; omega
    · refine o_routeZone hst hI.1 h hv hkl (fun M1 d1 => o_distance hst hI.1 d1 hat hr (fun M2 d2 => ?_))
      rw [v4 k hkl]
      refine ⟨fun _ => ?_, fun c => absurd rfl c⟩
      refine o_zoneOf hst hI.1 d2 hv (fun M3 d3 => o_distance hst hI.1 d3 hp.1 hr (fun M4 d4 => ?_))
      have hw2 := way_le hI.1.1 hp.1 (fun k hk => (hp.2 k hk).1) v4 k hkl
      rw [if_pos (by omega), wrn (by omega)]
      have e1 : wr ((k : Int) + 1) = (k : Int) + 1 := wri (by omega) (by omega)
      rw [e1]
      refine ⟨fun _ => ?_, fun c => absurd (by omega) c⟩
      have e2 : srz S v k = pz (szn S v) (srz S v) (k + 1) := by
        unfold pz
        rw [if_neg (by omega)]
        rfl
      rw [e2]
      exact ih (k + 1) M4 _ _ (by omega) (by omega) (by omega) d4
theorem lp_vehs (hst : K.1.stackTraces = false) (hI : Inv3 S) (hQ : ∀ M', DB S T M' → Q (.inl (some (aI 1))) GG M') : ∀ (d i : Nat) (M : AM) (uc us : Nat), i + d = snV S → uc ≤ 150 * i → us ≤ 900 * i → DB S T M →
    WM K fL_areVehiclesSo (EM K fL_areVehiclesSo 126 Q) 6 [some (aR 0), some (aI (bzc (srl S) i : Nat)), some (aI 0), some (aI i), none, none, none, none] [] GG M uc us := by
  have h6 := hI.1.2.1.1
  intro d
  induction d with
  | zero =>
    intro i M uc us hi hu hw h
    have hi2 : i = snV S := by omega
    have hp := popc_le (g := gS S)
    refine BL_areVehiclesSo_6 _ _ _ (by omega) (by omega) (o_vehicles hst hI.1 h (fun M1 d1 => ⟨fun _ => ?_, fun c => absurd ?_ c⟩))
    · rw [hi2, bzc_all hI.1]
      exact lp_fin hst hI.1 hQ (popc (gS S)) 0 M1 uc us (by omega) (by omega) (by omega) d1
    · rw [wrn (by omega), wrn (by omega)]; omega
  | succ d ih =>
    intro i M uc us hi hu hw h
    have hv : i < snV S := by omega
    have hl := hI.1.2.2.2.1 i (by omega)
    obtain ⟨v1, v2, v3, v4⟩ := hI.2.2.1 i hv
    refine BL_areVehiclesSo_6 _ _ _ (by omega) (by omega) (o_vehicles hst hI.1 h (fun M1 d1 => ⟨fun c => ?_, fun _ => ?_⟩))
    · rw [wrn (by omega), wrn (by omega)] at c; omega
    · refine o_zoneOf hst hI.1 d1 hv (fun M2 d2 => o_routeLength hst hI.1 d2 hv (fun M3 d3 => ?_))
      refine o_vehicleIn hst hI.1 d3 (hI.1.2.1.2 i hv).1 (fun M4 d4 => ?_)
      rw [fnd_own hI hv]
      refine ⟨fun _ => ?_, fun c => absurd rfl c⟩
      refine o_energy hst hI.1 d4 hv (fun M5 d5 => ?_)
      rw [wri (z := sen S i) (by omega) (by omega), wrn (by omega)]
      refine ⟨fun c => by omega, fun _ => o_energy hst hI.1 d5 hv (fun M6 d6 => ?_)⟩
      rw [wri (z := sen S i) (by omega) (by omega), wr_60]
      refine ⟨fun _ => ?_, fun c => absurd v2 c⟩
      refine lp_way (UB := 150 * (i + 1)) (SB := 900 * (i + 1)) hst hI hv (by omega) (by omega) (fun M' uc' us' d' hu' hw' => ?_) (srl S i) 0 M6 _ _ (by omega) (by omega) (by omega) d6
      have := ih (i + 1) M' uc' us' (by omega) hu' hw' d'
      have e : ((bzc (srl S) (i + 1) : Nat) : Int) = (bzc (srl S) i : Int) + (if 0 < srl S i then 1 else 0) := by
        show ((bzc (srl S) i + (if 0 < srl S i then 1 else 0) : Nat) : Int) = _
        split <;> omega
      rw [e] at this
      exact this
theorem l_vehs (hst : K.1.stackTraces = false) (hI : Inv3 S) {M : AM} (h : DB S T M) (hQ : ∀ M', DB S T M' → Q (.inl (some (aI 1))) GG M') : MetA K fL_areVehiclesSo [aR 0] GG M Q :=
  EL_areVehiclesSo hst (BL_areVehiclesSo_0 (by omega) (by omega) (lp_vehs hst hI hQ (snV S) 0 M 0 0 (by omega) (by omega) (by omega) h))
end VS
