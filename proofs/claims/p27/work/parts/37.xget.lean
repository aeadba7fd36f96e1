/-! the calls that only look -/
section XG
variable {K : KX} {S : SS} {Q : Res → AG → AM → Prop} {M : AM}
theorem x_zoneOf (hst : K.1.stackTraces = false) (hI : Inv S) (hX : RX S M) {p : Int} (hp : R32 p) (hQ : ∀ M', RX (aZon S p).2 M' → FX M M' → Q (rsX ["java/lang/IndexOutOfBoundsException"] (aZon S p).1) GG M') : MetA K fZ_zoneOf [aR 0, aI p] GG M Q := by
  have h6 := hI.2.1.1
  unfold aZon at hQ
  refine EZ_zoneOf hst _ (BZ_zoneOf_0 _ (sp_reqV hst hI hX hp (fun h1 => ⟨rfl, ?_⟩) (fun h => ⟨rfl, ?_⟩)))
  · rw [if_pos h1] at hQ
    obtain ⟨v, rfl⟩ := nat_of h1.1
    have hv6 : v < 6 := by omega
    rw [tn] at hQ
    refine ⟨v, wrn (by omega), hv6, ?_⟩
    rw [(hX.2.2.2.1.2 v hv6).1]
    exact hQ M hX FX.rf
  · rw [if_neg h] at hQ
    exact hQ M hX FX.rf
theorem x_energy (hst : K.1.stackTraces = false) (hI : Inv S) (hX : RX S M) {p : Int} (hp : R32 p) (hQ : ∀ M', RX (aEng S p).2 M' → FX M M' → Q (rsX ["java/lang/IndexOutOfBoundsException"] (aEng S p).1) GG M') : MetA K fZ_energy [aR 0, aI p] GG M Q := by
  have h6 := hI.2.1.1
  unfold aEng at hQ
  refine EZ_energy hst _ (BZ_energy_0 _ (sp_reqV hst hI hX hp (fun h1 => ⟨rfl, ?_⟩) (fun h => ⟨rfl, ?_⟩)))
  · rw [if_pos h1] at hQ
    obtain ⟨v, rfl⟩ := nat_of h1.1
    have hv6 : v < 6 := by omega
    rw [tn] at hQ
    refine ⟨v, wrn (by omega), hv6, ?_⟩
    rw [(hX.2.2.2.2.1 v hv6).1]
    exact hQ M hX FX.rf
  · rw [if_neg h] at hQ
    exact hQ M hX FX.rf
theorem x_waited (hst : K.1.stackTraces = false) (hI : Inv S) (hX : RX S M) {p : Int} (hp : R32 p) (hQ : ∀ M', RX (aWai S p).2 M' → FX M M' → Q (rsX ["java/lang/IndexOutOfBoundsException"] (aWai S p).1) GG M') : MetA K fZ_waited [aR 0, aI p] GG M Q := by
  have h6 := hI.2.1.1
  unfold aWai at hQ
  refine EZ_waited hst _ (BZ_waited_0 _ (sp_reqV hst hI hX hp (fun h1 => ⟨rfl, ?_⟩) (fun h => ⟨rfl, ?_⟩)))
  · rw [if_pos h1] at hQ
    obtain ⟨v, rfl⟩ := nat_of h1.1
    have hv6 : v < 6 := by omega
    rw [tn] at hQ
    refine ⟨v, wrn (by omega), hv6, ?_⟩
    rw [(hX.2.2.2.2.1 v hv6).2.1]
    exact hQ M hX FX.rf
  · rw [if_neg h] at hQ
    exact hQ M hX FX.rf
theorem x_routeLength (hst : K.1.stackTraces = false) (hI : Inv S) (hX : RX S M) {p : Int} (hp : R32 p) (hQ : ∀ M', RX (aRln S p).2 M' → FX M M' → Q (rsX ["java/lang/IndexOutOfBoundsException"] (aRln S p).1) GG M') : MetA K fZ_routeLength [aR 0, aI p] GG M Q := by
  have h6 := hI.2.1.1
  unfold aRln at hQ
  refine EZ_routeLength hst _ (BZ_routeLength_0 _ (sp_reqV hst hI hX hp (fun h1 => ⟨rfl, ?_⟩) (fun h => ⟨rfl, ?_⟩)))
  · rw [if_pos h1] at hQ
    obtain ⟨v, rfl⟩ := nat_of h1.1
    have hv6 : v < 6 := by omega
    rw [tn] at hQ
    exact ⟨v, wrn (by omega), hv6, sp_zonesLeft hst hv6 (hX.2.2.2.1.2 v hv6) ⟨rfl, hQ M hX FX.rf⟩⟩
  · rw [if_neg h] at hQ
    exact hQ M hX FX.rf
theorem x_jobState (hst : K.1.stackTraces = false) (hI : Inv S) (hX : RX S M) {p : Int} (hp : R32 p) (hQ : ∀ M', RX (aJst S p).2 M' → FX M M' → Q (rsX ["java/lang/IndexOutOfBoundsException"] (aJst S p).1) GG M') : MetA K fZ_jobState [aR 0, aI p] GG M Q := by
  have hJ := hI.2.2.1
  unfold aJst at hQ
  refine EZ_jobState hst _ (BZ_jobState_0 _ (sp_reqJ hst hI hX hp (fun h1 => ⟨rfl, ?_⟩) (fun h => ⟨rfl, ?_⟩)))
  · rw [if_pos h1] at hQ
    obtain ⟨j, rfl⟩ := nat_of h1.1
    have hj : j < 20 := by omega
    rw [tn] at hQ
    refine ⟨j, wrn (by omega), hj, ?_⟩
    rw [(hX.2.2.2.2.2.2 j hj).2.1]
    exact hQ M hX FX.rf
  · rw [if_neg h] at hQ
    exact hQ M hX FX.rf
theorem x_jobVehicle (hst : K.1.stackTraces = false) (hI : Inv S) (hX : RX S M) {p : Int} (hp : R32 p) (hQ : ∀ M', RX (aJvh S p).2 M' → FX M M' → Q (rsX ["java/lang/IndexOutOfBoundsException"] (aJvh S p).1) GG M') : MetA K fZ_jobVehicle [aR 0, aI p] GG M Q := by
  have hJ := hI.2.2.1
  unfold aJvh at hQ
  refine EZ_jobVehicle hst _ (BZ_jobVehicle_0 _ (sp_reqJ hst hI hX hp (fun h1 => ⟨rfl, ?_⟩) (fun h => ⟨rfl, ?_⟩)))
  · rw [if_pos h1] at hQ
    obtain ⟨j, rfl⟩ := nat_of h1.1
    have hj : j < 20 := by omega
    rw [tn] at hQ
    refine ⟨j, wrn (by omega), hj, ?_⟩
    rw [(hX.2.2.2.2.2.2 j hj).2.2]
    exact hQ M hX FX.rf
  · rw [if_neg h] at hQ
    exact hQ M hX FX.rf
theorem x_regret (hst : K.1.stackTraces = false) (hI : Inv S) (hX : RX S M) {p : Int} (hp : R32 p) (hQ : ∀ M', RX (aReg S p).2 M' → FX M M' → Q (rsX ["java/lang/IndexOutOfBoundsException"] (aReg S p).1) GG M') : MetA K fZ_regret [aR 0, aI p] GG M Q := by
  have hJ := hI.2.2.1
  unfold aReg at hQ
  refine EZ_regret hst _ (BZ_regret_0 _ (sp_reqJ hst hI hX hp (fun h1 => ⟨rfl, ?_⟩) (fun h => ⟨rfl, ?_⟩)))
  · rw [if_pos h1] at hQ
    obtain ⟨j, rfl⟩ := nat_of h1.1
    have hj : j < 20 := by omega
    rw [tn] at hQ
    exact sp_regretOf hst hI (by omega) hX (fun M1 x1 f1 => ⟨rfl, hQ M1 x1 (FX.of f1)⟩)
  · rw [if_neg h] at hQ
    exact hQ M hX FX.rf
theorem x_vehicles (hst : K.1.stackTraces = false) (hX : RX S M) (hQ : ∀ M', RX (aVhs S).2 M' → FX M M' → Q (.inl (some (aI (aVhs S).1.2))) GG M') : MetA K fZ_vehicles [aR 0] GG M Q := by
  refine EZ_vehicles hst (BZ_vehicles_0 ?_)
  rw [hX.2.2.2.1.1]
  exact hQ M hX FX.rf
theorem x_vehicleIn (hst : K.1.stackTraces = false) (hI : Inv S) (hX : RX S M) {p : Int} (hp : R32 p) (hQ : ∀ M', RX (aVin S p).2 M' → FX M M' → Q (rsX ["java/lang/IllegalArgumentException"] (aVin S p).1) GG M') : MetA K fZ_vehicleIn [aR 0, aI p] GG M Q := by
  unfold aVin at hQ
  refine EZ_vehicleIn hst _ (BZ_vehicleIn_0 _ (sp_reqZ hst hp (fun h1 => ⟨rfl, ?_⟩) (fun h => ⟨rfl, ?_⟩)))
  · rw [if_pos h1] at hQ
    obtain ⟨i, rfl⟩ := nat_of h1.1
    rw [tn] at hQ
    exact sp_find hst hI.2.1.1 hX.2.2.2.1 (fun w hw => (hI.2.1.2 w hw).1) (by omega) ⟨rfl, hQ M hX FX.rf⟩
  · rw [if_neg h] at hQ
    exact hQ M hX FX.rf
theorem x_routeZone (hst : K.1.stackTraces = false) (hI : Inv S) (hX : RX S M) {p q : Int} (hp : R32 p) (hq : R32 q) (hQ : ∀ M', RX (aRzn S p q).2 M' → FX M M' → Q (rsX ["java/lang/IndexOutOfBoundsException", "java/lang/IllegalArgumentException"] (aRzn S p q).1) GG M') : MetA K fZ_routeZone [aR 0, aI p, aI q] GG M Q := by
  have h6 := hI.2.1.1
  unfold aRzn at hQ
  refine EZ_routeZone hst _ _ (BZ_routeZone_0 _ _ (sp_reqV hst hI hX hp (fun h1 => ⟨rfl, ?_⟩) (fun h => ⟨rfl, ?_⟩)))
  · rw [if_pos h1] at hQ
    obtain ⟨v, rfl⟩ := nat_of h1.1
    have hv6 : v < 6 := by omega
    rw [tn] at hQ
    have hl := hI.2.2.2.1 v hv6
    refine ⟨v, wrn (by omega), hv6, ?_⟩
    rw [wri hq.1 hq.2]
    refine ⟨fun c => ?_, fun c => sp_zonesLeft hst hv6 (hX.2.2.2.1.2 v hv6) ⟨rfl, ?_⟩⟩
    · rw [if_neg (by omega)] at hQ
      exact hQ M hX FX.rf
    · dsimp only
      rw [wrn (by omega)]
      refine ⟨fun c2 => ?_, fun c2 => ?_⟩
      · rw [if_pos (by omega)] at hQ
        obtain ⟨k, rfl⟩ := nat_of (p := q) (by omega)
        rw [tn] at hQ
        obtain ⟨v1, v2, nx, v3, v4, v5, v6⟩ := hX.2.2.2.1.2 v hv6
        refine ⟨nx + k, ?_, by omega, ?_⟩
        · rw [v3]
          exact wrn (n := nx + k) (by omega)
        · rw [v6 k (by omega)]
          exact hQ M hX FX.rf
      · rw [if_neg (by omega)] at hQ
        exact hQ M hX FX.rf
  · rw [if_neg h] at hQ
    exact hQ M hX FX.rf
theorem okT_S (hI : Inv S) : okT (bsy (snV S) (srl S)) (sBP (snV S) (szn S)) (eBP (snV S) (szn S) (srl S) (srz S)) (rBP (snV S) (srl S) (srz S)) = okS S := by
  funext T v
  exact okT_okP hI.2.1 T v
theorem x_orders (hst : K.1.stackTraces = false) (hI : Inv S) (hX : RX S M) (hQ : ∀ M', RX (aOrd S).2 M' → FX M M' → Q (.inl (some (aI (aOrd S).1.2))) GG M') : MetA K fZ_orders [aR 0] GG M Q := by
  refine EZ_orders hst (BZ_orders_0 (sp_look hst hI.2.1 hX.2.2.2.1 (fun M1 f1 t1 => ⟨rfl, sp_count hst t1 (fun M2 f2 c2 => ⟨rfl, ?_⟩)⟩)))
  have hF : FT M M2 := f1.tr (fun c k hc => f2 c k (by omega))
  dsimp only
  rw [okT_S hI]
  exact hQ M2 (hX.ft hF) (FX.of hF)
theorem bitc : ∀ g : Nat, g < 64 → wia (((wia (((wia ((g : Int) - (wia (wus (g : Int) 1) 1431655765)) 858993459) + (wia (wus ((g : Int) - (wia (wus (g : Int) 1) 1431655765)) 2) 858993459)) + (wus ((wia ((g : Int) - (wia (wus (g : Int) 1) 1431655765)) 858993459) + (wia (wus ((g : Int) - (wia (wus (g : Int) 1) 1431655765)) 2) 858993459)) 4)) 252645135) + (wus (wia (((wia ((g : Int) - (wia (wus (g : Int) 1) 1431655765)) 858993459) + (wia (wus ((g : Int) - (wia (wus (g : Int) 1) 1431655765)) 2) 858993459)) + (wus ((wia ((g : Int) - (wia (wus (g : Int) 1) 1431655765)) 858993459) + (wia (wus ((g : Int) - (wia (wus (g : Int) 1) 1431655765)) 2) 858993459)) 4)) 252645135) 8)) + (wus ((wia (((wia ((g : Int) - (wia (wus (g : Int) 1) 1431655765)) 858993459) + (wia (wus ((g : Int) - (wia (wus (g : Int) 1) 1431655765)) 2) 858993459)) + (wus ((wia ((g : Int) - (wia (wus (g : Int) 1) 1431655765)) 858993459) + (wia (wus ((g : Int) - (wia (wus (g : Int) 1) 1431655765)) 2) 858993459)) 4)) 252645135) + (wus (wia (((wia ((g : Int) - (wia (wus (g : Int) 1) 1431655765)) 858993459) + (wia (wus ((g : Int) - (wia (wus (g : Int) 1) 1431655765)) 2) 858993459)) + (wus ((wia ((g : Int) - (wia (wus (g : Int) 1) 1431655765)) 858993459) + (wia (wus ((g : Int) - (wia (wus (g : Int) 1) 1431655765)) 2) 858993459)) 4)) 252645135) 8)) 16)) 63 = (popc g : Int) := by decide +kernel
theorem sp_bitc (hst : K.1.stackTraces = false) {g : Nat} (hg : g < 64) (hQ : Q (.inl (some (aI (popc g)))) GG M) : MetA K fX_bitCount [aI g] GG M Q := by
  refine EX_bitCount hst _ (BX_bitCount_0 _ ?_)
  rw [bitc g hg]
  exact hQ
theorem popc_le {g : Nat} : popc g ≤ 6 := by
  have := sumN_bd (f := fun v => if g.testBit v = true then 1 else 0) (n := 6) (b := 1) (fun i _ => by split <;> omega)
  unfold popc
  omega
theorem sumN_up {f g : Nat → Nat} {n v : Nat} (hv : v < n) (h : ∀ i, i ≠ v → f i = g i) (h2 : f v = g v + 1) : sumN f n = sumN g n + 1 := by
  induction n with
  | zero => omega
  | succ n ih =>
    unfold sumN
    by_cases e : v = n
    · subst e
      rw [h2, sumN_congr (f := f) (g := g) (fun i hi => h i (by omega))]
      omega
    · rw [ih (by omega), h n (fun q => e q.symm)]
      omega
theorem popc_or {T v : Nat} (hv : v < 6) (h : T.testBit v = false) : popc (T ||| 2 ^ v) = popc T + 1 := by
  unfold popc
  refine sumN_up hv (fun i hi => ?_) ?_
  · rw [or_bit]
    have : ¬ v = i := fun q => hi q.symm
    simp [this]
  · rw [or_bit, h]
    simp
theorem fo_ok {ok : Nat → Nat → Bool} {g : Nat} (hg : g < 64) (hf : Fit ok g) (hp : 0 < cnt ok g 0) : ∀ k, k ≤ popc g → popc (foS ok g k) = k ∧ 0 < cnt ok g (foS ok g k) := by
  intro k
  induction k with
  | zero => intro _; exact ⟨(by decide : popc 0 = 0), hp⟩
  | succ k ih =>
    intro hk
    obtain ⟨h1, h2⟩ := ih (by omega)
    have hs := foS_sub hf k
    have hne : foS ok g k ≠ g := fun e => by rw [e] at h1; omega
    obtain ⟨v, g1, g2, g3, g4⟩ := fr1_some hg hf hs h2 hne
    have hb := (hf _ _ g3).2
    unfold foS
    rw [g1]
    exact ⟨by rw [popc_or g2 hb, h1], g4⟩
theorem fo_some {ok : Nat → Nat → Bool} {g : Nat} (hg : g < 64) (hf : Fit ok g) (hp : 0 < cnt ok g 0) {k : Nat} (hk : k < popc g) : ∃ v, fr1 ok g (foS ok g k) = some v := by
  obtain ⟨h1, h2⟩ := fo_ok hg hf hp k (by omega)
  have hne : foS ok g k ≠ g := fun e => by rw [e] at h1; omega
  obtain ⟨v, g1, -⟩ := fr1_some hg hf (foS_sub hf k) h2 hne
  exact ⟨v, g1⟩
theorem x_finisher (hst : K.1.stackTraces = false) (hI : Inv S) (hX : RX S M) {p : Int} (hp : R32 p) (hQ : ∀ M', RX (aFin S p).2 M' → FX M M' → Q (rsX ["java/lang/IllegalArgumentException"] (aFin S p).1) GG M') : MetA K fZ_finisher [aR 0, aI p] GG M Q := by
  have hg : gS S < 64 := bsy_lt hI.2.1.1
  unfold aFin at hQ
  have no : ¬ (0 ≤ p ∧ p < (popc (gS S) : Int)) → ∀ M', FT M M' → Q (.inr "java/lang/IllegalArgumentException") GG M' := fun h M' hF => by
    have := hQ M'
    rw [if_neg h] at this
    exact this (hX.ft hF) (FX.of hF)
  refine EZ_finisher hst _ (BZ_finisher_0 _ (sp_look hst hI.2.1 hX.2.2.2.1 (fun M1 f1 t1 => ⟨rfl, ?_⟩)))
  dsimp only
  rw [wri hp.1 hp.2]
  refine ⟨fun c => no (fun z => by omega) M1 f1, fun c => ?_⟩
  rw [t1.1]
  refine sp_bitc hst hg ⟨rfl, ?_⟩
  dsimp only
  have hpc := popc_le (g := gS S)
  rw [show bsy (snV S) (srl S) = gS S from rfl, wrn (by omega)]
  refine ⟨fun c2 => ?_, fun c2 => no (fun z => by omega) M1 f1⟩
  rw [if_pos (by omega)] at hQ
  obtain ⟨k, rfl⟩ := nat_of (p := p) (by omega)
  rw [tn] at hQ
  refine sp_count hst t1 (fun M2 f2 c2 => ⟨rfl, ?_⟩)
  have hF : FT M M2 := f1.tr (fun c k hc => f2 c k (by omega))
  have t2 : TXP M2 (snV S) (szn S) (srl S) (srz S) := by
    refine ⟨by rw [f2 _ _ (by omega)]; exact t1.1, t1.2.1, fun v hv => ?_⟩
    rw [f2 _ _ (by omega), f2 _ _ (by omega), f2 _ _ (by omega)]
    exact t1.2.2 v hv
  have hok := okT_S hI
  refine sp_order hst t2 c2 (p := k) (by omega) (fun i hi => ?_) ⟨rfl, ?_⟩
  · rw [hok]
    exact fo_some hg okP_fit hI.2.2.2.2.2.2.2.2.2.2 (by omega)
  · dsimp only
    rw [hok]
    exact hQ M2 (hX.ft hF) (FX.of hF)
end XG
