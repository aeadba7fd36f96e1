/-! calls on one of two objects, where they don't throw (printed by gen84.py) -/
/-- the first object stands as S says, the second one as T says -/
def DB (S T : SS) (M : AM) : Prop := RX S M ∧ RX T (sw M)
theorem DB.o {S T S' : SS} {M M' : AM} (h : DB S T M) (r : RX S' M') (f : FX M M') : DB S' T M' := ⟨r, h.2.same (fun c k hc _ => by rw [sw_lo hc, sw_lo hc]; exact f _ _ (by omega))⟩
theorem DB.p {S T T' : SS} {M M' : AM} (h : DB S T M) (r : RX T' M') (f : FX (sw M) M') : DB S T' (sw M') := by
  refine ⟨h.1.same (fun c k hc _ => ?_), by rw [sw_sw]; exact r⟩
  rw [sw_lo hc]
  have := f (c + 63) k (by omega)
  rw [this, sw_hi (by omega) (by omega), show c + 63 - 63 = c by omega]
section PR
variable {K : KX} {S T : SS} {M : AM} {k : Int → AM → Prop} {x : String → AM → Prop}
theorem o_zoneOf (hst : K.1.stackTraces = false) (hI : Inv S) (h : DB S T M) {v : Nat} (hv : v < snV S) (hk : ∀ M', DB S T M' → k ((szn S v : Int)) M') : MetA K fZ_zoneOf [aR 0, aI v] GG M (cI GG k x) := by
  have h6 := hI.2.1.1
  have hJ := hI.2.2.1
  have e : aZon S (v : Int) = ((0, (szn S v : Int)), S) := by unfold aZon; rw [if_pos (by omega), tn]
  refine x_zoneOf hst hI h.1 ⟨by omega, by omega⟩ (fun M1 r1 f1 => ?_)
  rw [e] at r1 ⊢
  exact ⟨rfl, hk M1 (h.o r1 f1)⟩
theorem p_zoneOf (hst : K.1.stackTraces = false) (hI : Inv T) (h : DB S T M) {v : Nat} (hv : v < snV T) (hk : ∀ M', DB S T M' → k ((szn T v : Int)) M') : MetA K fZ_zoneOf [aR 63, aI v] GG M (cI GG k x) := by
  have h6 := hI.2.1.1
  have hJ := hI.2.2.1
  have e : aZon T (v : Int) = ((0, (szn T v : Int)), T) := by unfold aZon; rw [if_pos (by omega), tn]
  refine sw_cI [(v : Int)] rfl (x_zoneOf (M := sw M) hst hI h.2 ⟨by omega, by omega⟩ (fun M1 r1 f1 => ?_))
  rw [e] at r1 ⊢
  exact ⟨rfl, hk (sw M1) (h.p r1 f1)⟩
theorem o_energy (hst : K.1.stackTraces = false) (hI : Inv S) (h : DB S T M) {v : Nat} (hv : v < snV S) (hk : ∀ M', DB S T M' → k (sen S v) M') : MetA K fZ_energy [aR 0, aI v] GG M (cI GG k x) := by
  have h6 := hI.2.1.1
  have hJ := hI.2.2.1
  have e : aEng S (v : Int) = ((0, sen S v), S) := by unfold aEng; rw [if_pos (by omega), tn]
  refine x_energy hst hI h.1 ⟨by omega, by omega⟩ (fun M1 r1 f1 => ?_)
  rw [e] at r1 ⊢
  exact ⟨rfl, hk M1 (h.o r1 f1)⟩
theorem p_energy (hst : K.1.stackTraces = false) (hI : Inv T) (h : DB S T M) {v : Nat} (hv : v < snV T) (hk : ∀ M', DB S T M' → k (sen T v) M') : MetA K fZ_energy [aR 63, aI v] GG M (cI GG k x) := by
  have h6 := hI.2.1.1
  have hJ := hI.2.2.1
  have e : aEng T (v : Int) = ((0, sen T v), T) := by unfold aEng; rw [if_pos (by omega), tn]
  refine sw_cI [(v : Int)] rfl (x_energy (M := sw M) hst hI h.2 ⟨by omega, by omega⟩ (fun M1 r1 f1 => ?_))
  rw [e] at r1 ⊢
  exact ⟨rfl, hk (sw M1) (h.p r1 f1)⟩
theorem o_routeLength (hst : K.1.stackTraces = false) (hI : Inv S) (h : DB S T M) {v : Nat} (hv : v < snV S) (hk : ∀ M', DB S T M' → k ((srl S v : Int)) M') : MetA K fZ_routeLength [aR 0, aI v] GG M (cI GG k x) := by
  have h6 := hI.2.1.1
  have hJ := hI.2.2.1
  have e : aRln S (v : Int) = ((0, (srl S v : Int)), S) := by unfold aRln; rw [if_pos (by omega), tn]
  refine x_routeLength hst hI h.1 ⟨by omega, by omega⟩ (fun M1 r1 f1 => ?_)
  rw [e] at r1 ⊢
  exact ⟨rfl, hk M1 (h.o r1 f1)⟩
theorem p_routeLength (hst : K.1.stackTraces = false) (hI : Inv T) (h : DB S T M) {v : Nat} (hv : v < snV T) (hk : ∀ M', DB S T M' → k ((srl T v : Int)) M') : MetA K fZ_routeLength [aR 63, aI v] GG M (cI GG k x) := by
  have h6 := hI.2.1.1
  have hJ := hI.2.2.1
  have e : aRln T (v : Int) = ((0, (srl T v : Int)), T) := by unfold aRln; rw [if_pos (by omega), tn]
  refine sw_cI [(v : Int)] rfl (x_routeLength (M := sw M) hst hI h.2 ⟨by omega, by omega⟩ (fun M1 r1 f1 => ?_))
  rw [e] at r1 ⊢
  exact ⟨rfl, hk (sw M1) (h.p r1 f1)⟩
theorem o_waited (hst : K.1.stackTraces = false) (hI : Inv S) (h : DB S T M) {v : Nat} (hv : v < snV S) (hk : ∀ M', DB S T M' → k (swt S v) M') : MetA K fZ_waited [aR 0, aI v] GG M (cI GG k x) := by
  have h6 := hI.2.1.1
  have hJ := hI.2.2.1
  have e : aWai S (v : Int) = ((0, swt S v), S) := by unfold aWai; rw [if_pos (by omega), tn]
  refine x_waited hst hI h.1 ⟨by omega, by omega⟩ (fun M1 r1 f1 => ?_)
  rw [e] at r1 ⊢
  exact ⟨rfl, hk M1 (h.o r1 f1)⟩
theorem p_waited (hst : K.1.stackTraces = false) (hI : Inv T) (h : DB S T M) {v : Nat} (hv : v < snV T) (hk : ∀ M', DB S T M' → k (swt T v) M') : MetA K fZ_waited [aR 63, aI v] GG M (cI GG k x) := by
  have h6 := hI.2.1.1
  have hJ := hI.2.2.1
  have e : aWai T (v : Int) = ((0, swt T v), T) := by unfold aWai; rw [if_pos (by omega), tn]
  refine sw_cI [(v : Int)] rfl (x_waited (M := sw M) hst hI h.2 ⟨by omega, by omega⟩ (fun M1 r1 f1 => ?_))
  rw [e] at r1 ⊢
  exact ⟨rfl, hk (sw M1) (h.p r1 f1)⟩
theorem o_canStep (hst : K.1.stackTraces = false) (hI : Inv S) (h : DB S T M) {v : Nat} (hv : v < snV S) (hk : ∀ M', DB S T M' → k (b2i (mayS S v)) M') : MetA K fZ_canStep [aR 0, aI v] GG M (cI GG k x) := by
  have h6 := hI.2.1.1
  have hJ := hI.2.2.1
  have e : aMay S (v : Int) = ((0, b2i (mayS S v)), S) := by unfold aMay; rw [if_pos (by omega), tn]
  refine x_canStep hst hI h.1 ⟨by omega, by omega⟩ (fun M1 r1 f1 => ?_)
  rw [e] at r1 ⊢
  exact ⟨rfl, hk M1 (h.o r1 f1)⟩
theorem p_canStep (hst : K.1.stackTraces = false) (hI : Inv T) (h : DB S T M) {v : Nat} (hv : v < snV T) (hk : ∀ M', DB S T M' → k (b2i (mayS T v)) M') : MetA K fZ_canStep [aR 63, aI v] GG M (cI GG k x) := by
  have h6 := hI.2.1.1
  have hJ := hI.2.2.1
  have e : aMay T (v : Int) = ((0, b2i (mayS T v)), T) := by unfold aMay; rw [if_pos (by omega), tn]
  refine sw_cI [(v : Int)] rfl (x_canStep (M := sw M) hst hI h.2 ⟨by omega, by omega⟩ (fun M1 r1 f1 => ?_))
  rw [e] at r1 ⊢
  exact ⟨rfl, hk (sw M1) (h.p r1 f1)⟩
theorem o_jobState (hst : K.1.stackTraces = false) (hI : Inv S) (h : DB S T M) {j : Nat} (hj : j < snJ S) (hk : ∀ M', DB S T M' → k (sjs S j) M') : MetA K fZ_jobState [aR 0, aI j] GG M (cI GG k x) := by
  have h6 := hI.2.1.1
  have hJ := hI.2.2.1
  have e : aJst S (j : Int) = ((0, sjs S j), S) := by unfold aJst; rw [if_pos (by omega), tn]
  refine x_jobState hst hI h.1 ⟨by omega, by omega⟩ (fun M1 r1 f1 => ?_)
  rw [e] at r1 ⊢
  exact ⟨rfl, hk M1 (h.o r1 f1)⟩
theorem p_jobState (hst : K.1.stackTraces = false) (hI : Inv T) (h : DB S T M) {j : Nat} (hj : j < snJ T) (hk : ∀ M', DB S T M' → k (sjs T j) M') : MetA K fZ_jobState [aR 63, aI j] GG M (cI GG k x) := by
  have h6 := hI.2.1.1
  have hJ := hI.2.2.1
  have e : aJst T (j : Int) = ((0, sjs T j), T) := by unfold aJst; rw [if_pos (by omega), tn]
  refine sw_cI [(j : Int)] rfl (x_jobState (M := sw M) hst hI h.2 ⟨by omega, by omega⟩ (fun M1 r1 f1 => ?_))
  rw [e] at r1 ⊢
  exact ⟨rfl, hk (sw M1) (h.p r1 f1)⟩
theorem o_jobVehicle (hst : K.1.stackTraces = false) (hI : Inv S) (h : DB S T M) {j : Nat} (hj : j < snJ S) (hk : ∀ M', DB S T M' → k (sjv S j) M') : MetA K fZ_jobVehicle [aR 0, aI j] GG M (cI GG k x) := by
  have h6 := hI.2.1.1
  have hJ := hI.2.2.1
  have e : aJvh S (j : Int) = ((0, sjv S j), S) := by unfold aJvh; rw [if_pos (by omega), tn]
  refine x_jobVehicle hst hI h.1 ⟨by omega, by omega⟩ (fun M1 r1 f1 => ?_)
  rw [e] at r1 ⊢
  exact ⟨rfl, hk M1 (h.o r1 f1)⟩
theorem p_jobVehicle (hst : K.1.stackTraces = false) (hI : Inv T) (h : DB S T M) {j : Nat} (hj : j < snJ T) (hk : ∀ M', DB S T M' → k (sjv T j) M') : MetA K fZ_jobVehicle [aR 63, aI j] GG M (cI GG k x) := by
  have h6 := hI.2.1.1
  have hJ := hI.2.2.1
  have e : aJvh T (j : Int) = ((0, sjv T j), T) := by unfold aJvh; rw [if_pos (by omega), tn]
  refine sw_cI [(j : Int)] rfl (x_jobVehicle (M := sw M) hst hI h.2 ⟨by omega, by omega⟩ (fun M1 r1 f1 => ?_))
  rw [e] at r1 ⊢
  exact ⟨rfl, hk (sw M1) (h.p r1 f1)⟩
theorem o_regret (hst : K.1.stackTraces = false) (hI : Inv S) (h : DB S T M) {j : Nat} (hj : j < snJ S) (hk : ∀ M', DB S T M' → k (regS S j) M') : MetA K fZ_regret [aR 0, aI j] GG M (cI GG k x) := by
  have h6 := hI.2.1.1
  have hJ := hI.2.2.1
  have e : aReg S (j : Int) = ((0, regS S j), S) := by unfold aReg; rw [if_pos (by omega), tn]
  refine x_regret hst hI h.1 ⟨by omega, by omega⟩ (fun M1 r1 f1 => ?_)
  rw [e] at r1 ⊢
  exact ⟨rfl, hk M1 (h.o r1 f1)⟩
theorem p_regret (hst : K.1.stackTraces = false) (hI : Inv T) (h : DB S T M) {j : Nat} (hj : j < snJ T) (hk : ∀ M', DB S T M' → k (regS T j) M') : MetA K fZ_regret [aR 63, aI j] GG M (cI GG k x) := by
  have h6 := hI.2.1.1
  have hJ := hI.2.2.1
  have e : aReg T (j : Int) = ((0, regS T j), T) := by unfold aReg; rw [if_pos (by omega), tn]
  refine sw_cI [(j : Int)] rfl (x_regret (M := sw M) hst hI h.2 ⟨by omega, by omega⟩ (fun M1 r1 f1 => ?_))
  rw [e] at r1 ⊢
  exact ⟨rfl, hk (sw M1) (h.p r1 f1)⟩
theorem o_vehicleIn (hst : K.1.stackTraces = false) (hI : Inv S) (h : DB S T M) {z : Nat} (hz : z < 20) (hk : ∀ M', DB S T M' → k (o2i (fnd (snV S) (szn S) z)) M') : MetA K fZ_vehicleIn [aR 0, aI z] GG M (cI GG k x) := by
  have h6 := hI.2.1.1
  have hJ := hI.2.2.1
  have e : aVin S (z : Int) = ((0, o2i (fnd (snV S) (szn S) z)), S) := by unfold aVin; rw [if_pos (by omega), tn]
  refine x_vehicleIn hst hI h.1 ⟨by omega, by omega⟩ (fun M1 r1 f1 => ?_)
  rw [e] at r1 ⊢
  exact ⟨rfl, hk M1 (h.o r1 f1)⟩
theorem p_vehicleIn (hst : K.1.stackTraces = false) (hI : Inv T) (h : DB S T M) {z : Nat} (hz : z < 20) (hk : ∀ M', DB S T M' → k (o2i (fnd (snV T) (szn T) z)) M') : MetA K fZ_vehicleIn [aR 63, aI z] GG M (cI GG k x) := by
  have h6 := hI.2.1.1
  have hJ := hI.2.2.1
  have e : aVin T (z : Int) = ((0, o2i (fnd (snV T) (szn T) z)), T) := by unfold aVin; rw [if_pos (by omega), tn]
  refine sw_cI [(z : Int)] rfl (x_vehicleIn (M := sw M) hst hI h.2 ⟨by omega, by omega⟩ (fun M1 r1 f1 => ?_))
  rw [e] at r1 ⊢
  exact ⟨rfl, hk (sw M1) (h.p r1 f1)⟩
theorem o_distance (hst : K.1.stackTraces = false) (hI : Inv S) (h : DB S T M) {a b : Nat} (ha : a < 20) (hb : b < 20) (hk : ∀ M', DB S T M' → k (if sD S a b < 1000 then (sD S a b : Int) else -1) M') : MetA K fZ_distance [aR 0, aI a, aI b] GG M (cI GG k x) := by
  have h6 := hI.2.1.1
  have hJ := hI.2.2.1
  have e : aDist S (a : Int) (b : Int) = ((0, if sD S a b < 1000 then (sD S a b : Int) else -1), S) := by unfold aDist; rw [if_pos (by omega), tn, tn]
  refine x_distance hst hI h.1 ⟨by omega, by omega⟩ ⟨by omega, by omega⟩ (fun M1 r1 f1 => ?_)
  rw [e] at r1 ⊢
  exact ⟨rfl, hk M1 (h.o r1 f1)⟩
theorem p_distance (hst : K.1.stackTraces = false) (hI : Inv T) (h : DB S T M) {a b : Nat} (ha : a < 20) (hb : b < 20) (hk : ∀ M', DB S T M' → k (if sD T a b < 1000 then (sD T a b : Int) else -1) M') : MetA K fZ_distance [aR 63, aI a, aI b] GG M (cI GG k x) := by
  have h6 := hI.2.1.1
  have hJ := hI.2.2.1
  have e : aDist T (a : Int) (b : Int) = ((0, if sD T a b < 1000 then (sD T a b : Int) else -1), T) := by unfold aDist; rw [if_pos (by omega), tn, tn]
  refine sw_cI [(a : Int), (b : Int)] rfl (x_distance (M := sw M) hst hI h.2 ⟨by omega, by omega⟩ ⟨by omega, by omega⟩ (fun M1 r1 f1 => ?_))
  rw [e] at r1 ⊢
  exact ⟨rfl, hk (sw M1) (h.p r1 f1)⟩
theorem o_routeZone (hst : K.1.stackTraces = false) (hI : Inv S) (h : DB S T M) {v q : Nat} (hv : v < snV S) (hq : q < srl S v) (hk : ∀ M', DB S T M' → k ((srz S v q : Int)) M') : MetA K fZ_routeZone [aR 0, aI v, aI q] GG M (cI GG k x) := by
  have h6 := hI.2.1.1
  have hJ := hI.2.2.1
  have hl := hI.2.2.2.1 v (by omega)
  have e : aRzn S (v : Int) (q : Int) = ((0, (srz S v q : Int)), S) := by unfold aRzn; rw [if_pos (by omega), tn, if_pos (by omega), tn]
  refine x_routeZone hst hI h.1 ⟨by omega, by omega⟩ ⟨by omega, by omega⟩ (fun M1 r1 f1 => ?_)
  rw [e] at r1 ⊢
  exact ⟨rfl, hk M1 (h.o r1 f1)⟩
theorem p_routeZone (hst : K.1.stackTraces = false) (hI : Inv T) (h : DB S T M) {v q : Nat} (hv : v < snV T) (hq : q < srl T v) (hk : ∀ M', DB S T M' → k ((srz T v q : Int)) M') : MetA K fZ_routeZone [aR 63, aI v, aI q] GG M (cI GG k x) := by
  have h6 := hI.2.1.1
  have hJ := hI.2.2.1
  have hl := hI.2.2.2.1 v (by omega)
  have e : aRzn T (v : Int) (q : Int) = ((0, (srz T v q : Int)), T) := by unfold aRzn; rw [if_pos (by omega), tn, if_pos (by omega), tn]
  refine sw_cI [(v : Int), (q : Int)] rfl (x_routeZone (M := sw M) hst hI h.2 ⟨by omega, by omega⟩ ⟨by omega, by omega⟩ (fun M1 r1 f1 => ?_))
  rw [e] at r1 ⊢
  exact ⟨rfl, hk (sw M1) (h.p r1 f1)⟩
theorem o_vehicles (hst : K.1.stackTraces = false) (hI : Inv S) (h : DB S T M)   (hk : ∀ M', DB S T M' → k ((snV S : Int)) M') : MetA K fZ_vehicles [aR 0] GG M (cI GG k x) := by
  have h6 := hI.2.1.1
  have e : aVhs S = ((0, (snV S : Int)), S) := by rfl
  refine x_vehicles hst h.1  (fun M1 r1 f1 => ?_)
  rw [e] at r1 ⊢
  exact ⟨rfl, hk M1 (h.o r1 f1)⟩
theorem p_vehicles (hst : K.1.stackTraces = false) (hI : Inv T) (h : DB S T M)   (hk : ∀ M', DB S T M' → k ((snV T : Int)) M') : MetA K fZ_vehicles [aR 63] GG M (cI GG k x) := by
  have h6 := hI.2.1.1
  have e : aVhs T = ((0, (snV T : Int)), T) := by rfl
  refine sw_cI [] rfl (x_vehicles (M := sw M) hst h.2  (fun M1 r1 f1 => ?_))
  rw [e] at r1 ⊢
  exact ⟨rfl, hk (sw M1) (h.p r1 f1)⟩
theorem o_orders (hst : K.1.stackTraces = false) (hI : Inv S) (h : DB S T M)   (hk : ∀ M', DB S T M' → k ((cntS S : Int)) M') : MetA K fZ_orders [aR 0] GG M (cI GG k x) := by
  have h6 := hI.2.1.1
  have e : aOrd S = ((0, (cntS S : Int)), S) := by rfl
  refine x_orders hst hI h.1  (fun M1 r1 f1 => ?_)
  rw [e] at r1 ⊢
  exact ⟨rfl, hk M1 (h.o r1 f1)⟩
theorem p_orders (hst : K.1.stackTraces = false) (hI : Inv T) (h : DB S T M)   (hk : ∀ M', DB S T M' → k ((cntS T : Int)) M') : MetA K fZ_orders [aR 63] GG M (cI GG k x) := by
  have h6 := hI.2.1.1
  have e : aOrd T = ((0, (cntS T : Int)), T) := by rfl
  refine sw_cI [] rfl (x_orders (M := sw M) hst hI h.2  (fun M1 r1 f1 => ?_))
  rw [e] at r1 ⊢
  exact ⟨rfl, hk (sw M1) (h.p r1 f1)⟩
end PR
