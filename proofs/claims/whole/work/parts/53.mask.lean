/-! the reference: questions -/
section MQ
variable {K : KX} {S : SS} {M : AM} {Q : Res → AG → AM → Prop}
theorem m_jobState (hst : K.1.stackTraces = false) (hI : Inv S) (hR : RM S M) {p : Int} (hp : R32 p) (hQ : mq (aJst S p) M Q) : MetA K fM_jobState [aR 63, aI p] GG M Q := by
  have hJ := hI.2.2.1
  unfold aJst at hQ
  refine EM_jobState hst _ (BM_jobState_0 _ (sp_isJob hst hI hR.2.2.2.2.2.2.1 hp ⟨rfl, fun c => ?_, fun c => ?_⟩))
  · rw [if_neg (b_ff c)] at hQ
    exact sp_ref (c := 1) hst (by omega) hR FQ.rf hQ
  · have h1 := b_ft c
    rw [if_pos h1] at hQ
    obtain ⟨v, rfl⟩ := nat_of h1.1
    have hv : v < snJ S := by have := h1.2; omega
    rw [tn] at hQ
    have hq := hQ (um M 63 0 0) hR.code (FQ.rf.um (by omega)) um_self
    refine sp_ok (x0 := True) hst ⟨v, wrn (by omega), by omega, ?_⟩
    rw [((hR.code (x := 0)).2.2.2.2.2.2.2 v hv).2.1]
    exact hq
theorem m_jobVehicle (hst : K.1.stackTraces = false) (hI : Inv S) (hR : RM S M) {p : Int} (hp : R32 p) (hQ : mq (aJvh S p) M Q) : MetA K fM_jobVehicle [aR 63, aI p] GG M Q := by
  have hJ := hI.2.2.1
  unfold aJvh at hQ
  refine EM_jobVehicle hst _ (BM_jobVehicle_0 _ (sp_isJob hst hI hR.2.2.2.2.2.2.1 hp ⟨rfl, fun c => ?_, fun c => ?_⟩))
  · rw [if_neg (b_ff c)] at hQ
    exact sp_ref (c := 1) hst (by omega) hR FQ.rf hQ
  · have h1 := b_ft c
    rw [if_pos h1] at hQ
    obtain ⟨v, rfl⟩ := nat_of h1.1
    have hv : v < snJ S := by have := h1.2; omega
    rw [tn] at hQ
    have hq := hQ (um M 63 0 0) hR.code (FQ.rf.um (by omega)) um_self
    refine sp_ok (x0 := True) hst ⟨v, wrn (by omega), by omega, ?_⟩
    rw [((hR.code (x := 0)).2.2.2.2.2.2.2 v hv).2.2]
    exact hq
theorem m_zoneOf (hst : K.1.stackTraces = false) (hI : Inv S) (hR : RM S M) {p : Int} (hp : R32 p) (hQ : mq (aZon S p) M Q) : MetA K fM_zoneOf [aR 63, aI p] GG M Q := by
  have h6 := hI.2.1.1
  unfold aZon at hQ
  refine EM_zoneOf hst _ (BM_zoneOf_0 _ (sp_isVeh hst hI hR.2.2.2.1.1 hp ⟨rfl, fun c => ?_, fun c => ?_⟩))
  · rw [if_neg (b_ff c)] at hQ
    exact sp_ref (c := 1) hst (by omega) hR FQ.rf hQ
  · have h1 := b_ft c
    rw [if_pos h1] at hQ
    obtain ⟨v, rfl⟩ := nat_of h1.1
    have hv : v < snV S := by have := h1.2; omega
    rw [tn] at hQ
    have hq := hQ (um M 63 0 0) hR.code (FQ.rf.um (by omega)) um_self
    refine sp_ok (x0 := True) hst ⟨v, wrn (by omega), by omega, ?_⟩
    rw [((hR.code (x := 0)).2.2.2.1.2 v hv).1]
    exact hq
theorem m_routeLength (hst : K.1.stackTraces = false) (hI : Inv S) (hR : RM S M) {p : Int} (hp : R32 p) (hQ : mq (aRln S p) M Q) : MetA K fM_routeLength [aR 63, aI p] GG M Q := by
  have h6 := hI.2.1.1
  unfold aRln at hQ
  refine EM_routeLength hst _ (BM_routeLength_0 _ (sp_isVeh hst hI hR.2.2.2.1.1 hp ⟨rfl, fun c => ?_, fun c => ?_⟩))
  · rw [if_neg (b_ff c)] at hQ
    exact sp_ref (c := 1) hst (by omega) hR FQ.rf hQ
  · have h1 := b_ft c
    rw [if_pos h1] at hQ
    obtain ⟨v, rfl⟩ := nat_of h1.1
    have hv : v < snV S := by have := h1.2; omega
    rw [tn] at hQ
    have hq := hQ (um M 63 0 0) hR.code (FQ.rf.um (by omega)) um_self
    refine sp_ok (x0 := True) hst ⟨v, wrn (by omega), by omega, ?_⟩
    rw [((hR.code (x := 0)).2.2.2.1.2 v hv).2.1]
    exact hq
theorem m_energy (hst : K.1.stackTraces = false) (hI : Inv S) (hR : RM S M) {p : Int} (hp : R32 p) (hQ : mq (aEng S p) M Q) : MetA K fM_energy [aR 63, aI p] GG M Q := by
  have h6 := hI.2.1.1
  unfold aEng at hQ
  refine EM_energy hst _ (BM_energy_0 _ (sp_isVeh hst hI hR.2.2.2.1.1 hp ⟨rfl, fun c => ?_, fun c => ?_⟩))
  · rw [if_neg (b_ff c)] at hQ
    exact sp_ref (c := 1) hst (by omega) hR FQ.rf hQ
  · have h1 := b_ft c
    rw [if_pos h1] at hQ
    obtain ⟨v, rfl⟩ := nat_of h1.1
    have hv : v < snV S := by have := h1.2; omega
    rw [tn] at hQ
    have hq := hQ (um M 63 0 0) hR.code (FQ.rf.um (by omega)) um_self
    refine sp_ok (x0 := True) hst ⟨v, wrn (by omega), by omega, ?_⟩
    rw [((hR.code (x := 0)).2.2.2.2.1 v hv).1]
    exact hq
theorem m_waited (hst : K.1.stackTraces = false) (hI : Inv S) (hR : RM S M) {p : Int} (hp : R32 p) (hQ : mq (aWai S p) M Q) : MetA K fM_waited [aR 63, aI p] GG M Q := by
  have h6 := hI.2.1.1
  unfold aWai at hQ
  refine EM_waited hst _ (BM_waited_0 _ (sp_isVeh hst hI hR.2.2.2.1.1 hp ⟨rfl, fun c => ?_, fun c => ?_⟩))
  · rw [if_neg (b_ff c)] at hQ
    exact sp_ref (c := 1) hst (by omega) hR FQ.rf hQ
  · have h1 := b_ft c
    rw [if_pos h1] at hQ
    obtain ⟨v, rfl⟩ := nat_of h1.1
    have hv : v < snV S := by have := h1.2; omega
    rw [tn] at hQ
    have hq := hQ (um M 63 0 0) hR.code (FQ.rf.um (by omega)) um_self
    refine sp_ok (x0 := True) hst ⟨v, wrn (by omega), by omega, ?_⟩
    rw [((hR.code (x := 0)).2.2.2.2.1 v hv).2]
    exact hq
theorem m_vehicles (hst : K.1.stackTraces = false) (hR : RM S M) (hQ : mq (aVhs S) M Q) : MetA K fM_vehicles [aR 63] GG M Q := by
  have hq := hQ (um M 63 0 0) hR.code (FQ.rf.um (by omega)) um_self
  refine EM_vehicles hst (BM_vehicles_0 ?_)
  rw [(hR.code (x := 0)).2.2.2.1.1]
  exact hq
theorem m_regret (hst : K.1.stackTraces = false) (hI : Inv S) (hR : RM S M) {p : Int} (hp : R32 p) (hQ : mq (aReg S p) M Q) : MetA K fM_regret [aR 63, aI p] GG M Q := by
  have hJ := hI.2.2.1
  unfold aReg at hQ
  refine EM_regret hst _ (BM_regret_0 _ (sp_isJob hst hI hR.2.2.2.2.2.2.1 hp ⟨rfl, fun c => ?_, fun c => ?_⟩))
  · rw [if_neg (b_ff c)] at hQ
    exact sp_ref (c := 1) hst (by omega) hR FQ.rf hQ
  · have h1 := b_ft c
    rw [if_pos h1] at hQ
    obtain ⟨v, rfl⟩ := nat_of h1.1
    have hv : v < snJ S := by have := h1.2; omega
    rw [tn] at hQ
    exact sp_ok (x0 := True) hst (sp_mreg hst hI hR.code hv (fun M1 f1 => ⟨rfl, hQ M1 (hR.code.fk f1) ((FQ.rf.um (by omega)).tr f1.fq) (by rw [f1.1 _ _ (by omega) (by omega) (by omega) (by omega) (by omega), um_self]; rfl)⟩))
theorem m_vehicleIn (hst : K.1.stackTraces = false) (hI : Inv S) (hR : RM S M) {p : Int} (hp : R32 p) (hQ : mq (aVin S p) M Q) : MetA K fM_vehicleIn [aR 63, aI p] GG M Q := by
  unfold aVin at hQ
  refine EM_vehicleIn hst _ (BM_vehicleIn_0 _ (sp_isZone hst hp ⟨rfl, fun c => ?_, fun c => ?_⟩))
  · rw [if_neg (b_ff c)] at hQ
    exact sp_ref (c := 1) hst (by omega) hR FQ.rf hQ
  · have h1 := b_ft c
    rw [if_pos h1] at hQ
    obtain ⟨z, rfl⟩ := nat_of h1.1
    have hz : z < 20 := by have := h1.2; omega
    rw [tn] at hQ
    exact sp_ok (x0 := True) hst (sp_mfind hst hI.2.1 (hR.code (x := 0)).2.2.2.1 hz ⟨rfl, hQ (um M 63 0 0) hR.code (FQ.rf.um (by omega)) um_self⟩)
theorem m_routeZone (hst : K.1.stackTraces = false) (hI : Inv S) (hR : RM S M) {p q : Int} (hp : R32 p) (hq : R32 q) (hQ : mq (aRzn S p q) M Q) : MetA K fM_routeZone [aR 63, aI p, aI q] GG M Q := by
  have h6 := hI.2.1.1
  unfold aRzn at hQ
  refine EM_routeZone hst _ _ (BM_routeZone_0 _ _ (sp_isVeh hst hI hR.2.2.2.1.1 hp ⟨rfl, fun c => ?_, fun c => ?_⟩))
  · rw [if_neg (b_ff c)] at hQ
    exact sp_ref (c := 1) hst (by omega) hR FQ.rf hQ
  · have h1 := b_ft c
    rw [if_pos h1] at hQ
    obtain ⟨v, rfl⟩ := nat_of h1.1
    have hv : v < snV S := by have := h1.2; omega
    rw [tn] at hQ
    obtain ⟨m1, m2, m3, m4⟩ := hR.2.2.2.1.2 v hv
    refine ⟨v, wrn (by omega), by omega, ?_⟩
    rw [m2]
    refine sp_in hst hq ⟨by omega, by omega⟩ ⟨by omega, by omega⟩ ⟨rfl, fun c2 => ?_, fun c2 => ?_⟩
    · have h2 := b_ff c2
      rw [if_neg (by omega)] at hQ
      exact sp_ref (c := 2) hst (by omega) hR FQ.rf hQ
    · have h2 := b_ft c2
      obtain ⟨k, rfl⟩ := nat_of h2.1
      have hk : k < srl S v := by have := h2.2; omega
      rw [if_pos (by omega), tn] at hQ
      refine sp_ok (x0 := True) hst ⟨20 * v + k, (wri (by omega) (by omega)).trans (by omega), by omega, ?_⟩
      rw [((hR.code (x := 0)).2.2.2.1.2 v hv).2.2.2 k hk]
      exact hQ (um M 63 0 0) hR.code (FQ.rf.um (by omega)) um_self
theorem m_orders (hst : K.1.stackTraces = false) (hI : Inv S) (hR : RM S M) (hQ : mq (aOrd S) M Q) : MetA K fM_orders [aR 63] GG M Q := by
  have h6 := hI.2.1.1
  have hg := bsy_lt (n := snV S) (rl := srl S) h6
  refine EM_orders hst (BM_orders_0 (sp_msafe hst hI.2.1 (hR.code (x := 0)).2.2.2.1 (fun M1 f1 w1 _ => ⟨rfl, sp_busy hst h6 ((hR.code (x := 0)).2.2.2.1.fs f1) ⟨rfl, bsy (snV S) (srl S), wrn (by omega), hg, ?_⟩⟩)))
  rw [w1]
  exact hQ M1 (hR.code.fk (FK.fs f1)) ((FQ.rf.um (by omega)).tr (FK.fs (S := S) f1).fq) (by rw [f1 _ _ (by omega) (by omega), um_self]; rfl)
theorem sumN_cut {f : Nat → Nat} {n m : Nat} (h : n ≤ m) (h0 : ∀ i, n ≤ i → f i = 0) : sumN f m = sumN f n := by
  induction m with
  | zero =>
    have : n = 0 := by omega
    rw [this]
  | succ m ih =>
    by_cases e : n = m + 1
    · rw [e]
    · show sumN f m + f m = _
      rw [ih (by omega), h0 m (by omega)]
      rfl
def pcn (g n : Nat) : Nat := sumN (fun v => if g.testBit v = true then 1 else 0) n
theorem pcn_le (g : Nat) : ∀ n, pcn g n ≤ n := by
  intro n
  have := sumN_bd (f := fun v => if g.testBit v = true then 1 else 0) (n := n) (b := 1) (fun i _ => by split <;> omega)
  unfold pcn
  omega
theorem lp_many {M0 : AM} (hI : Inv S) (hP : M0 63 5 = (snV S : Int)) {p b : Int} (hQ : WM K fM_finisher (EM K fM_finisher 80 Q) 16 [some (aR 63), some (aI p), some (aI b), some (aI (gS S)), some (aI (pcn (gS S) (snV S))), some (aI (snV S)), none, none, none, none] [] GG M0 0 0) :
    ∀ d n : Nat, n + d = snV S → WM K fM_finisher (EM K fM_finisher 80 Q) 16 [some (aR 63), some (aI p), some (aI b), some (aI (gS S)), some (aI (pcn (gS S) n)), some (aI n), none, none, none, none] [] GG M0 0 0 := by
  have h6 := hI.2.1.1
  have hg : gS S < 64 := bsy_lt h6
  intro d
  induction d with
  | zero =>
    intro n hn
    have : n = snV S := by omega
    subst this
    exact hQ
  | succ d ih =>
    intro n hn
    have hb := pcn_le (gS S) n
    have hnx := ih (n + 1) (by omega)
    refine BM_finisher_16 _ _ _ _ _ ⟨fun c => ?_, fun _ => ?_⟩
    · rw [hP, wrn (by omega), wrn (by omega)] at c; omega
    · rw [wsr_k hg (by omega)]
      have e : (pcn (gS S) n : Int) + (if (gS S).testBit n = true then 1 else 0) = (pcn (gS S) (n + 1) : Int) := by
        show _ = ((sumN (fun v => if (gS S).testBit v = true then 1 else 0) n + (if (gS S).testBit n = true then 1 else 0) : Nat) : Int)
        by_cases q : (gS S).testBit n = true
        · rw [if_pos q, if_pos q]; rfl
        · rw [if_neg q, if_neg q]; rfl
      rw [e]
      exact hnx
def gd (S : SS) (T v : Nat) : Prop := okS S T v = true ∧ 0 < cnt (okS S) (gS S) (T ||| 2 ^ v)
theorem gd_fr {T v : Nat} (h : fr1 (okS S) (gS S) T = some v) {x : Int} (hx : dn (gd S T) 0 (snV S) x) : x = (v : Int) := by
  have h2 := List.find?_some h
  simp at h2
  have hv : gd S T v := h2
  have hvn := okP_of hv.1
  rcases hx with ⟨u, e, u1, u2, u3, u4⟩ | ⟨e, u⟩
  · have a : ¬ v < u := fun q => u4 v (by omega) q hv
    have b : ¬ u < v := fun q => by
      have := (List.find?_range_eq_some.mp h).2.2 u q
      simp at this
      rcases this with this | this
      · rw [u3.1] at this; cases this
      · have := u3.2; omega
    omega
  · exact absurd hv (u v (by omega) hvn)
/-- one turn of the search from above -/
theorem lp_mfin (hst : K.1.stackTraces = false) (hI : Inv S) (hR : RM S M) {p T k : Nat} {b m : Int} (hs : Sub T (gS S)) (hE : ∀ U, Sub U (gS S) → M 77 U = b2i (decide (0 < cntP (snV S) (szn S) (srl S) (srz S) U)))
    (hQ : ∀ x : Int, dn (gd S T) 0 (snV S) x → WM K fM_finisher (EM K fM_finisher 80 Q) 81 [some (aR 63), some (aI p), some (aI b), some (aI (gS S)), some (aI m), some (aI (wio T (wsl 1 x))), some (aI x), some (aI (k + 1 : Nat)), none, none] [] GG M 0 0) :
    ∀ (v : Nat) (x : Int), v ≤ snV S → dn (gd S T) v (snV S) x → WM K fM_finisher (EM K fM_finisher 80 Q) 98 [some (aR 63), some (aI p), some (aI b), some (aI (gS S)), some (aI m), some (aI T), some (aI x), some (aI k), some (aI ((v : Int) - 1)), none] [] GG M 0 0 := by
  have h6 := hI.2.1.1
  have hg : gS S < 64 := bsy_lt h6
  have hT := sub_lt hg hs
  have hf : Fit (okS S) (gS S) := okP_fit
  intro v
  induction v with
  | zero =>
    intro x _ hx
    refine BM_finisher_98 _ _ _ _ _ _ _ _ ⟨fun _ => hQ x hx, fun c => absurd ?_ c⟩
    rw [wri (by omega) (by omega)]; omega
  | succ v ih =>
    intro x hvn hx
    have e : ((v + 1 : Nat) : Int) - 1 = (v : Int) := by omega
    rw [e]
    have hTv : T ||| 2 ^ v < 64 := or6 hT (pw6 (by omega))
    have no : ¬ gd S T v → ∀ y : Int, WM K fM_finisher (EM K fM_finisher 80 Q) 166 [some (aR 63), some (aI p), some (aI b), some (aI (gS S)), some (aI m), some (aI T), some (aI x), some (aI k), some (aI v), some (aI y)] [] GG M 0 0 := fun h y =>
      BM_finisher_166 _ _ _ _ _ _ _ _ _ (BM_finisher_168 _ _ _ _ _ _ _ _ _ _ (ih x (by omega) (dn_no hx h)))
    have at128 : ∀ y : Int, isB y ((gS S).testBit v = true ∧ T.testBit v = false) → WM K fM_finisher (EM K fM_finisher 80 Q) 128 [some (aR 63), some (aI p), some (aI b), some (aI (gS S)), some (aI m), some (aI T), some (aI x), some (aI k), some (aI v), none] [aI y] GG M 0 0 := fun y hy => by
      refine BM_finisher_128 _ _ _ _ _ _ _ _ _ ⟨fun c => no (fun q => isB_0 hy c (hf T v q.1)) _, fun c => ⟨T ||| 2 ^ v, by rw [wio_p (by omega) (by omega), wrn (by omega)], hTv, ?_⟩⟩
      have hy2 := isB_1 hy c
      rw [hE _ (hs.add hy2.1)]
      refine ⟨fun c3 => no (fun q => b_ff c3 q.2) _, fun c3 => sp_canRun hst hI.2.1 hR.2.2.2.1 (by omega) hT hs hy2.1 hy2.2 ⟨rfl, ?_⟩⟩
      dsimp only
      refine ⟨fun c4 => no (fun q => ?_) _, fun c4 => BM_finisher_168 _ _ _ _ _ _ _ _ _ _ (ih (v : Nat) (by omega) (dn_hit (by omega) ⟨?_, b_ft c3⟩))⟩
      · have : okP (snV S) (szn S) (srl S) (srz S) T v = true := q.1
        rw [this] at c4
        exact absurd c4 (by show ¬ wr 1 = 0; rw [wr_1]; omega)
      · show okP (snV S) (szn S) (srl S) (srz S) T v = true
        cases e : okP (snV S) (szn S) (srl S) (srz S) T v with
        | false => rw [e] at c4; exact absurd wr_0 c4
        | true => rfl
    refine BM_finisher_98 _ _ _ _ _ _ _ _ ⟨fun c => ?_, fun _ => ⟨fun c2 => ⟨fun c3 => at128 1 (Or.inl ⟨rfl, (wsr_1 hg (by omega)).mp c2, (wsr_0 hT (by omega)).mp c3⟩), fun c3 => BM_finisher_127 _ _ _ _ _ _ _ _ (at128 0 (Or.inr ⟨rfl, fun q => c3 ((wsr_0 hT (by omega)).mpr q.2)⟩))⟩, fun c2 => BM_finisher_127 _ _ _ _ _ _ _ _ (at128 0 (Or.inr ⟨rfl, fun q => c2 ((wsr_1 hg (by omega)).mpr q.1)⟩))⟩⟩
    rw [wrn (by omega)] at c; omega
theorem lp_morder (hst : K.1.stackTraces = false) (hI : Inv S) (hR : RM S M) {p : Nat} {b m : Int} (hp : p < 6) (hE : ∀ U, Sub U (gS S) → M 77 U = b2i (decide (0 < cntP (snV S) (szn S) (srl S) (srz S) U)))
    (hfo : ∀ k, k ≤ p → ∃ v, fr1 (okS S) (gS S) (foS (okS S) (gS S) k) = some v) (hQ : Q (.inl (some (aI (o2i (fr1 (okS S) (gS S) (foS (okS S) (gS S) p)))))) GG M) :
    ∀ (d k : Nat) (x : Int), k + d = p + 1 → (d = 0 → x = o2i (fr1 (okS S) (gS S) (foS (okS S) (gS S) p))) → WM K fM_finisher (EM K fM_finisher 80 Q) 81 [some (aR 63), some (aI p), some (aI b), some (aI (gS S)), some (aI m), some (aI (foS (okS S) (gS S) k)), some (aI x), some (aI k), none, none] [] GG M 0 0 := by
  have h6 := hI.2.1.1
  have hg : gS S < 64 := bsy_lt h6
  have hf : Fit (okS S) (gS S) := okP_fit
  intro d
  induction d with
  | zero =>
    intro k x hk hx
    rw [← hx rfl] at hQ
    refine BM_finisher_81 _ _ _ _ _ _ _ ⟨fun _ => hQ, fun c => absurd ?_ c⟩
    rw [wrn (by omega), wrn (by omega)]; omega
  | succ d ih =>
    intro k x hk hx
    obtain ⟨v, hv⟩ := hfo k (by omega)
    have hs := foS_sub hf k
    have hT := sub_lt hg hs
    refine BM_finisher_81 _ _ _ _ _ _ _ ⟨fun c => ?_, fun _ => ?_⟩
    · rw [wrn (by omega), wrn (by omega)] at c; omega
    · rw [hR.2.2.2.1.1]
      refine lp_mfin hst hI hR hs hE (fun x2 hx2 => ?_) (snV S) (-1) (Nat.le_refl _) dn_0
      have e := gd_fr hv hx2
      subst e
      have h2 := List.find?_some hv
      simp at h2
      have hvn := okP_of h2.1
      rw [wio_p (by omega) (by omega)]
      have hnx := ih (k + 1) (v : Int) (by omega) (fun q => by
        have : k = p := by omega
        subst this
        rw [hv]; rfl)
      have ef : foS (okS S) (gS S) (k + 1) = foS (okS S) (gS S) k ||| 2 ^ v := by
        show (match fr1 (okS S) (gS S) (foS (okS S) (gS S) k) with
          | some v => foS (okS S) (gS S) k ||| 2 ^ v
          | none => foS (okS S) (gS S) k) = _
        rw [hv]
      rw [ef] at hnx
      exact hnx
theorem m_finisher (hst : K.1.stackTraces = false) (hI : Inv S) (hR : RM S M) {p : Int} (hp : R32 p) (hQ : mq (aFin S p) M Q) : MetA K fM_finisher [aR 63, aI p] GG M Q := by
  have h6 := hI.2.1.1
  have hg : gS S < 64 := bsy_lt h6
  have hf : Fit (okS S) (gS S) := okP_fit
  unfold aFin at hQ
  refine EM_finisher hst _ (BM_finisher_0 _ (sp_msafe hst hI.2.1 hR.2.2.2.1 (fun M1 f1 w1 e1 => ⟨rfl, sp_busy hst h6 (hR.2.2.2.1.fs f1) ⟨rfl, ?_⟩⟩)))
  have hR1 := hR.fk (FK.fs f1)
  have hF1 : FQ M M1 := (FK.fs (S := S) f1).fq
  have epc : pcn (gS S) (snV S) = popc (gS S) := (sumN_cut h6 (fun i hi => if_neg (fun q => by
    have q2 : (bsy (snV S) (srl S)).testBit i = true := q
    rw [bsy_bit, Bool.and_eq_true] at q2
    have := of_decide_eq_true q2.1
    omega))).symm
  have hpc := popc_le (g := gS S)
  refine lp_many hI hR1.2.2.2.1.1 ?_ (snV S) 0 (by omega)
  rw [epc]
  refine BM_finisher_16 _ _ _ _ _ ⟨fun _ => sp_in hst hp ⟨by omega, by omega⟩ ⟨by omega, by omega⟩ ⟨rfl, fun c => ?_, fun c => ?_⟩, fun c => absurd ?_ c⟩
  · have h2 := b_ff c
    rw [if_neg (by omega)] at hQ
    exact BM_finisher_60 _ _ _ _ _ _ (sp_ref (c := 1) hst (by omega) hR1 hF1 hQ)
  · have h2 := b_ft c
    obtain ⟨q, rfl⟩ := nat_of h2.1
    have hq : q < popc (gS S) := by have := h2.2; omega
    rw [if_pos (by omega), tn] at hQ
    have hR2 := hR1.code (x := 0)
    refine BM_finisher_60 _ _ _ _ _ _ (sp_ok (x0 := True) hst (sp_layEnds hst hI.2.1 hR2.2.2.2.1 (fun T hT => by rw [um_ne (by omega)]; exact e1 T hT) (fun M2 f2 e2 => ⟨rfl, ?_⟩)))
    have hR3 := hR2.fk (FK.fs f2.fs)
    refine lp_morder hst hI hR3 (by omega) e2 (fun k hk => fo_some hg hf hI.2.2.2.2.2.2.2.2.2.2 (by omega)) ?_ (q + 1) 0 (-1) (by omega) (fun h => by omega)
    exact hQ M2 hR3 ((hF1.um (by omega)).tr (FK.fs (S := S) f2.fs).fq) (by rw [f2 _ _ (by omega), um_self]; rfl)
  · rw [hR1.2.2.2.1.1]; exact Int.le_refl _
end MQ
