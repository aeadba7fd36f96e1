/-! the other calls of the class -/
section XQ
variable {K : KX} {S : SS} {Q : Res → AG → AM → Prop} {M : AM}
theorem canGo_len {v t : Nat} (h : canGo S v t = true) : lenS S v t = (sD S (szn S v) t : Int) := if_pos h
theorem RX.rt {M' : AM} (hX : RX S M) {v t : Nat} (hv : v < 6) (hF : FV v M M') (hV : VX M' v (szn S v) (sD S (szn S v) t) (fun k => wyD (sD S) (szn S v) t (k + 1))) : RX (opRt S v t) M' := by
  have h5 := hX.2.2.2.2.1 v hv
  have := hX.veh (e := sen S v) (w := swt S v) (tk := stk S v) hv (fun c k _ hc => hF c k (by omega)) hV (by rw [hF _ _ (by omega)]; exact h5.1) (by rw [hF _ _ (by omega)]; exact h5.2.1) (by rw [hF _ _ (by omega)]; exact h5.2.2)
  simp only [upN_self] at this
  exact this
theorem FX.ofV {v : Nat} {M' : AM} (hv : v < 6) (h : FV v M M') : FX M M' := fun c k hc => h c k (by omega)
theorem x_assign (hst : K.1.stackTraces = false) (hI : Inv S) (hX : RX S M) {p q : Int} (hp : R32 p) (hq : R32 q) (hQ : ∀ M', RX (aAsg S p q).2 M' → FX M M' → Q (rsX ["java/lang/IndexOutOfBoundsException", "java/lang/IllegalArgumentException", "java/lang/IllegalStateException"] (aAsg S p q).1) GG M') : MetA K fZ_assign [aR 0, aI p, aI q] GG M Q := by
  have h6 := hI.2.1.1
  unfold aAsg at hQ
  refine EZ_assign hst _ _ (BZ_assign_0 _ _ (sp_reqV hst hI hX hp (fun h1 => ⟨rfl, ?_⟩) (fun h => ⟨rfl, ?_⟩)))
  · rw [if_pos h1] at hQ
    refine sp_reqZ hst hq (fun h2 => ⟨rfl, ?_⟩) (fun h => ⟨rfl, ?_⟩)
    · rw [if_pos h2] at hQ
      obtain ⟨v, rfl⟩ := nat_of h1.1
      obtain ⟨t, rfl⟩ := nat_of h2.1
      have hv : v < snV S := by omega
      have ht : t < 20 := by omega
      rw [tn, tn] at hQ
      refine sp_lengthFor hst hI hX hv ht (fun M1 f1 => ⟨rfl, ?_⟩)
      dsimp only
      rw [wr_m1]
      by_cases hg : canGo S v t = true
      · rw [if_pos hg] at hQ
        have hgl := canGo_len hg
        have hgs := (canGo_spec hg).2.2.1
        rw [hgl, wrn (by omega)]
        refine ⟨fun c => by omega, fun _ => ⟨v, wrn (by omega), by omega, ?_⟩⟩
        have hX1 := hX.ft f1
        refine sp_takeWay hst hI.1 hX1.1 (by omega) (hX1.2.2.2.1.2 v (by omega)) (hI.2.1.2 v hv).1 ht hgs (fun M2 f2 V2 => ⟨rfl, ?_⟩)
        rw [← hgl]
        exact hQ M2 (hX1.rt (by omega) f2 V2) ((FX.of f1).tr (FX.ofV (by omega) f2))
      · rw [if_neg hg] at hQ
        have : lenS S v t = -1 := if_neg hg
        rw [this, wr_m1]
        exact ⟨fun _ => hQ M1 (hX.ft f1) (FX.of f1), fun c => absurd rfl c⟩
    · rw [if_neg h] at hQ
      exact hQ M hX FX.rf
  · rw [if_neg h] at hQ
    exact hQ M hX FX.rf
theorem x_cancel (hst : K.1.stackTraces = false) (hI : Inv S) (hX : RX S M) {p : Int} (hp : R32 p) (hQ : ∀ M', RX (aCan S p).2 M' → FX M M' → Q (rsX ["java/lang/IndexOutOfBoundsException", "java/lang/IllegalStateException"] (aCan S p).1) GG M') : MetA K fZ_cancel [aR 0, aI p] GG M Q := by
  have h6 := hI.2.1.1
  unfold aCan at hQ
  refine EZ_cancel hst _ (BZ_cancel_0 _ (sp_reqV hst hI hX hp (fun h1 => ⟨rfl, ?_⟩) (fun h => ⟨rfl, ?_⟩)))
  · rw [if_pos h1] at hQ
    obtain ⟨v, rfl⟩ := nat_of h1.1
    have hv : v < snV S := by omega
    have hv6 : v < 6 := by omega
    rw [tn] at hQ
    have hV := hX.2.2.2.1.2 v hv6
    have hz := (hI.2.1.2 v hv).1
    refine ⟨v, wrn (by omega), hv6, sp_isIdle hst hv6 hV ⟨rfl, ?_⟩⟩
    dsimp only
    by_cases h0 : srl S v = 0
    · rw [if_pos h0]
      rw [if_neg (by omega)] at hQ
      exact ⟨fun c => absurd c (by rw [wr_1]; decide), fun _ => hQ M hX FX.rf⟩
    · rw [if_neg h0]
      refine ⟨fun _ => ?_, fun c => absurd wr_0 c⟩
      rw [hV.1]
      refine sp_safeIdle hst hI.2.1 hX.2.2.2.1 (r := srz S v) hv6 (by omega) (pg_pos hI hv hz (fun k hk => by omega)) (fun M1 f1 => ⟨rfl, ?_⟩)
      show (wr (b2i (decide (0 < cntW S v (szn S v) 0 (srz S v)))) = 0 → _) ∧ (¬ wr (b2i (decide (0 < cntW S v (szn S v) 0 (srz S v)))) = 0 → _)
      have hX1 := hX.ft f1
      by_cases h2 : 0 < cntW S v (szn S v) 0 (srz S v)
      · rw [decide_eq_true h2]
        rw [if_pos ⟨by omega, h2⟩] at hQ
        refine ⟨fun c => absurd c (by unfold b2i; rw [if_pos rfl, wr_1]; decide), fun _ => ?_⟩
        have hV1 := hX1.2.2.2.1.2 v hv6
        refine sp_zonesLeft hst hv6 hV1 ⟨rfl, ?_⟩
        refine sp_dropRoute hst hv6 hV1 (fun M2 f2 V2 => ⟨rfl, ?_⟩)
        have hX2 : RX (opDrop S v) M2 := by
          have h5 := hX1.2.2.2.2.1 v hv6
          have := hX1.veh (e := sen S v) (w := swt S v) (tk := stk S v) hv6 (fun c k _ hc => f2 c k (by omega)) V2 (by rw [f2 _ _ (by omega)]; exact h5.1) (by rw [f2 _ _ (by omega)]; exact h5.2.1) (by rw [f2 _ _ (by omega)]; exact h5.2.2)
          simp only [upN_self] at this
          exact this
        refine sp_endJob hst (hI.drop hv h2) hX2 hv (fun M3 x3 f3 => ⟨rfl, ?_⟩)
        exact hQ M3 x3 (((FX.of f1).tr (FX.ofV hv6 f2)).tr f3)
      · rw [decide_eq_false h2]
        rw [if_neg (fun z => h2 z.2)] at hQ
        exact ⟨fun _ => hQ M1 hX1 (FX.of f1), fun c => absurd wr_0 c⟩
  · rw [if_neg h] at hQ
    exact hQ M hX FX.rf
theorem x_charge (hst : K.1.stackTraces = false) (hI : Inv S) (hX : RX S M) {p : Int} (hp : R32 p) (hQ : ∀ M', RX (aChg S p).2 M' → FX M M' → Q (rsX ["java/lang/IndexOutOfBoundsException", "java/lang/IllegalStateException"] (aChg S p).1) GG M') : MetA K fZ_charge [aR 0, aI p] GG M Q := by
  have h6 := hI.2.1.1
  unfold aChg at hQ
  refine EZ_charge hst _ (BZ_charge_0 _ (sp_reqV hst hI hX hp (fun h1 => ⟨rfl, ?_⟩) (fun h => ⟨rfl, ?_⟩)))
  · rw [if_pos h1] at hQ
    obtain ⟨v, rfl⟩ := nat_of h1.1
    have hv : v < snV S := by omega
    have hv6 : v < 6 := by omega
    rw [tn] at hQ
    have hV := hX.2.2.2.1.2 v hv6
    have hz := (hI.2.1.2 v hv).1
    have h5 := hX.2.2.2.2.1 v hv6
    refine ⟨v, wrn (by omega), hv6, sp_isIdle hst hv6 hV ⟨rfl, ?_⟩⟩
    dsimp only
    by_cases h0 : srl S v = 0
    · rw [if_pos h0]
      refine ⟨fun c => absurd c (by rw [wr_1]; decide), fun _ => ⟨szn S v, by rw [hV.1]; exact wrn (by omega), hz, ?_⟩⟩
      rw [hX.2.2.1 _ hz]
      by_cases hc : sch S (szn S v) = true
      · rw [hc]
        rw [if_pos ⟨h0, hc⟩] at hQ
        refine ⟨fun c => absurd c (by unfold b2i; rw [if_pos rfl, wr_1]; decide), fun _ => ?_⟩
        rw [h5.1]
        refine hQ _ ?_ (FX.rf.um (by omega))
        have := hX.veh (M' := um M (30 + 2 * v) 5 60) (e := 60) (w := swt S v) (tk := stk S v) hv6 (fun c k _ hc => um_ne (by omega) _) (hV.congr (fun k hk => um_ne2 (by omega)) (fun k => um_ne (by omega) _)) um_self (by rw [um_ne2 (by omega)]; exact h5.2.1) (by rw [um_ne2 (by omega)]; exact h5.2.2)
        simp only [upN_self] at this
        exact this
      · rw [if_neg (fun z => hc z.2)] at hQ
        have : sch S (szn S v) = false := by simpa using hc
        rw [this]
        exact ⟨fun _ => hQ M hX FX.rf, fun c => absurd wr_0 c⟩
    · rw [if_neg h0]
      rw [if_neg (fun z => h0 z.1)] at hQ
      exact ⟨fun _ => hQ M hX FX.rf, fun c => absurd wr_0 c⟩
  · rw [if_neg h] at hQ
    exact hQ M hX FX.rf
theorem x_canStep (hst : K.1.stackTraces = false) (hI : Inv S) (hX : RX S M) {p : Int} (hp : R32 p) (hQ : ∀ M', RX (aMay S p).2 M' → FX M M' → Q (rsX ["java/lang/IndexOutOfBoundsException"] (aMay S p).1) GG M') : MetA K fZ_canStep [aR 0, aI p] GG M Q := by
  unfold aMay at hQ
  refine EZ_canStep hst _ (BZ_canStep_0 _ (sp_reqV hst hI hX hp (fun h1 => ⟨rfl, ?_⟩) (fun h => ⟨rfl, ?_⟩)))
  · rw [if_pos h1] at hQ
    obtain ⟨v, rfl⟩ := nat_of h1.1
    rw [tn] at hQ
    exact sp_mayMove hst hI hX (by omega) (fun M1 f1 => ⟨rfl, b2i_01 _, hQ M1 (hX.ft f1) (FX.of f1)⟩)
  · rw [if_neg h] at hQ
    exact hQ M hX FX.rf
theorem opEnd_zn {v : Nat} {st w : Int} : szn (opEnd S v st w) = szn S := by
  unfold opEnd
  cases stk S v <;> rfl
theorem opGo_zn {v : Nat} : szn (opGo S v) = upN (szn S) v (srz S v 0) := by
  unfold opGo
  split
  · rw [opEnd_zn]; rfl
  · rfl
theorem x_step (hst : K.1.stackTraces = false) (hI : Inv S) (hX : RX S M) {p : Int} (hp : R32 p) (hQ : ∀ M', RX (aStp S p).2 M' → FX M M' → Q (rsX ["java/lang/IndexOutOfBoundsException", "java/lang/IllegalStateException"] (aStp S p).1) GG M') : MetA K fZ_step [aR 0, aI p] GG M Q := by
  have h6 := hI.2.1.1
  unfold aStp at hQ
  refine EZ_step hst _ (BZ_step_0 _ (sp_reqV hst hI hX hp (fun h1 => ⟨rfl, ?_⟩) (fun h => ⟨rfl, ?_⟩)))
  · rw [if_pos h1] at hQ
    obtain ⟨v, rfl⟩ := nat_of h1.1
    have hv : v < snV S := by omega
    rw [tn] at hQ
    refine sp_mayMove hst hI hX hv (fun M1 f1 => ⟨rfl, ?_⟩)
    dsimp only
    cases hm : mayS S v with
    | true =>
      rw [if_pos hm] at hQ
      refine ⟨fun c => absurd c (by unfold b2i; rw [if_pos rfl, wr_1]; decide), fun _ => ?_⟩
      refine sp_move hst hI (hX.ft f1) hv hm (fun M2 x2 f2 => ⟨rfl, v, wrn (by omega), by omega, ?_⟩)
      rw [(x2.2.2.2.1.2 v (by omega)).1]
      exact hQ M2 x2 ((FX.of f1).tr f2)
    | false =>
      rw [if_neg (by rw [hm]; decide)] at hQ
      exact ⟨fun _ => hQ M1 (hX.ft f1) (FX.of f1), fun c => absurd wr_0 c⟩
  · rw [if_neg h] at hQ
    exact hQ M hX FX.rf
theorem lp_tick (hst : K.1.stackTraces = false) (hI : Inv S) {t : Nat} (ht : t ≤ 20) {M0 : AM} (hQ : ∀ M', RX (tickS S t) M' → FX M0 M' → Q (.inl (some (aI (tickC S t)))) GG M') : ∀ (d k : Nat) (M : AM), k + d = t → RX (tickS S k) M → FX M0 M → WM K fZ_tick (EM K fZ_tick 126 Q) 25 [some (aR 0), some (aI t), some (aI (tickC S k)), some (aI k)] [] GG M 0 0 := by
  intro d
  induction d with
  | zero =>
    intro k M hk hX hF
    have hkt : k = t := by omega
    subst hkt
    refine BZ_tick_25 _ _ _ ⟨fun _ => hQ M hX hF, fun c => absurd ?_ c⟩
    rw [wrn (by omega)]; omega
  | succ d ih =>
    intro k M hk hX hF
    refine BZ_tick_25 _ _ _ ⟨fun c => ?_, fun _ => ?_⟩
    · rw [wrn (by omega), wrn (by omega)] at c; omega
    · refine sp_pass hst (hI.tick k) hX (fun M1 x1 f1 => ⟨rfl, ?_⟩)
      have e : turnsS (tickS S k) (snV (tickS S k)) = tickS S (k + 1) := by rw [tickS_nV]; rfl
      rw [e] at x1
      have e2 : stpS (tickS S k) (snV (tickS S k)) = stpS (tickS S k) (snV S) := by rw [tickS_nV]
      dsimp only
      rw [e2]
      exact ih (k + 1) M1 (by omega) x1 (hF.tr f1)
theorem x_tick (hst : K.1.stackTraces = false) (hI : Inv S) (hX : RX S M) {p : Int} (hp : R32 p) (hQ : ∀ M', RX (aTck S p).2 M' → FX M M' → Q (rsX ["java/lang/IllegalArgumentException"] (aTck S p).1) GG M') : MetA K fZ_tick [aR 0, aI p] GG M Q := by
  unfold aTck at hQ
  refine EZ_tick hst _ (BZ_tick_0 _ ?_)
  rw [wri hp.1 hp.2, wr_1, wr_20]
  refine ⟨fun c => ?_, fun c => ⟨fun c2 => ?_, fun c2 => ?_⟩⟩
  · rw [if_neg (by omega)] at hQ; exact hQ M hX FX.rf
  · obtain ⟨t, rfl⟩ := nat_of (p := p) (by omega)
    rw [if_pos (by omega), tn] at hQ
    exact lp_tick hst hI (by omega) hQ t 0 M (by omega) hX FX.rf
  · rw [if_neg (by omega)] at hQ; exact hQ M hX FX.rf
theorem x_addJob (hst : K.1.stackTraces = false) (hI : Inv S) (hX : RX S M) {p : Int} (hp : R32 p) (hQ : ∀ M', RX (aJob S p).2 M' → FX M M' → Q (rsX ["java/lang/IllegalArgumentException", "java/lang/IllegalStateException"] (aJob S p).1) GG M') : MetA K fZ_addJob [aR 0, aI p] GG M Q := by
  have hJ := hI.2.2.1
  unfold aJob at hQ
  refine EZ_addJob hst _ (BZ_addJob_0 _ (sp_reqZ hst hp (fun h1 => ⟨rfl, ?_⟩) (fun h => ⟨rfl, ?_⟩)))
  · rw [if_pos h1] at hQ
    obtain ⟨i, rfl⟩ := nat_of h1.1
    rw [tn] at hQ
    dsimp only
    rw [hX.2.2.2.2.2.1, wrn (by omega), wr_20]
    refine ⟨fun c => ⟨snJ S, rfl, by omega, ?_⟩, fun c => ?_⟩
    · rw [if_pos (by omega)] at hQ
      refine hQ _ ?_ ((FX.rf.um (by omega)).um (by omega))
      obtain ⟨k1, k2, k3, k4, k5, k6, k7⟩ := hX
      refine ⟨fun a b ha hb => ?_, ?_, fun z hz => ?_, ⟨?_, fun v hv => (k4.2 v hv).congr (fun k _ => by simp (disch := omega) only [um_ne]) (fun k => by simp (disch := omega) only [um_ne])⟩, fun v hv => ?_, ?_, fun j hj => ?_⟩
      · simp (disch := omega) only [um_ne]; exact k1 a b ha hb
      · simp (disch := omega) only [um_ne]; exact k2
      · simp (disch := omega) only [um_ne]; exact k3 z hz
      · simp (disch := omega) only [um_ne, um_ne2]; exact k4.1
      · simp (disch := omega) only [um_ne]; exact k5 v hv
      · rw [um_self]
        simp (disch := omega) only [um_ne]
        rw [k6]; rfl
      · show _ = ((upN (sjz S) (snJ S) i j : Nat) : Int) ∧ _ ∧ _
        by_cases e : j = snJ S
        · subst e
          simp (disch := omega) only [um_ne, um_ne2, um_self, upN_s]
          exact ⟨trivial, (k7 _ hj).2⟩
        · rw [upN_n e]
          simp (disch := omega) only [um_ne]; exact k7 j hj
    · rw [if_neg (by omega)] at hQ
      exact hQ M hX FX.rf
  · rw [if_neg h] at hQ
    exact hQ M hX FX.rf
theorem x_dispatch (hst : K.1.stackTraces = false) (hI : Inv S) (hX : RX S M) (hQ : ∀ M', RX (aDsp S).2 M' → FX M M' → Q (.inl (some (aI (aDsp S).1.2))) GG M') : MetA K fZ_dispatch [aR 0] GG M Q := by
  have h6 := hI.2.1.1
  have hJ := hI.2.2.1
  unfold aDsp at hQ
  refine EZ_dispatch hst (BZ_dispatch_0 (sp_most hst hI hX (fun M1 x1 f1 => ⟨rfl, ?_⟩)))
  dsimp only
  rcases bs_spec (S := S) (snJ S) with h | ⟨j, h1, h2, h3, h4⟩
  · rw [if_pos h.1] at hQ
    rw [h.1]
    exact ⟨fun _ => ⟨fun _ => hQ M1 x1 (FX.of f1), fun c => absurd rfl c⟩, fun c => absurd rfl c⟩
  · obtain ⟨g0, v, g1, g2, g3⟩ := reg_go h4
    rw [if_neg (by omega), h1, tn, g1, tn] at hQ
    rw [h1, wr_m1, wrn (by omega)]
    refine ⟨fun c => by omega, fun _ => ?_⟩
    refine sp_nearest hst hI h2 x1 (fun M2 x2 f2 => ⟨rfl, ?_⟩)
    dsimp only
    rw [g1, wrn (by omega)]
    have hv6 : v < 6 := by omega
    refine ⟨fun c => by omega, fun _ => ⟨v, rfl, hv6, j, rfl, by omega, ?_⟩⟩
    rw [(x2.2.2.2.2.2.2 j (by omega)).1]
    have hgs := (canGo_spec g3).2.2.1
    refine sp_takeWay hst hI.1 x2.1 hv6 (x2.2.2.2.1.2 v hv6) (hI.2.1.2 v g2).1 (hI.2.2.2.2.2.2.2.1 j h2) hgs (fun M3 f3 V3 => ⟨rfl, v, rfl, hv6, j, rfl, by omega, j, rfl, by omega, ?_⟩)
    have hX3 := x2.rt hv6 f3 V3
    refine hQ _ ?_ (((((FX.of f1).tr (FX.of f2)).tr (FX.ofV hv6 f3)).um (by omega)).um (by omega) |>.um (by omega))
    obtain ⟨k1, k2, k3, k4, k5, k6, k7⟩ := hX3
    refine ⟨fun a b ha hb => ?_, ?_, fun z hz => ?_, ⟨?_, fun u hu => (k4.2 u hu).congr (fun k hk => ?_) (fun k => by simp (disch := omega) only [um_ne])⟩, fun u hu => ?_, ?_, fun i hi => ?_⟩
    · simp (disch := omega) only [um_ne]; exact k1 a b ha hb
    · simp (disch := omega) only [um_ne]; exact k2
    · simp (disch := omega) only [um_ne]; exact k3 z hz
    · simp (disch := omega) only [um_ne]; exact k4.1
    · by_cases e : u = v
      · subst e; simp (disch := omega) only [um_ne, um_ne2]
      · simp (disch := omega) only [um_ne]
    · show _ ∧ _ ∧ _ = o2i (upN (stk S) v (some j) u)
      by_cases e : u = v
      · subst e
        simp (disch := omega) only [um_ne, um_ne2, um_self, upN_s]
        exact ⟨(k5 u hu).1, (k5 u hu).2.1, rfl⟩
      · rw [upN_n e]
        simp (disch := omega) only [um_ne]; exact k5 u hu
    · simp (disch := omega) only [um_ne]; exact k6
    · show _ ∧ _ = upN (sjs S) j 1 i ∧ _ = upN (sjv S) j (v : Int) i
      by_cases e : i = j
      · subst e
        simp (disch := omega) only [um_ne, um_ne2, um_self, upN_s]
        exact ⟨(k7 i hi).1, trivial, trivial⟩
      · rw [upN_n e, upN_n e]
        simp (disch := omega) only [um_ne]; exact k7 i hi
end XQ
