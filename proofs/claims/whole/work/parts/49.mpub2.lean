/-! the reference: its public calls, second part -/
section MC
variable {K : KX} {S : SS} {M : AM} {Q : Res → AG → AM → Prop}
theorem m_assign (hst : K.1.stackTraces = false) (hI : Inv S) (hR : RM S M) {p q : Int} (hp : R32 p) (hq : R32 q) (hQ : mq (aAsg S p q) M Q) : MetA K fM_assign [aR 63, aI p, aI q] GG M Q := by
  have h6 := hI.2.1.1
  unfold aAsg at hQ
  -- behind couldGo, or without it
  have early : ∀ y : Int, ¬ (vin S p ∧ zin q) → ∀ M1, M1 = M → WM K fM_assign (EM K fM_assign 80 Q) 25 [some (aR 63), some (aI p), some (aI q), none] [aI y] GG M1 0 0 := fun y h M1 e => by
    subst e
    refine BM_assign_25 _ _ _ (sp_isVeh hst hI hR.2.2.2.1.1 hp ⟨rfl, fun c => ?_, fun c => sp_isZone hst hq ⟨rfl, fun c2 => ?_, fun c2 => absurd ⟨b_ft c, b_ft c2⟩ h⟩⟩)
    · rw [if_neg (b_ff c)] at hQ
      exact BM_assign_60 _ _ _ _ (sp_ref (c := 1) hst (by omega) hR FQ.rf hQ)
    · rw [if_pos (b_ft c), if_neg (b_ff c2)] at hQ
      exact BM_assign_60 _ _ _ _ (sp_ref (c := 2) hst (by omega) hR FQ.rf hQ)
  refine EM_assign hst _ _ (BM_assign_0 _ _ (sp_isVeh hst hI hR.2.2.2.1.1 hp ⟨rfl, fun c => BM_assign_24 _ _ (early _ (fun h => b_ff c h.1) M rfl), fun c => sp_isZone hst hq ⟨rfl, fun c2 => BM_assign_24 _ _ (early _ (fun h => b_ff c2 h.2) M rfl), fun c2 => ?_⟩⟩))
  have h1 := b_ft c
  have h2 := b_ft c2
  rw [if_pos h1, if_pos h2] at hQ
  obtain ⟨v, rfl⟩ := nat_of h1.1
  obtain ⟨t, rfl⟩ := nat_of h2.1
  have hv : v < snV S := by have := h1.2; omega
  have ht : t < 20 := by have := h2.2; omega
  rw [tn, tn] at hQ
  refine sp_couldGo hst hI hR hv ht (fun M1 f1 w1 => ⟨rfl, ?_⟩)
  have hR1 := hR.fk f1
  have bd := lenS_bd (S := S) (v := v) (t := t)
  refine BM_assign_25 _ _ _ (sp_isVeh hst hI hR1.2.2.2.1.1 hp ⟨rfl, fun c3 => absurd h1 (b_ff c3), fun _ => sp_isZone hst hq ⟨rfl, fun c3 => absurd h2 (b_ff c3), fun _ => ?_⟩⟩)
  rw [wri (z := lenS S v t) (by omega) (by omega), wr_m1]
  refine ⟨fun c3 => ?_, fun c3 => ?_⟩
  · have hc : ¬ canGo S v t = true := fun e => by unfold lenS at c3; rw [if_pos e] at c3; omega
    rw [if_neg hc] at hQ
    exact BM_assign_60 _ _ _ _ (sp_ref (c := 3) hst (by omega) hR1 f1.fq hQ)
  · have hc : canGo S v t = true := Classical.byContradiction fun e => by unfold lenS at c3; rw [if_neg e] at c3; exact c3 rfl
    rw [if_pos hc] at hQ
    obtain ⟨g1, g2, g3, g4, g5⟩ := canGo_spec hc
    have hl : lenS S v t = (sD S (szn S v) t : Int) := if_pos hc
    have hz := (hI.2.1.2 v hv).1
    have hsm := hI.1.small hz ht g3
    have hR2 := hR1.code (x := 0)
    obtain ⟨m1, m2, m3, m4⟩ := hR2.2.2.2.1.2 v hv
    obtain ⟨n1, n2⟩ := hR2.2.2.2.2.1 v hv
    refine BM_assign_60 _ _ _ _ (sp_ok (x0 := True) hst ⟨v, wrn (by omega), by omega, hQ _ ?_ ((f1.fq.um (by omega)).um (by omega)) (by rw [um_ne (by omega), um_self]; rfl)⟩)
    have := hR2.veh (M' := um (um M1 63 0 0) 69 v (lenS S v t)) (v := v) (z := szn S v) (l := sD S (szn S v) t) (r := fun k => wyD (sD S) (szn S v) t (k + 1)) (e := sen S v) (w := swt S v) (fun c k c1 c2 c3 c4 c6 c7 c8 c9 c10 => by
      by_cases e : c = 69
      · subst e; rw [um_ne2 (by omega)]
      · rw [um_ne e]) (by rw [um_ne (by omega)]; exact m1) (by rw [um_self]; exact hl) (by omega) (fun k hk => by rw [um_ne (by omega), um_ne (by omega)]; exact w1 hc k hk) (by rw [um_ne (by omega)]; exact n1) (by rw [um_ne (by omega)]; exact n2)
    rw [upN_self, upN_self, upN_self] at this
    exact this
theorem m_cancel (hst : K.1.stackTraces = false) (hI : Inv S) (hR : RM S M) {p : Int} (hp : R32 p) (hQ : mq (aCan S p) M Q) : MetA K fM_cancel [aR 63, aI p] GG M Q := by
  have h6 := hI.2.1.1
  unfold aCan at hQ
  refine EM_cancel hst _ (BM_cancel_0 _ (sp_isVeh hst hI hR.2.2.2.1.1 hp ⟨rfl, fun c => ?_, fun c => ?_⟩))
  · rw [if_neg (b_ff c)] at hQ
    refine BM_cancel_18 _ _ ⟨fun _ => BM_cancel_28 _ _ _ ⟨fun _ => BM_cancel_52 _ _ _ (sp_isVeh hst hI hR.2.2.2.1.1 hp ⟨rfl, fun _ => BM_cancel_74 _ _ _ _ (sp_ref (c := 1) hst (by omega) hR FQ.rf hQ), fun c2 => absurd c c2⟩), fun c2 => absurd wr_0 c2⟩, fun c2 => absurd (by rw [wr_0]; omega) c2⟩
  · have h1 := b_ft c
    rw [if_pos h1] at hQ
    obtain ⟨v, rfl⟩ := nat_of h1.1
    have hv : v < snV S := by have := h1.2; omega
    have hv6 : v < 6 := by omega
    rw [tn] at hQ
    obtain ⟨m1, m2, m3, m4⟩ := hR.2.2.2.1.2 v hv
    have hz := (hI.2.1.2 v hv).1
    refine ⟨v, wrn (by omega), hv6, ?_⟩
    rw [m2]
    -- refused at the last
    have ref2 : ¬ (0 < srl S v ∧ 0 < cntW S v (szn S v) 0 (srz S v)) → ∀ M1, RM S M1 → FQ M M1 → WM K fM_cancel (EM K fM_cancel 80 Q) 52 [some (aR 63), some (aI v), some (aI (srl S v)), some (aI 0), none] [] GG M1 0 0 := fun h M1 r1 f1 => by
      rw [if_neg h] at hQ
      exact BM_cancel_52 _ _ _ (sp_isVeh hst hI r1.2.2.2.1.1 hp ⟨rfl, fun c2 => absurd h1 (b_ff c2), fun _ => ⟨fun _ => BM_cancel_74 _ _ _ _ (sp_ref (c := 2) hst (by omega) r1 f1 hQ), fun c2 => absurd wr_0 c2⟩⟩)
    refine BM_cancel_18 _ _ ?_
    rw [wrn (by omega)]
    refine ⟨fun c2 => BM_cancel_28 _ _ _ ⟨fun _ => ref2 (fun h => by omega) M hR FQ.rf, fun c3 => absurd wr_0 c3⟩, fun c2 => BM_cancel_28 _ _ _ ⟨fun c3 => absurd c3 (by rw [wr_1]; omega), fun _ => ⟨v, wrn (by omega), hv6, ?_⟩⟩⟩
    have hP1 : MP (um M 69 v 0) (snV S) (upN (szn S) v (szn S v)) (upN (srl S) v 0) (upN (srz S) v (srz S v)) := hR.2.2.2.1.put (FV2.rf.um (by omega)) (by rw [um_ne (by omega)]; exact m1) (by rw [um_self]; rfl) (by omega) (fun k hk => by omega)
    refine sp_msafe hst (pgm hI hv hz (fun k hk => by omega)) hP1 (fun M1 f1 _ _ => ⟨rfl, v, wrn (by omega), hv6, ?_⟩)
    rw [← cntW_lt hv]
    have hF : FK S M (um M1 69 v (srl S v : Int)) := ⟨fun c k c1 c2 c3 c4 c5 => by
      by_cases e : c = 69
      · subst e
        by_cases e2 : k = v
        · subst e2; rw [um_self, m2]
        · rw [um_ne2 e2, f1 _ _ (by omega) (by omega), um_ne2 e2]
      · rw [um_ne e, f1 _ _ c3 c4, um_ne e], fun w k hw hk => by rw [um_ne (by omega), f1 _ _ (by omega) (by omega), um_ne (by omega)]⟩
    have hR1 := hR.fk hF
    by_cases h2 : 0 < cntW S v (szn S v) 0 (srz S v)
    · rw [b2i_t h2]
      rw [if_pos ⟨by omega, h2⟩] at hQ
      have hR2 := hR1.code (x := 0)
      obtain ⟨n1, n2⟩ := hR2.2.2.2.2.1 v hv
      obtain ⟨k1, k2, k3, k4⟩ := hR2.2.2.2.1.2 v hv
      have hR3 : RM (opDrop S v) (um (um (um M1 69 v (srl S v : Int)) 63 0 0) 69 v 0) := by
        have := hR2.veh (M' := um (um (um M1 69 v (srl S v : Int)) 63 0 0) 69 v 0) (v := v) (z := szn S v) (l := 0) (r := srz S v) (e := sen S v) (w := swt S v) (fun c k c1 c2 c3 c4 c6 c7 c8 c9 c10 => by
          by_cases e : c = 69
          · subst e; rw [um_ne2 (by omega)]
          · rw [um_ne e]) (by rw [um_ne (by omega)]; exact k1) (by rw [um_self]; rfl) (by omega) (fun k hk => by omega) (by rw [um_ne (by omega)]; exact n1) (by rw [um_ne (by omega)]; exact n2)
        rw [upN_self, upN_self, upN_self, upN_self] at this
        exact this
      have hI3 : Inv (opDrop S v) := hI.drop hv h2
      have e72 : um (um (um M1 69 v (srl S v : Int)) 63 0 0) 69 v 0 72 v = o2i (stk S v) := hR3.2.2.2.2.2.1 v hv6
      have hF3 : FQ M (um (um (um M1 69 v (srl S v : Int)) 63 0 0) 69 v 0) := (hF.fq.um (by omega)).um (by omega)
      have hc3 : um (um (um M1 69 v (srl S v : Int)) 63 0 0) 69 v 0 63 0 = 0 := by rw [um_ne (by omega), um_self]
      refine BM_cancel_52 _ _ _ (sp_isVeh hst hI hR1.2.2.2.1.1 hp ⟨rfl, fun c3 => absurd h1 (b_ff c3), fun _ => ⟨fun c3 => absurd c3 (by rw [wr_1]; omega), fun _ => BM_cancel_74 _ _ _ _ (sp_ok (x0 := True) hst ⟨v, wrn (by omega), hv6, v, wrn (by omega), hv6, ?_⟩)⟩⟩)
      cases hj : stk S v with
      | none =>
        have e : opEnd (opDrop S v) v 0 (-1) = opDrop S v := by
          unfold opEnd
          rw [show stk (opDrop S v) v = none from hj]
        rw [e] at hQ
        rw [e72, hj]
        exact ⟨fun _ => BM_cancel_126 _ _ _ _ (hQ _ hR3 hF3 hc3), fun c3 => absurd rfl c3⟩
      | some j =>
        have hjv := hI.2.2.2.2.2.2.1 v j hj
        have hJ := hI.2.2.1
        have ej : wr (o2i (some j)) = (j : Int) := wrn (by omega)
        rw [e72, hj]
        refine ⟨fun c3 => ?_, fun _ => ⟨j, ej, by omega, j, ej, by omega, v, wrn (by omega), hv6, BM_cancel_126 _ _ _ _ (hQ _ (hR3.task hI3 (v := v) (j := j) (st := 0) (w := -1) hv6 hj) (((hF3.um (by omega)).um (by omega)).um (by omega)) ?_)⟩⟩
        · rw [ej, wr_m1] at c3; omega
        · rw [um_ne (by omega), um_ne (by omega), um_ne (by omega)]; exact hc3
    · rw [b2i_f h2]
      exact ref2 (fun h => h2 h.2) _ hR1 hF.fq
theorem m_charge (hst : K.1.stackTraces = false) (hI : Inv S) (hR : RM S M) {p : Int} (hp : R32 p) (hQ : mq (aChg S p) M Q) : MetA K fM_charge [aR 63, aI p] GG M Q := by
  have h6 := hI.2.1.1
  unfold aChg at hQ
  refine EM_charge hst _ (BM_charge_0 _ (sp_isVeh hst hI hR.2.2.2.1.1 hp ⟨rfl, fun c => ?_, fun c => ?_⟩))
  · rw [if_neg (b_ff c)] at hQ
    exact BM_charge_35 _ (BM_charge_36 _ _ (sp_isVeh hst hI hR.2.2.2.1.1 hp ⟨rfl, fun _ => BM_charge_59 _ _ _ (sp_ref (c := 1) hst (by omega) hR FQ.rf hQ), fun c2 => absurd c c2⟩))
  · have h1 := b_ft c
    rw [if_pos h1] at hQ
    obtain ⟨v, rfl⟩ := nat_of h1.1
    have hv : v < snV S := by have := h1.2; omega
    have hv6 : v < 6 := by omega
    rw [tn] at hQ
    obtain ⟨m1, m2, m3, m4⟩ := hR.2.2.2.1.2 v hv
    have hz := (hI.2.1.2 v hv).1
    have ref2 : ¬ (srl S v = 0 ∧ sch S (szn S v) = true) → WM K fM_charge (EM K fM_charge 80 Q) 35 [some (aR 63), some (aI v), none, none] [] GG M 0 0 := fun h => by
      rw [if_neg h] at hQ
      exact BM_charge_35 _ (BM_charge_36 _ _ (sp_isVeh hst hI hR.2.2.2.1.1 hp ⟨rfl, fun c2 => absurd h1 (b_ff c2), fun _ => ⟨fun _ => BM_charge_59 _ _ _ (sp_ref (c := 2) hst (by omega) hR FQ.rf hQ), fun c2 => absurd wr_0 c2⟩⟩))
    refine ⟨v, wrn (by omega), hv6, ?_⟩
    rw [m2, wrn (by omega)]
    refine ⟨fun c2 => ⟨v, wrn (by omega), hv6, szn S v, by rw [m1, wrn (by omega)], hz, ?_⟩, fun c2 => ref2 (fun h => by omega)⟩
    rw [hR.2.2.1 _ hz]
    cases hc : sch S (szn S v) with
    | false => exact ⟨fun _ => ref2 (fun h => by rw [hc] at h; cases h.2), fun c3 => absurd wr_0 c3⟩
    | true =>
      refine ⟨fun c3 => absurd c3 (by show ¬ wr 1 = 0; rw [wr_1]; omega), fun _ => ?_⟩
      rw [if_pos ⟨by omega, hc⟩] at hQ
      have hR2 := hR.code (x := 0)
      obtain ⟨n1, n2⟩ := hR2.2.2.2.2.1 v hv
      obtain ⟨k1, k2, k3, k4⟩ := hR2.2.2.2.1.2 v hv
      refine BM_charge_36 _ _ (sp_isVeh hst hI hR.2.2.2.1.1 hp ⟨rfl, fun c3 => absurd h1 (b_ff c3), fun _ => ⟨fun c3 => absurd c3 (by rw [wr_1]; omega), fun _ => BM_charge_59 _ _ _ (sp_ok (x0 := True) hst ⟨v, wrn (by omega), hv6, v, wrn (by omega), hv6, ?_⟩)⟩⟩)
      rw [n1]
      refine hQ _ ?_ ((FQ.rf.um (by omega)).um (by omega)) (by rw [um_ne (by omega), um_self]; rfl)
      have := hR2.veh (M' := um (um M 63 0 0) 68 v 60) (v := v) (z := szn S v) (l := srl S v) (r := srz S v) (e := 60) (w := swt S v) (fun c k c1 c2 c3 c4 c6 c7 c8 c9 c10 => by
        by_cases e : c = 68
        · subst e; rw [um_ne2 (by omega)]
        · rw [um_ne e]) (by rw [um_ne (by omega)]; exact k1) (by rw [um_ne (by omega)]; exact k2) k3 (fun k hk => by rw [um_ne (by omega)]; exact k4 k hk) um_self (by rw [um_ne (by omega)]; exact n2)
      rw [upN_self, upN_self, upN_self, upN_self] at this
      exact this
theorem m_step (hst : K.1.stackTraces = false) (hI : Inv S) (hR : RM S M) {p : Int} (hp : R32 p) (hQ : mq (aStp S p) M Q) : MetA K fM_step [aR 63, aI p] GG M Q := by
  have h6 := hI.2.1.1
  unfold aStp at hQ
  refine EM_step hst _ (BM_step_0 _ (sp_isVeh hst hI hR.2.2.2.1.1 hp ⟨rfl, fun c => ?_, fun c => ?_⟩))
  · rw [if_neg (b_ff c)] at hQ
    exact BM_step_20 _ (BM_step_21 _ _ (sp_isVeh hst hI hR.2.2.2.1.1 hp ⟨rfl, fun _ => BM_step_44 _ _ _ (sp_ref (c := 1) hst (by omega) hR FQ.rf hQ), fun c2 => absurd c c2⟩))
  · have h1 := b_ft c
    rw [if_pos h1] at hQ
    obtain ⟨v, rfl⟩ := nat_of h1.1
    have hv : v < snV S := by have := h1.2; omega
    have hv6 : v < 6 := by omega
    rw [tn] at hQ
    refine sp_mmay hst hI hR hv (fun M1 f1 => ⟨rfl, ?_⟩)
    have hR1 := hR.fk f1
    dsimp only
    cases hm : mayS S v with
    | false =>
      rw [hm, if_neg (by decide)] at hQ
      exact ⟨fun _ => BM_step_20 _ (BM_step_21 _ _ (sp_isVeh hst hI hR1.2.2.2.1.1 hp ⟨rfl, fun c2 => absurd h1 (b_ff c2), fun _ => ⟨fun _ => BM_step_44 _ _ _ (sp_ref (c := 2) hst (by omega) hR1 f1.fq hQ), fun c2 => absurd wr_0 c2⟩⟩)), fun c2 => absurd wr_0 c2⟩
    | true =>
      rw [hm, if_pos rfl] at hQ
      refine ⟨fun c2 => absurd c2 (by show ¬ wr 1 = 0; rw [wr_1]; omega), fun _ => BM_step_21 _ _ (sp_isVeh hst hI hR1.2.2.2.1.1 hp ⟨rfl, fun c2 => absurd h1 (b_ff c2), fun _ => ⟨fun c2 => absurd c2 (by rw [wr_1]; omega), fun _ => BM_step_44 _ _ _ (sp_ok (x0 := True) hst (sp_mgo hst hI hR1.code hv hm (fun M2 r2 f2 => ⟨rfl, v, wrn (by omega), hv6, ?_⟩)))⟩⟩)⟩
      have hgv : v < snV (opGo S v) := by rw [opGo_nV]; exact hv
      rw [(r2.2.2.2.1.2 v hgv).1]
      exact hQ M2 r2 ((f1.fq.um (by omega)).tr f2.1) (by rw [f2.2, um_self]; rfl)
theorem m_addJob (hst : K.1.stackTraces = false) (hI : Inv S) (hR : RM S M) {p : Int} (hp : R32 p) (hQ : mq (aJob S p) M Q) : MetA K fM_addJob [aR 63, aI p] GG M Q := by
  have hJ := hI.2.2.1
  unfold aJob at hQ
  refine EM_addJob hst _ (BM_addJob_0 _ (sp_isZone hst hp ⟨rfl, fun c => ?_, fun c => ?_⟩))
  · rw [if_neg (b_ff c)] at hQ
    exact BM_addJob_26 _ _ (sp_ref (c := 1) hst (by omega) hR FQ.rf hQ)
  · have h1 := b_ft c
    rw [if_pos h1] at hQ
    obtain ⟨a, rfl⟩ := nat_of h1.1
    have ha : a < 20 := by have := h1.2; omega
    rw [tn] at hQ
    rw [hR.2.2.2.2.2.2.1, wrn (by omega), wr_20]
    refine ⟨fun c2 => ?_, fun c2 => ?_⟩
    · rw [if_neg (by omega)] at hQ
      exact BM_addJob_26 _ _ (sp_ref (c := 2) hst (by omega) hR FQ.rf hQ)
    · rw [if_pos (by omega)] at hQ
      have e12 : um M 63 0 0 63 12 = (snJ S : Int) := by rw [um_ne2 (by omega)]; exact hR.2.2.2.2.2.2.1
      refine BM_addJob_26 _ _ (sp_ok (x0 := True) hst ⟨snJ S, by rw [e12]; exact wrn (by omega), by omega, snJ S, by rw [um_ne (by omega), e12]; exact wrn (by omega), by omega, snJ S, by rw [um_ne (by omega), um_ne (by omega), e12]; exact wrn (by omega), by omega, ?_⟩)
      have e13 : um (um (um (um M 63 0 0) 73 (snJ S) (a : Int)) 74 (snJ S) 0) 75 (snJ S) (-1) 63 12 = (snJ S : Int) := by rw [um_ne (by omega), um_ne (by omega), um_ne (by omega)]; exact e12
      rw [e13, um_self, show (snJ S : Int) + 1 - 1 = (snJ S : Int) by omega]
      refine hQ _ ?_ (((((FQ.rf.um (by omega)).um (by omega)).um (by omega)).um (by omega)).um (by omega)) ?_
      · have h9 := hI.2.2.2.2.2.2.2.2.1 (snJ S) (Nat.le_refl _)
        obtain ⟨r1, r2, r3, r4, r5, r6, r7, r8⟩ := hR
        refine ⟨fun i j hi hj => ?_, ?_, fun x hx => ?_, ⟨?_, fun u hu => ?_⟩, fun u hu => ?_, fun u hu => ?_, ?_, fun j hj => ?_⟩
        · simp (disch := omega) only [um_ne]; exact r1 i j hi hj
        · simp (disch := omega) only [um_ne, um_ne2]; exact r2
        · simp (disch := omega) only [um_ne]; exact r3 x hx
        · simp (disch := omega) only [um_ne, um_ne2]; exact r4.1
        · obtain ⟨g1, g2, g3, g4⟩ := r4.2 u hu
          refine ⟨?_, ?_, g3, fun k hk => ?_⟩
          · simp (disch := omega) only [um_ne]; exact g1
          · simp (disch := omega) only [um_ne]; exact g2
          · simp (disch := omega) only [um_ne]; exact g4 k hk
        · simp (disch := omega) only [um_ne]; exact r5 u hu
        · simp (disch := omega) only [um_ne]; exact r6 u hu
        · rw [um_self]; rfl
        · show _ = ((upN (sjz S) (snJ S) a j : Nat) : Int) ∧ _ = sjs S j ∧ _ = sjv S j
          by_cases e : j = snJ S
          · rw [e, upN_s, h9.1, h9.2]
            simp (disch := omega) only [um_ne, um_self]
            exact ⟨trivial, trivial, trivial⟩
          · have hj2 : j < snJ S := by have : j < snJ S + 1 := hj; omega
            rw [upN_n e]
            simp (disch := omega) only [um_ne, um_ne2]
            exact r8 j hj2
      · simp (disch := omega) only [um_ne, um_ne2, um_self]; rfl
end MC
