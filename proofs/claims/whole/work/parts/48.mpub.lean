/-! the reference: its public calls -/
def vl (a : Nat × Int) : Int := if a.1 = 0 then a.2 else 0
def mq (a : AN) (M : AM) (Q : Res → AG → AM → Prop) : Prop := ∀ M', RM a.2 M' → FQ M M' → M' 63 0 = (a.1.1 : Int) → Q (.inl (some (aI (vl a.1)))) GG M'
section MB
variable {K : KX} {S : SS} {M : AM} {Q : Res → AG → AM → Prop}
theorem sp_isVeh (hst : K.1.stackTraces = false) (hI : Inv S) (hP : M 63 5 = (snV S : Int)) {p : Int} (hp : R32 p) (hQ : Q (.inl (some (aI (b2i (decide (vin S p)))))) GG M) : MetA K fM_isVehicle [aR 63, aI p] GG M Q := by
  have h6 := hI.2.1.1
  refine EM_isVehicle hst _ (BM_isVehicle_0 _ ?_)
  rw [hP]
  refine sp_in hst hp ⟨by omega, by omega⟩ ⟨by omega, by omega⟩ ⟨rfl, b2i_01 _, ?_⟩
  have : decide (0 ≤ p ∧ p ≤ (snV S : Int) - 1) = decide (vin S p) := decide_eq_decide.mpr ⟨fun h => ⟨h.1, by omega⟩, fun h => ⟨h.1, by have := h.2; omega⟩⟩
  rw [this]
  exact hQ
theorem sp_isJob (hst : K.1.stackTraces = false) (hI : Inv S) (hP : M 63 12 = (snJ S : Int)) {p : Int} (hp : R32 p) (hQ : Q (.inl (some (aI (b2i (decide (jin S p)))))) GG M) : MetA K fM_isJob [aR 63, aI p] GG M Q := by
  have hJ := hI.2.2.1
  refine EM_isJob hst _ (BM_isJob_0 _ ?_)
  rw [hP]
  refine sp_in hst hp ⟨by omega, by omega⟩ ⟨by omega, by omega⟩ ⟨rfl, b2i_01 _, ?_⟩
  have : decide (0 ≤ p ∧ p ≤ (snJ S : Int) - 1) = decide (jin S p) := decide_eq_decide.mpr ⟨fun h => ⟨h.1, by omega⟩, fun h => ⟨h.1, by have := h.2; omega⟩⟩
  rw [this]
  exact hQ
/-- a call that is refused -/
theorem sp_ref (hst : K.1.stackTraces = false) {M1 : AM} {c : Nat} (hc : 0 < c ∧ c < 10) (hR : RM S M1) (hF : FQ M M1) (hQ : mq ((c, 0), S) M Q) {k : AM → Prop} {xx : String → AM → Prop} : MetA K fM_goesWell [aR 63, aI c] GG M1 (cI GG (fun b M2 => (wr b = 0 → Q (.inl (some (aI 0))) GG M2) ∧ (¬ wr b = 0 → k M2)) xx) := by
  refine sp_well hst hc.2 ⟨rfl, ?_⟩
  rw [b2i_f (by omega)]
  refine ⟨fun _ => ?_, fun q => absurd wr_0 q⟩
  have := hQ (um M1 63 0 c) hR.code (hF.um (by omega)) um_self
  unfold vl at this
  rw [if_neg (show ¬ c = 0 by omega)] at this
  exact this
/-- a call that goes well so far -/
theorem sp_ok (hst : K.1.stackTraces = false) {M1 : AM} {x0 : Prop} {k : AM → Prop} {xx : String → AM → Prop} (hk : k (um M1 63 0 0)) : MetA K fM_goesWell [aR 63, aI 0] GG M1 (cI GG (fun b M2 => (wr b = 0 → Q (.inl (some (aI 0))) GG M2) ∧ (¬ wr b = 0 → k M2)) xx) := by
  refine sp_well (c := 0) hst (by omega) ⟨rfl, ?_⟩
  rw [b2i_t rfl]
  exact ⟨fun q => absurd q (by rw [wr_1]; omega), fun _ => hk⟩
theorem b_t {P : Prop} [Decidable P] (h : P) : ¬ wr (b2i (decide P)) = 0 := by rw [b2i_t h, wr_1]; omega
theorem b_f {P : Prop} [Decidable P] (h : ¬ P) : wr (b2i (decide P)) = 0 := by rw [b2i_f h]; exact wr_0
theorem b_ft {P : Prop} [Decidable P] (h : ¬ wr (b2i (decide P)) = 0) : P := Classical.byContradiction fun q => h (b_f q)
theorem b_ff {P : Prop} [Decidable P] (h : wr (b2i (decide P)) = 0) : ¬ P := fun q => b_t q h
theorem m_addLane (hst : K.1.stackTraces = false) (hI : Inv S) (hR : RM S M) {p q : Int} (hp : R32 p) (hq : R32 q) (hQ : mq (aLane S p q) M Q) : MetA K fM_addLane [aR 63, aI p, aI q] GG M Q := by
  unfold aLane at hQ
  have no : ¬ (zin p ∧ zin q ∧ p ≠ q) → WM K fM_addLane (EM K fM_addLane 80 Q) 23 [some (aR 63), some (aI p), some (aI q), none] [] GG M 0 0 := fun h => by
    rw [if_neg h] at hQ
    refine BM_addLane_23 _ _ (BM_addLane_24 _ _ _ ⟨fun _ => BM_addLane_53 _ _ _ _ (sp_ref (c := 1) hst (by omega) hR FQ.rf hQ), fun c => absurd wr_0 c⟩)
  refine EM_addLane hst _ _ (BM_addLane_0 _ _ (sp_isZone hst hp ⟨rfl, fun c => no (fun h => b_ff c h.1), fun c => sp_isZone hst hq ⟨rfl, fun c2 => no (fun h => b_ff c2 h.2.1), fun c2 => ⟨fun c3 => ?_, fun c3 => ?_⟩⟩⟩))
  · rw [wri hp.1 hp.2, wri hq.1 hq.2] at c3
    exact no (fun h => h.2.2 c3)
  · rw [wri hp.1 hp.2, wri hq.1 hq.2] at c3
    have h1 := b_ft c
    have h2 := b_ft c2
    rw [if_pos ⟨h1, h2, c3⟩] at hQ
    obtain ⟨a, rfl⟩ := nat_of h1.1
    obtain ⟨b, rfl⟩ := nat_of h2.1
    have ha : a < 20 := by have := h1.2; omega
    have hb : b < 20 := by have := h2.2; omega
    have hab : a ≠ b := fun e => c3 (by rw [e])
    rw [tn, tn] at hQ
    have hj : wr (20 * (a : Int) + (b : Int)) = ((20 * a + b : Nat) : Int) := (wri (by omega) (by omega)).trans (by omega)
    have hj2 : wr (20 * (b : Int) + (a : Int)) = ((20 * b + a : Nat) : Int) := (wri (by omega) (by omega)).trans (by omega)
    have hl : M 64 (20 * a + b) = if sD S a b = 1 then 1 else 0 := hR.1 a b ha hb
    refine BM_addLane_24 _ _ _ ⟨fun c4 => absurd c4 (by rw [wr_1]; omega), fun _ => ⟨20 * a + b, hj, by omega, fun c5 => ?_, fun c5 => ?_⟩⟩
    · have hd : ¬ sD S a b = 1 := fun e => by rw [hl, if_pos e, wr_1] at c5; omega
      rw [if_neg hd] at hQ
      refine BM_addLane_53 _ _ _ _ (sp_ok (x0 := True) hst ⟨20 * a + b, hj, by omega, Or.inr rfl, 20 * b + a, hj2, by omega, Or.inr rfl, ?_⟩)
      have e2 : um (um (um M 63 0 0) 64 (20 * a + b) 1) 64 (20 * b + a) 1 63 2 = sln S := by rw [um_ne (by omega), um_ne (by omega), um_ne2 (by omega)]; exact hR.2.1
      rw [e2]
      have := hQ (um (um (um (um M 63 0 0) 64 (20 * a + b) 1) 64 (20 * b + a) 1) 63 2 (sln S + 1)) ?_ ?_ ?_
      · rw [um_self]; exact this
      · obtain ⟨r1, r2, r3, r4, r5, r6, r7, r8⟩ := hR
        refine ⟨fun i j hi hj => ?_, um_self, fun x hx => ?_, ⟨?_, fun u hu => ?_⟩, fun u hu => ?_, fun u hu => ?_, ?_, fun j hj => ?_⟩
        · have ho := layD_one hI.1 ha hb hab hi hj
          show um (um (um (um M 63 0 0) 64 (20 * a + b) 1) 64 (20 * b + a) 1) 63 2 (sln S + 1) 64 (20 * i + j) = if layD (sD S) a b i j = 1 then 1 else 0
          rw [um_ne (by omega)]
          by_cases e : i = b ∧ j = a
          · rw [e.1, e.2, um_self, if_pos]
            exact (layD_one hI.1 ha hb hab hb ha).mpr (Or.inr (Or.inr ⟨rfl, rfl⟩))
          · rw [um_ne2 (by omega)]
            by_cases e2 : i = a ∧ j = b
            · rw [e2.1, e2.2, um_self, if_pos]
              exact (layD_one hI.1 ha hb hab ha hb).mpr (Or.inr (Or.inl ⟨rfl, rfl⟩))
            · rw [um_ne2 (by omega), um_ne (by omega), r1 i j hi hj]
              by_cases e3 : sD S i j = 1
              · rw [if_pos e3, if_pos (ho.mpr (Or.inl e3))]
              · rw [if_neg e3, if_neg (fun h => by rcases ho.mp h with h | h | h <;> omega)]
        · rw [um_ne (by omega), um_ne (by omega), um_ne (by omega), um_ne (by omega)]; exact r3 x hx
        · rw [um_ne2 (by omega), um_ne (by omega), um_ne (by omega), um_ne2 (by omega)]; exact r4.1
        · obtain ⟨g1, g2, g3, g4⟩ := r4.2 u hu
          refine ⟨?_, ?_, g3, fun k hk => ?_⟩
          · rw [um_ne (by omega), um_ne (by omega), um_ne (by omega), um_ne (by omega)]; exact g1
          · rw [um_ne (by omega), um_ne (by omega), um_ne (by omega), um_ne (by omega)]; exact g2
          · rw [um_ne (by omega), um_ne (by omega), um_ne (by omega), um_ne (by omega)]; exact g4 k hk
        · simp (disch := omega) only [um_ne]; exact r5 u hu
        · rw [um_ne (by omega), um_ne (by omega), um_ne (by omega), um_ne (by omega)]; exact r6 u hu
        · rw [um_ne2 (by omega), um_ne (by omega), um_ne (by omega), um_ne2 (by omega)]; exact r7
        · simp (disch := omega) only [um_ne]; exact r8 j hj
      · exact (((FQ.rf.um (by omega)).um (by omega)).um (by omega)).um (by omega)
      · rw [um_ne2 (by omega), um_ne (by omega), um_ne (by omega), um_self]; rfl
    · have hd : sD S a b = 1 := Classical.byContradiction fun e => by rw [hl, if_neg e] at c5; exact c5 wr_0
      rw [if_pos hd] at hQ
      exact BM_addLane_53 _ _ _ _ (sp_ref (c := 2) hst (by omega) hR FQ.rf hQ)
theorem m_setCharger (hst : K.1.stackTraces = false) (hR : RM S M) {p : Int} {b : Bool} (hp : R32 p) (hQ : mq (aCh S p b) M Q) : MetA K fM_setCharger [aR 63, aI p, aI (b2i b)] GG M Q := by
  unfold aCh at hQ
  refine EM_setCharger hst _ _ (BM_setCharger_0 _ _ (sp_isZone hst hp ⟨rfl, fun c => ?_, fun c => ?_⟩))
  · rw [if_neg (b_ff c)] at hQ
    exact sp_ref (c := 1) hst (by omega) hR FQ.rf hQ
  · have h1 := b_ft c
    rw [if_pos h1] at hQ
    obtain ⟨a, rfl⟩ := nat_of h1.1
    have ha : a < 20 := by have := h1.2; omega
    rw [tn] at hQ
    have e0 : um M 63 0 0 65 a = b2i (sch S a) := by rw [um_ne (by omega)]; exact hR.2.2.1 a ha
    refine sp_ok (x0 := True) hst ⟨a, wrn (by omega), ha, a, wrn (by omega), ha, b2i_01 b, ?_⟩
    rw [e0]
    refine ⟨b2i_01 _, hQ (um (um M 63 0 0) 65 a (b2i b)) ?_ ((FQ.rf.um (by omega)).um (by omega)) ?_⟩
    · obtain ⟨r1, r2, r3, r4, r5, r6, r7, r8⟩ := hR
      refine ⟨fun i j hi hj => ?_, ?_, fun x hx => ?_, ⟨?_, fun u hu => ?_⟩, fun u hu => ?_, fun u hu => ?_, ?_, fun j hj => ?_⟩
      · rw [um_ne (by omega), um_ne (by omega)]; exact r1 i j hi hj
      · rw [um_ne (by omega), um_ne2 (by omega)]; exact r2
      · show um (um M 63 0 0) 65 a (b2i b) 65 x = b2i (upN (sch S) a b x)
        by_cases e : x = a
        · subst e; rw [um_self, upN_s]
        · rw [um_ne2 e, upN_n e, um_ne (by omega)]; exact r3 x hx
      · rw [um_ne (by omega), um_ne2 (by omega)]; exact r4.1
      · obtain ⟨g1, g2, g3, g4⟩ := r4.2 u hu
        refine ⟨?_, ?_, g3, fun k hk => ?_⟩
        · rw [um_ne (by omega), um_ne (by omega)]; exact g1
        · rw [um_ne (by omega), um_ne (by omega)]; exact g2
        · rw [um_ne (by omega), um_ne (by omega)]; exact g4 k hk
      · simp (disch := omega) only [um_ne]; exact r5 u hu
      · rw [um_ne (by omega), um_ne (by omega)]; exact r6 u hu
      · rw [um_ne (by omega), um_ne2 (by omega)]; exact r7
      · simp (disch := omega) only [um_ne]; exact r8 j hj
    · rw [um_ne (by omega), um_self]; rfl
theorem m_distance (hst : K.1.stackTraces = false) (hI : Inv S) (hR : RM S M) {p q : Int} (hp : R32 p) (hq : R32 q) (hQ : mq (aDist S p q) M Q) : MetA K fM_distance [aR 63, aI p, aI q] GG M Q := by
  unfold aDist at hQ
  refine EM_distance hst _ _ (BM_distance_0 _ _ (sp_isZone hst hp ⟨rfl, fun c => ?_, fun c => sp_isZone hst hq ⟨rfl, fun c2 => ?_, fun c2 => ?_⟩⟩))
  · rw [if_neg (fun h => b_ff c h.1)] at hQ
    exact sp_ref (c := 1) hst (by omega) hR FQ.rf hQ
  · rw [if_neg (fun h => b_ff c2 h.2)] at hQ
    exact sp_ref (c := 1) hst (by omega) hR FQ.rf hQ
  · have h1 := b_ft c
    have h2 := b_ft c2
    rw [if_pos ⟨h1, h2⟩] at hQ
    obtain ⟨a, rfl⟩ := nat_of h1.1
    obtain ⟨b, rfl⟩ := nat_of h2.1
    have ha : a < 20 := by have := h1.2; omega
    have hb : b < 20 := by have := h2.2; omega
    rw [tn, tn] at hQ
    refine sp_ok (x0 := True) hst (sp_measure hst hI.1 hb (hR.code (x := 0)).1 (fun M1 f1 z1 => ⟨rfl, a, wrn (by omega), ha, ?_⟩))
    rw [z1 a ha]
    exact hQ M1 (hR.code.fk (FK.f1 f1)) ((FQ.rf.um (by omega)).tr (FK.f1 (S := S) f1).fq) (by rw [f1 _ _ (by omega), um_self]; rfl)
theorem m_canStep (hst : K.1.stackTraces = false) (hI : Inv S) (hR : RM S M) {p : Int} (hp : R32 p) (hQ : mq (aMay S p) M Q) : MetA K fM_canStep [aR 63, aI p] GG M Q := by
  have h6 := hI.2.1.1
  unfold aMay at hQ
  refine EM_canStep hst _ (BM_canStep_0 _ (sp_isVeh hst hI hR.2.2.2.1.1 hp ⟨rfl, fun c => ?_, fun c => ?_⟩))
  · rw [if_neg (b_ff c)] at hQ
    exact sp_ref (c := 1) hst (by omega) hR FQ.rf hQ
  · have h1 := b_ft c
    rw [if_pos h1] at hQ
    obtain ⟨v, rfl⟩ := nat_of h1.1
    have hv : v < snV S := by have := h1.2; omega
    rw [tn] at hQ
    refine sp_ok (x0 := True) hst (sp_mmay hst hI hR.code hv (fun M1 f1 => ⟨rfl, ?_⟩))
    have := hQ M1 (hR.code.fk f1) ((FQ.rf.um (by omega)).tr f1.fq) (by rw [f1.1 _ _ (by omega) (by omega) (by omega) (by omega) (by omega), um_self]; rfl)
    dsimp only
    cases e : mayS S v with
    | true => rw [e] at this; exact ⟨fun q => absurd q (by show ¬ wr 1 = 0; rw [wr_1]; omega), fun _ => this⟩
    | false => rw [e] at this; exact ⟨fun _ => this, fun q => absurd wr_0 q⟩
end MB
