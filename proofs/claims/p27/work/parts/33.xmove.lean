/-! steps, ends of jobs, ticks, as the class makes them -/
def turnsS (S : SS) : Nat → SS
  | 0 => S
  | i + 1 => turnS (turnsS S i) i
def stpS (S : SS) : Nat → Nat
  | 0 => 0
  | i + 1 => stpS S i + if mayS (turnsS S i) i = true then 1 else 0
def tickS (S : SS) : Nat → SS
  | 0 => S
  | p + 1 => turnsS (tickS S p) (snV S)
def tickC (S : SS) : Nat → Nat
  | 0 => 0
  | p + 1 => tickC S p + stpS (tickS S p) (snV S)
theorem turnsS_nV {S : SS} : ∀ i, snV (turnsS S i) = snV S := by
  intro i
  induction i with
  | zero => rfl
  | succ i ih => unfold turnsS; rw [turn_nV, ih]
theorem tickS_nV {S : SS} : ∀ p, snV (tickS S p) = snV S := by
  intro p
  induction p with
  | zero => rfl
  | succ p ih => unfold tickS; rw [turnsS_nV, ih]
theorem Inv.turns {S : SS} (h : Inv S) : ∀ i, i ≤ snV S → Inv (turnsS S i) := by
  intro i
  induction i with
  | zero => intro _; exact h
  | succ i ih =>
    intro hi
    exact (ih (by omega)).turn (by rw [turnsS_nV]; omega)
theorem Inv.tick {S : SS} (h : Inv S) : ∀ p, Inv (tickS S p) := by
  intro p
  induction p with
  | zero => exact h
  | succ p ih => exact ih.turns _ (by rw [tickS_nV]; exact Nat.le_refl _)
theorem RX.same {S : SS} {M M' : AM} (h : RX S M) (hh : ∀ c k, c < 63 → (c < 24 ∨ 28 < c) → M' c k = M c k) : RX S M' := by
  obtain ⟨h1, h2, h3, h4, h5, h6, h7⟩ := h
  refine ⟨fun i j hi hj => ?_, ?_, fun z hz => ?_, ⟨?_, fun v hv => (h4.2 v hv).congr (fun k _ => hh _ _ (by omega) (by omega)) (fun k => hh _ _ (by omega) (by omega))⟩, fun v hv => ?_, ?_, fun j hj => ?_⟩
  · rw [hh _ _ (by omega) (by omega)]; exact h1 i j hi hj
  · rw [hh _ _ (by omega) (by omega)]; exact h2
  · rw [hh _ _ (by omega) (by omega)]; exact h3 z hz
  · rw [hh _ _ (by omega) (by omega)]; exact h4.1
  · rw [hh _ _ (by omega) (by omega), hh _ _ (by omega) (by omega), hh _ _ (by omega) (by omega)]; exact h5 v hv
  · rw [hh _ _ (by omega) (by omega)]; exact h6
  · rw [hh _ _ (by omega) (by omega), hh _ _ (by omega) (by omega), hh _ _ (by omega) (by omega)]; exact h7 j hj
/-- vehicle v has another place and route; all else is as it was -/
theorem RX.veh {S : SS} {M M' : AM} (h : RX S M) {v z l : Nat} {r : Nat → Nat} {e w : Int} {tk : Option Nat} (hv : v < 6) (hh : ∀ c k, c < 63 → (c ≠ 30 + 2 * v ∧ c ≠ 31 + 2 * v) → M' c k = M c k) (hV : VX M' v z l r) (he : M' (30 + 2 * v) 5 = e) (hw : M' (30 + 2 * v) 6 = w) (ht : M' (30 + 2 * v) 7 = o2i tk) :
    RX (mkS (sD S) (sch S) (sln S) (snV S) (upN (szn S) v z) (upN (sen S) v e) (upN (srl S) v l) (upN (srz S) v r) (upN (swt S) v w) (upN (stk S) v tk) (snJ S) (sjz S) (sjs S) (sjv S)) M' := by
  obtain ⟨h1, h2, h3, h4, h5, h6, h7⟩ := h
  refine ⟨fun i j hi hj => ?_, ?_, fun z hz => ?_, ⟨?_, fun u hu => ?_⟩, fun u hu => ?_, ?_, fun j hj => ?_⟩
  · rw [hh _ _ (by omega) (by omega)]; exact h1 i j hi hj
  · rw [hh _ _ (by omega) (by omega)]; exact h2
  · rw [hh _ _ (by omega) (by omega)]; exact h3 z hz
  · rw [hh _ _ (by omega) (by omega)]; exact h4.1
  · show VX M' u (upN (szn S) v z u) (upN (srl S) v l u) (upN (srz S) v r u)
    by_cases e9 : u = v
    · subst e9; rw [upN_s, upN_s, upN_s]; exact hV
    · rw [upN_n e9, upN_n e9, upN_n e9]
      exact (h4.2 u hu).congr (fun k _ => hh _ _ (by omega) (by omega)) (fun k => hh _ _ (by omega) (by omega))
  · show M' (30 + 2 * u) 5 = upN (sen S) v e u ∧ M' (30 + 2 * u) 6 = upN (swt S) v w u ∧ M' (30 + 2 * u) 7 = o2i (upN (stk S) v tk u)
    by_cases e9 : u = v
    · subst e9; rw [upN_s, upN_s, upN_s]; exact ⟨he, hw, ht⟩
    · rw [upN_n e9, upN_n e9, upN_n e9, hh _ _ (by omega) (by omega), hh _ _ (by omega) (by omega), hh _ _ (by omega) (by omega)]
      exact h5 u hu
  · rw [hh _ _ (by omega) (by omega)]; exact h6
  · rw [hh _ _ (by omega) (by omega), hh _ _ (by omega) (by omega), hh _ _ (by omega) (by omega)]; exact h7 j hj
section XM
variable {K : KX} {Q : Res → AG → AM → Prop}
theorem sp_endJob (hst : K.1.stackTraces = false) {S : SS} {M : AM} (hI : Inv S) (hX : RX S M) {v : Nat} {st w : Int} (hv : v < snV S) (hQ : ∀ M', RX (opEnd S v st w) M' → FX M M' → Q (.inl none) GG M') : MetA K fZ_endJobOf [aR 0, aI v, aI st, aI w] GG M Q := by
  have h6 := hI.2.1.1
  have hv6 : v < 6 := by omega
  obtain ⟨h1, h2, h3, h4, h5, h6', h7⟩ := hX
  have hJ := hI.2.2.1
  refine EZ_endJobOf hst _ _ _ (BZ_endJobOf_0 _ _ _ ⟨v, wrn (by omega), hv6, ?_⟩)
  rw [(h5 v hv6).2.2]
  unfold opEnd at hQ
  cases hj : stk S v with
  | none =>
    rw [hj] at hQ
    refine ⟨fun _ => hQ M ⟨h1, h2, h3, h4, h5, h6', h7⟩ FX.rf, fun c => absurd ?_ c⟩
    show wr (-1) < 0
    rw [wr_m1]; omega
  | some j =>
    rw [hj] at hQ
    have hv2 := hI.2.2.2.2.2.2.1 v j hj
    have e : o2i (some j) = (j : Int) := rfl
    rw [e, h6', wrn (n := j) (by omega), wrn (by omega)]
    refine ⟨fun c => by omega, fun _ => ⟨fun _ => ⟨j, rfl, by omega, j, rfl, by omega, v, wrn (by omega), hv6, hQ _ ?_ ?_⟩, fun c => by omega⟩⟩
    · refine ⟨fun a b ha hb => ?_, ?_, fun z hz => ?_, ⟨?_, fun u hu => ?_⟩, fun u hu => ?_, ?_, fun i hi => ?_⟩
      · rw [um_ne (by omega), um_ne (by omega), um_ne (by omega)]; exact h1 a b ha hb
      · rw [um_ne (by omega), um_ne (by omega), um_ne (by omega)]; exact h2
      · rw [um_ne (by omega), um_ne (by omega), um_ne (by omega)]; exact h3 z hz
      · rw [um_ne (by omega), um_ne (by omega), um_ne (by omega)]; exact h4.1
      · refine (h4.2 u hu).congr (fun k hk => ?_) (fun k => ?_)
        · by_cases e9 : u = v
          · subst e9; rw [um_ne2 (by omega), um_ne (by omega), um_ne (by omega)]
          · rw [um_ne (by omega), um_ne (by omega), um_ne (by omega)]
        · rw [um_ne (by omega), um_ne (by omega), um_ne (by omega)]
      · show _ ∧ _ ∧ _ = o2i (upN (stk S) v none u)
        by_cases e9 : u = v
        · subst e9
          simp (disch := omega) only [um_ne, um_ne2, um_self, upN_s]
          exact ⟨(h5 u hu).1, (h5 u hu).2.1, rfl⟩
        · rw [um_ne (by omega), um_ne (by omega), um_ne (by omega), um_ne (by omega), um_ne (by omega), um_ne (by omega), um_ne (by omega), um_ne (by omega), um_ne (by omega), upN_n e9]
          exact h5 u hu
      · rw [um_ne (by omega), um_ne (by omega), um_ne (by omega)]; exact h6'
      · show _ ∧ _ = upN (sjs S) j st i ∧ _ = upN (sjv S) j w i
        by_cases e9 : i = j
        · subst e9
          simp (disch := omega) only [um_ne, um_ne2, um_self, upN_s]
          exact ⟨(h7 i hi).1, trivial, trivial⟩
        · rw [um_ne (by omega), um_ne (by omega), um_ne (by omega), um_ne (by omega), um_ne (by omega), um_ne (by omega), um_ne (by omega), um_ne (by omega), um_ne (by omega), upN_n e9, upN_n e9]
          exact h7 i hi
    · exact ((FX.rf.um (by omega)).um (by omega)).um (by omega)
theorem sp_move (hst : K.1.stackTraces = false) {S : SS} {M : AM} (hI : Inv S) (hX : RX S M) {v : Nat} (hv : v < snV S) (hm : mayS S v = true) (hQ : ∀ M', RX (opGo S v) M' → FX M M' → Q (.inl none) GG M') : MetA K fZ_move [aR 0, aI v] GG M Q := by
  have h6 := hI.2.1.1
  have hv6 : v < 6 := by omega
  have hl := (mayS_spec hm).1
  have hp := hI.2.1.2 v hv
  have hi := hI.2.2.2.2.1 v
  refine EZ_move hst _ (BZ_move_0 _ ⟨v, wrn (by omega), hv6, ?_⟩)
  refine sp_advance hst hv6 (hX.2.2.2.1.2 v hv6) hl (fun k hk => (hp.2 k hk).1) (fun k h1 h2 q => by have := hi k 0 h2 hl q; omega) (fun M1 f1 e1 V1 => ⟨rfl, v, wrn (by omega), hv6, ?_⟩)
  have hX1 : RX (opAdv S v) M1 := by
    have h5 := hX.2.2.2.2.1 v hv6
    have := hX.veh (e := sen S v - 1) (w := swt S v) (tk := stk S v) hv6 (fun c k _ hc => f1 c k (by omega)) V1 (by rw [e1, h5.1]) (by rw [f1 _ _ (by omega)]; exact h5.2.1) (by rw [f1 _ _ (by omega)]; exact h5.2.2)
    rw [upN_self, upN_self] at this
    exact this
  have hF : FX M M1 := fun c k hc => f1 c k (by omega)
  refine sp_isIdle hst hv6 V1 ⟨rfl, ?_⟩
  dsimp only
  unfold opGo at hQ
  by_cases h1 : srl S v = 1
  · rw [if_pos h1] at hQ
    rw [if_pos (by omega)]
    refine ⟨fun c => absurd c (by rw [wr_1]; decide), fun _ => ?_⟩
    exact sp_endJob hst (hI.adv hv hm) hX1 hv (fun M2 x2 f2 => ⟨rfl, hQ M2 x2 (hF.tr f2)⟩)
  · rw [if_neg h1] at hQ
    rw [if_neg (by omega)]
    exact ⟨fun _ => hQ M1 hX1 hF, fun c => absurd wr_0 c⟩
theorem lp_pass (hst : K.1.stackTraces = false) {S : SS} {M0 : AM} (hI : Inv S) (hQ : ∀ M', RX (turnsS S (snV S)) M' → FX M0 M' → Q (.inl (some (aI (stpS S (snV S))))) GG M') : ∀ (d i : Nat) (M : AM), i + d = snV S → RX (turnsS S i) M → FX M0 M → WM K fZ_passOneTick (EM K fZ_passOneTick 126 Q) 4 [some (aR 0), some (aI (stpS S i)), some (aI i)] [] GG M 0 0 := by
  have h6 := hI.2.1.1
  intro d
  induction d with
  | zero =>
    intro i M hi hX hF
    have hin : i = snV S := by omega
    subst hin
    refine BZ_passOneTick_4 _ _ ⟨fun _ => hQ M hX hF, fun c => absurd ?_ c⟩
    rw [hX.2.2.2.1.1, turnsS_nV, wrn (by omega)]; omega
  | succ d ih =>
    intro i M hi hX hF
    have hIi := hI.turns i (by omega)
    have hiV : i < snV (turnsS S i) := by rw [turnsS_nV]; omega
    refine BZ_passOneTick_4 _ _ ⟨fun c => ?_, fun _ => ?_⟩
    · rw [hX.2.2.2.1.1, turnsS_nV, wrn (by omega), wrn (by omega)] at c; omega
    · refine sp_mayMove hst hIi hX hiV (fun M1 f1 => ⟨rfl, ?_⟩)
      have hX1 := hX.ft f1
      have hF1 := hF.tr (FX.of f1)
      have hnext := ih (i + 1)
      dsimp only
      cases hm : mayS (turnsS S i) i with
      | true =>
        refine ⟨fun c => absurd c (by unfold b2i; rw [if_pos rfl, wr_1]; decide), fun _ => ?_⟩
        refine sp_move hst hIi hX1 hiV hm (fun M2 x2 f2 => ⟨rfl, ?_⟩)
        have e1 : turnsS S (i + 1) = opGo (turnsS S i) i := by
          show turnS _ _ = _
          unfold turnS
          rw [if_pos hm]
        have e2 : stpS S (i + 1) = stpS S i + 1 := by
          show stpS S i + (if mayS (turnsS S i) i = true then 1 else 0) = _
          rw [if_pos hm]
        have := hnext M2 (by omega) (by rw [e1]; exact x2) (hF1.tr f2)
        rw [e2] at this
        exact this
      | false =>
        refine ⟨fun _ => ⟨i, wrn (by omega), by omega, ?_⟩, fun c => absurd wr_0 c⟩
        have hVi := hX1.2.2.2.1.2 i (by omega)
        have e2 : stpS S (i + 1) = stpS S i := by
          show stpS S i + (if mayS (turnsS S i) i = true then 1 else 0) = _
          rw [if_neg (by rw [hm]; decide)]; rfl
        refine sp_isIdle hst (by omega) hVi ⟨rfl, ?_⟩
        dsimp only
        by_cases h0 : srl (turnsS S i) i = 0
        · rw [if_pos h0]
          refine ⟨fun c => absurd c (by rw [wr_1]; decide), fun _ => ?_⟩
          have e1 : turnsS S (i + 1) = turnsS S i := by
            show turnS _ _ = _
            unfold turnS
            rw [if_neg (by rw [hm]; decide), if_neg (by omega)]
          have := hnext M1 (by omega) (by rw [e1]; exact hX1) hF1
          rw [e2] at this
          exact this
        · rw [if_neg h0]
          refine ⟨fun _ => ⟨i, wrn (by omega), by omega, ?_⟩, fun c => absurd wr_0 c⟩
          have e1 : turnsS S (i + 1) = opWait (turnsS S i) i := by
            show turnS _ _ = _
            unfold turnS
            rw [if_neg (by rw [hm]; decide), if_pos (by omega)]
          have h5 := hX1.2.2.2.2.1 i (by omega)
          have := hnext (um M1 (30 + 2 * i) 6 (M1 (30 + 2 * i) 6 + 1)) (by omega) (by
            rw [e1]
            have h9 := hX1.veh (M' := um M1 (30 + 2 * i) 6 (M1 (30 + 2 * i) 6 + 1)) (e := sen (turnsS S i) i) (w := swt (turnsS S i) i + 1) (tk := stk (turnsS S i) i) (v := i) (by omega) (fun c k _ hc => by rw [um_ne (by omega)]) (hVi.congr (fun k hk => by rw [um_ne2 (by omega)]) (fun k => by rw [um_ne (by omega)])) (by rw [um_ne2 (by omega)]; exact h5.1) (by rw [um_self, h5.2.1]) (by rw [um_ne2 (by omega)]; exact h5.2.2)
            simp only [upN_self] at h9
            exact h9) (hF1.um (by omega))
          rw [e2] at this
          exact this
theorem sp_pass (hst : K.1.stackTraces = false) {S : SS} {M : AM} (hI : Inv S) (hX : RX S M) (hQ : ∀ M', RX (turnsS S (snV S)) M' → FX M M' → Q (.inl (some (aI (stpS S (snV S))))) GG M') : MetA K fZ_passOneTick [aR 0] GG M Q :=
  EZ_passOneTick hst (BZ_passOneTick_0 (lp_pass hst hI hQ (snV S) 0 M (by omega) hX FX.rf))
end XM
