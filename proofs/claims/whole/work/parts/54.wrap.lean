/-! what every call keeps; the law's wrappers -/
section KE
variable {S : SS}
theorem i_aLane (h : Inv S) (p q : Int) : Inv (aLane S p q).2 := by
  unfold aLane
  split
  · split
    · exact h
    · exact h.lane (by omega) (by omega)
  · exact h
theorem i_aCh (h : Inv S) (p : Int) (b : Bool) : Inv (aCh S p b).2 := by
  unfold aCh
  split
  · exact h.ch
  · exact h
theorem i_aDist (h : Inv S) (p q : Int) : Inv (aDist S p q).2 := by
  unfold aDist
  split <;> exact h
theorem i_aVeh (h : Inv S) (p q : Int) : Inv (aVeh S p q).2 := by
  unfold aVeh
  split
  · split
    · rename_i h1 h2
      exact h.veh (by omega) h2.1 h2.2.2
    · exact h
  · exact h
theorem i_aAsg (h : Inv S) (p q : Int) : Inv (aAsg S p q).2 := by
  unfold aAsg
  split
  · split
    · split
      · rename_i h1 h2 h3
        exact h.rt (by omega) (by omega) h3
      · exact h
    · exact h
  · exact h
theorem i_aCan (h : Inv S) (p : Int) : Inv (aCan S p).2 := by
  unfold aCan
  split
  · split
    · rename_i h1 h2
      exact (h.drop (by omega) h2.2).fin (Or.inl rfl)
    · exact h
  · exact h
theorem i_aChg (h : Inv S) (p : Int) : Inv (aChg S p).2 := by
  unfold aChg
  split
  · split
    · exact h.chg
    · exact h
  · exact h
theorem i_aStp (h : Inv S) (p : Int) : Inv (aStp S p).2 := by
  unfold aStp
  split
  · split
    · rename_i h1 h2
      exact h.go (by omega) h2
    · exact h
  · exact h
theorem i_aTck (h : Inv S) (p : Int) : Inv (aTck S p).2 := by
  unfold aTck
  split
  · exact h.tick _
  · exact h
theorem i_aJob (h : Inv S) (p : Int) : Inv (aJob S p).2 := by
  unfold aJob
  split
  · split
    · rename_i h1 h2
      exact h.job (by omega) h2
    · exact h
  · exact h
theorem i_aDsp (h : Inv S) : Inv (aDsp S).2 := by
  unfold aDsp
  split
  · exact h
  · rename_i h0
    rcases bs_spec (S := S) (snJ S) with g | ⟨j, h1, h2, h3, h4⟩
    · exact absurd g.1 h0
    · obtain ⟨g0, v, g1, g2, g3⟩ := reg_go h4
      show Inv (opGive S (nkS S (sjz S (bsS S (snJ S)).1.toNat) (snV S)).1.toNat (bsS S (snJ S)).1.toNat)
      rw [h1, tn, g1, tn]
      exact h.give g2 h2 g0 g3
theorem i_aRzn (h : Inv S) (p q : Int) : Inv (aRzn S p q).2 := by
  unfold aRzn
  split
  · split <;> exact h
  · exact h
theorem i_aMay (h : Inv S) (p : Int) : Inv (aMay S p).2 := by
  unfold aMay
  split <;> exact h
theorem i_aJst (h : Inv S) (p : Int) : Inv (aJst S p).2 := by
  unfold aJst
  split <;> exact h
theorem i_aJvh (h : Inv S) (p : Int) : Inv (aJvh S p).2 := by
  unfold aJvh
  split <;> exact h
theorem i_aReg (h : Inv S) (p : Int) : Inv (aReg S p).2 := by
  unfold aReg
  split <;> exact h
theorem i_aZon (h : Inv S) (p : Int) : Inv (aZon S p).2 := by
  unfold aZon
  split <;> exact h
theorem i_aVin (h : Inv S) (p : Int) : Inv (aVin S p).2 := by
  unfold aVin
  split <;> exact h
theorem i_aRln (h : Inv S) (p : Int) : Inv (aRln S p).2 := by
  unfold aRln
  split <;> exact h
theorem i_aEng (h : Inv S) (p : Int) : Inv (aEng S p).2 := by
  unfold aEng
  split <;> exact h
theorem i_aWai (h : Inv S) (p : Int) : Inv (aWai S p).2 := by
  unfold aWai
  split <;> exact h
theorem i_aFin (h : Inv S) (p : Int) : Inv (aFin S p).2 := by
  unfold aFin
  split <;> exact h
end KE
theorem RM.fx {S : SS} {M M' : AM} (h : RM S M) (hh : ∀ c k, 63 ≤ c → c ≠ 79 → M' c k = M c k) : RM S M' := by
  obtain ⟨r1, r2, r3, r4, r5, r6, r7, r8⟩ := h
  refine ⟨fun i j hi hj => ?_, ?_, fun x hx => ?_, ⟨?_, fun u hu => ?_⟩, fun u hu => ?_, fun u hu => ?_, ?_, fun j hj => ?_⟩
  · rw [hh 64 _ (by omega) (by omega)]; exact r1 i j hi hj
  · rw [hh 63 _ (by omega) (by omega)]; exact r2
  · rw [hh 65 _ (by omega) (by omega)]; exact r3 x hx
  · rw [hh 63 _ (by omega) (by omega)]; exact r4.1
  · obtain ⟨g1, g2, g3, g4⟩ := r4.2 u hu
    refine ⟨?_, ?_, g3, fun k hk => ?_⟩
    · rw [hh 67 _ (by omega) (by omega)]; exact g1
    · rw [hh 69 _ (by omega) (by omega)]; exact g2
    · rw [hh 70 _ (by omega) (by omega)]; exact g4 k hk
  · rw [hh 68 _ (by omega) (by omega), hh 71 _ (by omega) (by omega)]; exact r5 u hu
  · rw [hh 72 _ (by omega) (by omega)]; exact r6 u hu
  · rw [hh 63 _ (by omega) (by omega)]; exact r7
  · rw [hh 73 _ (by omega) (by omega), hh 74 _ (by omega) (by omega), hh 75 _ (by omega) (by omega)]; exact r8 j hj
theorem RX.fq {S : SS} {M M' : AM} (h : RX S M) (hF : FQ M M') : RX S M' := h.same (fun c k hc _ => hF c k (Or.inl hc))
/-- the reference's cells have not changed, out may have -/
def FW (M M' : AM) : Prop := ∀ c k, 63 ≤ c → c ≠ 79 → M' c k = M c k
def lq (a : AN) (M : AM) (Q : Res → AG → AM → Prop) : Prop := ∀ M', RX a.2 M' → FW M M' → (a.1.1 = 0 → M' 79 0 = wr a.1.2) → Q (.inl (some (aI a.1.1))) GG M'
section LW
variable {K : KX} {S : SS} {M M1 : AM} {Q : Res → AG → AM → Prop} {a : AN}
theorem lq_0 (h0 : a.1.1 = 0) (hQ : lq a M Q) (r1 : RX a.2 M1) (f1 : FX M M1) {x : Int} (hx : x = wr a.1.2) : Q (.inl (some (aI 0))) GG (um M1 79 0 x) := by
  have := hQ (um M1 79 0 x) (r1.same (fun c k hc _ => um_ne (by omega) k)) (fun c k hc h9 => by rw [um_ne h9]; exact f1 c k hc) (fun _ => by rw [um_self]; exact hx)
  rw [h0] at this
  exact this
theorem lq_n {c : Nat} (h0 : a.1.1 = c + 1) (hQ : lq a M Q) (r1 : RX a.2 M1) (f1 : FX M M1) : Q (.inl (some (aI (c + 1 : Nat)))) GG M1 := by
  have := hQ M1 r1 (fun c k hc _ => f1 c k hc) (fun q => by omega)
  rw [h0] at this
  exact this
theorem rsX_c {L : List String} {c : Nat} (h0 : a.1.1 = c) : rsX L a.1 = if c = 0 then .inl (some (aI a.1.2)) else .inr (L.getD (c - 1) "") := by
  unfold rsX
  rw [h0]
theorem wq1 {X1 : String} (h : a.1.1 ≤ 1) (hQ : lq a M Q) (r1 : RX a.2 M1) (f1 : FX M M1) : cI GG (fun b M1 => ∃ j : Nat, wr 0 = (j : Int) ∧ j < 1 ∧ (Q (.inl (some (aI 0))) GG (um M1 79 j (wr b)))) (fun X M1 => (X = X1 ∧ (Q (.inl (some (aI 1))) GG M1))) (rsX [X1] a.1) GG M1 := by
  refine ⟨rfl, ?_⟩
  have : a.1.1 = 0 ∨ a.1.1 = 0 + 1 := by omega
  rcases this with e | e
  · rw [rsX_c e]; exact ⟨0, wr_0, by omega, lq_0 e hQ r1 f1 rfl⟩
  · rw [rsX_c e]; exact ⟨rfl, lq_n e hQ r1 f1⟩
theorem wq2 {X1 X2 : String} (h : a.1.1 ≤ 2) (hQ : lq a M Q) (r1 : RX a.2 M1) (f1 : FX M M1) : cI GG (fun b M1 => ∃ j : Nat, wr 0 = (j : Int) ∧ j < 1 ∧ (Q (.inl (some (aI 0))) GG (um M1 79 j (wr b)))) (fun X M1 => (X = X1 ∧ (Q (.inl (some (aI 1))) GG M1)) ∨ (X = X2 ∧ (Q (.inl (some (aI 2))) GG M1))) (rsX [X1, X2] a.1) GG M1 := by
  refine ⟨rfl, ?_⟩
  have : a.1.1 = 0 ∨ a.1.1 = 0 + 1 ∨ a.1.1 = 1 + 1 := by omega
  rcases this with e | e | e
  · rw [rsX_c e]; exact ⟨0, wr_0, by omega, lq_0 e hQ r1 f1 rfl⟩
  · rw [rsX_c e]; exact Or.inl ⟨rfl, lq_n e hQ r1 f1⟩
  · rw [rsX_c e]; exact Or.inr ⟨rfl, lq_n e hQ r1 f1⟩
theorem wq3 {X1 X2 X3 : String} (h : a.1.1 ≤ 3) (hQ : lq a M Q) (r1 : RX a.2 M1) (f1 : FX M M1) : cI GG (fun b M1 => ∃ j : Nat, wr 0 = (j : Int) ∧ j < 1 ∧ (Q (.inl (some (aI 0))) GG (um M1 79 j (wr b)))) (fun X M1 => (X = X1 ∧ (Q (.inl (some (aI 1))) GG M1)) ∨ (X = X2 ∧ (Q (.inl (some (aI 2))) GG M1)) ∨ (X = X3 ∧ (Q (.inl (some (aI 3))) GG M1))) (rsX [X1, X2, X3] a.1) GG M1 := by
  refine ⟨rfl, ?_⟩
  have : a.1.1 = 0 ∨ a.1.1 = 0 + 1 ∨ a.1.1 = 1 + 1 ∨ a.1.1 = 2 + 1 := by omega
  rcases this with e | e | e | e
  · rw [rsX_c e]; exact ⟨0, wr_0, by omega, lq_0 e hQ r1 f1 rfl⟩
  · rw [rsX_c e]; exact Or.inl ⟨rfl, lq_n e hQ r1 f1⟩
  · rw [rsX_c e]; exact Or.inr (Or.inl ⟨rfl, lq_n e hQ r1 f1⟩)
  · rw [rsX_c e]; exact Or.inr (Or.inr ⟨rfl, lq_n e hQ r1 f1⟩)
theorem wqb {X1 : String} (h : a.1.1 ≤ 1) (hb : a.1.2 = 0 ∨ a.1.2 = 1) (hQ : lq a M Q) (r1 : RX a.2 M1) (f1 : FX M M1) : cI GG (fun b M1 => (wr b = 0 → ∃ j : Nat, wr 0 = (j : Int) ∧ j < 1 ∧ (Q (.inl (some (aI 0))) GG (um M1 79 j 0))) ∧ (¬ wr b = 0 → ∃ j : Nat, wr 0 = (j : Int) ∧ j < 1 ∧ (Q (.inl (some (aI 0))) GG (um M1 79 j 1)))) (fun X M1 => (X = X1 ∧ (Q (.inl (some (aI 1))) GG M1))) (rsX [X1] a.1) GG M1 := by
  refine ⟨rfl, ?_⟩
  have : a.1.1 = 0 ∨ a.1.1 = 0 + 1 := by omega
  rcases this with e | e
  · rw [rsX_c e]
    refine ⟨fun c => ⟨0, wr_0, by omega, lq_0 e hQ r1 f1 c.symm⟩, fun c => ⟨0, wr_0, by omega, lq_0 e hQ r1 f1 ?_⟩⟩
    rcases hb with hb | hb
    · rw [hb, wr_0] at c; exact absurd rfl c
    · rw [hb, wr_1]
  · rw [rsX_c e]; exact ⟨rfl, lq_n e hQ r1 f1⟩
theorem k_addLane {p q : Int} : (aLane S p q).1.1 ≤ 2 := by
  unfold aLane
  (repeat' split) <;> (dsimp only; omega)
theorem l_addLane (hst : K.1.stackTraces = false) (hI : Inv S) (hX : RX S M) {p q : Int} (hp : R32 p) (hq : R32 q) (hQ : lq (aLane S p q) M Q) : MetA K fL_addLane [aR 0, aI p, aI q, aR 79] GG M Q :=
  EL_addLane hst _ _ (BL_addLane_0 _ _ (x_addLane hst hI hX hp hq (fun M1 r1 f1 => wq2 k_addLane hQ r1 f1)))
theorem k_setCharger {p : Int} {b : Bool} : (aCh S p b).1.1 ≤ 1 := by
  unfold aCh
  (repeat' split) <;> (dsimp only; omega)
theorem kb_setCharger {p : Int} {b : Bool} : (aCh S p b).1.2 = 0 ∨ (aCh S p b).1.2 = 1 := by
  unfold aCh
  split
  · exact b2i_01 _
  · exact Or.inl rfl
theorem l_setCharger (hst : K.1.stackTraces = false) (hI : Inv S) (hX : RX S M) {p : Int} {b : Bool} (hp : R32 p) (hQ : lq (aCh S p b) M Q) : MetA K fL_setCharger [aR 0, aI p, aI (b2i b), aR 79] GG M Q :=
  EL_setCharger hst _ _ (BL_setCharger_0 _ _ (x_setCharger hst hX hp (fun M1 r1 f1 => wqb k_setCharger kb_setCharger hQ r1 f1)))
theorem k_distance {p q : Int} : (aDist S p q).1.1 ≤ 1 := by
  unfold aDist
  (repeat' split) <;> (dsimp only; omega)
theorem l_distance (hst : K.1.stackTraces = false) (hI : Inv S) (hX : RX S M) {p q : Int} (hp : R32 p) (hq : R32 q) (hQ : lq (aDist S p q) M Q) : MetA K fL_distance [aR 0, aI p, aI q, aR 79] GG M Q :=
  EL_distance hst _ _ (BL_distance_0 _ _ (x_distance hst hI hX hp hq (fun M1 r1 f1 => wq1 k_distance hQ r1 f1)))
theorem k_addVehicle {p q : Int} : (aVeh S p q).1.1 ≤ 2 := by
  unfold aVeh
  (repeat' split) <;> (dsimp only; omega)
theorem l_addVehicle (hst : K.1.stackTraces = false) (hI : Inv S) (hX : RX S M) {p q : Int} (hp : R32 p) (hq : R32 q) (hQ : lq (aVeh S p q) M Q) : MetA K fL_addVehicle [aR 0, aI p, aI q, aR 79] GG M Q :=
  EL_addVehicle hst _ _ (BL_addVehicle_0 _ _ (x_addVehicle hst hI hX hp hq (fun M1 r1 f1 => wq2 k_addVehicle hQ r1 f1)))
theorem k_assign {p q : Int} : (aAsg S p q).1.1 ≤ 3 := by
  unfold aAsg
  (repeat' split) <;> (dsimp only; omega)
theorem l_assign (hst : K.1.stackTraces = false) (hI : Inv S) (hX : RX S M) {p q : Int} (hp : R32 p) (hq : R32 q) (hQ : lq (aAsg S p q) M Q) : MetA K fL_assign [aR 0, aI p, aI q, aR 79] GG M Q :=
  EL_assign hst _ _ (BL_assign_0 _ _ (x_assign hst hI hX hp hq (fun M1 r1 f1 => wq3 k_assign hQ r1 f1)))
theorem k_cancel {p : Int} : (aCan S p).1.1 ≤ 2 := by
  unfold aCan
  (repeat' split) <;> (dsimp only; omega)
theorem l_cancel (hst : K.1.stackTraces = false) (hI : Inv S) (hX : RX S M) {p : Int} (hp : R32 p) (hQ : lq (aCan S p) M Q) : MetA K fL_cancel [aR 0, aI p, aR 79] GG M Q :=
  EL_cancel hst _ (BL_cancel_0 _ (x_cancel hst hI hX hp (fun M1 r1 f1 => wq2 k_cancel hQ r1 f1)))
theorem k_charge {p : Int} : (aChg S p).1.1 ≤ 2 := by
  unfold aChg
  (repeat' split) <;> (dsimp only; omega)
theorem l_charge (hst : K.1.stackTraces = false) (hI : Inv S) (hX : RX S M) {p : Int} (hp : R32 p) (hQ : lq (aChg S p) M Q) : MetA K fL_charge [aR 0, aI p, aR 79] GG M Q :=
  EL_charge hst _ (BL_charge_0 _ (x_charge hst hI hX hp (fun M1 r1 f1 => wq2 k_charge hQ r1 f1)))
theorem k_canStep {p : Int} : (aMay S p).1.1 ≤ 1 := by
  unfold aMay
  (repeat' split) <;> (dsimp only; omega)
theorem kb_canStep {p : Int} : (aMay S p).1.2 = 0 ∨ (aMay S p).1.2 = 1 := by
  unfold aMay
  split
  · exact b2i_01 _
  · exact Or.inl rfl
theorem l_canStep (hst : K.1.stackTraces = false) (hI : Inv S) (hX : RX S M) {p : Int} (hp : R32 p) (hQ : lq (aMay S p) M Q) : MetA K fL_canStep [aR 0, aI p, aR 79] GG M Q :=
  EL_canStep hst _ (BL_canStep_0 _ (x_canStep hst hI hX hp (fun M1 r1 f1 => wqb k_canStep kb_canStep hQ r1 f1)))
theorem k_step {p : Int} : (aStp S p).1.1 ≤ 2 := by
  unfold aStp
  (repeat' split) <;> (dsimp only; omega)
theorem l_step (hst : K.1.stackTraces = false) (hI : Inv S) (hX : RX S M) {p : Int} (hp : R32 p) (hQ : lq (aStp S p) M Q) : MetA K fL_step [aR 0, aI p, aR 79] GG M Q :=
  EL_step hst _ (BL_step_0 _ (x_step hst hI hX hp (fun M1 r1 f1 => wq2 k_step hQ r1 f1)))
theorem k_tick {p : Int} : (aTck S p).1.1 ≤ 1 := by
  unfold aTck
  (repeat' split) <;> (dsimp only; omega)
theorem l_tick (hst : K.1.stackTraces = false) (hI : Inv S) (hX : RX S M) {p : Int} (hp : R32 p) (hQ : lq (aTck S p) M Q) : MetA K fL_tick [aR 0, aI p, aR 79] GG M Q :=
  EL_tick hst _ (BL_tick_0 _ (x_tick hst hI hX hp (fun M1 r1 f1 => wq1 k_tick hQ r1 f1)))
theorem k_addJob {p : Int} : (aJob S p).1.1 ≤ 2 := by
  unfold aJob
  (repeat' split) <;> (dsimp only; omega)
theorem l_addJob (hst : K.1.stackTraces = false) (hI : Inv S) (hX : RX S M) {p : Int} (hp : R32 p) (hQ : lq (aJob S p) M Q) : MetA K fL_addJob [aR 0, aI p, aR 79] GG M Q :=
  EL_addJob hst _ (BL_addJob_0 _ (x_addJob hst hI hX hp (fun M1 r1 f1 => wq2 k_addJob hQ r1 f1)))
theorem k_jobState {p : Int} : (aJst S p).1.1 ≤ 1 := by
  unfold aJst
  (repeat' split) <;> (dsimp only; omega)
theorem l_jobState (hst : K.1.stackTraces = false) (hI : Inv S) (hX : RX S M) {p : Int} (hp : R32 p) (hQ : lq (aJst S p) M Q) : MetA K fL_jobState [aR 0, aI p, aR 79] GG M Q :=
  EL_jobState hst _ (BL_jobState_0 _ (x_jobState hst hI hX hp (fun M1 r1 f1 => wq1 k_jobState hQ r1 f1)))
theorem k_jobVehicle {p : Int} : (aJvh S p).1.1 ≤ 1 := by
  unfold aJvh
  (repeat' split) <;> (dsimp only; omega)
theorem l_jobVehicle (hst : K.1.stackTraces = false) (hI : Inv S) (hX : RX S M) {p : Int} (hp : R32 p) (hQ : lq (aJvh S p) M Q) : MetA K fL_jobVehicle [aR 0, aI p, aR 79] GG M Q :=
  EL_jobVehicle hst _ (BL_jobVehicle_0 _ (x_jobVehicle hst hI hX hp (fun M1 r1 f1 => wq1 k_jobVehicle hQ r1 f1)))
theorem k_regret {p : Int} : (aReg S p).1.1 ≤ 1 := by
  unfold aReg
  (repeat' split) <;> (dsimp only; omega)
theorem l_regret (hst : K.1.stackTraces = false) (hI : Inv S) (hX : RX S M) {p : Int} (hp : R32 p) (hQ : lq (aReg S p) M Q) : MetA K fL_regret [aR 0, aI p, aR 79] GG M Q :=
  EL_regret hst _ (BL_regret_0 _ (x_regret hst hI hX hp (fun M1 r1 f1 => wq1 k_regret hQ r1 f1)))
theorem k_zoneOf {p : Int} : (aZon S p).1.1 ≤ 1 := by
  unfold aZon
  (repeat' split) <;> (dsimp only; omega)
theorem l_zoneOf (hst : K.1.stackTraces = false) (hI : Inv S) (hX : RX S M) {p : Int} (hp : R32 p) (hQ : lq (aZon S p) M Q) : MetA K fL_zoneOf [aR 0, aI p, aR 79] GG M Q :=
  EL_zoneOf hst _ (BL_zoneOf_0 _ (x_zoneOf hst hI hX hp (fun M1 r1 f1 => wq1 k_zoneOf hQ r1 f1)))
theorem k_vehicleIn {p : Int} : (aVin S p).1.1 ≤ 1 := by
  unfold aVin
  (repeat' split) <;> (dsimp only; omega)
theorem l_vehicleIn (hst : K.1.stackTraces = false) (hI : Inv S) (hX : RX S M) {p : Int} (hp : R32 p) (hQ : lq (aVin S p) M Q) : MetA K fL_vehicleIn [aR 0, aI p, aR 79] GG M Q :=
  EL_vehicleIn hst _ (BL_vehicleIn_0 _ (x_vehicleIn hst hI hX hp (fun M1 r1 f1 => wq1 k_vehicleIn hQ r1 f1)))
theorem k_routeLength {p : Int} : (aRln S p).1.1 ≤ 1 := by
  unfold aRln
  (repeat' split) <;> (dsimp only; omega)
theorem l_routeLength (hst : K.1.stackTraces = false) (hI : Inv S) (hX : RX S M) {p : Int} (hp : R32 p) (hQ : lq (aRln S p) M Q) : MetA K fL_routeLength [aR 0, aI p, aR 79] GG M Q :=
  EL_routeLength hst _ (BL_routeLength_0 _ (x_routeLength hst hI hX hp (fun M1 r1 f1 => wq1 k_routeLength hQ r1 f1)))
theorem k_routeZone {p q : Int} : (aRzn S p q).1.1 ≤ 2 := by
  unfold aRzn
  (repeat' split) <;> (dsimp only; omega)
theorem l_routeZone (hst : K.1.stackTraces = false) (hI : Inv S) (hX : RX S M) {p q : Int} (hp : R32 p) (hq : R32 q) (hQ : lq (aRzn S p q) M Q) : MetA K fL_routeZone [aR 0, aI p, aI q, aR 79] GG M Q :=
  EL_routeZone hst _ _ (BL_routeZone_0 _ _ (x_routeZone hst hI hX hp hq (fun M1 r1 f1 => wq2 k_routeZone hQ r1 f1)))
theorem k_energy {p : Int} : (aEng S p).1.1 ≤ 1 := by
  unfold aEng
  (repeat' split) <;> (dsimp only; omega)
theorem l_energy (hst : K.1.stackTraces = false) (hI : Inv S) (hX : RX S M) {p : Int} (hp : R32 p) (hQ : lq (aEng S p) M Q) : MetA K fL_energy [aR 0, aI p, aR 79] GG M Q :=
  EL_energy hst _ (BL_energy_0 _ (x_energy hst hI hX hp (fun M1 r1 f1 => wq1 k_energy hQ r1 f1)))
theorem k_waited {p : Int} : (aWai S p).1.1 ≤ 1 := by
  unfold aWai
  (repeat' split) <;> (dsimp only; omega)
theorem l_waited (hst : K.1.stackTraces = false) (hI : Inv S) (hX : RX S M) {p : Int} (hp : R32 p) (hQ : lq (aWai S p) M Q) : MetA K fL_waited [aR 0, aI p, aR 79] GG M Q :=
  EL_waited hst _ (BL_waited_0 _ (x_waited hst hI hX hp (fun M1 r1 f1 => wq1 k_waited hQ r1 f1)))
theorem k_finisher {p : Int} : (aFin S p).1.1 ≤ 1 := by
  unfold aFin
  (repeat' split) <;> (dsimp only; omega)
theorem l_finisher (hst : K.1.stackTraces = false) (hI : Inv S) (hX : RX S M) {p : Int} (hp : R32 p) (hQ : lq (aFin S p) M Q) : MetA K fL_finisher [aR 0, aI p, aR 79] GG M Q :=
  EL_finisher hst _ (BL_finisher_0 _ (x_finisher hst hI hX hp (fun M1 r1 f1 => wq1 k_finisher hQ r1 f1)))
end LW
