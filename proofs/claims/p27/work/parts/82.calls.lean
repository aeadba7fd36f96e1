/-! the law's small helpers -/
theorem wia_pos (x : Int) : 0 ≤ wia x 2147483647 ∧ wia x 2147483647 < 2147483648 := by
  refine ⟨?_, Int32.toInt_lt _⟩
  unfold wia
  show 0 ≤ ((Int32.ofInt x).toBitVec &&& (Int32.ofInt 2147483647).toBitVec).toInt
  rw [BitVec.toInt_eq_toNat_of_msb]
  · exact Int.natCast_nonneg _
  · rw [BitVec.msb_and]
    have : (Int32.ofInt 2147483647).toBitVec.msb = false := by decide
    rw [this, Bool.and_false]
theorem wdv_eq (x y : Int) : wdv x y = wr ((wr x).tdiv (wr y)) := by
  have h : wr ((wr x).tdiv (wr y)) = ((wr x).tdiv (wr y)).bmod (2 ^ 32) := Int32.toInt_ofInt
  rw [h]
  exact Int32.toInt_div _ _
/-- what low answers -/
def lw (p q : Int) : Int := wia p 2147483647 - wdv (wia p 2147483647) q * q
theorem lw_bd {p q : Int} (h : 0 < q) (h2 : q < 1000) : 0 ≤ lw p q ∧ lw p q < q := by
  obtain ⟨a1, a2⟩ := wia_pos p
  unfold lw
  generalize wia p 2147483647 = y at a1 a2
  have e : wdv y q = y / q := by
    rw [wdv_eq, wri (z := y) (by omega) (by omega), wri (z := q) (by omega) (by omega), Int.tdiv_eq_ediv_of_nonneg a1]
    have h3 : 0 ≤ y / q := Int.ediv_nonneg a1 (by omega)
    have h4 : y / q ≤ y := Int.ediv_le_self _ a1
    exact wri (by omega) (by omega)
  rw [e]
  have h5 := Int.emod_nonneg y (show q ≠ 0 by omega)
  have h6 := Int.emod_lt_of_pos y h
  have h7 := Int.mul_ediv_add_emod y q
  rw [Int.mul_comm] at h7
  omega
/-- what stands for a throw -/
def tld (c : Nat × Int) : Int := if c.1 = 0 then c.2 else -99999
theorem tld_0 {c : Nat × Int} (h : c.1 = 0) : tld c = c.2 := if_pos h
theorem tld_n {c : Nat × Int} (h : c.1 ≠ 0) : tld c = -99999 := if_neg h
theorem rsX_cc {L : List String} {c : Nat} {p : Nat × Int} (h0 : p.1 = c) : rsX L p = if c = 0 then .inl (some (aI p.2)) else .inr (L.getD (c - 1) "") := by
  unfold rsX
  rw [h0]
section TW
variable {K : KX} {S : SS} {M M1 : AM} {Q : Res → AG → AM → Prop}
theorem tq1 {X1 : String} {p : Nat × Int} (h : p.1 ≤ 1) (hQ : Q (.inl (some (aI (tld p)))) GG M1) : cI GG (fun b M1 => Q (.inl (some (aI b))) GG M1) (fun X M1 => (X = X1 ∧ (Q (.inl (some (aI (-99999)))) GG M1))) (rsX [X1] p) GG M1 := by
  refine ⟨rfl, ?_⟩
  have : p.1 = 0 ∨ p.1 = 0 + 1 := by omega
  rcases this with e | e
  · rw [rsX_cc e]; rw [tld_0 e] at hQ; exact hQ
  · rw [rsX_cc e]; rw [tld_n (by omega)] at hQ; exact ⟨rfl, hQ⟩
theorem tq2 {X1 X2 : String} {p : Nat × Int} (h : p.1 ≤ 2) (hQ : Q (.inl (some (aI (tld p)))) GG M1) : cI GG (fun b M1 => Q (.inl (some (aI b))) GG M1) (fun X M1 => (X = X1 ∧ (Q (.inl (some (aI (-99999)))) GG M1)) ∨ (X = X2 ∧ (Q (.inl (some (aI (-99999)))) GG M1))) (rsX [X1, X2] p) GG M1 := by
  refine ⟨rfl, ?_⟩
  have : p.1 = 0 ∨ p.1 = 0 + 1 ∨ p.1 = 1 + 1 := by omega
  rcases this with e | e | e
  · rw [rsX_cc e]; rw [tld_0 e] at hQ; exact hQ
  · rw [rsX_cc e]; rw [tld_n (by omega)] at hQ; exact Or.inl ⟨rfl, hQ⟩
  · rw [rsX_cc e]; rw [tld_n (by omega)] at hQ; exact Or.inr ⟨rfl, hQ⟩
theorem tq3 {X1 X2 X3 : String} {p : Nat × Int} (h : p.1 ≤ 3) (hQ : Q (.inl (some (aI (tld p)))) GG M1) : cI GG (fun b M1 => Q (.inl (some (aI b))) GG M1) (fun X M1 => (X = X1 ∧ (Q (.inl (some (aI (-99999)))) GG M1)) ∨ (X = X2 ∧ (Q (.inl (some (aI (-99999)))) GG M1)) ∨ (X = X3 ∧ (Q (.inl (some (aI (-99999)))) GG M1))) (rsX [X1, X2, X3] p) GG M1 := by
  refine ⟨rfl, ?_⟩
  have : p.1 = 0 ∨ p.1 = 0 + 1 ∨ p.1 = 1 + 1 ∨ p.1 = 2 + 1 := by omega
  rcases this with e | e | e | e
  · rw [rsX_cc e]; rw [tld_0 e] at hQ; exact hQ
  · rw [rsX_cc e]; rw [tld_n (by omega)] at hQ; exact Or.inl ⟨rfl, hQ⟩
  · rw [rsX_cc e]; rw [tld_n (by omega)] at hQ; exact Or.inr (Or.inl ⟨rfl, hQ⟩)
  · rw [rsX_cc e]; rw [tld_n (by omega)] at hQ; exact Or.inr (Or.inr ⟨rfl, hQ⟩)
theorem tqb {X1 : String} {p : Nat × Int} (h : p.1 ≤ 1) (hb : p.2 = 0 ∨ p.2 = 1) (hQ : Q (.inl (some (aI (tld p)))) GG M1) : cI GG (fun b M1 => (wr b = 0 → Q (.inl (some (aI 0))) GG M1) ∧ (¬ wr b = 0 → Q (.inl (some (aI 1))) GG M1)) (fun X M1 => (X = X1 ∧ (Q (.inl (some (aI (-99999)))) GG M1))) (rsX [X1] p) GG M1 := by
  refine ⟨rfl, ?_⟩
  have : p.1 = 0 ∨ p.1 = 0 + 1 := by omega
  rcases this with e | e
  · rw [rsX_cc e]
    rw [tld_0 e] at hQ
    refine ⟨fun c => ?_, fun c => ?_⟩
    · rcases hb with hb | hb
      · rw [hb] at hQ; exact hQ
      · rw [hb, wr_1] at c; exact absurd c (by decide)
    · rcases hb with hb | hb
      · rw [hb, wr_0] at c; exact absurd rfl c
      · rw [hb] at hQ; exact hQ
  · rw [rsX_cc e]; rw [tld_n (by omega)] at hQ; exact ⟨rfl, hQ⟩
theorem l_low (hst : K.1.stackTraces = false) {p q : Int} (h : 0 < q) (h2 : q < 1000) (hQ : Q (.inl (some (aI (lw p q)))) GG M) : MetA K fL_low [aI p, aI q] GG M Q :=
  EL_low hst _ _ (BL_low_0 _ _ ⟨by rw [wri (by omega) (by omega)]; omega, hQ⟩)
theorem l_addLane (hst : K.1.stackTraces = false) (hI : Inv S) (hX : RX S M) {p q : Int} (hp : R32 p) (hq : R32 q) (hQ : ∀ M', RX (aLane S p q).2 M' → FX M M' → Q (.inl (some (aI (tld (aLane S p q).1)))) GG M') : MetA K fL_addLane [aR 0, aI p, aI q] GG M Q :=
  EL_addLane hst _ _ (BL_addLane_0 _ _ (x_addLane hst hI hX hp hq (fun M1 r1 f1 => tq2 (by unfold aLane; (repeat' split) <;> (dsimp only; omega)) (hQ M1 r1 f1))))
theorem l_setCharger (hst : K.1.stackTraces = false) (hX : RX S M) {p : Int} {b : Bool} (hp : R32 p) (hQ : ∀ M', RX (aCh S p b).2 M' → FX M M' → Q (.inl (some (aI (tld (aCh S p b).1)))) GG M') : MetA K fL_setCharger [aR 0, aI p, aI (b2i b)] GG M Q :=
  EL_setCharger hst _ _ (BL_setCharger_0 _ _ (x_setCharger hst hX hp (fun M1 r1 f1 => tqb (by unfold aCh; (repeat' split) <;> (dsimp only; omega)) (by unfold aCh; split; exact b2i_01 _; exact Or.inl rfl) (hQ M1 r1 f1))))
theorem l_addVehicle (hst : K.1.stackTraces = false) (hI : Inv S) (hX : RX S M) {p q : Int} (hp : R32 p) (hq : R32 q) (hQ : ∀ M', RX (aVeh S p q).2 M' → FX M M' → Q (.inl (some (aI (tld (aVeh S p q).1)))) GG M') : MetA K fL_addVehicle [aR 0, aI p, aI q] GG M Q :=
  EL_addVehicle hst _ _ (BL_addVehicle_0 _ _ (x_addVehicle hst hI hX hp hq (fun M1 r1 f1 => tq2 (by unfold aVeh; (repeat' split) <;> (dsimp only; omega)) (hQ M1 r1 f1))))
theorem l_assign (hst : K.1.stackTraces = false) (hI : Inv S) (hX : RX S M) {p q : Int} (hp : R32 p) (hq : R32 q) (hQ : ∀ M', RX (aAsg S p q).2 M' → FX M M' → Q (.inl (some (aI (tld (aAsg S p q).1)))) GG M') : MetA K fL_assign [aR 0, aI p, aI q] GG M Q :=
  EL_assign hst _ _ (BL_assign_0 _ _ (x_assign hst hI hX hp hq (fun M1 r1 f1 => tq3 (by unfold aAsg; (repeat' split) <;> (dsimp only; omega)) (hQ M1 r1 f1))))
theorem l_cancel (hst : K.1.stackTraces = false) (hI : Inv S) (hX : RX S M) {p : Int} (hp : R32 p) (hQ : ∀ M', RX (aCan S p).2 M' → FX M M' → Q (.inl (some (aI (tld (aCan S p).1)))) GG M') : MetA K fL_cancel [aR 0, aI p] GG M Q :=
  EL_cancel hst _ (BL_cancel_0 _ (x_cancel hst hI hX hp (fun M1 r1 f1 => tq2 (by unfold aCan; (repeat' split) <;> (dsimp only; omega)) (hQ M1 r1 f1))))
theorem l_charge (hst : K.1.stackTraces = false) (hI : Inv S) (hX : RX S M) {p : Int} (hp : R32 p) (hQ : ∀ M', RX (aChg S p).2 M' → FX M M' → Q (.inl (some (aI (tld (aChg S p).1)))) GG M') : MetA K fL_charge [aR 0, aI p] GG M Q :=
  EL_charge hst _ (BL_charge_0 _ (x_charge hst hI hX hp (fun M1 r1 f1 => tq2 (by unfold aChg; (repeat' split) <;> (dsimp only; omega)) (hQ M1 r1 f1))))
theorem l_step (hst : K.1.stackTraces = false) (hI : Inv S) (hX : RX S M) {p : Int} (hp : R32 p) (hQ : ∀ M', RX (aStp S p).2 M' → FX M M' → Q (.inl (some (aI (tld (aStp S p).1)))) GG M') : MetA K fL_step [aR 0, aI p] GG M Q :=
  EL_step hst _ (BL_step_0 _ (x_step hst hI hX hp (fun M1 r1 f1 => tq2 (by unfold aStp; (repeat' split) <;> (dsimp only; omega)) (hQ M1 r1 f1))))
theorem l_tick (hst : K.1.stackTraces = false) (hI : Inv S) (hX : RX S M) {p : Int} (hp : R32 p) (hQ : ∀ M', RX (aTck S p).2 M' → FX M M' → Q (.inl (some (aI (tld (aTck S p).1)))) GG M') : MetA K fL_tick [aR 0, aI p] GG M Q :=
  EL_tick hst _ (BL_tick_0 _ (x_tick hst hI hX hp (fun M1 r1 f1 => tq1 (by unfold aTck; (repeat' split) <;> (dsimp only; omega)) (hQ M1 r1 f1))))
theorem l_addJob (hst : K.1.stackTraces = false) (hI : Inv S) (hX : RX S M) {p : Int} (hp : R32 p) (hQ : ∀ M', RX (aJob S p).2 M' → FX M M' → Q (.inl (some (aI (tld (aJob S p).1)))) GG M') : MetA K fL_addJob [aR 0, aI p] GG M Q :=
  EL_addJob hst _ (BL_addJob_0 _ (x_addJob hst hI hX hp (fun M1 r1 f1 => tq2 (by unfold aJob; (repeat' split) <;> (dsimp only; omega)) (hQ M1 r1 f1))))
/-- finisher, -1 where it throws -/
theorem l_finisher (hst : K.1.stackTraces = false) (hI : Inv S) (hX : RX S M) {p : Int} (hp : R32 p) (hQ : ∀ M', RX S M' → FX M M' → Q (.inl (some (aI (if (aFin S p).1.1 = 0 then (aFin S p).1.2 else -1)))) GG M') : MetA K fL_finisher [aR 0, aI p] GG M Q := by
  refine EL_finisher hst _ (BL_finisher_0 _ (x_finisher hst hI hX hp (fun M1 r1 f1 => ?_)))
  have hs : (aFin S p).2 = S := by unfold aFin; split <;> rfl
  rw [hs] at r1
  have := hQ M1 r1 f1
  have h : (aFin S p).1.1 = 0 ∨ (aFin S p).1.1 = 0 + 1 := by unfold aFin; split; exact Or.inl rfl; exact Or.inr rfl
  refine ⟨rfl, ?_⟩
  rcases h with e | e
  · rw [rsX_cc e]; rw [if_pos e] at this; exact this
  · rw [rsX_cc e]; rw [if_neg (by omega)] at this; exact ⟨rfl, this⟩
end TW
