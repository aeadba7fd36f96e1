/-! what each call answers: a code (0, or the place of what it throws), a number, the state behind it -/
def R32 (p : Int) : Prop := -2147483648 ≤ p ∧ p < 2147483648
def rsX (L : List String) (a : Nat × Int) : Res := if a.1 = 0 then .inl (some (aI a.2)) else .inr (L.getD (a.1 - 1) "")
abbrev AN : Type := (Nat × Int) × SS
abbrev zin (p : Int) : Prop := 0 ≤ p ∧ p < 20
abbrev vin (S : SS) (p : Int) : Prop := 0 ≤ p ∧ p < (snV S : Int)
abbrev jin (S : SS) (p : Int) : Prop := 0 ≤ p ∧ p < (snJ S : Int)
def aLane (S : SS) (p q : Int) : AN := if zin p ∧ zin q ∧ p ≠ q then (if sD S p.toNat q.toNat = 1 then ((2, 0), S) else ((0, sln S + 1), opLane S p.toNat q.toNat)) else ((1, 0), S)
def aCh (S : SS) (p : Int) (b : Bool) : AN := if zin p then ((0, b2i (sch S p.toNat)), opCh S p.toNat b) else ((1, 0), S)
def aDist (S : SS) (p q : Int) : AN := if zin p ∧ zin q then ((0, if sD S p.toNat q.toNat < 1000 then (sD S p.toNat q.toNat : Int) else -1), S) else ((1, 0), S)
def aVeh (S : SS) (p e : Int) : AN := if zin p ∧ 0 ≤ e ∧ e ≤ 60 then (if snV S < 6 ∧ fnd (snV S) (szn S) p.toNat = none ∧ 0 < cntW S (snV S) p.toNat 0 (srz S (snV S)) then ((0, (snV S : Int)), opVeh S p.toNat e) else ((2, 0), S)) else ((1, 0), S)
def aAsg (S : SS) (v p : Int) : AN := if vin S v then (if zin p then (if canGo S v.toNat p.toNat = true then ((0, lenS S v.toNat p.toNat), opRt S v.toNat p.toNat) else ((3, 0), S)) else ((2, 0), S)) else ((1, 0), S)
def aCan (S : SS) (v : Int) : AN := if vin S v then (if 0 < srl S v.toNat ∧ 0 < cntW S v.toNat (szn S v.toNat) 0 (srz S v.toNat) then ((0, (srl S v.toNat : Int)), opEnd (opDrop S v.toNat) v.toNat 0 (-1)) else ((2, 0), S)) else ((1, 0), S)
def aChg (S : SS) (v : Int) : AN := if vin S v then (if srl S v.toNat = 0 ∧ sch S (szn S v.toNat) = true then ((0, 60 - sen S v.toNat), opChg S v.toNat) else ((2, 0), S)) else ((1, 0), S)
def aMay (S : SS) (v : Int) : AN := if vin S v then ((0, b2i (mayS S v.toNat)), S) else ((1, 0), S)
def aStp (S : SS) (v : Int) : AN := if vin S v then (if mayS S v.toNat = true then ((0, (szn (opGo S v.toNat) v.toNat : Int)), opGo S v.toNat) else ((2, 0), S)) else ((1, 0), S)
def aTck (S : SS) (p : Int) : AN := if 1 ≤ p ∧ p ≤ 20 then ((0, (tickC S p.toNat : Int)), tickS S p.toNat) else ((1, 0), S)
def aJob (S : SS) (p : Int) : AN := if zin p then (if snJ S < 20 then ((0, (snJ S : Int)), opJob S p.toNat) else ((2, 0), S)) else ((1, 0), S)
def aDsp (S : SS) : AN := if (bsS S (snJ S)).1 = -1 then ((0, -1), S) else ((0, (bsS S (snJ S)).1), opGive S (nkS S (sjz S (bsS S (snJ S)).1.toNat) (snV S)).1.toNat (bsS S (snJ S)).1.toNat)
def aJst (S : SS) (j : Int) : AN := if jin S j then ((0, sjs S j.toNat), S) else ((1, 0), S)
def aJvh (S : SS) (j : Int) : AN := if jin S j then ((0, sjv S j.toNat), S) else ((1, 0), S)
def aReg (S : SS) (j : Int) : AN := if jin S j then ((0, regS S j.toNat), S) else ((1, 0), S)
def aVhs (S : SS) : AN := ((0, (snV S : Int)), S)
def aZon (S : SS) (v : Int) : AN := if vin S v then ((0, (szn S v.toNat : Int)), S) else ((1, 0), S)
def aVin (S : SS) (p : Int) : AN := if zin p then ((0, o2i (fnd (snV S) (szn S) p.toNat)), S) else ((1, 0), S)
def aRln (S : SS) (v : Int) : AN := if vin S v then ((0, (srl S v.toNat : Int)), S) else ((1, 0), S)
def aRzn (S : SS) (v q : Int) : AN := if vin S v then (if 0 ≤ q ∧ q < (srl S v.toNat : Int) then ((0, (srz S v.toNat q.toNat : Int)), S) else ((2, 0), S)) else ((1, 0), S)
def aEng (S : SS) (v : Int) : AN := if vin S v then ((0, sen S v.toNat), S) else ((1, 0), S)
def aWai (S : SS) (v : Int) : AN := if vin S v then ((0, swt S v.toNat), S) else ((1, 0), S)
def aOrd (S : SS) : AN := ((0, (cntS S : Int)), S)
def popc (g : Nat) : Nat := sumN (fun v => if g.testBit v = true then 1 else 0) 6
def okS (S : SS) : Nat → Nat → Bool := okP (snV S) (szn S) (srl S) (srz S)
def gS (S : SS) : Nat := bsy (snV S) (srl S)
def aFin (S : SS) (p : Int) : AN := if 0 ≤ p ∧ p < (popc (gS S) : Int) then ((0, o2i (fr1 (okS S) (gS S) (foS (okS S) (gS S) p.toNat))), S) else ((1, 0), S)
section XQ
variable {K : KX} {S : SS} {Q : Res → AG → AM → Prop} {M : AM}
theorem rsX_0 {L : List String} {x : Int} : rsX L (0, x) = .inl (some (aI x)) := rfl
theorem sp_reqZ (hst : K.1.stackTraces = false) {p : Int} (hp : R32 p) (hok : zin p → Q (.inl none) GG M) (hno : ¬ zin p → Q (.inr "java/lang/IllegalArgumentException") GG M) : MetA K fZ_requireZone [aI p] GG M Q := by
  refine EZ_requireZone hst _ (BZ_requireZone_0 _ ?_)
  rw [wri hp.1 hp.2, wr_20]
  exact ⟨fun c => hno (fun q => by omega), fun c => ⟨fun c2 => hok ⟨by omega, c2⟩, fun c2 => hno (fun q => by omega)⟩⟩
theorem sp_reqV (hst : K.1.stackTraces = false) (hI : Inv S) (hX : RX S M) {p : Int} (hp : R32 p) (hok : vin S p → Q (.inl none) GG M) (hno : ¬ vin S p → Q (.inr "java/lang/IndexOutOfBoundsException") GG M) : MetA K fZ_requireVehicle [aR 0, aI p] GG M Q := by
  have h6 := hI.2.1.1
  refine EZ_requireVehicle hst _ (BZ_requireVehicle_0 _ ?_)
  rw [wri hp.1 hp.2, hX.2.2.2.1.1, wrn (by omega)]
  exact ⟨fun c => hno (fun q => by omega), fun c => ⟨fun c2 => hok ⟨by omega, c2⟩, fun c2 => hno (fun q => by omega)⟩⟩
theorem sp_reqJ (hst : K.1.stackTraces = false) (hI : Inv S) (hX : RX S M) {p : Int} (hp : R32 p) (hok : jin S p → Q (.inl none) GG M) (hno : ¬ jin S p → Q (.inr "java/lang/IndexOutOfBoundsException") GG M) : MetA K fZ_requireJob [aR 0, aI p] GG M Q := by
  have hJ := hI.2.2.1
  refine EZ_requireJob hst _ (BZ_requireJob_0 _ ?_)
  rw [wri hp.1 hp.2, hX.2.2.2.2.2.1, wrn (by omega)]
  exact ⟨fun c => hno (fun q => by omega), fun c => ⟨fun c2 => hok ⟨by omega, c2⟩, fun c2 => hno (fun q => by omega)⟩⟩
theorem nat_of {p : Int} (h : 0 ≤ p) : ∃ i : Nat, p = (i : Int) := ⟨p.toNat, by omega⟩
theorem tn {i : Nat} : ((i : Nat) : Int).toNat = i := rfl
theorem x_addLane (hst : K.1.stackTraces = false) (hI : Inv S) (hX : RX S M) {p q : Int} (hp : R32 p) (hq : R32 q) (hQ : ∀ M', RX (aLane S p q).2 M' → FX M M' → Q (rsX ["java/lang/IllegalArgumentException", "java/lang/IllegalStateException"] (aLane S p q).1) GG M') : MetA K fZ_addLane [aR 0, aI p, aI q] GG M Q := by
  have no : ¬ (zin p ∧ zin q ∧ p ≠ q) → Q (.inr "java/lang/IllegalArgumentException") GG M := fun h => by
    have := hQ M
    unfold aLane at this
    rw [if_neg h] at this
    exact this hX FX.rf
  refine EZ_addLane hst _ _ (BZ_addLane_0 _ _ (sp_reqZ hst hp (fun h1 => ⟨rfl, ?_⟩) (fun h => ⟨rfl, no (fun z => h z.1)⟩)))
  refine sp_reqZ hst hq (fun h2 => ⟨rfl, ?_⟩) (fun h => ⟨rfl, no (fun z => h z.2.1)⟩)
  dsimp only
  rw [wri hp.1 hp.2, wri hq.1 hq.2]
  refine ⟨fun c => no (fun z => z.2.2 c), fun c => ?_⟩
  obtain ⟨i, rfl⟩ := nat_of h1.1
  obtain ⟨j, rfl⟩ := nat_of h2.1
  have hi : i < 20 := by omega
  have hj : j < 20 := by omega
  unfold aLane at hQ
  rw [if_pos ⟨h1, h2, c⟩, tn, tn] at hQ
  refine sp_hasLane hst hI.1 hX.1 hi hj ⟨rfl, ?_⟩
  dsimp only
  by_cases h : sD S i j = 1
  · rw [if_pos h] at hQ ⊢
    exact ⟨fun c2 => absurd c2 (by rw [wr_1]; decide), fun _ => hQ M hX FX.rf⟩
  · rw [if_neg h] at hQ ⊢
    refine ⟨fun _ => ?_, fun c2 => absurd wr_0 c2⟩
    refine sp_lay hst hI.1 hX.1 hi hj (fun M' f1 f2 f3 => ⟨rfl, ?_⟩)
    have e : M' 1 2 = sln S + 1 := by rw [f3, hX.2.1]
    have := hQ M' ?_ (fun c k hc => f2 c k (by omega) (by omega))
    · dsimp only
      rw [e]
      exact this
    · obtain ⟨h1, h2, h3, h4, h5, h6, h7⟩ := hX
      refine ⟨f1, e, fun z hz => ?_, ⟨?_, fun v hv => (h4.2 v hv).congr (fun k _ => f2 _ _ (by omega) (by omega)) (fun k => f2 _ _ (by omega) (by omega))⟩, fun v hv => ?_, ?_, fun j hj => ?_⟩
      · rw [f2 _ _ (by omega) (by omega)]; exact h3 z hz
      · rw [f2 _ _ (by omega) (by omega)]; exact h4.1
      · rw [f2 _ _ (by omega) (by omega), f2 _ _ (by omega) (by omega), f2 _ _ (by omega) (by omega)]; exact h5 v hv
      · rw [f2 _ _ (by omega) (by omega)]; exact h6
      · rw [f2 _ _ (by omega) (by omega), f2 _ _ (by omega) (by omega), f2 _ _ (by omega) (by omega)]; exact h7 j hj
theorem x_setCharger (hst : K.1.stackTraces = false) (hX : RX S M) {p : Int} {b : Bool} (hp : R32 p) (hQ : ∀ M', RX (aCh S p b).2 M' → FX M M' → Q (rsX ["java/lang/IllegalArgumentException"] (aCh S p b).1) GG M') : MetA K fZ_setCharger [aR 0, aI p, aI (b2i b)] GG M Q := by
  refine EZ_setCharger hst _ _ (BZ_setCharger_0 _ _ (sp_reqZ hst hp (fun h1 => ⟨rfl, ?_⟩) (fun h => ⟨rfl, ?_⟩)))
  · obtain ⟨i, rfl⟩ := nat_of h1.1
    have hi : i < 20 := by omega
    unfold aCh at hQ
    rw [if_pos h1, tn] at hQ
    refine ⟨i, wrn (by omega), hi, i, wrn (by omega), hi, b2i_01 b, ?_, ?_⟩
    · rw [hX.2.2.1 i hi]; exact b2i_01 _
    · rw [hX.2.2.1 i hi]
      refine hQ _ ?_ (FX.rf.um (by omega))
      obtain ⟨h1, h2, h3, h4, h5, h6, h7⟩ := hX
      refine ⟨fun a c ha hc => ?_, ?_, fun z hz => ?_, ⟨?_, fun v hv => (h4.2 v hv).congr (fun k _ => um_ne (by omega) _) (fun k => um_ne (by omega) _)⟩, fun v hv => ?_, ?_, fun j hj => ?_⟩
      · simp (disch := omega) only [um_ne]; exact h1 a c ha hc
      · simp (disch := omega) only [um_ne]; exact h2
      · show _ = b2i (upN (sch S) i b z)
        by_cases e : z = i
        · subst e; rw [um_self, upN_s]
        · rw [um_ne2 e, upN_n e]; exact h3 z hz
      · simp (disch := omega) only [um_ne]; exact h4.1
      · simp (disch := omega) only [um_ne]; exact h5 v hv
      · simp (disch := omega) only [um_ne]; exact h6
      · simp (disch := omega) only [um_ne]; exact h7 j hj
  · have := hQ M
    unfold aCh at this
    rw [if_neg h] at this
    exact this hX FX.rf
theorem x_distance (hst : K.1.stackTraces = false) (hI : Inv S) (hX : RX S M) {p q : Int} (hp : R32 p) (hq : R32 q) (hQ : ∀ M', RX (aDist S p q).2 M' → FX M M' → Q (rsX ["java/lang/IllegalArgumentException"] (aDist S p q).1) GG M') : MetA K fZ_distance [aR 0, aI p, aI q] GG M Q := by
  have no : ¬ (zin p ∧ zin q) → Q (.inr "java/lang/IllegalArgumentException") GG M := fun h => by
    have := hQ M
    unfold aDist at this
    rw [if_neg h] at this
    exact this hX FX.rf
  refine EZ_distance hst _ _ (BZ_distance_0 _ _ (sp_reqZ hst hp (fun h1 => ⟨rfl, ?_⟩) (fun h => ⟨rfl, no (fun z => h z.1)⟩)))
  refine sp_reqZ hst hq (fun h2 => ⟨rfl, ?_⟩) (fun h => ⟨rfl, no (fun z => h z.2)⟩)
  obtain ⟨i, rfl⟩ := nat_of h1.1
  obtain ⟨j, rfl⟩ := nat_of h2.1
  have hi : i < 20 := by omega
  have hj : j < 20 := by omega
  unfold aDist at hQ
  rw [if_pos ⟨h1, h2⟩, tn, tn] at hQ
  refine sp_hasWay hst hI.1 hX.1 hi hj ⟨rfl, ?_⟩
  dsimp only
  by_cases h : sD S i j < 1000
  · rw [if_pos h] at hQ ⊢
    refine ⟨fun c2 => absurd c2 (by rw [wr_1]; decide), fun _ => ⟨i, wrn (by omega), hi, j, wrn (by omega), hj, ?_⟩⟩
    rw [hX.1 i j hi hj]
    exact hQ M hX FX.rf
  · rw [if_neg h] at hQ ⊢
    exact ⟨fun _ => hQ M hX FX.rf, fun c2 => absurd wr_0 c2⟩
theorem x_addVehicle (hst : K.1.stackTraces = false) (hI : Inv S) (hX : RX S M) {p e : Int} (hp : R32 p) (he : R32 e) (hQ : ∀ M', RX (aVeh S p e).2 M' → FX M M' → Q (rsX ["java/lang/IllegalArgumentException", "java/lang/IllegalStateException"] (aVeh S p e).1) GG M') : MetA K fZ_addVehicle [aR 0, aI p, aI e] GG M Q := by
  have h6 := hI.2.1.1
  have no : ¬ (zin p ∧ 0 ≤ e ∧ e ≤ 60) → Q (.inr "java/lang/IllegalArgumentException") GG M := fun h => by
    have := hQ M
    unfold aVeh at this
    rw [if_neg h] at this
    exact this hX FX.rf
  refine EZ_addVehicle hst _ _ (BZ_addVehicle_0 _ _ (sp_reqZ hst hp (fun h1 => ⟨rfl, ?_⟩) (fun h => ⟨rfl, no (fun z => h z.1)⟩)))
  rw [wri he.1 he.2, wr_60, wr_6]
  refine ⟨fun c => no (fun z => by omega), fun c => ⟨fun c2 => ?_, fun c2 => no (fun z => by omega)⟩⟩
  obtain ⟨i, rfl⟩ := nat_of h1.1
  have hi : i < 20 := by omega
  unfold aVeh at hQ
  rw [if_pos ⟨h1, by omega, c2⟩, tn] at hQ
  have no2 : ¬ (snV S < 6 ∧ fnd (snV S) (szn S) i = none ∧ 0 < cntW S (snV S) i 0 (srz S (snV S))) → ∀ M', FT M M' → Q (.inr "java/lang/IllegalStateException") GG M' := fun h M' hF => by
    have := hQ M'
    rw [if_neg h] at this
    exact this (hX.ft hF) (FX.of hF)
  rw [hX.2.2.2.1.1, wrn (by omega)]
  refine ⟨fun c3 => ?_, fun c3 => no2 (fun z => by omega) M FT.rf⟩
  refine sp_find hst h6 hX.2.2.2.1 (fun w hw => (hI.2.1.2 w hw).1) hi ⟨rfl, ?_⟩
  dsimp only
  rw [wr_m1]
  cases hf : fnd (snV S) (szn S) i with
  | some w =>
    have hw : w < snV S := List.mem_range.mp (List.mem_of_find?_eq_some hf)
    show (wr (w : Int) = -1 → _) ∧ (¬ wr (w : Int) = -1 → _)
    rw [wrn (by omega)]
    exact ⟨fun c => absurd c (by omega), fun _ => no2 (fun z => by rw [hf] at z; exact absurd z.2.1 (by simp)) M FT.rf⟩
  | none =>
    show (wr (-1) = -1 → _) ∧ (¬ wr (-1) = -1 → _)
    refine ⟨fun _ => ?_, fun c => absurd wr_m1 c⟩
    have r0 := hI.2.2.2.2.2.1 (snV S) (Nat.le_refl _)
    have hpg : Pg (if snV S = snV S then snV S + 1 else snV S) (upN (szn S) (snV S) i) (upN (srl S) (snV S) 0) (upN (srz S) (snV S) (srz S (snV S))) := by
      rw [if_pos rfl]
      refine ⟨by omega, fun w hw => ?_⟩
      by_cases e9 : w = snV S
      · subst e9
        rw [upN_s, upN_s]
        exact ⟨hi, fun k hk => by omega⟩
      · rw [upN_n e9, upN_n e9, upN_n e9]
        exact hI.2.1.2 w (by omega)
    refine sp_safeIdle hst hI.2.1 hX.2.2.2.1 (r := srz S (snV S)) (by omega) (Nat.le_refl _) hpg (fun M' hF => ⟨rfl, ?_⟩)
    show (wr (b2i (decide (0 < cntW S (snV S) i 0 (srz S (snV S))))) = 0 → _) ∧ (¬ wr (b2i (decide (0 < cntW S (snV S) i 0 (srz S (snV S))))) = 0 → _)
    by_cases h2 : 0 < cntW S (snV S) i 0 (srz S (snV S))
    · rw [decide_eq_true h2]
      refine ⟨fun c => absurd c (by unfold b2i; rw [if_pos rfl, wr_1]; decide), fun _ => ⟨snV S, rfl, by omega, snV S, rfl, by omega, ?_⟩⟩
      rw [if_pos ⟨by omega, hf, h2⟩] at hQ
      have hX' := hX.ft hF
      have hV := hX'.2.2.2.1.2 (snV S) (by omega)
      have h5 := hX'.2.2.2.2.1 (snV S) (by omega)
      have e4 : (um (um M' (30 + 2 * snV S) 4 (i : Int)) (30 + 2 * snV S) 5 e) 0 4 = (snV S : Int) := by
        simp (disch := omega) only [um_ne]; exact hX'.2.2.2.1.1
      rw [e4]
      refine hQ _ ?_ (((FX.of hF).um (by omega)).um (by omega) |>.um (by omega))
      obtain ⟨k1, k2, k3, k4, k5, k6, k7⟩ := hX'
      refine ⟨fun a b ha hb => ?_, ?_, fun z hz => ?_, ⟨?_, fun u hu => ?_⟩, fun u hu => ?_, ?_, fun j hj => ?_⟩
      · simp (disch := omega) only [um_ne]; exact k1 a b ha hb
      · simp (disch := omega) only [um_ne]; exact k2
      · simp (disch := omega) only [um_ne]; exact k3 z hz
      · rw [um_self]; rfl
      · show VX _ u (upN (szn S) (snV S) i u) (srl S u) (srz S u)
        by_cases e9 : u = snV S
        · subst e9
          rw [upN_s]
          obtain ⟨v1, v2, nx, v3, v4, v5, v6⟩ := hV
          refine ⟨?_, ?_, nx, ?_, ?_, v5, fun k hk => ?_⟩
          · simp (disch := omega) only [um_ne, um_ne2, um_self]
          · simp (disch := omega) only [um_ne, um_ne2, um_self]; exact v2
          · simp (disch := omega) only [um_ne, um_ne2, um_self]; exact v3
          · simp (disch := omega) only [um_ne, um_ne2, um_self]; exact v4
          · simp (disch := omega) only [um_ne]; exact v6 k hk
        · rw [upN_n e9]
          exact (k4.2 u hu).congr (fun k _ => by simp (disch := omega) only [um_ne]) (fun k => by simp (disch := omega) only [um_ne])
      · show _ = upN (sen S) (snV S) e u ∧ _ ∧ _
        by_cases e9 : u = snV S
        · subst e9
          simp (disch := omega) only [um_ne, um_ne2, um_self, upN_s]
          exact ⟨trivial, h5.2⟩
        · rw [upN_n e9]
          simp (disch := omega) only [um_ne]; exact k5 u hu
      · simp (disch := omega) only [um_ne, um_ne2]; exact k6
      · simp (disch := omega) only [um_ne]; exact k7 j hj
    · rw [decide_eq_false h2]
      exact ⟨fun _ => no2 (fun z => h2 z.2.2) M' hF, fun c => absurd wr_0 c⟩
end XQ
