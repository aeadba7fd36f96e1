/-! an act, out of a number -/
def acB (v : Int) : Bool := decide (wr (lw (wsr v 24) 9) = 0)
def acZ (v : Int) : Int := if acB v = true then lw (wsr v 4) 23 - 1 else lw (wsr v 4) 12
def acO (v : Int) : Int := lw (wsr v 9) (if acB v = true then 21 else 12)
def acV (v : Int) : Int := lw (wsr v 13) 5 - b2i (acB v)
def acE (v : Int) : Int := if acB v = true then lw (wsr v 9) 64 - 2 else 5 + lw (wsr v 9) 30
def acT (v : Int) : Int := if acB v = true then lw (wsr v 9) 24 - 2 else 1 + lw (wsr v 9) 3
def aAct (S : SS) (v : Int) : AN :=
  if lw v 20 ≤ 4 then aLane S (acZ v) (acO v) else if lw v 20 = 5 then aCh S (acZ v) (decide (0 < lw (wsr v 9) 3)) else if lw v 20 ≤ 7 then aVeh S (acZ v) (acE v) else if lw v 20 ≤ 10 then aAsg S (acV v) (acZ v) else if lw v 20 = 11 then aCan S (acV v)
  else if lw v 20 = 12 then aChg S (acV v) else if lw v 20 ≤ 14 then aStp S (acV v) else if lw v 20 = 15 then aTck S (acT v) else if lw v 20 = 16 then aJob S (acZ v) else if lw v 20 ≤ 18 then aDsp S else aAsg S (acV v) (acO v)
theorem acZ_bd (v : Int) : R32 (acZ v) := by
  have h1 := lw_bd (p := wsr v 4) (q := 23) (by omega) (by omega)
  have h2 := lw_bd (p := wsr v 4) (q := 12) (by omega) (by omega)
  unfold acZ R32
  split <;> omega
theorem acO_bd (v : Int) : R32 (acO v) := by
  have h1 := lw_bd (p := wsr v 9) (q := 21) (by omega) (by omega)
  have h2 := lw_bd (p := wsr v 9) (q := 12) (by omega) (by omega)
  unfold acO R32
  split <;> omega
theorem acV_bd (v : Int) : R32 (acV v) := by
  have h1 := lw_bd (p := wsr v 13) (q := 5) (by omega) (by omega)
  have h2 := b2i_01 (acB v)
  unfold acV R32
  omega
theorem acE_bd (v : Int) : R32 (acE v) := by
  have h1 := lw_bd (p := wsr v 9) (q := 64) (by omega) (by omega)
  have h2 := lw_bd (p := wsr v 9) (q := 30) (by omega) (by omega)
  unfold acE R32
  split <;> omega
theorem acT_bd (v : Int) : R32 (acT v) := by
  have h1 := lw_bd (p := wsr v 9) (q := 24) (by omega) (by omega)
  have h2 := lw_bd (p := wsr v 9) (q := 3) (by omega) (by omega)
  unfold acT R32
  split <;> omega
theorem b2i_w (b : Bool) : (wr (b2i b) = 0 ↔ b = false) := by
  cases b
  · exact ⟨fun _ => rfl, fun _ => wr_0⟩
  · exact ⟨fun h => absurd h (by show ¬ wr 1 = 0; rw [wr_1]; decide), fun h => by cases h⟩
section AC
variable {K : KX} {S : SS} {M : AM} {Q : Res → AG → AM → Prop}
theorem cI_k {k : Int → AM → Prop} {x : String → AM → Prop} {b : Int} {M1 : AM} (h : k b M1) : cI GG k x (.inl (some (aI b))) GG M1 := ⟨rfl, h⟩
theorem l_act (hst : K.1.stackTraces = false) (hI : Inv S) (hX : RX S M) {v : Int} (hQ : ∀ M', RX (aAct S v).2 M' → FX M M' → Q (.inl (some (aI (tld (aAct S v).1)))) GG M') : MetA K fL_act [aR 0, aI v] GG M Q := by
  have h20 := lw_bd (p := v) (q := 20) (by omega) (by omega)
  have w20 : wr (lw v 20) = lw v 20 := wri (by omega) (by omega)
  have h81 : WM K fL_act (EM K fL_act 126 Q) 81 [some (aR 0), some (aI v), some (aI (b2i (acB v))), some (aI (acZ v)), some (aI (acO v)), none] [aI (b2i (acB v)), aI (lw (wsr v 13) 5)] GG M 0 0 := by
    refine BL_act_81 _ _ _ _ _ _ (l_low hst (by omega) (by omega) (cI_k ?_))
    rw [w20]
    refine ⟨fun c => ?_, fun c => ?_, fun c => ?_, fun c => ?_, fun c => ?_, fun c => ?_, fun c => ?_, fun c => ?_, fun c => ?_, fun c => ?_, fun c => ?_⟩
    · have e : aAct S v = aAsg S (acV v) (acO v) := by unfold aAct; repeat rw [if_neg (by omega)]
      rw [e] at hQ
      exact l_assign hst hI hX (acV_bd v) (acO_bd v) (fun M1 r1 f1 => cI_k (hQ M1 r1 f1))
    · have e : aAct S v = aLane S (acZ v) (acO v) := by unfold aAct; rw [if_pos (by omega)]
      rw [e] at hQ
      exact l_addLane hst hI hX (acZ_bd v) (acO_bd v) (fun M1 r1 f1 => cI_k (hQ M1 r1 f1))
    · have e : aAct S v = aCh S (acZ v) (decide (0 < lw (wsr v 9) 3)) := by unfold aAct; rw [if_neg (by omega), if_pos (by omega)]
      rw [e] at hQ
      have h3 := lw_bd (p := wsr v 9) (q := 3) (by omega) (by omega)
      refine l_low hst (by omega) (by omega) (cI_k ?_)
      rw [wri (by omega) (by omega)]
      refine ⟨fun c => BL_act_206 _ _ _ _ _ _ _ ?_, fun c => BL_act_206 _ _ _ _ _ _ _ ?_⟩
      · rw [decide_eq_false (by omega)] at hQ
        exact l_setCharger (b := false) hst hX (acZ_bd v) (fun M1 r1 f1 => cI_k (hQ M1 r1 f1))
      · rw [decide_eq_true (by omega)] at hQ
        exact l_setCharger (b := true) hst hX (acZ_bd v) (fun M1 r1 f1 => cI_k (hQ M1 r1 f1))
    · have e : aAct S v = aVeh S (acZ v) (acE v) := by unfold aAct; rw [if_neg (by omega), if_neg (by omega), if_pos (by omega)]
      rw [e] at hQ
      have hE := acE_bd v
      refine ⟨fun c => l_low hst (by omega) (by omega) (cI_k (BL_act_241 _ _ _ _ _ _ _ ?_)), fun c => l_low hst (by omega) (by omega) (cI_k (BL_act_241 _ _ _ _ _ _ _ ?_))⟩
      · have e2 : acE v = 5 + lw (wsr v 9) 30 := if_neg (by rw [(b2i_w _).mp c]; decide)
        rw [e2] at hQ hE
        exact l_addVehicle hst hI hX (acZ_bd v) hE (fun M1 r1 f1 => cI_k (hQ M1 r1 f1))
      · have e2 : acE v = lw (wsr v 9) 64 - 2 := if_pos (by
          cases hb : acB v with
          | true => rfl
          | false => exact absurd ((b2i_w _).mpr hb) c)
        rw [e2] at hQ hE
        exact l_addVehicle hst hI hX (acZ_bd v) hE (fun M1 r1 f1 => cI_k (hQ M1 r1 f1))
    · have e : aAct S v = aAsg S (acV v) (acZ v) := by unfold aAct; rw [if_neg (by omega), if_neg (by omega), if_neg (by omega), if_pos (by omega)]
      rw [e] at hQ
      exact l_assign hst hI hX (acV_bd v) (acZ_bd v) (fun M1 r1 f1 => cI_k (hQ M1 r1 f1))
    · have e : aAct S v = aCan S (acV v) := by unfold aAct; rw [if_neg (by omega), if_neg (by omega), if_neg (by omega), if_neg (by omega), if_pos (by omega)]
      rw [e] at hQ
      exact l_cancel hst hI hX (acV_bd v) (fun M1 r1 f1 => cI_k (hQ M1 r1 f1))
    · have e : aAct S v = aChg S (acV v) := by unfold aAct; rw [if_neg (by omega), if_neg (by omega), if_neg (by omega), if_neg (by omega), if_neg (by omega), if_pos (by omega)]
      rw [e] at hQ
      exact l_charge hst hI hX (acV_bd v) (fun M1 r1 f1 => cI_k (hQ M1 r1 f1))
    · have e : aAct S v = aStp S (acV v) := by unfold aAct; rw [if_neg (by omega), if_neg (by omega), if_neg (by omega), if_neg (by omega), if_neg (by omega), if_neg (by omega), if_pos (by omega)]
      rw [e] at hQ
      exact l_step hst hI hX (acV_bd v) (fun M1 r1 f1 => cI_k (hQ M1 r1 f1))
    · have e : aAct S v = aTck S (acT v) := by unfold aAct; rw [if_neg (by omega), if_neg (by omega), if_neg (by omega), if_neg (by omega), if_neg (by omega), if_neg (by omega), if_neg (by omega), if_pos (by omega)]
      rw [e] at hQ
      have hE := acT_bd v
      refine ⟨fun c => l_low hst (by omega) (by omega) (cI_k (BL_act_303 _ _ _ _ _ _ ?_)), fun c => l_low hst (by omega) (by omega) (cI_k (BL_act_303 _ _ _ _ _ _ ?_))⟩
      · have e2 : acT v = 1 + lw (wsr v 9) 3 := if_neg (by rw [(b2i_w _).mp c]; decide)
        rw [e2] at hQ hE
        exact l_tick hst hI hX hE (fun M1 r1 f1 => cI_k (hQ M1 r1 f1))
      · have e2 : acT v = lw (wsr v 9) 24 - 2 := if_pos (by
          cases hb : acB v with
          | true => rfl
          | false => exact absurd ((b2i_w _).mpr hb) c)
        rw [e2] at hQ hE
        exact l_tick hst hI hX hE (fun M1 r1 f1 => cI_k (hQ M1 r1 f1))
    · have e : aAct S v = aJob S (acZ v) := by unfold aAct; rw [if_neg (by omega), if_neg (by omega), if_neg (by omega), if_neg (by omega), if_neg (by omega), if_neg (by omega), if_neg (by omega), if_neg (by omega), if_pos (by omega)]
      rw [e] at hQ
      exact l_addJob hst hI hX (acZ_bd v) (fun M1 r1 f1 => cI_k (hQ M1 r1 f1))
    · have e : aAct S v = aDsp S := by unfold aAct; rw [if_neg (by omega), if_neg (by omega), if_neg (by omega), if_neg (by omega), if_neg (by omega), if_neg (by omega), if_neg (by omega), if_neg (by omega), if_neg (by omega), if_pos (by omega)]
      rw [e] at hQ
      have h0 : (aDsp S).1.1 = 0 := by unfold aDsp; split <;> rfl
      rw [tld_0 h0] at hQ
      exact x_dispatch hst hI hX (fun M1 r1 f1 => cI_k (hQ M1 r1 f1))
  have h59 : ∀ o : Int, o = b2i (acB v) → WM K fL_act (EM K fL_act 126 Q) 59 [some (aR 0), some (aI v), some (aI o), some (aI (acZ v)), none, none] [aI (if acB v = true then 21 else 12), aI (wsr v 9)] GG M 0 0 := by
    intro o ho
    subst ho
    have hl : (0 : Int) < (if acB v = true then 21 else 12) ∧ (if acB v = true then 21 else 12) < (1000 : Int) := by split <;> omega
    refine BL_act_59 _ _ _ _ _ (l_low hst hl.1 hl.2 (cI_k (l_low hst (by omega) (by omega) (cI_k ?_))))
    cases hb : acB v with
    | true =>
      unfold acO at h81
      rw [hb] at h81
      exact ⟨fun c => absurd c (by show ¬ wr 1 = 0; rw [wr_1]; decide), fun _ => h81⟩
    | false =>
      unfold acO at h81
      rw [hb] at h81
      exact ⟨fun _ => h81, fun c => absurd wr_0 c⟩
  have h43 : WM K fL_act (EM K fL_act 126 Q) 43 [some (aR 0), some (aI v), some (aI (b2i (acB v))), none, none, none] [aI (acZ v)] GG M 0 0 := by
    have h9 := h59 _ rfl
    refine BL_act_43 _ _ _ ⟨fun c => ?_, fun c => ?_⟩
    · rw [if_neg (by rw [(b2i_w _).mp c]; decide)] at h9
      exact h9
    · rw [if_pos (by
          cases hb : acB v with
          | true => rfl
          | false => exact absurd ((b2i_w _).mpr hb) c)] at h9
      exact h9
  have h17 : WM K fL_act (EM K fL_act 126 Q) 17 [some (aR 0), some (aI v), none, none, none, none] [aI (b2i (acB v))] GG M 0 0 := by
    unfold acZ at h43
    refine BL_act_17 _ _ ⟨fun c => l_low hst (by omega) (by omega) (cI_k ?_), fun c => l_low hst (by omega) (by omega) (cI_k ?_)⟩
    · rw [if_neg (by rw [(b2i_w _).mp c]; decide)] at h43
      exact h43
    · rw [if_pos (by
          cases hb : acB v with
          | true => rfl
          | false => exact absurd ((b2i_w _).mpr hb) c)] at h43
      exact h43
  refine EL_act hst _ (BL_act_0 _ (l_low hst (by omega) (by omega) (cI_k ?_)))
  unfold acB at h17
  refine ⟨fun c => ?_, fun c => ?_⟩
  · rw [decide_eq_true c] at h17; exact h17
  · rw [decide_eq_false c] at h17; exact h17
end AC
theorem g_Act {S : SS} (h : Inv3 S) (hl : sln S < 1000) (v : Int) : Good S (aAct S v) := by
  unfold aAct
  repeat' split
  · exact g_Lane h hl _ _
  · exact g_Ch h _ _
  · exact g_Veh h _ _
  · exact g_Asg h _ _
  · exact g_Can h _
  · exact g_Chg h _
  · exact g_Stp h _
  · exact g_Tck h _
  · exact g_Job h _
  · exact g_Dsp h
  · exact g_Asg h _ _
theorem j_Act {S : SS} (v : Int) : snJ (aAct S v).2 = if (aAct S v).1.1 = 0 ∧ lw v 20 = 16 then snJ S + 1 else snJ S := by
  by_cases h : lw v 20 = 16
  · have e : aAct S v = aJob S (acZ v) := by unfold aAct; rw [if_neg (by omega), if_neg (by omega), if_neg (by omega), if_neg (by omega), if_neg (by omega), if_neg (by omega), if_neg (by omega), if_neg (by omega), if_pos (by omega)]
    rw [e, j_Job]
    by_cases c : (aJob S (acZ v)).1.1 = 0
    · rw [if_pos c, if_pos ⟨c, h⟩]
    · rw [if_neg c, if_neg (fun q => c q.1)]
  · rw [if_neg (fun q => h q.2)]
    unfold aAct
    repeat' split
    · exact j_Lane _ _
    · exact j_Ch _ _
    · exact j_Veh _ _
    · exact j_Asg _ _
    · exact j_Can _
    · exact j_Chg _
    · exact j_Stp _
    · exact j_Tck _
    · exact j_Dsp
    · exact j_Asg _ _
