/-! each call: what it keeps, what it answers -/
def Good (S : SS) (a : AN) : Prop := Inv3 a.2 ∧ (a.1.1 ≠ 0 → a.2 = S) ∧ (a.1.1 = 0 → -1 ≤ a.1.2 ∧ a.1.2 < 1000000) ∧ sln S ≤ sln a.2 ∧ sln a.2 ≤ sln S + 1
theorem good_no {S : SS} (h : Inv3 S) {c : Nat} (hc : c ≠ 0) : Good S ((c, 0), S) := ⟨h, fun _ => rfl, fun e => absurd e hc, Int.le_refl _, by show sln S ≤ sln S + 1; omega⟩
theorem good_ok {S S' : SS} {x : Int} (h : Inv3 S') (hx : -1 ≤ x ∧ x < 1000000) (hs : sln S' = sln S) : Good S ((0, x), S') := ⟨h, fun e => absurd rfl e, fun _ => hx, by show sln S ≤ sln S'; omega, by show sln S' ≤ sln S + 1; omega⟩
theorem opEnd_ln {S : SS} {v : Nat} {st w : Int} : sln (opEnd S v st w) = sln S := by
  unfold opEnd
  cases stk S v <;> rfl
theorem opEnd_nJ {S : SS} {v : Nat} {st w : Int} : snJ (opEnd S v st w) = snJ S := by
  unfold opEnd
  cases stk S v <;> rfl
theorem opGo_ln {S : SS} {v : Nat} : sln (opGo S v) = sln S ∧ snJ (opGo S v) = snJ S := by
  unfold opGo
  split
  · rw [opEnd_ln, opEnd_nJ]; exact ⟨rfl, rfl⟩
  · exact ⟨rfl, rfl⟩
theorem turn_ln {S : SS} {v : Nat} : sln (turnS S v) = sln S ∧ snJ (turnS S v) = snJ S := by
  unfold turnS
  split
  · exact opGo_ln
  · split <;> exact ⟨rfl, rfl⟩
theorem turnsS_ln {S : SS} : ∀ i, sln (turnsS S i) = sln S ∧ snJ (turnsS S i) = snJ S := by
  intro i
  induction i with
  | zero => exact ⟨rfl, rfl⟩
  | succ i ih => unfold turnsS; rw [turn_ln.1, turn_ln.2]; exact ih
theorem tickS_ln {S : SS} : ∀ p, sln (tickS S p) = sln S ∧ snJ (tickS S p) = snJ S := by
  intro p
  induction p with
  | zero => exact ⟨rfl, rfl⟩
  | succ p ih => unfold tickS; rw [(turnsS_ln _).1, (turnsS_ln _).2]; exact ih
theorem stpS_le {S : SS} : ∀ i, stpS S i ≤ i := by
  intro i
  induction i with
  | zero => exact Nat.le_refl _
  | succ i ih => unfold stpS; split <;> omega
theorem tickC_le {S : SS} (h : snV S ≤ 6) : ∀ p, tickC S p ≤ 6 * p := by
  intro p
  induction p with
  | zero => exact Nat.le_refl _
  | succ p ih =>
    unfold tickC
    have := stpS_le (S := tickS S p) (snV S)
    omega
section GD
variable {S : SS}
theorem g_Lane (h : Inv3 S) (hl : sln S < 1000) (p q : Int) : Good S (aLane S p q) := by
  unfold aLane
  split
  · rename_i hc
    split
    · exact good_no h (by decide)
    · have h0 := h.2.2.2.2
      refine ⟨h.lane (by omega) (by omega) (by omega), fun e => absurd rfl e, fun _ => by show -1 ≤ sln S + 1 ∧ sln S + 1 < 1000000; omega, ?_, Int.le_refl _⟩
      show sln S ≤ sln S + 1
      omega
  · exact good_no h (by decide)
theorem b2i_bd (b : Bool) : -1 ≤ b2i b ∧ b2i b < 1000000 := by rcases b2i_01 b with e | e <;> rw [e] <;> decide
theorem g_Ch (h : Inv3 S) (p : Int) (b : Bool) : Good S (aCh S p b) := by
  unfold aCh
  split
  · exact good_ok h.ch (b2i_bd _) rfl
  · exact good_no h (by decide)
theorem g_Veh (h : Inv3 S) (p e : Int) : Good S (aVeh S p e) := by
  unfold aVeh
  split
  · rename_i hc
    split
    · rename_i h2
      have h6 := h.1.2.1.1
      exact good_ok (h.veh (by omega) hc.2 h2.1 h2.2.1 h2.2.2) (by omega) rfl
    · exact good_no h (by decide)
  · exact good_no h (by decide)
theorem g_Asg (h : Inv3 S) (v p : Int) : Good S (aAsg S v p) := by
  unfold aAsg
  split
  · split
    · split
      · rename_i h1 h2 h3
        have hb := lenS_bd (S := S) (v := v.toNat) (t := p.toNat)
        exact good_ok (h.rt (by omega) (by omega) h3) (by omega) rfl
      · exact good_no h (by decide)
    · exact good_no h (by decide)
  · exact good_no h (by decide)
theorem g_Can (h : Inv3 S) (v : Int) : Good S (aCan S v) := by
  unfold aCan
  split
  · rename_i h1
    split
    · rename_i h2
      have h6 := h.1.2.1.1
      have hl := h.1.2.2.2.1 v.toNat (by omega)
      exact good_ok ((h.drop (by omega) h2.2).fin (Or.inl ⟨rfl, rfl⟩)) (by omega) opEnd_ln
    · exact good_no h (by decide)
  · exact good_no h (by decide)
theorem g_Chg (h : Inv3 S) (v : Int) : Good S (aChg S v) := by
  unfold aChg
  split
  · rename_i h1
    split
    · rename_i h2
      obtain ⟨k1, k2, -⟩ := h.2.2.1 v.toNat (by omega)
      exact good_ok (h.chg h2.1) (by omega) rfl
    · exact good_no h (by decide)
  · exact good_no h (by decide)
theorem g_Stp (h : Inv3 S) (v : Int) : Good S (aStp S v) := by
  unfold aStp
  split
  · rename_i h1
    split
    · rename_i h2
      have hv : v.toNat < snV S := by omega
      have hz := (h.1.2.1.2 v.toNat hv).2 0 (mayS_spec h2).1
      refine good_ok (h.go hv h2) ?_ opGo_ln.1
      rw [opGo_zn, upN_s]
      omega
    · exact good_no h (by decide)
  · exact good_no h (by decide)
theorem g_Tck (h : Inv3 S) (p : Int) : Good S (aTck S p) := by
  unfold aTck
  split
  · have := tickC_le (S := S) h.1.2.1.1 p.toNat
    exact good_ok (h.tick _) (by omega) (tickS_ln _).1
  · exact good_no h (by decide)
theorem g_Job (h : Inv3 S) (p : Int) : Good S (aJob S p) := by
  unfold aJob
  split
  · rename_i h1
    split
    · rename_i h2
      exact good_ok (h.job (by omega) h2) (by omega) rfl
    · exact good_no h (by decide)
  · exact good_no h (by decide)
theorem g_Dsp (h : Inv3 S) : Good S (aDsp S) := by
  unfold aDsp
  split
  · exact good_ok h (by omega) rfl
  · rename_i h0
    rcases bs_spec (S := S) (snJ S) with g | ⟨j, h1, h2, h3, h4⟩
    · exact absurd g.1 h0
    · obtain ⟨g0, v, g1, g2, g3⟩ := reg_go h4
      have hJ := h.1.2.2.1
      rw [h1, tn, g1, tn]
      exact good_ok (h.give g2 h2 g0 g3) (by omega) rfl
-- the number of jobs
theorem j_Lane (p q : Int) : snJ (aLane S p q).2 = snJ S := by unfold aLane; (repeat' split) <;> rfl
theorem j_Ch (p : Int) (b : Bool) : snJ (aCh S p b).2 = snJ S := by unfold aCh; (repeat' split) <;> rfl
theorem j_Veh (p q : Int) : snJ (aVeh S p q).2 = snJ S := by unfold aVeh; (repeat' split) <;> rfl
theorem j_Asg (p q : Int) : snJ (aAsg S p q).2 = snJ S := by unfold aAsg; (repeat' split) <;> rfl
theorem j_Can (p : Int) : snJ (aCan S p).2 = snJ S := by
  unfold aCan
  (repeat' split) <;> first | exact opEnd_nJ | rfl
theorem j_Chg (p : Int) : snJ (aChg S p).2 = snJ S := by unfold aChg; (repeat' split) <;> rfl
theorem j_Stp (p : Int) : snJ (aStp S p).2 = snJ S := by
  unfold aStp
  (repeat' split) <;> first | exact opGo_ln.2 | rfl
theorem j_Tck (p : Int) : snJ (aTck S p).2 = snJ S := by
  unfold aTck
  split
  · exact (tickS_ln _).2
  · rfl
theorem j_Dsp : snJ (aDsp S).2 = snJ S := by unfold aDsp; split <;> rfl
theorem j_Job (p : Int) : snJ (aJob S p).2 = if (aJob S p).1.1 = 0 then snJ S + 1 else snJ S := by
  unfold aJob
  split
  · split
    · rfl
    · exact (if_neg (show ¬ (2 = 0) by decide)).symm
  · exact (if_neg (show ¬ (1 = 0) by decide)).symm
end GD
