/-! what every call keeps -/
section KE
variable {S : SS}
theorem i_aLane (h : Inv S) (p q : Int) : Inv (aLane S p q).2 := by
  unfold aLane
  split
  · split
    · exact h
    · exact h.lane (by omega) (by omega)
  · exact h
theorem i_aCh (h : Inv S) (p : Int) (b : Bool) : Inv (aCh S p b).2 := by
  unfold aCh
  split
  · exact h.ch
  · exact h
theorem i_aDist (h : Inv S) (p q : Int) : Inv (aDist S p q).2 := by
  unfold aDist
  split <;> exact h
theorem i_aVeh (h : Inv S) (p q : Int) : Inv (aVeh S p q).2 := by
  unfold aVeh
  split
  · split
    · rename_i h1 h2
      exact h.veh (by omega) h2.1 h2.2.2
    · exact h
  · exact h
theorem i_aAsg (h : Inv S) (p q : Int) : Inv (aAsg S p q).2 := by
  unfold aAsg
  split
  · split
    · split
      · rename_i h1 h2 h3
        exact h.rt (by omega) (by omega) h3
      · exact h
    · exact h
  · exact h
theorem i_aCan (h : Inv S) (p : Int) : Inv (aCan S p).2 := by
  unfold aCan
  split
  · split
    · rename_i h1 h2
      exact (h.drop (by omega) h2.2).fin (Or.inl rfl)
    · exact h
  · exact h
theorem i_aChg (h : Inv S) (p : Int) : Inv (aChg S p).2 := by
  unfold aChg
  split
  · split
    · exact h.chg
    · exact h
  · exact h
theorem i_aStp (h : Inv S) (p : Int) : Inv (aStp S p).2 := by
  unfold aStp
  split
  · split
    · rename_i h1 h2
      exact h.go (by omega) h2
    · exact h
  · exact h
theorem i_aTck (h : Inv S) (p : Int) : Inv (aTck S p).2 := by
  unfold aTck
  split
  · exact h.tick _
  · exact h
theorem i_aJob (h : Inv S) (p : Int) : Inv (aJob S p).2 := by
  unfold aJob
  split
  · split
    · rename_i h1 h2
      exact h.job (by omega) h2
    · exact h
  · exact h
theorem i_aDsp (h : Inv S) : Inv (aDsp S).2 := by
  unfold aDsp
  split
  · exact h
  · rename_i h0
    rcases bs_spec (S := S) (snJ S) with g | ⟨j, h1, h2, h3, h4⟩
    · exact absurd g.1 h0
    · obtain ⟨g0, v, g1, g2, g3⟩ := reg_go h4
      show Inv (opGive S (nkS S (sjz S (bsS S (snJ S)).1.toNat) (snV S)).1.toNat (bsS S (snJ S)).1.toNat)
      rw [h1, tn, g1, tn]
      exact h.give g2 h2 g0 g3
theorem i_aRzn (h : Inv S) (p q : Int) : Inv (aRzn S p q).2 := by
  unfold aRzn
  split
  · split <;> exact h
  · exact h
theorem i_aMay (h : Inv S) (p : Int) : Inv (aMay S p).2 := by
  unfold aMay
  split <;> exact h
theorem i_aJst (h : Inv S) (p : Int) : Inv (aJst S p).2 := by
  unfold aJst
  split <;> exact h
theorem i_aJvh (h : Inv S) (p : Int) : Inv (aJvh S p).2 := by
  unfold aJvh
  split <;> exact h
theorem i_aReg (h : Inv S) (p : Int) : Inv (aReg S p).2 := by
  unfold aReg
  split <;> exact h
theorem i_aZon (h : Inv S) (p : Int) : Inv (aZon S p).2 := by
  unfold aZon
  split <;> exact h
theorem i_aVin (h : Inv S) (p : Int) : Inv (aVin S p).2 := by
  unfold aVin
  split <;> exact h
theorem i_aRln (h : Inv S) (p : Int) : Inv (aRln S p).2 := by
  unfold aRln
  split <;> exact h
theorem i_aEng (h : Inv S) (p : Int) : Inv (aEng S p).2 := by
  unfold aEng
  split <;> exact h
theorem i_aWai (h : Inv S) (p : Int) : Inv (aWai S p).2 := by
  unfold aWai
  split <;> exact h
theorem i_aFin (h : Inv S) (p : Int) : Inv (aFin S p).2 := by
  unfold aFin
  split <;> exact h
end KE
