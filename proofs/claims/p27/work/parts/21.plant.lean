/-! the plant of the class: what its methods answer -/
theorem wr_1 : wr 1 = 1 := wr_lit 1 (by decide)
theorem wr_2 : wr 2 = 2 := wr_lit 2 (by decide)
theorem wr_3 : wr 3 = 3 := wr_lit 3 (by decide)
theorem wr_4 : wr 4 = 4 := wr_lit 4 (by decide)
theorem wr_5 : wr 5 = 5 := wr_lit 5 (by decide)
theorem wr_6 : wr 6 = 6 := wr_lit 6 (by decide)
theorem wr_19 : wr 19 = 19 := wr_lit 19 (by decide)
theorem wr_20 : wr 20 = 20 := wr_lit 20 (by decide)
theorem wr_60 : wr 60 = 60 := wr_lit 60 (by decide)
theorem wr_63 : wr 63 = 63 := wr_lit 63 (by decide)
theorem wr_64 : wr 64 = 64 := wr_lit 64 (by decide)
theorem wr_400 : wr 400 = 400 := wr_lit 400 (by decide)
theorem wr_1000 : wr 1000 = 1000 := wr_lit 1000 (by decide)
def PX (M : AM) (D : Nat → Nat → Nat) : Prop := ∀ i j, i < 20 → j < 20 → M (3 + i) j = (D i j : Int)
theorem PX.wr {M : AM} {D : Nat → Nat → Nat} (h : PX M D) (hD : GM D) {i j : Nat} (hi : i < 20) (hj : j < 20) : wr (M (3 + i) j) = (D i j : Int) := by
  rw [h i j hi hj]
  exact wrn (by have := hD.2.2.2.2.2 i j hi hj; omega)
theorem nx_hit {D : Nat → Nat → Nat} {a t z : Nat} (hz : z < 20) (h : D a z = 1 ∧ D z t + 1 = D a t) (hb : ∀ y, y < z → ¬ (D a y = 1 ∧ D y t + 1 = D a t)) : nxD D a t = z := by
  unfold nxD
  rw [List.find?_range_eq_some.mpr ⟨by simpa using h, List.mem_range.mpr hz, fun j hj => by have := hb j hj; simp; omega⟩]
  rfl
theorem nx_no {D : Nat → Nat → Nat} {a t : Nat} (hb : ∀ y, y < 20 → ¬ (D a y = 1 ∧ D y t + 1 = D a t)) : nxD D a t = t := by
  unfold nxD
  rw [List.find?_eq_none.mpr (fun x hx => by have := hb x (List.mem_range.mp hx); simp; omega)]
  rfl
section PLANT
variable {K : KX} {M : AM} {D : Nat → Nat → Nat} {Q : Res → AG → AM → Prop}
theorem sp_hasLane (hst : K.1.stackTraces = false) (hD : GM D) (hP : PX M D) {i j : Nat} (hi : i < 20) (hj : j < 20) (hQ : Q (.inl (some (aI (if D i j = 1 then 1 else 0)))) GG M) : MetA K fP_hasLane [aR 1, aI i, aI j] GG M Q := by
  refine EP_hasLane hst _ _ (BP_hasLane_0 _ _ ⟨i, wrn (by omega), hi, j, wrn (by omega), hj, ?_⟩)
  rw [hP.wr hD hi hj, wr_1]
  refine ⟨fun c => ?_, fun c => ?_⟩
  · rwa [if_pos (by omega)] at hQ
  · rwa [if_neg (by omega)] at hQ
theorem sp_hasWay (hst : K.1.stackTraces = false) (hD : GM D) (hP : PX M D) {i j : Nat} (hi : i < 20) (hj : j < 20) (hQ : Q (.inl (some (aI (if D i j < 1000 then 1 else 0)))) GG M) : MetA K fP_hasWay [aR 1, aI i, aI j] GG M Q := by
  refine EP_hasWay hst _ _ (BP_hasWay_0 _ _ ⟨i, wrn (by omega), hi, j, wrn (by omega), hj, ?_⟩)
  rw [hP.wr hD hi hj, wr_1000]
  refine ⟨fun c => ?_, fun c => ?_⟩
  · rwa [if_neg (by omega)] at hQ
  · rwa [if_pos (by omega)] at hQ
theorem lp_nextOnWay (hst : K.1.stackTraces = false) (hD : GM D) (hP : PX M D) {a t : Nat} (ha : a < 20) (ht : t < 20) (hQ : Q (.inl (some (aI (nxD D a t)))) GG M) : ∀ d z : Nat, z + d = 20 → (∀ y, y < z → ¬ (D a y = 1 ∧ D y t + 1 = D a t)) → WM K fP_nextOnWay (EM K fP_nextOnWay 126 Q) 2 [some (aR 1), some (aI a), some (aI t), some (aI z)] [] GG M 0 0 := by
  intro d
  induction d with
  | zero =>
    intro z hz hb
    refine BP_nextOnWay_2 _ _ _ ⟨fun _ => ?_, fun c => absurd ?_ c⟩
    · rw [nx_no (fun y hy => hb y (by omega))] at hQ
      exact hQ
    · rw [wr_20, wrn (by omega)]; omega
  | succ d ih =>
    intro z hz hb
    have hz20 : z < 20 := by omega
    refine BP_nextOnWay_2 _ _ _ ⟨fun c => ?_, fun _ => ?_⟩
    · rw [wr_20, wrn (by omega)] at c; omega
    · refine sp_hasLane hst hD hP ha hz20 ⟨rfl, ?_⟩
      by_cases h1 : D a z = 1
      · rw [if_pos h1]
        refine ⟨fun c => absurd c (by rw [wr_1]; decide), fun _ => ⟨z, wrn (by omega), hz20, t, wrn (by omega), ht, a, wrn (by omega), ha, t, wrn (by omega), ht, ?_⟩⟩
        have e1 : wr (M (3 + a) t - 1) = (D a t : Int) - 1 := by
          rw [hP a t ha ht]
          have := hD.2.2.2.2.2 a t ha ht
          exact wr_of (by omega) (by omega)
        rw [e1, hP.wr hD hz20 ht]
        refine ⟨fun c => ?_, fun c => ?_⟩
        · rwa [nx_hit hz20 ⟨h1, by omega⟩ hb] at hQ
        · exact ih (z + 1) (by omega) (fun y hy => by
            by_cases e : y = z
            · subst e; intro q; exact c (by omega)
            · exact hb y (by omega))
      · rw [if_neg h1]
        refine ⟨fun _ => ?_, fun c => absurd wr_0 c⟩
        exact ih (z + 1) (by omega) (fun y hy => by
          by_cases e : y = z
          · subst e; intro q; exact h1 q.1
          · exact hb y (by omega))
theorem sp_nextOnWay (hst : K.1.stackTraces = false) (hD : GM D) (hP : PX M D) {a t : Nat} (ha : a < 20) (ht : t < 20) (hQ : Q (.inl (some (aI (nxD D a t)))) GG M) : MetA K fP_nextOnWay [aR 1, aI a, aI t] GG M Q := by
  refine EP_nextOnWay hst _ _ (BP_nextOnWay_0 _ _ ?_)
  exact lp_nextOnWay hst hD hP ha ht hQ 20 0 rfl (fun y hy => by omega)
end PLANT
