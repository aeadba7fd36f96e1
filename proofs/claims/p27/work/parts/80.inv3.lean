/-! what the law looks for, kept by every call -/
/-- the zone ahead of place k of a route -/
def pz (z : Nat) (r : Nat → Nat) (k : Nat) : Nat := if k = 0 then z else r (k - 1)
def Veh3 (D : Nat → Nat → Nat) (z : Nat) (e : Int) (l : Nat) (r : Nat → Nat) : Prop := 0 ≤ e ∧ e ≤ 60 ∧ (l : Int) ≤ e ∧ ∀ k, k < l → D (pz z r k) (r k) = 1
def Inv3 (S : SS) : Prop := Inv S ∧ (∀ v w, v < snV S → w < snV S → szn S v = szn S w → v = w) ∧
  (∀ v, v < snV S → Veh3 (sD S) (szn S v) (sen S v) (srl S v) (srz S v)) ∧ (∀ j, j < snJ S → (sjv S j = -1 ↔ sjs S j = 0) ∧ -1 ≤ sjv S j ∧ sjv S j < 6) ∧ 0 ≤ sln S
theorem fnd_none {n : Nat} {zn : Nat → Nat} {z : Nat} (h : fnd n zn z = none) {v : Nat} (hv : v < n) : zn v ≠ z := fun e => by
  have := List.find?_eq_none.mp h v (List.mem_range.mpr hv)
  simp [e] at this
theorem pz_lt {S : SS} (h : Inv S) {v k : Nat} (hv : v < snV S) (hk : k < srl S v) : pz (szn S v) (srz S v) k < 20 := by
  have hp := h.2.1.2 v hv
  unfold pz
  split
  · exact hp.1
  · exact (hp.2 _ (by omega)).1
theorem wy_one {D : Nat → Nat → Nat} (h : GM D) {a t : Nat} (ha : a < 20) (ht : t < 20) (hd : D a t < 1000) {k : Nat} (hk : k < D a t) : D (pz a (fun k => wyD D a t (k + 1)) k) (wyD D a t (k + 1)) = 1 := by
  have e : pz a (fun k => wyD D a t (k + 1)) k = wyD D a t k := by
    unfold pz
    split
    · rename_i h0; subst h0; rfl
    · show wyD D a t (k - 1 + 1) = _
      rw [show k - 1 + 1 = k by omega]
  rw [e]
  obtain ⟨h1, h2⟩ := wyD_spec h ha ht hd k (by omega)
  have hne : wyD D a t k ≠ t := fun q => by rw [q, h.1 t ht] at h2; omega
  exact (nxD_spec h h1 ht (by omega) hne).2.1
theorem enD_ge {ch : Nat → Bool} {D : Nat → Nat → Nat} {a t : Nat} : D a t ≤ enD ch D a t := by
  unfold enD
  split <;> omega
section I3
variable {S : SS}
theorem Inv3.lane (h : Inv3 S) {a b : Nat} (ha : a < 20) (hb : b < 20) (hab : a ≠ b) : Inv3 (opLane S a b) := by
  obtain ⟨h1, h2, h3, h4, h5⟩ := h
  refine ⟨h1.lane ha hb, h2, fun v hv => ?_, h4, ?_⟩
  · obtain ⟨g1, g2, g3, g4⟩ := h3 v hv
    refine ⟨g1, g2, g3, fun k hk => ?_⟩
    exact (layD_one h1.1 ha hb hab (pz_lt h1 hv hk) ((h1.2.1.2 v hv).2 k hk).1).mpr (Or.inl (g4 k hk))
  · show 0 ≤ sln S + 1
    omega
theorem Inv3.ch (h : Inv3 S) {z : Nat} {b : Bool} : Inv3 (opCh S z b) := ⟨h.1.ch, h.2⟩
theorem Inv3.chg (h : Inv3 S) {v : Nat} (h0 : srl S v = 0) : Inv3 (opChg S v) := by
  obtain ⟨h1, h2, h3, h4, h5⟩ := h
  refine ⟨h1.chg, h2, fun w hw => ?_, h4, h5⟩
  show Veh3 (sD S) (szn S w) (upN (sen S) v 60 w) (srl S w) (srz S w)
  by_cases e : w = v
  · subst e
    rw [upN_s]
    exact ⟨by omega, by omega, by omega, fun k hk => by omega⟩
  · rw [upN_n e]
    exact h3 w hw
theorem Inv3.wait (h : Inv3 S) {v : Nat} (hv : v < snV S) : Inv3 (opWait S v) := ⟨h.1.wait hv, h.2⟩
theorem Inv3.job (h : Inv3 S) {z : Nat} (hz : z < 20) (hj : snJ S < 20) : Inv3 (opJob S z) := by
  obtain ⟨h1, h2, h3, h4, h5⟩ := h
  refine ⟨h1.job hz hj, h2, h3, fun j hj2 => ?_, h5⟩
  show (sjv S j = -1 ↔ sjs S j = 0) ∧ -1 ≤ sjv S j ∧ sjv S j < 6
  by_cases e : j < snJ S
  · exact h4 j e
  · obtain ⟨g1, g2⟩ := h1.2.2.2.2.2.2.2.2.1 j (by omega)
    rw [g1, g2]
    exact ⟨⟨fun _ => rfl, fun _ => rfl⟩, by omega, by omega⟩
theorem Inv3.veh (h : Inv3 S) {z : Nat} {e : Int} (hz : z < 20) (he : 0 ≤ e ∧ e ≤ 60) (hn : snV S < 6) (hf : fnd (snV S) (szn S) z = none) (hs : 0 < cntW S (snV S) z 0 (srz S (snV S))) : Inv3 (opVeh S z e) := by
  obtain ⟨h1, h2, h3, h4, h5⟩ := h
  have r0 := (h1.2.2.2.2.2.1 (snV S) (Nat.le_refl _)).1
  refine ⟨h1.veh hz hn hs, fun v w hv hw hvw => ?_, fun v hv => ?_, h4, h5⟩
  · have hv2 : v < snV S + 1 := hv
    have hw2 : w < snV S + 1 := hw
    have hvw2 : upN (szn S) (snV S) z v = upN (szn S) (snV S) z w := hvw
    by_cases e1 : v = snV S
    · by_cases e2 : w = snV S
      · omega
      · rw [e1, upN_s, upN_n e2] at hvw2
        exact absurd hvw2.symm (fnd_none hf (by omega))
    · by_cases e2 : w = snV S
      · rw [e2, upN_s, upN_n e1] at hvw2
        exact absurd hvw2 (fnd_none hf (by omega))
      · rw [upN_n e1, upN_n e2] at hvw2
        exact h2 v w (by omega) (by omega) hvw2
  · have hv2 : v < snV S + 1 := hv
    show Veh3 (sD S) (upN (szn S) (snV S) z v) (upN (sen S) (snV S) e v) (srl S v) (srz S v)
    by_cases e1 : v = snV S
    · subst e1
      rw [upN_s, upN_s, r0]
      exact ⟨he.1, he.2, by omega, fun k hk => by omega⟩
    · rw [upN_n e1, upN_n e1]
      exact h3 v (by omega)
theorem Inv3.rt (h : Inv3 S) {v t : Nat} (hv : v < snV S) (ht : t < 20) (hg : canGo S v t = true) : Inv3 (opRt S v t) := by
  obtain ⟨h1, h2, h3, h4, h5⟩ := h
  refine ⟨h1.rt hv ht hg, h2, fun w hw => ?_, h4, h5⟩
  obtain ⟨g1, g2, g3, g4, g5⟩ := canGo_spec hg
  show Veh3 (sD S) (szn S w) (sen S w) (upN (srl S) v (sD S (szn S v) t) w) (upN (srz S) v (fun k => wyD (sD S) (szn S v) t (k + 1)) w)
  by_cases e : w = v
  · subst e
    rw [upN_s, upN_s]
    obtain ⟨k1, k2, k3, k4⟩ := h3 w hv
    have := enD_ge (ch := sch S) (D := sD S) (a := szn S w) (t := t)
    rw [wri (by omega) (by omega)] at g4
    exact ⟨k1, k2, by omega, fun k hk => wy_one h1.1 (h1.2.1.2 w hv).1 ht g3 hk⟩
  · rw [upN_n e, upN_n e]
    exact h3 w hw
theorem Inv3.drop (h : Inv3 S) {v : Nat} (hv : v < snV S) (hs : 0 < cntW S v (szn S v) 0 (srz S v)) : Inv3 (opDrop S v) := by
  obtain ⟨h1, h2, h3, h4, h5⟩ := h
  refine ⟨h1.drop hv hs, h2, fun w hw => ?_, h4, h5⟩
  show Veh3 (sD S) (szn S w) (sen S w) (upN (srl S) v 0 w) (srz S w)
  by_cases e : w = v
  · subst e
    rw [upN_s]
    obtain ⟨k1, k2, k3, k4⟩ := h3 w hv
    exact ⟨k1, k2, by omega, fun k hk => by omega⟩
  · rw [upN_n e]
    exact h3 w hw
theorem Inv3.adv (h : Inv3 S) {v : Nat} (hv : v < snV S) (hg : mayS S v = true) : Inv3 (opAdv S v) := by
  obtain ⟨h1, h2, h3, h4, h5⟩ := h
  obtain ⟨g1, g2, g3⟩ := mayS_spec hg
  refine ⟨h1.adv hv hg, fun u w hu hw huw => ?_, fun w hw => ?_, h4, h5⟩
  · have huw2 : upN (szn S) v (srz S v 0) u = upN (szn S) v (srz S v 0) w := huw
    by_cases e1 : u = v
    · by_cases e2 : w = v
      · omega
      · rw [e1, upN_s, upN_n e2] at huw2
        exact absurd huw2.symm (fnd_none g2 hw)
    · by_cases e2 : w = v
      · rw [e2, upN_s, upN_n e1] at huw2
        exact absurd huw2 (fnd_none g2 hu)
      · rw [upN_n e1, upN_n e2] at huw2
        exact h2 u w hu hw huw2
  · show Veh3 (sD S) (upN (szn S) v (srz S v 0) w) (upN (sen S) v (sen S v - 1) w) (upN (srl S) v (srl S v - 1) w) (upN (srz S) v (fun k => srz S v (k + 1)) w)
    by_cases e : w = v
    · subst e
      rw [upN_s, upN_s, upN_s, upN_s]
      obtain ⟨k1, k2, k3, k4⟩ := h3 w hv
      refine ⟨by omega, by omega, by omega, fun k hk => ?_⟩
      have := k4 (k + 1) (by omega)
      have e2 : pz (srz S w 0) (fun k => srz S w (k + 1)) k = pz (szn S w) (srz S w) (k + 1) := by
        unfold pz
        by_cases e0 : k = 0
        · subst e0; rfl
        · rw [if_neg e0, if_neg (by omega)]
          show srz S w (k - 1 + 1) = srz S w (k + 1 - 1)
          rw [show k - 1 + 1 = k + 1 - 1 by omega]
      rw [e2]
      exact this
    · rw [upN_n e, upN_n e, upN_n e, upN_n e]
      exact h3 w hw
theorem Inv3.fin (h : Inv3 S) {v : Nat} {st w : Int} (hst : (st = 0 ∧ w = -1) ∨ (st = 2 ∧ 0 ≤ w ∧ w < 6)) : Inv3 (opEnd S v st w) := by
  obtain ⟨h1, h2, h3, h4, h5⟩ := h
  have h9 := h1.fin (v := v) (st := st) (w := w) (by omega)
  unfold opEnd at h9 ⊢
  cases hj : stk S v with
  | none => exact ⟨h1, h2, h3, h4, h5⟩
  | some j =>
    rw [hj] at h9
    refine ⟨h9, h2, h3, fun i hi => ?_, h5⟩
    show (upN (sjv S) j w i = -1 ↔ upN (sjs S) j st i = 0) ∧ -1 ≤ upN (sjv S) j w i ∧ upN (sjv S) j w i < 6
    by_cases e : i = j
    · subst e
      rw [upN_s, upN_s]
      rcases hst with ⟨rfl, rfl⟩ | ⟨rfl, hw⟩
      · exact ⟨⟨fun _ => rfl, fun _ => rfl⟩, by omega, by omega⟩
      · exact ⟨⟨fun q => by omega, fun q => by omega⟩, by omega, by omega⟩
    · rw [upN_n e, upN_n e]
      exact h4 i hi
theorem Inv3.go (h : Inv3 S) {v : Nat} (hv : v < snV S) (hg : mayS S v = true) : Inv3 (opGo S v) := by
  unfold opGo
  split
  · exact (h.adv hv hg).fin (Or.inr ⟨rfl, by omega, by have := h.1.2.1.1; omega⟩)
  · exact h.adv hv hg
theorem Inv3.give (h : Inv3 S) {v j : Nat} (hv : v < snV S) (hj : j < snJ S) (hjs : sjs S j = 0) (hg : canGo S v (sjz S j) = true) : Inv3 (opGive S v j) := by
  have ht := h.1.2.2.2.2.2.2.2.1 j hj
  have hr := h.rt hv ht hg
  have hi := h.1.give hv hj hjs hg
  obtain ⟨h1, h2, h3, h4, h5⟩ := hr
  refine ⟨hi, h2, h3, fun i hi2 => ?_, h5⟩
  have h6 := h.1.2.1.1
  show (upN (sjv S) j (v : Int) i = -1 ↔ upN (sjs S) j 1 i = 0) ∧ -1 ≤ upN (sjv S) j (v : Int) i ∧ upN (sjv S) j (v : Int) i < 6
  by_cases e : i = j
  · subst e
    rw [upN_s, upN_s]
    exact ⟨⟨fun q => by omega, fun q => by omega⟩, by omega, by omega⟩
  · rw [upN_n e, upN_n e]
    exact h4 i hi2
theorem Inv3.turn (h : Inv3 S) {v : Nat} (hv : v < snV S) : Inv3 (turnS S v) := by
  unfold turnS
  by_cases hm : mayS S v = true
  · rw [if_pos hm]; exact h.go hv hm
  · rw [if_neg hm]
    split
    · exact h.wait hv
    · exact h
theorem Inv3.turns (h : Inv3 S) : ∀ i, i ≤ snV S → Inv3 (turnsS S i) := by
  intro i
  induction i with
  | zero => intro _; exact h
  | succ i ih =>
    intro hi
    exact (ih (by omega)).turn (by rw [turnsS_nV]; omega)
theorem Inv3.tick (h : Inv3 S) : ∀ p, Inv3 (tickS S p) := by
  intro p
  induction p with
  | zero => exact h
  | succ p ih => exact ih.turns _ (by rw [tickS_nV]; exact Nat.le_refl _)
end I3
