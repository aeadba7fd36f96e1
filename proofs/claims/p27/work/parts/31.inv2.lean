/-! what every call keeps -/
def opPos (S : SS) (v z l : Nat) (r : Nat → Nat) : SS := mkS (sD S) (sch S) (sln S) (snV S) (upN (szn S) v z) (sen S) (upN (srl S) v l) (upN (srz S) v r) (swt S) (stk S) (snJ S) (sjz S) (sjs S) (sjv S)
section INVS
variable {S : SS}
theorem Inv.pos (h : Inv S) {v z l : Nat} {r : Nat → Nat} (hv : v < snV S) (hz : z < 20) (hl : l ≤ 20) (hr : ∀ k, k < l → r k < 20 ∧ r k ≠ z) (hi : ∀ a b, a < l → b < l → r a = r b → a = b) (hs : 0 < cntW S v z l r) : Inv (opPos S v z l r) := by
  obtain ⟨h1, h2, h3, h4, h5, h6, h7, h8, h9, h10, h11⟩ := h
  refine ⟨h1, ⟨h2.1, fun w hw => ?_⟩, h3, fun w hw => ?_, fun w a b ha hb hab => ?_, fun w hw => ?_, h7, h8, h9, h10, ?_⟩
  · show upN (szn S) v z w < 20 ∧ ∀ k, k < upN (srl S) v l w → upN (srz S) v r w k < 20 ∧ upN (srz S) v r w k ≠ upN (szn S) v z w
    by_cases e : w = v
    · subst e
      rw [upN_s, upN_s, upN_s]
      exact ⟨hz, hr⟩
    · rw [upN_n e, upN_n e, upN_n e]
      exact h2.2 w hw
  · show upN (srl S) v l w ≤ 20
    by_cases e : w = v
    · subst e; rw [upN_s]; exact hl
    · rw [upN_n e]; exact h4 w hw
  · have ha : a < upN (srl S) v l w := ha
    have hb : b < upN (srl S) v l w := hb
    have hab : upN (srz S) v r w a = upN (srz S) v r w b := hab
    by_cases e : w = v
    · subst e
      rw [upN_s] at ha hb hab
      exact hi a b ha hb hab
    · rw [upN_n e] at ha hb hab
      exact h5 w a b ha hb hab
  · have hw2 : snV S ≤ w := hw
    have := h6 w hw2
    refine ⟨?_, this.2⟩
    show upN (srl S) v l w = 0
    rw [upN_n (by omega)]
    exact this.1
  · rw [cntW_lt hv] at hs
    exact hs
theorem opRt_pos {v t : Nat} : opRt S v t = opPos S v (szn S v) (sD S (szn S v) t) (fun k => wyD (sD S) (szn S v) t (k + 1)) := by
  unfold opRt opPos
  rw [upN_self]
theorem opDrop_pos {v : Nat} : opDrop S v = opPos S v (szn S v) 0 (srz S v) := by
  unfold opDrop opPos
  rw [upN_self, upN_self]
theorem way_ok (h : GM (sD S)) {a t : Nat} (ha : a < 20) (ht : t < 20) (hd : sD S a t < 1000) : sD S a t ≤ 20 ∧ (∀ k, k < sD S a t → wyD (sD S) a t (k + 1) < 20 ∧ wyD (sD S) a t (k + 1) ≠ a) ∧ (∀ i j, i < sD S a t → j < sD S a t → wyD (sD S) a t (i + 1) = wyD (sD S) a t (j + 1) → i = j) := by
  have := h.small ha ht hd
  refine ⟨by omega, fun k hk => ⟨(wyD_spec h ha ht hd (k + 1) (by omega)).1, fun e => ?_⟩, fun i j hi hj e => ?_⟩
  · have := wyD_inj h ha ht hd (i := k + 1) (j := 0) (by omega) (by omega) e
    omega
  · have := wyD_inj h ha ht hd (i := i + 1) (j := j + 1) (by omega) (by omega) e
    omega
theorem canGo_spec {v t : Nat} (h : canGo S v t = true) : srl S v = 0 ∧ szn S v ≠ t ∧ sD S (szn S v) t < 1000 ∧ (enD (sch S) (sD S) (szn S v) t : Int) ≤ wr (sen S v) ∧ 0 < cntW S v (szn S v) (sD S (szn S v) t) (fun k => wyD (sD S) (szn S v) t (k + 1)) := by
  unfold canGo at h
  simp only [Bool.and_eq_true, decide_eq_true_eq] at h
  exact ⟨h.1.1.1.1, h.1.1.1.2, h.1.1.2, h.1.2, h.2⟩
theorem Inv.rt (h : Inv S) {v t : Nat} (hv : v < snV S) (ht : t < 20) (hg : canGo S v t = true) : Inv (opRt S v t) := by
  obtain ⟨g1, g2, g3, g4, g5⟩ := canGo_spec hg
  have hz := (h.2.1.2 v hv).1
  obtain ⟨w1, w2, w3⟩ := way_ok h.1 hz ht g3
  rw [opRt_pos]
  exact h.pos hv hz w1 w2 w3 g5
theorem Inv.drop (h : Inv S) {v : Nat} (hv : v < snV S) (hs : 0 < cntW S v (szn S v) 0 (srz S v)) : Inv (opDrop S v) := by
  rw [opDrop_pos]
  exact h.pos hv (h.2.1.2 v hv).1 (by omega) (fun k hk => by omega) (fun a b ha hb _ => by omega) hs
theorem mayS_spec {v : Nat} (h : mayS S v = true) : 0 < srl S v ∧ fnd (snV S) (szn S) (srz S v 0) = none ∧ 0 < cntW S v (srz S v 0) (srl S v - 1) (fun k => srz S v (k + 1)) := by
  unfold mayS at h
  simp only [Bool.and_eq_true, decide_eq_true_eq] at h
  exact ⟨h.1.1, h.1.2, h.2⟩
theorem Inv.adv (h : Inv S) {v : Nat} (hv : v < snV S) (hg : mayS S v = true) : Inv (opAdv S v) := by
  obtain ⟨g1, g2, g3⟩ := mayS_spec hg
  have hp := h.2.1.2 v hv
  have hi := h.2.2.2.2.1 v
  have hl := h.2.2.2.1 v (by have := h.2.1.1; omega)
  have h0 := h.pos hv (hp.2 0 g1).1 (by omega) (fun k hk => ⟨(hp.2 (k + 1) (by omega)).1, fun e => by
    have := hi (k + 1) 0 (by omega) g1 e
    omega⟩) (fun a b ha hb e => by
    have := hi (a + 1) (b + 1) (by omega) (by omega) e
    omega) g3
  exact h0
theorem Inv.fin (h : Inv S) {v : Nat} {st w : Int} (hst : st = 0 ∨ st = 2) : Inv (opEnd S v st w) := by
  unfold opEnd
  cases hj : stk S v with
  | none => exact h
  | some j =>
    obtain ⟨h1, h2, h3, h4, h5, h6, h7, h8, h9, h10, h11⟩ := h
    have hv := h7 v j hj
    refine ⟨h1, h2, h3, h4, h5, fun u hu => ?_, fun u i hu => ?_, h8, fun i hi => ?_, fun i => ?_, h11⟩
    · have := h6 u hu
      refine ⟨this.1, this.2.1, ?_⟩
      show upN (stk S) v none u = none
      by_cases e : u = v
      · subst e; rw [upN_s]
      · rw [upN_n e]; exact this.2.2
    · have hu2 : upN (stk S) v none u = some i := hu
      by_cases e : u = v
      · subst e; rw [upN_s] at hu2; cases hu2
      · rw [upN_n e] at hu2
        have := h7 u i hu2
        have hij : i ≠ j := fun q => by
          subst q
          have h12 := this.2.2
          rw [hv.2.2] at h12
          omega
        refine ⟨this.1, ?_, ?_⟩
        · show upN (sjs S) j st i = 1
          rw [upN_n hij]; exact this.2.1
        · show upN (sjv S) j w i = u
          rw [upN_n hij]; exact this.2.2
    · have hi2 : snJ S ≤ i := hi
      have hij : i ≠ j := by have := hv.1; omega
      show upN (sjs S) j st i = 0 ∧ upN (sjv S) j w i = -1
      rw [upN_n hij, upN_n hij]
      exact h9 i hi2
    · show upN (sjs S) j st i = 0 ∨ upN (sjs S) j st i = 1 ∨ upN (sjs S) j st i = 2
      by_cases e : i = j
      · subst e; rw [upN_s]; omega
      · rw [upN_n e]; exact h10 i
theorem Inv.go (h : Inv S) {v : Nat} (hv : v < snV S) (hg : mayS S v = true) : Inv (opGo S v) := by
  unfold opGo
  split
  · exact (h.adv hv hg).fin (Or.inr rfl)
  · exact h.adv hv hg
theorem Inv.give (h : Inv S) {v j : Nat} (hv : v < snV S) (hj : j < snJ S) (hjs : sjs S j = 0) (hg : canGo S v (sjz S j) = true) : Inv (opGive S v j) := by
  have ht := h.2.2.2.2.2.2.2.1 j hj
  have hr := h.rt hv ht hg
  obtain ⟨h1, h2, h3, h4, h5, h6, h7, h8, h9, h10, h11⟩ := hr
  obtain ⟨k1, k2, k3, k4, k5, k6, k7, k8, k9, k10, k11⟩ := h
  refine ⟨h1, h2, h3, h4, h5, fun u hu => ?_, fun u i hu => ?_, h8, fun i hi => ?_, fun i => ?_, h11⟩
  · have hu2 : snV S ≤ u := hu
    have := h6 u hu
    refine ⟨this.1, this.2.1, ?_⟩
    show upN (stk S) v (some j) u = none
    rw [upN_n (by omega)]
    exact (k6 u hu2).2.2
  · have hu2 : upN (stk S) v (some j) u = some i := hu
    by_cases e : u = v
    · subst e
      rw [upN_s] at hu2
      cases hu2
      refine ⟨hj, ?_, ?_⟩
      · show upN (sjs S) j 1 j = 1
        rw [upN_s]
      · show upN (sjv S) j (u : Int) j = u
        rw [upN_s]
    · rw [upN_n e] at hu2
      have := k7 u i hu2
      have hij : i ≠ j := fun q => by
        subst q
        have h12 := this.2.1
        rw [hjs] at h12
        omega
      refine ⟨this.1, ?_, ?_⟩
      · show upN (sjs S) j 1 i = 1
        rw [upN_n hij]; exact this.2.1
      · show upN (sjv S) j (v : Int) i = u
        rw [upN_n hij]; exact this.2.2
  · have hi2 : snJ S ≤ i := hi
    show upN (sjs S) j 1 i = 0 ∧ upN (sjv S) j (v : Int) i = -1
    rw [upN_n (by omega), upN_n (by omega)]
    exact k9 i hi2
  · show upN (sjs S) j 1 i = 0 ∨ upN (sjs S) j 1 i = 1 ∨ upN (sjs S) j 1 i = 2
    by_cases e : i = j
    · subst e; rw [upN_s]; omega
    · rw [upN_n e]; exact k10 i
theorem Inv.turn (h : Inv S) {v : Nat} (hv : v < snV S) : Inv (turnS S v) := by
  unfold turnS
  by_cases hm : mayS S v = true
  · rw [if_pos hm]; exact h.go hv hm
  · rw [if_neg hm]
    split
    · exact h.wait hv
    · exact h
theorem opEnd_nV {v : Nat} {st w : Int} : snV (opEnd S v st w) = snV S := by
  unfold opEnd
  cases stk S v <;> rfl
theorem opGo_nV {v : Nat} : snV (opGo S v) = snV S := by
  unfold opGo
  split
  · rw [opEnd_nV]; rfl
  · rfl
theorem turn_nV {v : Nat} : snV (turnS S v) = snV S := by
  unfold turnS
  split
  · exact opGo_nV
  · split <;> rfl
end INVS
-- the class's cells for a state
def RX (S : SS) (M : AM) : Prop := PX M (sD S) ∧ M 1 2 = sln S ∧ (∀ z, z < 20 → M 23 z = b2i (sch S z)) ∧ FLT M (snV S) (szn S) (srl S) (srz S) ∧
  (∀ v, v < 6 → M (30 + 2 * v) 5 = sen S v ∧ M (30 + 2 * v) 6 = swt S v ∧ M (30 + 2 * v) 7 = o2i (stk S v)) ∧ M 0 5 = (snJ S : Int) ∧ ∀ j, j < 20 → M (43 + j) 0 = (sjz S j : Int) ∧ M (43 + j) 1 = sjs S j ∧ M (43 + j) 2 = sjv S j
theorem RX.ft {S : SS} {M M' : AM} (h : RX S M) (hF : FT M M') : RX S M' := by
  obtain ⟨h1, h2, h3, h4, h5, h6, h7⟩ := h
  refine ⟨fun i j hi hj => ?_, ?_, fun z hz => ?_, h4.ft hF, fun v hv => ?_, ?_, fun j hj => ?_⟩
  · rw [hF _ _ (by omega)]; exact h1 i j hi hj
  · rw [hF _ _ (by omega)]; exact h2
  · rw [hF _ _ (by omega)]; exact h3 z hz
  · rw [hF _ _ (by omega), hF _ _ (by omega), hF _ _ (by omega)]; exact h5 v hv
  · rw [hF _ _ (by omega)]; exact h6
  · rw [hF _ _ (by omega), hF _ _ (by omega), hF _ _ (by omega)]; exact h7 j hj
/-- the reference's cells have not changed -/
def FX (M M' : AM) : Prop := ∀ c k, 63 ≤ c → M' c k = M c k
theorem FX.rf {M : AM} : FX M M := fun _ _ _ => rfl
theorem FX.tr {M M1 M2 : AM} (h : FX M M1) (h2 : FX M1 M2) : FX M M2 := fun c k hc => (h2 c k hc).trans (h c k hc)
theorem FX.of {M M' : AM} (h : FT M M') : FX M M' := fun c k hc => h c k (by omega)
theorem FX.um {M M' : AM} (h : FX M M') {c k : Nat} {x : Int} (hc : c < 63) : FX M (um M' c k x) := fun c' k' h' => by rw [um_ne (by omega)]; exact h c' k' h'
