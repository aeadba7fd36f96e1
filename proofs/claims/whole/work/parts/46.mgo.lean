/-! the reference: whether a vehicle could go, may step; moves -/
/-- only vehicle v's zone, length and route have changed -/
def FV2 (v : Nat) (M M' : AM) : Prop := ∀ c k, (c ≠ 67 ∨ k ≠ v) → (c ≠ 69 ∨ k ≠ v) → (c ≠ 70 ∨ k < 20 * v ∨ 20 * v + 20 ≤ k) → M' c k = M c k
theorem FV2.rf {v : Nat} {M : AM} : FV2 v M M := fun _ _ _ _ _ => rfl
theorem FV2.tr {v : Nat} {M M1 M2 : AM} (h : FV2 v M M1) (h2 : FV2 v M1 M2) : FV2 v M M2 := fun c k a1 a2 a3 => (h2 c k a1 a2 a3).trans (h c k a1 a2 a3)
theorem FV2.um {v : Nat} {M M' : AM} (h : FV2 v M M') {c0 k0 : Nat} {x : Int} (h0 : (c0 = 67 ∧ k0 = v) ∨ (c0 = 69 ∧ k0 = v) ∨ (c0 = 70 ∧ 20 * v ≤ k0 ∧ k0 < 20 * v + 20)) : FV2 v M (um M' c0 k0 x) := fun c k a1 a2 a3 => by
  by_cases e : c = c0
  · subst e
    rw [um_ne2 (by omega)]; exact h c k a1 a2 a3
  · rw [um_ne e]; exact h c k a1 a2 a3
theorem MP.put {M M' : AM} {n v z l : Nat} {zn rl r : Nat → Nat} {rz : Nat → Nat → Nat} (h : MP M n zn rl rz) (hF : FV2 v M M') (h1 : M' 67 v = (z : Int)) (h2 : M' 69 v = (l : Int)) (h3 : l ≤ 20) (h4 : ∀ k, k < l → M' 70 (20 * v + k) = (r k : Int)) : MP M' n (upN zn v z) (upN rl v l) (upN rz v r) := by
  refine ⟨by rw [hF 63 5 (by omega) (by omega) (by omega)]; exact h.1, fun w hw => ?_⟩
  by_cases e : w = v
  · subst e
    rw [upN_s, upN_s, upN_s]
    exact ⟨h1, h2, h3, h4⟩
  · obtain ⟨g1, g2, g3, g4⟩ := h.2 w hw
    rw [upN_n e, upN_n e, upN_n e]
    refine ⟨?_, ?_, g3, fun k hk => ?_⟩
    · rw [hF 67 w (by omega) (by omega) (by omega)]; exact g1
    · rw [hF 69 w (by omega) (by omega) (by omega)]; exact g2
    · rw [hF 70 _ (by omega) (by omega) (by omega)]; exact g4 k hk
/-- a vehicle's own cells -/
theorem RM.veh {S : SS} {M M' : AM} (h : RM S M) {v z l : Nat} {r : Nat → Nat} {e w : Int}
    (hh : ∀ c k, c ≠ 66 → c ≠ 76 → c ≠ 77 → c ≠ 78 → (c ≠ 67 ∨ k ≠ v) → (c ≠ 68 ∨ k ≠ v) → (c ≠ 69 ∨ k ≠ v) → (c ≠ 71 ∨ k ≠ v) → (c ≠ 70 ∨ k < 20 * v ∨ 20 * v + 20 ≤ k) → M' c k = M c k)
    (h1 : M' 67 v = (z : Int)) (h2 : M' 69 v = (l : Int)) (h3 : l ≤ 20) (h4 : ∀ k, k < l → M' 70 (20 * v + k) = (r k : Int)) (he : M' 68 v = e) (hw : M' 71 v = w) :
    RM (mkS (sD S) (sch S) (sln S) (snV S) (upN (szn S) v z) (upN (sen S) v e) (upN (srl S) v l) (upN (srz S) v r) (upN (swt S) v w) (stk S) (snJ S) (sjz S) (sjs S) (sjv S)) M' := by
  obtain ⟨r1, r2, r3, r4, r5, r6, r7, r8⟩ := h
  refine ⟨fun i j hi hj => ?_, ?_, fun x hx => ?_, ⟨?_, fun u hu => ?_⟩, fun u hu => ?_, fun u hu => ?_, ?_, fun j hj => ?_⟩
  · rw [hh 64 _ (by omega) (by omega) (by omega) (by omega) (by omega) (by omega) (by omega) (by omega) (by omega)]; exact r1 i j hi hj
  · rw [hh 63 _ (by omega) (by omega) (by omega) (by omega) (by omega) (by omega) (by omega) (by omega) (by omega)]; exact r2
  · rw [hh 65 _ (by omega) (by omega) (by omega) (by omega) (by omega) (by omega) (by omega) (by omega) (by omega)]; exact r3 x hx
  · rw [hh 63 _ (by omega) (by omega) (by omega) (by omega) (by omega) (by omega) (by omega) (by omega) (by omega)]; exact r4.1
  · show M' 67 u = ((upN (szn S) v z u : Nat) : Int) ∧ M' 69 u = ((upN (srl S) v l u : Nat) : Int) ∧ upN (srl S) v l u ≤ 20 ∧ ∀ k, k < upN (srl S) v l u → M' 70 (20 * u + k) = ((upN (srz S) v r u k : Nat) : Int)
    by_cases q : u = v
    · subst q
      rw [upN_s, upN_s, upN_s]
      exact ⟨h1, h2, h3, h4⟩
    · obtain ⟨g1, g2, g3, g4⟩ := r4.2 u hu
      rw [upN_n q, upN_n q, upN_n q]
      refine ⟨?_, ?_, g3, fun k hk => ?_⟩
      · rw [hh 67 _ (by omega) (by omega) (by omega) (by omega) (by omega) (by omega) (by omega) (by omega) (by omega)]; exact g1
      · rw [hh 69 _ (by omega) (by omega) (by omega) (by omega) (by omega) (by omega) (by omega) (by omega) (by omega)]; exact g2
      · rw [hh 70 _ (by omega) (by omega) (by omega) (by omega) (by omega) (by omega) (by omega) (by omega) (by omega)]; exact g4 k hk
  · show M' 68 u = upN (sen S) v e u ∧ M' 71 u = upN (swt S) v w u
    by_cases q : u = v
    · subst q
      rw [upN_s, upN_s]
      exact ⟨he, hw⟩
    · rw [upN_n q, upN_n q, hh 68 _ (by omega) (by omega) (by omega) (by omega) (by omega) (by omega) (by omega) (by omega) (by omega), hh 71 _ (by omega) (by omega) (by omega) (by omega) (by omega) (by omega) (by omega) (by omega) (by omega)]
      exact r5 u hu
  · rw [hh 72 _ (by omega) (by omega) (by omega) (by omega) (by omega) (by omega) (by omega) (by omega) (by omega)]; exact r6 u hu
  · rw [hh 63 _ (by omega) (by omega) (by omega) (by omega) (by omega) (by omega) (by omega) (by omega) (by omega)]; exact r7
  · rw [hh 73 _ (by omega) (by omega) (by omega) (by omega) (by omega) (by omega) (by omega) (by omega) (by omega), hh 74 _ (by omega) (by omega) (by omega) (by omega) (by omega) (by omega) (by omega) (by omega) (by omega), hh 75 _ (by omega) (by omega) (by omega) (by omega) (by omega) (by omega) (by omega) (by omega) (by omega)]; exact r8 j hj
section MG
variable {K : KX} {S : SS} {M : AM} {Q : Res → AG → AM → Prop}
theorem lp_mfind {n : Nat} {zn rl : Nat → Nat} {rz : Nat → Nat → Nat} (hPg : Pg n zn rl rz) (hP : MP M n zn rl rz) {z : Nat} (hz : z < 20) (hQ : Q (.inl (some (aI (o2i (fnd n zn z))))) GG M) : ∀ d i : Nat, i + d = n → (∀ y, y < i → zn y ≠ z) → WM K fM_find (EM K fM_find 80 Q) 2 [some (aR 63), some (aI z), some (aI i)] [] GG M 0 0 := by
  have h6 := hPg.1
  intro d
  induction d with
  | zero =>
    intro i hi hb
    refine BM_find_2 _ _ ⟨fun _ => ?_, fun c => absurd ?_ c⟩
    · have : fnd n zn z = none := List.find?_eq_none.mpr (fun x hx => by
        have := hb x (by have := List.mem_range.mp hx; omega)
        simpa using this)
      rw [this] at hQ
      exact hQ
    · rw [hP.1, wrn (by omega), wrn (by omega)]; omega
  | succ d ih =>
    intro i hi hb
    have hin : i < n := by omega
    have := (hPg.2 i hin).1
    refine BM_find_2 _ _ ⟨fun c => ?_, fun _ => ⟨i, wrn (by omega), by omega, ?_⟩⟩
    · rw [hP.1, wrn (by omega), wrn (by omega)] at c; omega
    · rw [(hP.2 i hin).1, wrn (by omega), wrn (by omega)]
      refine ⟨fun c => ?_, fun c => ?_⟩
      · have : fnd n zn z = some i := List.find?_range_eq_some.mpr ⟨by simp; omega, List.mem_range.mpr hin, fun j hj => by simpa using hb j hj⟩
        rw [this] at hQ
        exact hQ
      · exact ih (i + 1) (by omega) (fun y hy => by
          by_cases e : y = i
          · subst e; omega
          · exact hb y (by omega))
theorem sp_mfind (hst : K.1.stackTraces = false) {n : Nat} {zn rl : Nat → Nat} {rz : Nat → Nat → Nat} (hPg : Pg n zn rl rz) (hP : MP M n zn rl rz) {z : Nat} (hz : z < 20) (hQ : Q (.inl (some (aI (o2i (fnd n zn z))))) GG M) : MetA K fM_find [aR 63, aI z] GG M Q :=
  EM_find hst _ (BM_find_0 _ (lp_mfind hPg hP hz hQ n 0 (by omega) (fun y hy => by omega)))
theorem pgm (h : Inv S) {v z l : Nat} {r : Nat → Nat} (hv : v < snV S) (hz : z < 20) (hr : ∀ k, k < l → r k < 20 ∧ r k ≠ z) : Pg (snV S) (upN (szn S) v z) (upN (srl S) v l) (upN (srz S) v r) := by
  have := pg_pos h hv hz hr
  rw [if_neg (by omega)] at this
  exact this
theorem b2i_t {P : Prop} [Decidable P] (h : P) : b2i (decide P) = 1 := by rw [decide_eq_true h]; rfl
theorem b2i_f {P : Prop} [Decidable P] (h : ¬ P) : b2i (decide P) = 0 := by rw [decide_eq_false h]; rfl
theorem sp_couldGo (hst : K.1.stackTraces = false) (hI : Inv S) (hR : RM S M) {v t : Nat} (hv : v < snV S) (ht : t < 20) (hQ : ∀ M', FK S M M' → (canGo S v t = true → ∀ k, k < sD S (szn S v) t → M' 70 (20 * v + k) = (wyD (sD S) (szn S v) t (k + 1) : Int)) → Q (.inl (some (aI (lenS S v t)))) GG M') : MetA K fM_couldGo [aR 63, aI v, aI t] GG M Q := by
  have h6 := hI.2.1.1
  have hv6 : v < 6 := by omega
  obtain ⟨r1, r2, r3, r4, r5, r6, r7, r8⟩ := hR
  obtain ⟨m1, m2, m3, m4⟩ := r4.2 v hv
  have hz := (hI.2.1.2 v hv).1
  have hD := hI.1
  have gc := hD.2.2.2.2.2 (szn S v) t hz ht
  have no : canGo S v t = false → ∀ M', FK S M M' → Q (.inl (some (aI (-1)))) GG M' := fun h M' hF => by
    have := hQ M' hF (fun q => by rw [h] at q; cases q)
    unfold lenS at this
    rw [if_neg (by rw [h]; decide)] at this
    exact this
  refine EM_couldGo hst _ _ (BM_couldGo_0 _ _ ⟨v, wrn (by omega), hv6, ?_⟩)
  rw [m2, wrn (by omega)]
  refine ⟨fun c => no (by unfold canGo; simp; intro q; omega) M FK.rf, fun c => ⟨v, wrn (by omega), hv6, ?_⟩⟩
  rw [m1, wrn (by omega), wrn (by omega)]
  refine ⟨fun c2 => no (by unfold canGo; simp; intro _ q; omega) M FK.rf, fun c2 => ?_⟩
  refine sp_way hst hD hv6 hz ht m1 r1 (fun M1 f1 w1 => ⟨rfl, ?_⟩)
  have k1 : FK S M M1 := ⟨fun c k a1 _ _ _ a5 => f1 c k a1 a5, fun _ _ _ _ => f1 _ _ (by omega) (by omega)⟩
  dsimp only
  by_cases h1 : sD S (szn S v) t < 1000
  · have e1 : fzD (sD S) t (szn S v) = (sD S (szn S v) t : Int) := if_pos h1
    rw [e1]
    refine ⟨fun c => ?_, fun _ => ⟨v, wrn (by omega), hv6, ?_⟩⟩
    · rw [wr_m1, wrn (by omega)] at c; omega
    · refine sp_toC hst hD ht (fun i j hi hj => by rw [f1 64 _ (by omega) (by omega)]; exact r1 i j hi hj) (fun z hz2 => by rw [f1 65 _ (by omega) (by omega)]; exact r3 z hz2) (fun M2 f2 => ⟨rfl, ?_⟩)
      have k2 : FK S M M2 := k1.tr (FK.f1 f2)
      dsimp only
      have be := enD_bd (ch := sch S) gc
      have e2 : (sD S (szn S v) t : Int) + (if mnC (sch S) (sD S) t 20 < 1000 then (mnC (sch S) (sD S) t 20 : Int) else 0) = (enD (sch S) (sD S) (szn S v) t : Int) := by
        unfold enD
        by_cases q : mnC (sch S) (sD S) t 20 < 1000
        · rw [if_pos q, if_pos q]; rfl
        · rw [if_neg q, if_neg q]; omega
      rw [e2, wrn (n := enD _ _ _ _) (by omega), f1 68 _ (by omega) (by omega), (r5 v hv).1]
      refine ⟨fun c3 => ?_, fun c3 => no (by unfold canGo; simp; intro _ _ _ q; omega) M2 k2⟩
      obtain ⟨w1', w2, w3⟩ := way_ok hD hz ht h1
      refine sp_set hst hv6 w1' (r := fun k => wyD (sD S) (szn S v) t (k + 1)) (fun k hk => by rw [f2 78 _ (by omega)]; exact w1 h1 k hk) (fun M3 s1 s2 s3 s4 s5 => ⟨rfl, ?_⟩)
      have r4' : MP M2 (snV S) (szn S) (srl S) (srz S) := (RM.fk ⟨r1, r2, r3, r4, r5, r6, r7, r8⟩ k2).2.2.2.1
      have z3 : M3 67 v = (szn S v : Int) := by rw [s1 67 _ (by omega) (by omega)]; exact (r4'.2 v hv).1
      have hP3 : MP M3 (snV S) (upN (szn S) v (szn S v)) (upN (srl S) v (sD S (szn S v) t)) (upN (srz S) v (fun k => wyD (sD S) (szn S v) t (k + 1))) := by
        refine ⟨by rw [s1 63 _ (by omega) (by omega)]; exact r4'.1, fun w hw => ?_⟩
        by_cases q : w = v
        · subst q
          rw [upN_s, upN_s, upN_s]
          exact ⟨z3, s3, w1', s5⟩
        · obtain ⟨g1, g2, g3, g4⟩ := r4'.2 w hw
          rw [upN_n q, upN_n q, upN_n q]
          exact ⟨by rw [s1 67 _ (by omega) (by omega)]; exact g1, by rw [s2 w q]; exact g2, g3, fun k hk => by rw [s4 w k q (by omega)]; exact g4 k hk⟩
      refine sp_msafe hst (pgm hI hv hz w2) hP3 (fun M4 f4 _ _ => ⟨rfl, v, wrn (by omega), hv6, ?_⟩)
      have k4 : FK S M (um M4 69 v 0) := by
        refine ⟨fun c k a1 a2 a3 a4 a5 => ?_, fun w k hw hk => ?_⟩
        · by_cases q : c = 69
          · subst q
            by_cases q2 : k = v
            · subst q2
              rw [um_self, m2]; omega
            · rw [um_ne2 q2, f4 _ _ (by omega) (by omega), s2 k q2]
              exact k2.1 69 k (by omega) (by omega) (by omega) (by omega) (by omega)
          · rw [um_ne q, f4 _ _ a3 a4, s1 _ _ q a2]
            exact k2.1 c k a1 a2 a3 a4 a5
        · have q : w ≠ v := fun q => by subst q; omega
          have := (r4.2 w hw).2.2.1
          rw [um_ne (by omega), f4 _ _ (by omega) (by omega), s4 w k q (by omega)]
          exact k2.2 w k hw hk
      rw [← cntW_lt hv]
      by_cases h2 : 0 < cntW S v (szn S v) (sD S (szn S v) t) (fun k => wyD (sD S) (szn S v) t (k + 1))
      · rw [b2i_t h2]
        refine ⟨fun c => absurd c (by rw [wr_1]; decide), fun _ => ?_⟩
        have hc : canGo S v t = true := by
          unfold canGo
          simp only [Bool.and_eq_true, decide_eq_true_eq]
          exact ⟨⟨⟨⟨by omega, by omega⟩, h1⟩, c3⟩, h2⟩
        have := hQ _ k4 (fun _ k hk => by rw [um_ne (by omega), f4 _ _ (by omega) (by omega)]; exact s5 k hk)
        unfold lenS at this
        rw [if_pos hc] at this
        exact this
      · rw [b2i_f h2]
        exact ⟨fun _ => no (by unfold canGo; simp; intro _ _ _ _; omega) _ k4, fun c => absurd wr_0 c⟩
  · have e1 : fzD (sD S) t (szn S v) = -1 := if_neg h1
    rw [e1]
    exact ⟨fun _ => no (by unfold canGo; simp; intro _ _ q; omega) M1 k1, fun c => absurd rfl c⟩
end MG
