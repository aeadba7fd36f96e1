/-! the reference: moves and steps -/
theorem FS.fv_none {M M' : AM} (h : FS M M') : ∀ c k, c ≠ 76 → c ≠ 77 → M' c k = M c k := h
section MM
variable {K : KX} {S : SS} {M : AM} {Q : Res → AG → AM → Prop}
theorem w20 {v k : Nat} (hv : v < 6) (hk : k < 20) : wr (20 * (v : Int) + (k : Int)) = ((20 * v + k : Nat) : Int) := (wri (by omega) (by omega)).trans (by omega)
theorem w200 {v : Nat} (hv : v < 6) : wr (20 * (v : Int)) = ((20 * v + 0 : Nat) : Int) := (wri (by omega) (by omega)).trans (by omega)
theorem lp_mv {v l : Nat} (hv : v < 6) (hl : l < 20) {r : Nat → Nat} {M0 : AM} (h69 : M0 69 v = (l : Int)) (hQ : ∀ M' : AM, FV2 v M0 M' → M' 67 v = M0 67 v → M' 69 v = (l : Int) → (∀ k, k < l → M' 70 (20 * v + k) = (r (k + 1) : Int)) → Q (.inl none) GG M') :
    ∀ (d k : Nat) (M : AM), k + d = l → FV2 v M0 M → M 67 v = M0 67 v → M 69 v = M0 69 v → (∀ i, i < k → M 70 (20 * v + i) = (r (i + 1) : Int)) → (∀ i, k ≤ i → i ≤ l → M 70 (20 * v + i) = (r i : Int)) → WM K fM_move (EM K fM_move 80 Q) 27 [some (aR 63), some (aI v), some (aI k)] [] GG M 0 0 := by
  intro d
  induction d with
  | zero =>
    intro k M hk hF h1 h2 h3 h4
    have : k = l := by omega
    subst this
    refine BM_move_27 _ _ ⟨v, wrn (by omega), hv, fun _ => hQ M hF h1 (h2.trans h69) h3, fun c => absurd ?_ c⟩
    rw [h2, h69]; omega
  | succ d ih =>
    intro k M hk hF h1 h2 h3 h4
    refine BM_move_27 _ _ ⟨v, wrn (by omega), hv, fun c => ?_, fun _ => ⟨20 * v + (k + 1), (wri (by omega) (by omega)).trans (by omega), by omega, 20 * v + k, w20 hv (by omega), by omega, ih (k + 1) _ (by omega) (hF.um (by omega)) ?_ ?_ (fun i hi => ?_) (fun i hi hi2 => ?_)⟩⟩
    · rw [h2, h69, wrn (by omega), wrn (by omega)] at c; omega
    · rw [um_ne (by omega)]; exact h1
    · rw [um_ne (by omega)]; exact h2
    · by_cases e : i = k
      · subst e; rw [um_self]; exact h4 _ (by omega) (by omega)
      · rw [um_ne2 (by omega)]; exact h3 i (by omega)
    · rw [um_ne2 (by omega)]; exact h4 i (by omega) hi2
theorem sp_mmove (hst : K.1.stackTraces = false) {v l : Nat} (hv : v < 6) (hl : l < 20) {r : Nat → Nat} (h69 : M 69 v = ((l + 1 : Nat) : Int)) (h70 : ∀ k, k < l + 1 → M 70 (20 * v + k) = (r k : Int))
    (hQ : ∀ M' : AM, FV2 v M M' → M' 67 v = (r 0 : Int) → M' 69 v = (l : Int) → (∀ k, k < l → M' 70 (20 * v + k) = (r (k + 1) : Int)) → Q (.inl none) GG M') : MetA K fM_move [aR 63, aI v] GG M Q := by
  refine EM_move hst _ (BM_move_0 _ ⟨20 * v + 0, w200 hv, by omega, v, wrn (by omega), hv, v, wrn (by omega), hv, v, wrn (by omega), hv, ?_⟩)
  have e69 : um M 67 v (M 70 (20 * v + 0)) 69 v - 1 = (l : Int) := by rw [um_ne (by omega), h69]; omega
  rw [e69]
  refine lp_mv hv hl um_self (fun M1 f1 a1 a2 a3 => hQ M1 (((FV2.rf.um (Or.inl ⟨rfl, rfl⟩)).um (Or.inr (Or.inl ⟨rfl, rfl⟩))).tr f1) ?_ a2 a3) l 0 _ (by omega) FV2.rf rfl rfl (fun i hi => by omega) (fun i _ hi2 => ?_)
  · rw [a1, um_ne (by omega), um_self]; exact h70 0 (by omega)
  · rw [um_ne (by omega), um_ne (by omega)]; exact h70 i (by omega)
theorem lp_bk {v l : Nat} {z : Nat} (hv : v < 6) (hl : l < 20) {r : Nat → Nat} {M0 : AM} (h69 : M0 69 v = (l : Int)) (hQ : ∀ M' : AM, FV2 v M0 M' → M' 67 v = (z : Int) → M' 69 v = ((l + 1 : Nat) : Int) → M' 70 (20 * v) = M0 67 v → (∀ k, k < l → M' 70 (20 * v + (k + 1)) = (r k : Int)) → Q (.inl none) GG M') :
    ∀ (k : Nat) (M : AM), k ≤ l → FV2 v M0 M → M 67 v = M0 67 v → M 69 v = M0 69 v → (∀ i, i < k → M 70 (20 * v + i) = (r i : Int)) → (∀ i, k ≤ i → i < l → M 70 (20 * v + (i + 1)) = (r i : Int)) → WM K fM_moveBack (EM K fM_moveBack 80 Q) 7 [some (aR 63), some (aI v), some (aI z), some (aI k)] [] GG M 0 0 := by
  intro k
  induction k with
  | zero =>
    intro M hk hF h1 h2 h3 h4
    refine BM_moveBack_7 _ _ _ ⟨fun _ => ⟨v, wrn (by omega), hv, 20 * v + 0, w200 hv, by omega, v, wrn (by omega), hv, v, wrn (by omega), hv, v, wrn (by omega), hv, hQ _ (((hF.um (by omega)).um (by omega)).um (by omega)) um_self ?_ ?_ (fun i hi => ?_)⟩, fun c => absurd ?_ c⟩
    · rw [um_ne (by omega), um_self, um_ne (by omega), h2, h69]; rfl
    · rw [um_ne (by omega), um_ne (by omega), Nat.add_zero, um_self]; exact h1
    · rw [um_ne (by omega), um_ne (by omega), um_ne2 (by omega)]; exact h4 i (by omega) hi
    · rw [wrn (by omega)]; omega
  | succ k ih =>
    intro M hk hF h1 h2 h3 h4
    have e : ((k + 1 : Nat) : Int) + (-1) = (k : Int) := by omega
    refine BM_moveBack_7 _ _ _ ⟨fun c => ?_, fun _ => ⟨20 * v + k, (wri (by omega) (by omega)).trans (by omega), by omega, 20 * v + (k + 1), w20 hv (by omega), by omega, ?_⟩⟩
    · rw [wrn (by omega)] at c; omega
    · rw [e]
      refine ih _ (by omega) (hF.um (by omega)) ?_ ?_ (fun i hi => ?_) (fun i hi hi2 => ?_)
      · rw [um_ne (by omega)]; exact h1
      · rw [um_ne (by omega)]; exact h2
      · rw [um_ne2 (by omega)]; exact h3 i (by omega)
      · by_cases q : i = k
        · subst q; rw [um_self]; exact h3 i (by omega)
        · rw [um_ne2 (by omega)]; exact h4 i (by omega) hi2
theorem sp_mback (hst : K.1.stackTraces = false) {v l z : Nat} (hv : v < 6) (hl : l < 20) {r : Nat → Nat} (h69 : M 69 v = (l : Int)) (h70 : ∀ k, k < l → M 70 (20 * v + k) = (r k : Int))
    (hQ : ∀ M' : AM, FV2 v M M' → M' 67 v = (z : Int) → M' 69 v = ((l + 1 : Nat) : Int) → M' 70 (20 * v) = M 67 v → (∀ k, k < l → M' 70 (20 * v + (k + 1)) = (r k : Int)) → Q (.inl none) GG M') : MetA K fM_moveBack [aR 63, aI v, aI z] GG M Q := by
  refine EM_moveBack hst _ _ (BM_moveBack_0 _ _ ⟨v, wrn (by omega), hv, ?_⟩)
  have := lp_bk (K := K) (z := z) hv hl h69 hQ l M (by omega) FV2.rf rfl rfl h70 (fun i h1 h2 => by omega)
  rw [h69]
  exact this
theorem sp_mmay (hst : K.1.stackTraces = false) (hI : Inv S) (hR : RM S M) {v : Nat} (hv : v < snV S) (hQ : ∀ M', FK S M M' → Q (.inl (some (aI (b2i (mayS S v))))) GG M') : MetA K fM_mayStep [aR 63, aI v] GG M Q := by
  have h6 := hI.2.1.1
  have hv6 : v < 6 := by omega
  have hP := hR.2.2.2.1
  obtain ⟨m1, m2, m3, m4⟩ := hP.2 v hv
  have hp := hI.2.1.2 v hv
  have hi := hI.2.2.2.2.1 v
  have no : mayS S v = false → ∀ M', FK S M M' → Q (.inl (some (aI 0))) GG M' := fun h M' hF => by
    have := hQ M' hF
    rw [h] at this
    exact this
  refine EM_mayStep hst _ (BM_mayStep_0 _ ⟨v, wrn (by omega), hv6, ?_⟩)
  rw [m2, wrn (by omega)]
  refine ⟨fun c => no (by unfold mayS; simp; intro q; omega) M FK.rf, fun c => ⟨20 * v + 0, w200 hv6, by omega, ?_⟩⟩
  have hl0 : 0 < srl S v := by omega
  rw [m4 0 hl0]
  refine sp_mfind hst hI.2.1 hP (hp.2 0 hl0).1 ⟨rfl, ?_⟩
  dsimp only
  cases hf : fnd (snV S) (szn S) (srz S v 0) with
  | some u =>
    have hu := List.mem_range.mp (List.mem_of_find?_eq_some hf)
    have e : wr (o2i (some u)) = (u : Int) := wrn (by omega)
    refine ⟨fun c2 => ?_, fun _ => no (by unfold mayS; rw [hf]; simp) M FK.rf⟩
    rw [e, wr_m1] at c2; omega
  | none =>
    refine ⟨fun _ => ⟨v, wrn (by omega), hv6, ?_⟩, fun c2 => absurd rfl c2⟩
    obtain ⟨l, hl⟩ : ∃ l, srl S v = l + 1 := ⟨srl S v - 1, by omega⟩
    refine sp_mmove (l := l) (r := srz S v) hst hv6 (by omega) (by rw [m2, hl]) (fun k hk => m4 k (by omega)) (fun M1 f1 a1 a2 a3 => ⟨rfl, ?_⟩)
    have hP1 : MP M1 (snV S) (upN (szn S) v (srz S v 0)) (upN (srl S) v l) (upN (srz S) v (fun k => srz S v (k + 1))) := hP.put f1 a1 a2 (by omega) a3
    refine sp_msafe hst (pgm hI hv (hp.2 0 hl0).1 (fun k hk => ⟨(hp.2 (k + 1) (by omega)).1, fun e => by
      have := hi (k + 1) 0 (by omega) hl0 e
      omega⟩)) hP1 (fun M2 f2 _ _ => ⟨rfl, ?_⟩)
    rw [m1]
    refine sp_mback (l := l) (r := fun k => srz S v (k + 1)) hst hv6 (by omega) (by rw [f2 _ _ (by omega) (by omega)]; exact a2) (fun k hk => by rw [f2 _ _ (by omega) (by omega)]; exact a3 k hk) (fun M3 f3 b1 b2 b3 b4 => ⟨rfl, b2i_01 _, ?_⟩)
    have hF : FK S M M3 := by
      refine ⟨fun c k c1 c2 c3 c4 c5 => ?_, fun w k hw hk => ?_⟩
      · by_cases e : c = 67 ∧ k = v
        · rw [e.1, e.2, b1, m1]
        · by_cases e2 : c = 69 ∧ k = v
          · rw [e2.1, e2.2, b2, m2, hl]
          · rw [f3 c k (by omega) (by omega) (by omega), f2 c k c3 c4, f1 c k (by omega) (by omega) (by omega)]
      · by_cases e : w = v
        · subst e
          cases k with
          | zero => rw [Nat.add_zero, b3, f2 _ _ (by omega) (by omega), a1]; exact (m4 0 hk).symm
          | succ k => rw [b4 k (by omega)]; exact (m4 (k + 1) hk).symm
        · have := (hP.2 w hw).2.2.1
          rw [f3 _ _ (by omega) (by omega) (by omega), f2 _ _ (by omega) (by omega), f1 _ _ (by omega) (by omega) (by omega)]
    have hq := hQ M3 hF
    rw [← cntW_lt hv]
    have : mayS S v = decide (0 < cntW S v (srz S v 0) l (fun k => srz S v (k + 1))) := by
      unfold mayS
      rw [hf, decide_eq_true hl0, hl]
      simp
    rw [this] at hq
    exact hq
theorem RM.task {S : SS} {M : AM} (hI : Inv S) (h : RM S M) {v j : Nat} {st w : Int} (hv : v < 6) (hj : stk S v = some j) : RM (opEnd S v st w) (um (um (um M 74 j st) 75 j w) 72 v (-1)) := by
  obtain ⟨r1, r2, r3, r4, r5, r6, r7, r8⟩ := h
  unfold opEnd
  rw [hj]
  refine ⟨fun i k hi hk => ?_, ?_, fun x hx => ?_, ⟨?_, fun u hu => ?_⟩, fun u hu => ?_, fun u hu => ?_, ?_, fun i hi => ?_⟩
  · rw [um_ne (by omega), um_ne (by omega), um_ne (by omega)]; exact r1 i k hi hk
  · rw [um_ne (by omega), um_ne (by omega), um_ne (by omega)]; exact r2
  · rw [um_ne (by omega), um_ne (by omega), um_ne (by omega)]; exact r3 x hx
  · rw [um_ne (by omega), um_ne (by omega), um_ne (by omega)]; exact r4.1
  · obtain ⟨g1, g2, g3, g4⟩ := r4.2 u hu
    refine ⟨?_, ?_, g3, fun k hk => ?_⟩
    · rw [um_ne (by omega), um_ne (by omega), um_ne (by omega)]; exact g1
    · rw [um_ne (by omega), um_ne (by omega), um_ne (by omega)]; exact g2
    · rw [um_ne (by omega), um_ne (by omega), um_ne (by omega)]; exact g4 k hk
  · rw [um_ne (by omega), um_ne (by omega), um_ne (by omega), um_ne (by omega), um_ne (by omega), um_ne (by omega)]; exact r5 u hu
  · show um (um (um M 74 j st) 75 j w) 72 v (-1) 72 u = o2i (upN (stk S) v none u)
    by_cases e : u = v
    · subst e; rw [um_self, upN_s]; rfl
    · rw [um_ne2 e, upN_n e, um_ne (by omega), um_ne (by omega)]; exact r6 u hu
  · rw [um_ne (by omega), um_ne (by omega), um_ne (by omega)]; exact r7
  · show um (um (um M 74 j st) 75 j w) 72 v (-1) 73 i = (sjz S i : Int) ∧ um (um (um M 74 j st) 75 j w) 72 v (-1) 74 i = upN (sjs S) j st i ∧ um (um (um M 74 j st) 75 j w) 72 v (-1) 75 i = upN (sjv S) j w i
    obtain ⟨g1, g2, g3⟩ := r8 i hi
    by_cases e : i = j
    · subst e
      rw [upN_s, upN_s]
      refine ⟨?_, ?_, ?_⟩
      · rw [um_ne (by omega), um_ne (by omega), um_ne (by omega)]; exact g1
      · rw [um_ne (by omega), um_ne (by omega), um_self]
      · rw [um_ne (by omega), um_self]
    · rw [upN_n e, upN_n e]
      refine ⟨?_, ?_, ?_⟩
      · rw [um_ne (by omega), um_ne (by omega), um_ne (by omega)]; exact g1
      · rw [um_ne (by omega), um_ne (by omega), um_ne2 e]; exact g2
      · rw [um_ne (by omega), um_ne2 e, um_ne (by omega)]; exact g3
/-- the class's cells, and the place of the exception, are as they were -/
def FP (M M' : AM) : Prop := FQ M M' ∧ M' 63 0 = M 63 0
theorem FP.rf {M : AM} : FP M M := ⟨FQ.rf, rfl⟩
theorem FP.tr {M M1 M2 : AM} (h : FP M M1) (h2 : FP M1 M2) : FP M M2 := ⟨h.1.tr h2.1, h2.2.trans h.2⟩
theorem FK.fp {S : SS} {M M' : AM} (h : FK S M M') : FP M M' := ⟨h.fq, h.1 _ _ (by omega) (by omega) (by omega) (by omega) (by omega)⟩
theorem sp_mgo (hst : K.1.stackTraces = false) (hI : Inv S) (hR : RM S M) {v : Nat} (hv : v < snV S) (hm : mayS S v = true) (hQ : ∀ M', RM (opGo S v) M' → FP M M' → Q (.inl none) GG M') : MetA K fM_go [aR 63, aI v] GG M Q := by
  have h6 := hI.2.1.1
  have hv6 : v < 6 := by omega
  have hP := hR.2.2.2.1
  have hg := mayS_spec hm
  obtain ⟨m1, m2, m3, m4⟩ := hP.2 v hv
  obtain ⟨l, hl⟩ : ∃ l, srl S v = l + 1 := ⟨srl S v - 1, by have := hg.1; omega⟩
  have hadv := hI.adv hv hm
  refine EM_go hst _ (BM_go_0 _ (sp_mmove (l := l) (r := srz S v) hst hv6 (by omega) (by rw [m2, hl]) (fun k hk => m4 k (by omega)) (fun M1 f1 a1 a2 a3 => ⟨rfl, v, wrn (by omega), hv6, v, wrn (by omega), hv6, v, wrn (by omega), hv6, ?_⟩)))
  have e68 : M1 68 v = sen S v := by rw [f1 _ _ (by omega) (by omega) (by omega)]; exact (hR.2.2.2.2.1 v hv).1
  have e71 : M1 71 v = swt S v := by rw [f1 _ _ (by omega) (by omega) (by omega)]; exact (hR.2.2.2.2.1 v hv).2
  have hR2 : RM (opAdv S v) (um M1 68 v (sen S v - 1)) := by
    have := RM.veh (M' := um M1 68 v (sen S v - 1)) hR (v := v) (z := srz S v 0) (l := l) (r := fun k => srz S v (k + 1)) (e := sen S v - 1) (w := swt S v) (fun c k c1 c2 c3 c4 c6 c7 c8 c9 c10 => by
      by_cases e : c = 68
      · subst e
        rw [um_ne2 (by omega)]; exact f1 _ _ (by omega) (by omega) (by omega)
      · rw [um_ne e]; exact f1 c k c6 c8 c10) (by rw [um_ne (by omega)]; exact a1) (by rw [um_ne (by omega)]; exact a2) (by omega) (fun k hk => by rw [um_ne (by omega)]; exact a3 k hk) um_self (by rw [um_ne (by omega)]; exact e71)
    unfold opAdv
    rw [upN_self] at this
    rw [hl]
    exact this
  have hF2 : FP M (um M1 68 v (sen S v - 1)) := ⟨fun c k hc => by rw [um_ne (by omega)]; exact f1 c k (by omega) (by omega) (by omega), by rw [um_ne (by omega)]; exact f1 _ _ (by omega) (by omega) (by omega)⟩
  have e72 : um M1 68 v (sen S v - 1) 72 v = o2i (stk S v) := hR2.2.2.2.2.2.1 v hv6
  have e69 : um M1 68 v (sen S v - 1) 69 v = (l : Int) := by rw [um_ne (by omega)]; exact a2
  rw [e68, e69, wrn (by omega)]
  unfold opGo at hQ
  rw [hl] at hQ
  refine ⟨fun c => ⟨v, wrn (by omega), hv6, ?_⟩, fun c => ?_⟩
  · rw [if_pos (by omega)] at hQ
    cases hj : stk S v with
    | none =>
      have e : opEnd (opAdv S v) v 2 (v : Int) = opAdv S v := by
        unfold opEnd
        rw [show stk (opAdv S v) v = none from hj]
      rw [e] at hQ
      rw [e72, hj]
      exact ⟨fun _ => hQ _ hR2 hF2, fun c2 => absurd rfl c2⟩
    | some j =>
      have hjv := hI.2.2.2.2.2.2.1 v j hj
      have hJ := hI.2.2.1
      have ej : wr (o2i (some j)) = (j : Int) := wrn (by omega)
      rw [e72, hj]
      refine ⟨fun c2 => ?_, fun _ => ⟨v, wrn (by omega), hv6, j, by rw [e72, hj]; exact ej, by omega, v, wrn (by omega), hv6, ?_⟩⟩
      · rw [ej, wr_m1] at c2; omega
      · have ht := hR2.task hadv (v := v) (j := j) (st := 2) (w := (v : Int)) hv6 hj
        have e75 : um (um M1 68 v (sen S v - 1)) 74 j 2 75 j = (v : Int) := by
          rw [um_ne (by omega)]
          have := (hR2.2.2.2.2.2.2.2 j hjv.1).2.2
          rw [this]
          exact hjv.2.2
        have e : um (um (um M1 68 v (sen S v - 1)) 74 j 2) 75 j (v : Int) = um (um M1 68 v (sen S v - 1)) 74 j 2 := by
          funext c k
          by_cases q : c = 75
          · subst q
            by_cases q2 : k = j
            · subst q2; rw [um_self, e75]
            · rw [um_ne2 q2]
          · rw [um_ne q]
        rw [e] at ht
        refine hQ _ ht (hF2.tr ⟨fun c k hc => ?_, ?_⟩)
        · rw [um_ne (by omega), um_ne (by omega)]
        · rw [um_ne (by omega), um_ne (by omega)]
  · rw [if_neg (by omega)] at hQ
    exact hQ _ hR2 hF2
end MM
