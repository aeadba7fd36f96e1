/-! the class's own helpers over a state -/
theorem rbt_tail {r : Nat → Nat} {l : Nat} (hl : 0 < l) (hinj : ∀ k, 0 < k → k < l → r k ≠ r 0) : ndf (rbt r l) (2 ^ r 0) = rbt (fun k => r (k + 1)) (l - 1) := by
  apply Nat.eq_of_testBit_eq
  intro i
  rw [ndf_bit, pw_bit]
  apply Bool.eq_iff_iff.mpr
  rw [Bool.and_eq_true, rbt_bit, rbt_bit]
  constructor
  · rintro ⟨⟨k, h1, h2⟩, h3⟩
    have h4 : ¬ r 0 = i := by simpa using h3
    have hk0 : k ≠ 0 := fun q => h4 (q ▸ h2)
    exact ⟨k - 1, by omega, by rw [show k - 1 + 1 = k by omega]; exact h2⟩
  · rintro ⟨k, h1, h2⟩
    refine ⟨⟨k + 1, by omega, h2⟩, ?_⟩
    have := hinj (k + 1) (by omega) (by omega)
    rw [h2] at this
    simp
    exact fun q => this q.symm
theorem lst_tail {z l : Nat} {r : Nat → Nat} (hl : 0 < l) : lstz z l r = lstz (r 0) (l - 1) (fun k => r (k + 1)) := by
  unfold lstz
  rw [if_pos hl]
  by_cases h : 0 < l - 1
  · rw [if_pos h]
    show r (l - 1) = r (l - 1 - 1 + 1)
    rw [show l - 1 - 1 + 1 = l - 1 by omega]
  · rw [if_neg h, show l - 1 = 0 by omega]
theorem enD_bd {ch : Nat → Bool} {D : Nat → Nat → Nat} {a t : Nat} (h : D a t ≤ 1000) : enD ch D a t ≤ 2000 := by
  unfold enD
  split <;> omega
section XP
variable {K : KX} {S : SS} {Q : Res → AG → AM → Prop} {M : AM}
theorem pg_pos (h : Inv S) {v z l : Nat} {r : Nat → Nat} (hv : v < snV S) (hz : z < 20) (hr : ∀ k, k < l → r k < 20 ∧ r k ≠ z) : Pg (if v = snV S then snV S + 1 else snV S) (upN (szn S) v z) (upN (srl S) v l) (upN (srz S) v r) := by
  rw [if_neg (by omega)]
  refine ⟨h.2.1.1, fun w hw => ?_⟩
  by_cases e : w = v
  · subst e
    rw [upN_s, upN_s, upN_s]
    exact ⟨hz, hr⟩
  · rw [upN_n e, upN_n e, upN_n e]
    exact h.2.1.2 w hw
theorem sp_lengthFor (hst : K.1.stackTraces = false) (hI : Inv S) (hX : RX S M) {v t : Nat} (hv : v < snV S) (ht : t < 20) (hQ : ∀ M', FT M M' → Q (.inl (some (aI (lenS S v t)))) GG M') : MetA K fZ_lengthFor [aR 0, aI v, aI t] GG M Q := by
  have h6 := hI.2.1.1
  have hv6 : v < 6 := by omega
  have hV := hX.2.2.2.1.2 v hv6
  have hz := (hI.2.1.2 v hv).1
  have hD := hI.1
  have gc := hD.2.2.2.2.2 (szn S v) t hz ht
  have no : canGo S v t = false → ∀ M', FT M M' → Q (.inl (some (aI (-1)))) GG M' := fun h M' hF => by
    have := hQ M' hF
    unfold lenS at this
    rw [if_neg (by rw [h]; decide)] at this
    exact this
  refine EZ_lengthFor hst _ _ (BZ_lengthFor_0 _ _ ⟨v, wrn (by omega), hv6, sp_isIdle hst hv6 hV ⟨rfl, ?_⟩⟩)
  dsimp only
  by_cases h0 : srl S v = 0
  · rw [if_pos h0]
    refine ⟨fun c => absurd c (by rw [wr_1]; decide), fun _ => ?_⟩
    rw [hV.1, wrn (by omega), wrn (by omega)]
    refine ⟨fun c => no (by unfold canGo; simp; intro _ q; omega) M FT.rf, fun c => ?_⟩
    refine sp_hasWay hst hD hX.1 hz ht ⟨rfl, ?_⟩
    dsimp only
    by_cases h1 : sD S (szn S v) t < 1000
    · rw [if_pos h1]
      refine ⟨fun c => absurd c (by rw [wr_1]; decide), fun _ => ?_⟩
      refine sp_energy hst hD hX.1 hX.2.2.1 hz ht ⟨rfl, ?_⟩
      dsimp only
      have be := enD_bd (ch := sch S) gc
      rw [(hX.2.2.2.2.1 v hv6).1, wrn (n := enD _ _ _ _) (by omega)]
      refine ⟨fun c3 => ?_, fun c3 => no (by unfold canGo; simp; intro _ _ _ q; omega) M FT.rf⟩
      refine sp_wayBits hst hD hX.1 hz ht h1 ⟨rfl, ?_⟩
      dsimp only
      obtain ⟨w1, w2, w3⟩ := way_ok hD hz ht h1
      have hl0 : 0 < sD S (szn S v) t := by
        have := hD.2.1 (szn S v) t hz ht (by omega)
        omega
      have hlast : t = lstz (szn S v) (sD S (szn S v) t) (fun k => wyD (sD S) (szn S v) t (k + 1)) := by
        unfold lstz
        rw [if_pos hl0]
        show t = wyD (sD S) (szn S v) t (sD S (szn S v) t - 1 + 1)
        rw [show sD S (szn S v) t - 1 + 1 = sD S (szn S v) t by omega]
        exact (wyD_last hD hz ht h1).symm
      refine sp_safe hst hI.2.1 hX.2.2.2.1 hv6 (by omega) hlast (pg_pos hI hv hz w2) (fun M' hF => ⟨rfl, ?_⟩)
      dsimp only
      show (wr (b2i (decide (0 < cntW S v (szn S v) (sD S (szn S v) t) (fun k => wyD (sD S) (szn S v) t (k + 1))))) = 0 → _) ∧ (¬ wr (b2i (decide (0 < cntW S v (szn S v) (sD S (szn S v) t) (fun k => wyD (sD S) (szn S v) t (k + 1))))) = 0 → _)
      by_cases h2 : 0 < cntW S v (szn S v) (sD S (szn S v) t) (fun k => wyD (sD S) (szn S v) t (k + 1))
      · rw [decide_eq_true h2]
        refine ⟨fun c => absurd c (by unfold b2i; rw [if_pos rfl, wr_1]; decide), fun _ => ⟨szn S v, rfl, hz, t, rfl, ht, ?_⟩⟩
        have := hQ M' hF
        have hc : canGo S v t = true := by
          unfold canGo
          simp only [Bool.and_eq_true, decide_eq_true_eq]
          exact ⟨⟨⟨⟨h0, by omega⟩, h1⟩, c3⟩, h2⟩
        unfold lenS at this
        rw [if_pos hc] at this
        rw [hF _ _ (by omega), hX.1 _ _ hz ht]
        exact this
      · rw [decide_eq_false h2]
        refine ⟨fun _ => no (by unfold canGo; simp; intro _ _ _ _; omega) M' hF, fun c => absurd wr_0 c⟩
    · rw [if_neg h1]
      refine ⟨fun _ => no (by unfold canGo; simp; intro _ _ q; omega) M FT.rf, fun c => absurd wr_0 c⟩
  · rw [if_neg h0]
    exact ⟨fun _ => no (by unfold canGo; simp; intro q; omega) M FT.rf, fun c => absurd wr_0 c⟩
theorem sp_mayMove (hst : K.1.stackTraces = false) (hI : Inv S) (hX : RX S M) {v : Nat} (hv : v < snV S) (hQ : ∀ M', FT M M' → Q (.inl (some (aI (b2i (mayS S v))))) GG M') : MetA K fZ_mayMove [aR 0, aI v] GG M Q := by
  have h6 := hI.2.1.1
  have hv6 : v < 6 := by omega
  have hV := hX.2.2.2.1.2 v hv6
  have hp := hI.2.1.2 v hv
  have hi := hI.2.2.2.2.1 v
  have no : mayS S v = false → Q (.inl (some (aI 0))) GG M := fun h => by
    have := hQ M FT.rf
    rw [h] at this
    exact this
  refine EZ_mayMove hst _ (BZ_mayMove_0 _ ⟨v, wrn (by omega), hv6, sp_isIdle hst hv6 hV ⟨rfl, ?_⟩⟩)
  dsimp only
  by_cases h0 : srl S v = 0
  · rw [if_pos h0]
    exact ⟨fun c => absurd c (by rw [wr_1]; decide), fun _ => no (by unfold mayS; simp; intro q; omega)⟩
  · rw [if_neg h0]
    have hl : 0 < srl S v := by omega
    refine ⟨fun _ => ?_, fun c => absurd wr_0 c⟩
    refine sp_nextZone hst hv6 hV ⟨rfl, ?_⟩
    dsimp only
    rw [if_pos hl]
    have hz0 := (hp.2 0 hl).1
    refine sp_find hst h6 hX.2.2.2.1 (fun w hw => (hI.2.1.2 w hw).1) hz0 ⟨rfl, ?_⟩
    dsimp only
    rw [wr_m1]
    cases hf : fnd (snV S) (szn S) (srz S v 0) with
    | some w =>
      have hw : w < snV S := List.mem_range.mp (List.mem_of_find?_eq_some hf)
      show (wr (w : Int) = -1 → _) ∧ (¬ wr (w : Int) = -1 → _)
      rw [wrn (by omega)]
      exact ⟨fun c => absurd c (by omega), fun _ => no (by unfold mayS; rw [hf]; simp)⟩
    | none =>
      show (wr (-1) = -1 → _) ∧ (¬ wr (-1) = -1 → _)
      refine ⟨fun _ => ?_, fun c => absurd wr_m1 c⟩
      refine sp_lastZone hst hv6 hV ⟨rfl, ?_⟩
      dsimp only
      have hb := hI.2.1.bits hv
      rw [hV.2.1, wsl_k _ (by omega), wnot_n (by omega), rbt_tail hl (fun k h1 h2 q => by have := hi k 0 h2 hl q; omega)]
      refine sp_safe hst hI.2.1 hX.2.2.2.1 hv6 (by omega) (lst_tail hl) (pg_pos hI hv hz0 (fun k hk => ⟨(hp.2 (k + 1) (by omega)).1, fun q => by have := hi (k + 1) 0 (by omega) hl q; omega⟩)) (fun M' hF => ⟨rfl, b2i_01 _, ?_⟩)
      have := hQ M' hF
      have hm : mayS S v = decide (0 < cntW S v (srz S v 0) (srl S v - 1) (fun k => srz S v (k + 1))) := by
        unfold mayS
        rw [hf]
        simp [hl]
      rw [hm] at this
      exact this
end XP
