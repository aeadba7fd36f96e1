/-! running through by the first order -/
section GO
variable {S : SS}
theorem opEnd_rl {v : Nat} {st w : Int} : srl (opEnd S v st w) = srl S := by
  unfold opEnd
  cases stk S v <;> rfl
theorem opEnd_rz {v : Nat} {st w : Int} : srz (opEnd S v st w) = srz S := by
  unfold opEnd
  cases stk S v <;> rfl
theorem opGo_rl {v : Nat} : srl (opGo S v) = upN (srl S) v (srl S v - 1) := by
  unfold opGo
  split
  · rw [opEnd_rl]; rfl
  · rfl
theorem opGo_rz {v : Nat} : srz (opGo S v) = upN (srz S) v (fun k => srz S v (k + 1)) := by
  unfold opGo
  split
  · rw [opEnd_rz]; rfl
  · rfl
theorem cntS_go {v : Nat} (hv : v < snV S) : cntS (opGo S v) = cntW S v (srz S v 0) (srl S v - 1) (fun k => srz S v (k + 1)) := by
  rw [cntW_lt hv]
  unfold cntS
  rw [opGo_nV, opGo_zn, opGo_rl, opGo_rz]
theorem okS_go {v : Nat} (hl : 0 < srl S v) {T T' w : Nat} (hT : T.testBit v = true) (h : ∀ o, o ≠ v → T'.testBit o = T.testBit o) (hv' : T'.testBit v = true ∨ srl S v = 1) (hw : w ≠ v) : okS (opGo S v) T' w = okS S T w := by
  have key : ∀ o, plc (szn (opGo S v)) (srl (opGo S v)) (srz (opGo S v)) o T' = plc (szn S) (srl S) (srz S) o T := fun o => by
    rw [opGo_zn, opGo_rl, opGo_rz]
    unfold plc
    by_cases e : o = v
    · subst e
      rw [upN_s, upN_s, upN_s, if_pos hT, lst_tail hl]
      by_cases c : T'.testBit o = true
      · rw [if_pos c]
      · rw [if_neg c]
        rcases hv' with q | q
        · exact absurd q c
        · unfold lstz
          rw [q, if_neg (by omega)]
    · rw [upN_n e, upN_n e, upN_n e, h o e]
  unfold okS okP
  rw [opGo_nV]
  have e1 : srl (opGo S v) w = srl S w := by rw [opGo_rl, upN_n hw]
  have e2 : srz (opGo S v) w = srz S w := by rw [opGo_rz, upN_n hw]
  rw [e1, e2, h w hw]
  have e3 : (∀ k, k < srl S w → ∀ o, o < snV S → o ≠ w → plc (szn (opGo S v)) (srl (opGo S v)) (srz (opGo S v)) o T' ≠ srz S w k) ↔ (∀ k, k < srl S w → ∀ o, o < snV S → o ≠ w → plc (szn S) (srl S) (srz S) o T ≠ srz S w k) := by
    simp only [key]
  rw [decide_eq_decide.mpr e3]
theorem okS_in {T v : Nat} (h : T.testBit v = true) : okS S T v = false := by
  cases hk : okS S T v with
  | false => rfl
  | true =>
    have := (okS_spec hk).2.2.1
    rw [h] at this
    cases this
theorem okS_idle {T v : Nat} (h : srl S v = 0) : okS S T v = false := by
  cases hk : okS S T v with
  | false => rfl
  | true =>
    have := (okS_spec hk).2.1
    omega
end GO
/-- counts behind v -/
theorem cn_in {ok ok' : Nat → Nat → Bool} {g v : Nat} (h : ∀ T w, T.testBit v = true → ok' T w = ok T w) : ∀ (f T : Nat), T.testBit v = true → cnF ok' g f T = cnF ok g f T := by
  intro f
  induction f with
  | zero => intro T _; rfl
  | succ f ih =>
    intro T hT
    unfold cnF
    by_cases e : T = g
    · rw [if_pos e, if_pos e]
    · rw [if_neg e, if_neg e]
      exact sumN_congr (fun w _ => by rw [h T w hT, ih (T ||| 2 ^ w) (by rw [or_bit, hT]; rfl)])
theorem or_sw (T a b : Nat) : (T ||| 2 ^ a) ||| 2 ^ b = (T ||| 2 ^ b) ||| 2 ^ a := by
  apply Nat.eq_of_testBit_eq
  intro i
  rw [or_bit, or_bit, or_bit, or_bit]
  cases T.testBit i <;> cases decide (a = i) <;> cases decide (b = i) <;> rfl
theorem cn_out {ok ok' : Nat → Nat → Bool} {g g' v : Nat} (hg : g'.testBit v = false) (hgg : g' ||| 2 ^ v = g) (h : ∀ T w, T.testBit v = false → ok' T w = ok (T ||| 2 ^ v) w) (hv : ∀ T, ok' T v = false) : ∀ (f T : Nat), T.testBit v = false → cnF ok' g' f T = cnF ok g f (T ||| 2 ^ v) := by
  have hq : ∀ T, T.testBit v = false → (T ||| 2 ^ v = g ↔ T = g') := fun T hT => by
    constructor
    · intro e
      apply Nat.eq_of_testBit_eq
      intro i
      have e2 : (T ||| 2 ^ v).testBit i = (g' ||| 2 ^ v).testBit i := by rw [e, hgg]
      rw [or_bit, or_bit] at e2
      by_cases c : v = i
      · subst c
        rw [hT, hg]
      · simpa [c] using e2
    · rintro rfl
      exact hgg
  intro f
  induction f with
  | zero =>
    intro T hT
    unfold cnF
    by_cases e : T = g'
    · rw [if_pos e, if_pos ((hq T hT).mpr e)]
    · rw [if_neg e, if_neg (fun q => e ((hq T hT).mp q))]
  | succ f ih =>
    intro T hT
    unfold cnF
    by_cases e : T = g'
    · rw [if_pos e, if_pos ((hq T hT).mpr e)]
    · rw [if_neg e, if_neg (fun q => e ((hq T hT).mp q))]
      refine sumN_congr (fun w _ => ?_)
      by_cases c : w = v
      · subst c
        rw [← h T w hT, hv T]
        rfl
      · rw [h T w hT, ih (T ||| 2 ^ w) (by rw [or_bit, hT]; simp [c]), or_sw]
def RunOk (S : SS) (v : Nat) : Prop := okS S 0 v = true ∧ 0 < cnt (okS S) (gS S) (2 ^ v)
section RU
variable {S : SS}
theorem gS_more {v : Nat} (h : 1 < srl S v) : gS (opGo S v) = gS S := by
  apply Nat.eq_of_testBit_eq
  intro i
  unfold gS
  rw [bsy_bit, bsy_bit, opGo_nV, opGo_rl]
  by_cases e : i = v
  · subst e
    rw [upN_s]
    have : (0 < srl S i - 1) ↔ (0 < srl S i) := by omega
    rw [decide_eq_decide.mpr this]
  · rw [upN_n e]
theorem gS_last {v : Nat} (hv : v < snV S) (h : srl S v = 1) : (gS (opGo S v)).testBit v = false ∧ gS (opGo S v) ||| 2 ^ v = gS S := by
  have e1 : (gS (opGo S v)).testBit v = false := by
    unfold gS
    rw [bsy_bit, opGo_rl, upN_s, h]
    simp
  refine ⟨e1, ?_⟩
  apply Nat.eq_of_testBit_eq
  intro i
  rw [or_bit]
  by_cases e : i = v
  · subst e
    rw [e1]
    unfold gS
    rw [bsy_bit, h]
    simp [hv]
  · unfold gS
    rw [bsy_bit, bsy_bit, opGo_nV, opGo_rl, upN_n e, decide_eq_false (fun q : v = i => e q.symm), Bool.or_false]
theorem pw_self (v : Nat) : (2 ^ v).testBit v = true := by rw [pw_bit]; simp
theorem run_cnt (h6 : gS S < 64) {v : Nat} (h : RunOk S v) : 0 < cntS (opGo S v) ∧ (1 < srl S v → RunOk (opGo S v) v) := by
  obtain ⟨h1, h2⟩ := h
  obtain ⟨q1, q2, q3, q4⟩ := okS_spec h1
  by_cases hl : srl S v = 1
  · refine ⟨?_, fun c => by omega⟩
    obtain ⟨g1, g2⟩ := gS_last q1 hl
    have e : cnt (okS (opGo S v)) (gS (opGo S v)) 0 = cnt (okS S) (gS S) (0 ||| 2 ^ v) := by
      refine cn_out g1 g2 (fun T w hT => ?_) (fun T => okS_idle (by rw [opGo_rl, upN_s]; omega)) 6 0 (by simp)
      by_cases c : w = v
      · subst c
        rw [okS_idle (S := opGo S w) (by rw [opGo_rl, upN_s]; omega), okS_in (S := S) (T := T ||| 2 ^ w) (by rw [or_bit]; simp)]
      · exact okS_go q2 (by rw [or_bit]; simp) (fun o ho => by rw [or_bit, decide_eq_false (fun q : v = o => ho q.symm), Bool.or_false]) (Or.inr hl) c
    show 0 < cnt (okS (opGo S v)) (gS (opGo S v)) 0
    rw [e, Nat.zero_or]
    exact h2
  · have hg := gS_more (S := S) (v := v) (by omega)
    have e : cnt (okS (opGo S v)) (gS (opGo S v)) (2 ^ v) = cnt (okS S) (gS S) (2 ^ v) := by
      rw [hg]
      refine cn_in (v := v) (fun T w hT => ?_) 6 (2 ^ v) (pw_self v)
      by_cases c : w = v
      · subst c
        rw [okS_in hT, okS_in hT]
      · exact okS_go q2 hT (fun _ _ => rfl) (Or.inl hT) c
    have hk : okS (opGo S v) 0 v = true := by
      unfold okS okP
      rw [opGo_nV, opGo_zn, opGo_rl, opGo_rz]
      simp only [Bool.and_eq_true, decide_eq_true_eq, Bool.not_eq_true']
      refine ⟨⟨⟨q1, by rw [upN_s]; omega⟩, by simp⟩, fun k hk o ho hne => ?_⟩
      rw [upN_s] at hk ⊢
      have := q4 (k + 1) (by omega) o ho hne
      unfold plc at this ⊢
      rw [if_neg (by simp)] at this ⊢
      rw [upN_n hne]
      exact this
    have hr : RunOk (opGo S v) v := ⟨hk, by rw [e]; exact h2⟩
    refine ⟨?_, fun _ => hr⟩
    show 0 < cnt (okS (opGo S v)) (gS (opGo S v)) 0
    have hb : bsy (snV (opGo S v)) (srl (opGo S v)) = gS (opGo S v) := rfl
    have hfit : Fit (okS (opGo S v)) (gS (opGo S v)) := okP_fit
    have h6 : gS (opGo S v) < 64 := by rw [hg]; exact h6
    rw [cnt_eq h6 hfit Sub.zero]
    have hne : ¬ 0 = gS (opGo S v) := fun q => by
      have := (hfit 0 v hk).1
      rw [← q] at this
      simp at this
    rw [if_neg hne]
    have hv6 : v < 6 := Classical.byContradiction fun c => by
      have := lt_bits (n := gS (opGo S v)) (k := 6) h6 (i := v) (by omega)
      rw [(hfit 0 v hk).1] at this
      cases this
    refine sumN_pos.mpr ⟨v, hv6, ?_⟩
    rw [if_pos hk, Nat.zero_or]
    exact hr.2
theorem run_may (hI : Inv S) {v : Nat} (h : RunOk S v) : mayS S v = true := by
  obtain ⟨q1, q2, q3, q4⟩ := okS_spec h.1
  have hp := (hI.2.1.2 v q1).2 0 q2
  have hf : fnd (snV S) (szn S) (srz S v 0) = none := List.find?_eq_none.mpr (fun o ho => by
    have ho2 := List.mem_range.mp ho
    simp
    by_cases e : o = v
    · subst e; exact fun q => hp.2 q.symm
    · have := q4 0 q2 o ho2 e
      unfold plc at this
      rw [if_neg (by simp)] at this
      exact this)
  unfold mayS
  simp only [Bool.and_eq_true, decide_eq_true_eq]
  exact ⟨⟨q2, hf⟩, by rw [← cntS_go q1]; exact (run_cnt (bsy_lt hI.2.1.1) h).1⟩
end RU
