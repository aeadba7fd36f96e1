/-! the state of a plant, and what a call makes of it -/
abbrev SS : Type := (Nat → Nat → Nat) × (Nat → Bool) × Int × Nat × (Nat → Nat) × (Nat → Int) × (Nat → Nat) × (Nat → Nat → Nat) × (Nat → Int) × (Nat → Option Nat) × Nat × (Nat → Nat) × (Nat → Int) × (Nat → Int)
abbrev mkS (D : Nat → Nat → Nat) (ch : Nat → Bool) (ln : Int) (nV : Nat) (zn : Nat → Nat) (en : Nat → Int) (rl : Nat → Nat) (rz : Nat → Nat → Nat) (wt : Nat → Int) (tk : Nat → Option Nat) (nJ : Nat) (jz : Nat → Nat) (js jv : Nat → Int) : SS := (D, ch, ln, nV, zn, en, rl, rz, wt, tk, nJ, jz, js, jv)
abbrev sD (S : SS) := S.1
abbrev sch (S : SS) := S.2.1
abbrev sln (S : SS) := S.2.2.1
abbrev snV (S : SS) := S.2.2.2.1
abbrev szn (S : SS) := S.2.2.2.2.1
abbrev sen (S : SS) := S.2.2.2.2.2.1
abbrev srl (S : SS) := S.2.2.2.2.2.2.1
abbrev srz (S : SS) := S.2.2.2.2.2.2.2.1
abbrev swt (S : SS) := S.2.2.2.2.2.2.2.2.1
abbrev stk (S : SS) := S.2.2.2.2.2.2.2.2.2.1
abbrev snJ (S : SS) := S.2.2.2.2.2.2.2.2.2.2.1
abbrev sjz (S : SS) := S.2.2.2.2.2.2.2.2.2.2.2.1
abbrev sjs (S : SS) := S.2.2.2.2.2.2.2.2.2.2.2.2.1
abbrev sjv (S : SS) := S.2.2.2.2.2.2.2.2.2.2.2.2.2
def cntS (S : SS) : Nat := cntP (snV S) (szn S) (srl S) (srz S) 0
/-- how many orders there would be with vehicle v at z, with the route r of l zones -/
def cntW (S : SS) (v z l : Nat) (r : Nat → Nat) : Nat := cntP (if v = snV S then snV S + 1 else snV S) (upN (szn S) v z) (upN (srl S) v l) (upN (srz S) v r) 0
def Inv (S : SS) : Prop := GM (sD S) ∧ Pg (snV S) (szn S) (srl S) (srz S) ∧ snJ S ≤ 20 ∧
  (∀ v, v < 6 → srl S v ≤ 20) ∧ (∀ v a b, a < srl S v → b < srl S v → srz S v a = srz S v b → a = b) ∧
  (∀ v, snV S ≤ v → srl S v = 0 ∧ swt S v = 0 ∧ stk S v = none) ∧
  (∀ v j, stk S v = some j → j < snJ S ∧ sjs S j = 1 ∧ sjv S j = (v : Int)) ∧
  (∀ j, j < snJ S → sjz S j < 20) ∧ (∀ j, snJ S ≤ j → sjs S j = 0 ∧ sjv S j = -1) ∧ (∀ j, sjs S j = 0 ∨ sjs S j = 1 ∨ sjs S j = 2) ∧ 0 < cntS S
-- what calls make of it
def opLane (S : SS) (a b : Nat) : SS := mkS (layD (sD S) a b) (sch S) (sln S + 1) (snV S) (szn S) (sen S) (srl S) (srz S) (swt S) (stk S) (snJ S) (sjz S) (sjs S) (sjv S)
def opCh (S : SS) (z : Nat) (b : Bool) : SS := mkS (sD S) (upN (sch S) z b) (sln S) (snV S) (szn S) (sen S) (srl S) (srz S) (swt S) (stk S) (snJ S) (sjz S) (sjs S) (sjv S)
def opVeh (S : SS) (z : Nat) (e : Int) : SS := mkS (sD S) (sch S) (sln S) (snV S + 1) (upN (szn S) (snV S) z) (upN (sen S) (snV S) e) (srl S) (srz S) (swt S) (stk S) (snJ S) (sjz S) (sjs S) (sjv S)
def opRt (S : SS) (v t : Nat) : SS := mkS (sD S) (sch S) (sln S) (snV S) (szn S) (sen S) (upN (srl S) v (sD S (szn S v) t)) (upN (srz S) v (fun k => wyD (sD S) (szn S v) t (k + 1))) (swt S) (stk S) (snJ S) (sjz S) (sjs S) (sjv S)
def opDrop (S : SS) (v : Nat) : SS := mkS (sD S) (sch S) (sln S) (snV S) (szn S) (sen S) (upN (srl S) v 0) (srz S) (swt S) (stk S) (snJ S) (sjz S) (sjs S) (sjv S)
def opEnd (S : SS) (v : Nat) (st w : Int) : SS := match stk S v with
  | some j => mkS (sD S) (sch S) (sln S) (snV S) (szn S) (sen S) (srl S) (srz S) (swt S) (upN (stk S) v none) (snJ S) (sjz S) (upN (sjs S) j st) (upN (sjv S) j w)
  | none => S
def opChg (S : SS) (v : Nat) : SS := mkS (sD S) (sch S) (sln S) (snV S) (szn S) (upN (sen S) v 60) (srl S) (srz S) (swt S) (stk S) (snJ S) (sjz S) (sjs S) (sjv S)
def opAdv (S : SS) (v : Nat) : SS := mkS (sD S) (sch S) (sln S) (snV S) (upN (szn S) v (srz S v 0)) (upN (sen S) v (sen S v - 1)) (upN (srl S) v (srl S v - 1)) (upN (srz S) v (fun k => srz S v (k + 1))) (swt S) (stk S) (snJ S) (sjz S) (sjs S) (sjv S)
def opGo (S : SS) (v : Nat) : SS := if srl S v = 1 then opEnd (opAdv S v) v 2 (v : Int) else opAdv S v
def opWait (S : SS) (v : Nat) : SS := mkS (sD S) (sch S) (sln S) (snV S) (szn S) (sen S) (srl S) (srz S) (upN (swt S) v (swt S v + 1)) (stk S) (snJ S) (sjz S) (sjs S) (sjv S)
def opJob (S : SS) (z : Nat) : SS := mkS (sD S) (sch S) (sln S) (snV S) (szn S) (sen S) (srl S) (srz S) (swt S) (stk S) (snJ S + 1) (upN (sjz S) (snJ S) z) (sjs S) (sjv S)
def opGive (S : SS) (v j : Nat) : SS := mkS (sD S) (sch S) (sln S) (snV S) (szn S) (sen S) (upN (srl S) v (sD S (szn S v) (sjz S j))) (upN (srz S) v (fun k => wyD (sD S) (szn S v) (sjz S j) (k + 1))) (swt S) (upN (stk S) v (some j)) (snJ S) (sjz S) (upN (sjs S) j 1) (upN (sjv S) j (v : Int))
-- what is asked
def mayS (S : SS) (v : Nat) : Bool := decide (0 < srl S v) && decide (fnd (snV S) (szn S) (srz S v 0) = none) && decide (0 < cntW S v (srz S v 0) (srl S v - 1) (fun k => srz S v (k + 1)))
def canGo (S : SS) (v t : Nat) : Bool := decide (srl S v = 0) && decide (szn S v ≠ t) && decide (sD S (szn S v) t < 1000) && decide ((enD (sch S) (sD S) (szn S v) t : Int) ≤ wr (sen S v)) && decide (0 < cntW S v (szn S v) (sD S (szn S v) t) (fun k => wyD (sD S) (szn S v) t (k + 1)))
def lenS (S : SS) (v t : Nat) : Int := if canGo S v t = true then (sD S (szn S v) t : Int) else -1
def turnS (S : SS) (v : Nat) : SS := if mayS S v = true then opGo S v else if 0 < srl S v then opWait S v else S
theorem upN_self {α : Type} {f : Nat → α} {k : Nat} : upN f k (f k) = f := by
  funext i
  by_cases h : i = k
  · subst h; rw [upN_s]
  · rw [upN_n h]
theorem bsy_zero {n : Nat} {rl rl' : Nat → Nat} (h : ∀ v, v < n → rl' v = rl v) (h2 : rl' n = 0) : bsy (n + 1) rl' = bsy n rl := by
  apply Nat.eq_of_testBit_eq
  intro i
  rw [bsy_bit, bsy_bit]
  by_cases e : i < n
  · rw [h i e]
    simp [e]; omega
  · by_cases e2 : i = n
    · subst e2; simp [h2]
    · have : ¬ i < n + 1 := by omega
      simp [e, this]
section INVS
variable {S : SS}
theorem Inv.lane (h : Inv S) {a b : Nat} (ha : a < 20) (hb : b < 20) : Inv (opLane S a b) := ⟨h.1.lay ha hb, h.2⟩
theorem Inv.ch (h : Inv S) {z : Nat} {b : Bool} : Inv (opCh S z b) := h
theorem Inv.chg (h : Inv S) {v : Nat} : Inv (opChg S v) := h
theorem Inv.wait (h : Inv S) {v : Nat} (hv : v < snV S) : Inv (opWait S v) := by
  obtain ⟨h1, h2, h3, h4, h5, h6, h7⟩ := h
  refine ⟨h1, h2, h3, h4, h5, fun w hw => ?_, h7⟩
  have := h6 w hw
  refine ⟨this.1, ?_, this.2.2⟩
  show upN (swt S) v (swt S v + 1) w = 0
  rw [upN_n (by have : snV S ≤ w := hw; omega)]
  exact this.2.1
theorem Inv.job (h : Inv S) {z : Nat} (hz : z < 20) (hj : snJ S < 20) : Inv (opJob S z) := by
  obtain ⟨h1, h2, h3, h4, h5, h6, h7, h8, h9, h10, h11⟩ := h
  refine ⟨h1, h2, hj, h4, h5, h6, fun v j hv => ?_, fun j hj2 => ?_, fun j hj2 => ?_, h10, h11⟩
  · have := h7 v j hv
    exact ⟨Nat.lt_succ_of_lt this.1, this.2⟩
  · show upN (sjz S) (snJ S) z j < 20
    by_cases e : j = snJ S
    · subst e; rw [upN_s]; exact hz
    · rw [upN_n e]; exact h8 j (by have : j < snJ S + 1 := hj2; omega)
  · exact h9 j (by have : snJ S + 1 ≤ j := hj2; omega)
theorem cntP_congr {n : Nat} {zn zn' rl rl' : Nat → Nat} {rz rz' : Nat → Nat → Nat} {T : Nat} (h : ∀ v, v < n → zn' v = zn v ∧ rl' v = rl v ∧ ∀ k, k < rl v → rz' v k = rz v k) : cntP n zn' rl' rz' T = cntP n zn rl rz T := by
  have hb : bsy n rl' = bsy n rl := by
    apply Nat.eq_of_testBit_eq
    intro i
    rw [bsy_bit, bsy_bit]
    by_cases e : i < n
    · rw [(h i e).2.1]
    · simp [e]
  unfold cntP
  rw [hb]
  refine cnt_congr (fun S v => ?_)
  unfold okP
  by_cases e : v < n
  · obtain ⟨g1, g2, g3⟩ := h v e
    rw [g2]
    have : (∀ k, k < rl v → ∀ o, o < n → o ≠ v → plc zn' rl' rz' o S ≠ rz' v k) ↔ (∀ k, k < rl v → ∀ o, o < n → o ≠ v → plc zn rl rz o S ≠ rz v k) := by
      have key : ∀ o, o < n → plc zn' rl' rz' o S = plc zn rl rz o S := fun o ho => by
        obtain ⟨k1, k2, k3⟩ := h o ho
        unfold plc lstz
        rw [k1, k2]
        by_cases c : 0 < rl o
        · rw [if_pos c, if_pos c, k3 (rl o - 1) (by omega)]
        · rw [if_neg c, if_neg c]
      constructor
      · intro q k hk o ho hne
        rw [← key o ho, ← g3 k hk]
        exact q k hk o ho hne
      · intro q k hk o ho hne
        rw [key o ho, g3 k hk]
        exact q k hk o ho hne
    rw [decide_eq_decide.mpr this]
  · simp [e]
theorem Inv.veh (h : Inv S) {z : Nat} {e : Int} (hz : z < 20) (hn : snV S < 6) (hs : 0 < cntW S (snV S) z 0 (srz S (snV S))) : Inv (opVeh S z e) := by
  obtain ⟨h1, h2, h3, h4, h5, h6, h7, h8, h9, h10, h11⟩ := h
  have r0 := (h6 (snV S) (Nat.le_refl _)).1
  refine ⟨h1, ⟨hn, fun v hv => ?_⟩, h3, h4, h5, fun v hv => h6 v (by have : snV S + 1 ≤ v := hv; omega), h7, h8, h9, h10, ?_⟩
  · by_cases e2 : v = snV S
    · subst e2
      refine ⟨by show upN (szn S) _ z _ < 20; rw [upN_s]; exact hz, fun k hk => ?_⟩
      have hk2 : k < srl S (snV S) := hk
      omega
    · have := h2.2 v (by have : v < snV S + 1 := hv; omega)
      refine ⟨by show upN (szn S) _ z _ < 20; rw [upN_n e2]; exact this.1, fun k hk => ?_⟩
      have h9 := this.2 k hk
      refine ⟨h9.1, ?_⟩
      show srz S v k ≠ upN (szn S) _ z v
      rw [upN_n e2]
      exact h9.2
  · unfold cntW at hs
    rw [if_pos rfl] at hs
    show 0 < cntP (snV S + 1) (upN (szn S) (snV S) z) (srl S) (srz S) 0
    rw [cntP_congr (zn := upN (szn S) (snV S) z) (rl := upN (srl S) (snV S) 0) (rz := upN (srz S) (snV S) (srz S (snV S)))]
    · exact hs
    · intro v hv
      refine ⟨rfl, ?_, fun k _ => by rw [upN_self]⟩
      by_cases e2 : v = snV S
      · subst e2; rw [upN_s]; exact r0
      · rw [upN_n e2]
theorem cntW_lt {v z l : Nat} {r : Nat → Nat} (hv : v < snV S) : cntW S v z l r = cntP (snV S) (upN (szn S) v z) (upN (srl S) v l) (upN (srz S) v r) 0 := by
  unfold cntW
  rw [if_neg (by omega)]
end INVS
