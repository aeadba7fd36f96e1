/-! the reference: ticks, regrets, givings -/
theorem tick0 {S : SS} (h : snV S = 0) : ∀ p, tickS S p = S ∧ tickC S p = 0 := by
  intro p
  induction p with
  | zero => exact ⟨rfl, rfl⟩
  | succ p ih =>
    unfold tickS tickC
    rw [ih.1, ih.2, h]
    exact ⟨rfl, rfl⟩
theorem nk_m1 {S : SS} {t : Nat} : ∀ n, (nkS S t n).1 = -1 ↔ (nkS S t n).2 = -1 := by
  intro n
  induction n with
  | zero => unfold nkS; simp
  | succ n ih =>
    unfold nkS
    split
    · rename_i h
      exact ⟨fun q => by dsimp only at q; omega, fun q => absurd q h.1⟩
    · exact ih
/-- the second best where w is left out -/
def sec (S : SS) (t : Nat) (w : Int) : Nat → Int
  | 0 => -1
  | n + 1 => if (n : Int) ≠ w ∧ lenS S n t ≠ -1 ∧ (sec S t w n = -1 ∨ lenS S n t < sec S t w n) then lenS S n t else sec S t w n
theorem sec_bd {S : SS} {t : Nat} {w : Int} : ∀ n, -1 ≤ sec S t w n ∧ sec S t w n < 1000 := by
  intro n
  induction n with
  | zero => unfold sec; omega
  | succ n ih =>
    unfold sec
    have := lenS_bd (S := S) (v := n) (t := t)
    split <;> omega
theorem sec_rg {S : SS} {t : Nat} : ∀ n : Nat, (∀ w : Int, (n : Int) ≤ w → sec S t w n = (rgS S t n).1) ∧ ((nkS S t n).1 ≠ -1 → sec S t (nkS S t n).1 n = (rgS S t n).2) := by
  intro n
  induction n with
  | zero => exact ⟨fun _ _ => rfl, fun _ => rfl⟩
  | succ n ih =>
    obtain ⟨i1, i2⟩ := ih
    have hr := nk_rg (S := S) (t := t) n
    have hb := nkS_bd (S := S) (t := t) n
    have hm := nk_m1 (S := S) (t := t) n
    constructor
    · intro w hw
      unfold sec rgS
      rw [i1 w (by omega)]
      by_cases h1 : lenS S n t = -1
      · rw [if_neg (fun q => q.2.1 h1), if_pos h1]
      · rw [if_neg h1]
        by_cases h2 : (rgS S t n).1 = -1 ∨ lenS S n t < (rgS S t n).1
        · rw [if_pos ⟨by omega, h1, h2⟩, if_pos h2]
        · rw [if_neg (fun q => h2 q.2.2), if_neg h2]
          split <;> rfl
    · intro hne
      unfold nkS at hne
      unfold nkS sec rgS
      by_cases h1 : lenS S n t = -1
      · rw [if_neg (fun q => q.1 h1)] at hne
        have e : (if lenS S n t ≠ -1 ∧ ((nkS S t n).2 = -1 ∨ lenS S n t < (nkS S t n).2) then ((n : Int), lenS S n t) else nkS S t n) = nkS S t n := if_neg (fun q => q.1 h1)
        rw [e, if_neg (fun q => q.2.1 h1), if_pos h1]
        exact i2 hne
      · rw [if_neg h1]
        by_cases h2 : (rgS S t n).1 = -1 ∨ lenS S n t < (rgS S t n).1
        · have e : (if lenS S n t ≠ -1 ∧ ((nkS S t n).2 = -1 ∨ lenS S n t < (nkS S t n).2) then ((n : Int), lenS S n t) else nkS S t n) = ((n : Int), lenS S n t) := if_pos ⟨h1, by rw [hr]; exact h2⟩
          rw [e, if_pos h2, if_neg (fun q => q.1 rfl)]
          exact i1 n (by omega)
        · have e : (if lenS S n t ≠ -1 ∧ ((nkS S t n).2 = -1 ∨ lenS S n t < (nkS S t n).2) then ((n : Int), lenS S n t) else nkS S t n) = nkS S t n := if_neg (fun q => h2 (by rw [← hr]; exact q.2))
          rw [e, if_neg h2]
          have hn1 : (nkS S t n).1 ≠ -1 := fun q => h2 (Or.inl (by rw [← hr]; exact hm.mp q))
          rw [i2 hn1]
          by_cases h3 : (rgS S t n).2 = -1 ∨ lenS S n t < (rgS S t n).2
          · rw [if_pos h3, if_pos ⟨by omega, h1, h3⟩]
          · rw [if_neg h3, if_neg (fun q => h3 q.2.2)]
section MJ
variable {K : KX} {S : SS} {M : AM} {Q : Res → AG → AM → Prop}
theorem RM.wait {S : SS} {M : AM} (h : RM S M) {v : Nat} (hv : v < snV S) : RM (opWait S v) (um M 71 v (swt S v + 1)) := by
  obtain ⟨m1, m2, m3, m4⟩ := h.2.2.2.1.2 v hv
  have := h.veh (M' := um M 71 v (swt S v + 1)) (v := v) (z := szn S v) (l := srl S v) (r := srz S v) (e := sen S v) (w := swt S v + 1) (fun c k c1 c2 c3 c4 c6 c7 c8 c9 c10 => by
    by_cases e : c = 71
    · subst e; rw [um_ne2 (by omega)]
    · rw [um_ne e]) (by rw [um_ne (by omega)]; exact m1) (by rw [um_ne (by omega)]; exact m2) m3 (fun k hk => by rw [um_ne (by omega)]; exact m4 k hk) (by rw [um_ne (by omega)]; exact (h.2.2.2.2.1 v hv).1) um_self
  rw [upN_self, upN_self, upN_self, upN_self] at this
  exact this
theorem lp_mturn (hst : K.1.stackTraces = false) {T : SS} {M0 : AM} (hI : Inv T) {p r n C : Nat} (hp : p ≤ 20) (hr : r < p) (hn : snV T = n)
    (hQ : ∀ M' : AM, RM (turnsS T n) M' → FP M0 M' → WM K fM_tick (EM K fM_tick 80 Q) 28 [some (aR 63), some (aI p), some (aI (C + stpS T n : Nat)), some (aI ((r + 1) * n : Nat)), none] [] GG M' 0 0) :
    ∀ (d i : Nat) (M : AM), i + d = n → RM (turnsS T i) M → FP M0 M → WM K fM_tick (EM K fM_tick 80 Q) 28 [some (aR 63), some (aI p), some (aI (C + stpS T i : Nat)), some (aI (r * n + i : Nat)), none] [] GG M 0 0 := by
  have h6 := hI.2.1.1
  intro d
  induction d with
  | zero =>
    intro i M hi hR hF
    have : i = n := by omega
    subst this
    have e : (r + 1) * i = r * i + i := Nat.succ_mul r i
    rw [e] at hQ
    exact hQ M hR hF
  | succ d ih =>
    intro i M hi hR hF
    have hin : i < n := by omega
    have hnv : snV (turnsS T i) = n := by rw [turnsS_nV]; exact hn
    have hIi := hI.turns i (by omega)
    have hM5 : M 63 5 = (n : Int) := by rw [hR.2.2.2.1.1, hnv]
    have hle : r * n + n ≤ p * n := by
      have := Nat.mul_le_mul_right n (show r + 1 ≤ p from hr)
      rw [Nat.succ_mul] at this
      exact this
    have hpn : p * n ≤ 120 := by
      have := Nat.mul_le_mul hp (show n ≤ 6 by omega)
      omega
    have hb : (p : Int) * (n : Int) = ((p * n : Nat) : Int) := by rw [Int.natCast_mul]
    have hdv : wdv ((r * n + i : Nat) : Int) (n : Int) = (r : Int) := by
      rw [wdv_n (by omega) (by omega) (by omega)]
      have : (r * n + i) / n = r := by
        rw [Nat.mul_comm, Nat.mul_add_div (by omega), Nat.div_eq_of_lt hin]
        omega
      rw [this]
    have hix : ((r * n + i : Nat) : Int) - wdv ((r * n + i : Nat) : Int) (n : Int) * (n : Int) = (i : Int) := by
      rw [hdv]
      have : ((r * n + i : Nat) : Int) = (r : Int) * (n : Int) + (i : Int) := by rw [Int.natCast_add, Int.natCast_mul]
      omega
    have hnx := fun M2 => ih (i + 1) M2 (by omega)
    unfold turnsS stpS turnS at hnx
    refine BM_tick_28 _ _ _ ?_
    rw [hM5, hix]
    refine ⟨fun c => ?_, fun _ => ⟨by rw [wrn (by omega)]; omega, ?_⟩⟩
    · rw [hb, wrn (by omega), wrn (by omega)] at c; omega
    · refine sp_mmay hst hIi hR (by omega) (fun M1 f1 => ⟨rfl, ?_⟩)
      have hR1 := hR.fk f1
      have hF1 := hF.tr f1.fp
      have e3 : ((r * n + i : Nat) : Int) + 1 = ((r * n + (i + 1) : Nat) : Int) := by omega
      dsimp only
      rw [e3]
      cases hm : mayS (turnsS T i) i with
      | true =>
        refine ⟨fun c => absurd c (by show ¬ wr 1 = 0; rw [wr_1]; omega), fun _ => sp_mgo hst hIi hR1 (by omega) hm (fun M2 r2 f2 => ⟨rfl, ?_⟩)⟩
        have := hnx M2
        rw [hm, if_pos rfl, if_pos rfl] at this
        have e4 : ((C + stpS T i : Nat) : Int) + 1 = ((C + (stpS T i + 1) : Nat) : Int) := by omega
        dsimp only
        rw [e4]
        exact this r2 (hF1.tr f2)
      | false =>
        refine ⟨fun _ => ⟨i, wrn (by omega), by omega, ?_⟩, fun c => absurd wr_0 c⟩
        have hi2 : i < snV (turnsS T i) := by omega
        obtain ⟨m1, m2, m3, m4⟩ := hR1.2.2.2.1.2 i hi2
        rw [m2, wrn (by omega)]
        have := hnx
        rw [hm, if_neg (show ¬ false = true by decide), if_neg (show ¬ false = true by decide), Nat.add_zero] at this
        refine ⟨fun c => ?_, fun c => ⟨i, wrn (by omega), by omega, i, wrn (by omega), by omega, ?_⟩⟩
        · have h2 := this M1
          rw [if_neg (by omega)] at h2
          exact h2 hR1 hF1
        · have h2 := this (um M1 71 i (swt (turnsS T i) i + 1))
          rw [if_pos (by omega)] at h2
          rw [(hR1.2.2.2.2.1 i hi2).2]
          exact h2 (hR1.wait hi2) (hF1.tr ⟨FQ.rf.um (by omega), by rw [um_ne (by omega)]⟩)
theorem lp_mtick (hst : K.1.stackTraces = false) (hI : Inv S) {M0 : AM} {p : Nat} (hp : p ≤ 20) (hQ : ∀ M' : AM, RM (tickS S p) M' → FP M0 M' → Q (.inl (some (aI (tickC S p)))) GG M') :
    ∀ (d r : Nat) (M : AM), r + d = p → RM (tickS S r) M → FP M0 M → WM K fM_tick (EM K fM_tick 80 Q) 28 [some (aR 63), some (aI p), some (aI (tickC S r)), some (aI (r * snV S : Nat)), none] [] GG M 0 0 := by
  have h6 := hI.2.1.1
  intro d
  induction d with
  | zero =>
    intro r M hr hR hF
    have : r = p := by omega
    subst this
    have hM5 : M 63 5 = (snV S : Int) := by rw [hR.2.2.2.1.1, tickS_nV]
    refine BM_tick_28 _ _ _ ⟨fun _ => hQ M hR hF, fun c => absurd ?_ c⟩
    rw [hM5, Int.natCast_mul]
    exact Int.le_refl _
  | succ d ih =>
    intro r M hr hR hF
    by_cases h0 : snV S = 0
    · have e1 := tick0 h0 r
      have e2 := tick0 h0 p
      rw [e1.1] at hR
      rw [e2.1, e2.2] at hQ
      have hM5 : M 63 5 = 0 := by rw [hR.2.2.2.1.1, h0]; rfl
      rw [e1.2, h0, Nat.mul_zero]
      refine BM_tick_28 _ _ _ ⟨fun _ => hQ M hR hF, fun c => absurd ?_ c⟩
      rw [hM5, Int.mul_zero]
      exact Int.le_refl _
    · have hnx := fun M2 => ih (r + 1) M2 (by omega)
      have hIr := hI.tick r
      have := lp_mturn (K := K) (Q := Q) hst (T := tickS S r) (M0 := M) hIr (p := p) (r := r) (n := snV S) (C := tickC S r) hp (by omega) (tickS_nV r) (fun M2 r2 f2 => hnx M2 r2 (hF.tr f2)) (snV S) 0 M (by omega) hR FP.rf
      exact this
theorem m_tick (hst : K.1.stackTraces = false) (hI : Inv S) (hR : RM S M) {p : Int} (hp : R32 p) (hQ : mq (aTck S p) M Q) : MetA K fM_tick [aR 63, aI p] GG M Q := by
  unfold aTck at hQ
  refine EM_tick hst _ (BM_tick_0 _ (sp_in hst hp ⟨by omega, by omega⟩ ⟨by omega, by omega⟩ ⟨rfl, fun c => ?_, fun c => ?_⟩))
  · rw [if_neg (b_ff c)] at hQ
    exact sp_ref (c := 1) hst (by omega) hR FQ.rf hQ
  · have h1 := b_ft c
    rw [if_pos h1] at hQ
    obtain ⟨t, rfl⟩ := nat_of (p := p) (by omega)
    rw [tn] at hQ
    have := lp_mtick (K := K) (Q := Q) hst hI (M0 := um M 63 0 0) (p := t) (by omega) (fun M1 r1 f1 => hQ M1 r1 ((FQ.rf.um (by omega)).tr f1.1) (by rw [f1.2, um_self]; rfl)) t 0 (um M 63 0 0) (by omega) hR.code FP.rf
    rw [Nat.zero_mul] at this
    exact sp_ok (x0 := True) hst this
theorem lp_taker (hst : K.1.stackTraces = false) (hI : Inv S) {M0 : AM} (hR0 : RM S M0) {j : Nat} (hj : j < snJ S) (hQ : ∀ M', FK S M0 M' → Q (.inl (some (aI (nkS S (sjz S j) (snV S)).1))) GG M') :
    ∀ (d n : Nat) (a b : Int) (M : AM), n + d = snV S → FK S M0 M → (nkS S (sjz S j) n).1 = a → (a ≠ -1 → (nkS S (sjz S j) n).2 = b) → WM K fM_takerOf (EM K fM_takerOf 80 Q) 7 [some (aR 63), some (aI j), some (aI a), some (aI b), some (aI n), none] [] GG M 0 0 := by
  have h6 := hI.2.1.1
  have hJ := hI.2.2.1
  intro d
  induction d with
  | zero =>
    intro n a b M hn hF ha hb
    have hn2 : n = snV S := by omega
    subst hn2
    rw [ha] at hQ
    refine BM_takerOf_7 _ _ _ _ ⟨fun _ => hQ M hF, fun c => absurd ?_ c⟩
    rw [(hR0.fk hF).2.2.2.1.1, wrn (by omega)]; omega
  | succ d ih =>
    intro n a b M hn hF ha hb
    have hR := hR0.fk hF
    have hnV : n < snV S := by omega
    refine BM_takerOf_7 _ _ _ _ ⟨fun c => ?_, fun _ => ⟨j, wrn (by omega), by omega, ?_⟩⟩
    · rw [hR.2.2.2.1.1, wrn (by omega), wrn (by omega)] at c; omega
    · rw [(hR.2.2.2.2.2.2.2 j hj).1]
      refine sp_couldGo hst hI hR hnV (hI.2.2.2.2.2.2.2.1 j hj) (fun M1 f1 _ => ⟨rfl, ?_⟩)
      have hnx := fun a' b' => ih (n + 1) a' b' M1 (by omega) (hF.tr f1)
      have bd := lenS_bd (S := S) (v := n) (t := sjz S j)
      have bn := nkS_bd (S := S) (t := sjz S j) n
      have hm := nk_m1 (S := S) (t := sjz S j) n
      unfold nkS at hnx
      dsimp only
      rw [wr_m1, wri (z := lenS S n (sjz S j)) (by omega) (by omega), wri (z := a) (by omega) (by omega)]
      have same : ¬ (lenS S n (sjz S j) ≠ -1 ∧ ((nkS S (sjz S j) n).2 = -1 ∨ lenS S n (sjz S j) < (nkS S (sjz S j) n).2)) → WM K fM_takerOf (EM K fM_takerOf 80 Q) 7 [some (aR 63), some (aI j), some (aI a), some (aI b), some (aI (n + 1 : Nat)), none] [] GG M1 0 0 := fun h => by
        have := hnx a b
        rw [if_neg h] at this
        exact this ha hb
      have fresh : (lenS S n (sjz S j) ≠ -1 ∧ ((nkS S (sjz S j) n).2 = -1 ∨ lenS S n (sjz S j) < (nkS S (sjz S j) n).2)) → WM K fM_takerOf (EM K fM_takerOf 80 Q) 7 [some (aR 63), some (aI j), some (aI n), some (aI (lenS S n (sjz S j))), some (aI (n + 1 : Nat)), none] [] GG M1 0 0 := fun h => by
        have := hnx n (lenS S n (sjz S j))
        rw [if_pos h] at this
        exact this rfl (fun _ => rfl)
      refine ⟨fun c => same (fun q => q.1 c), fun c => ⟨fun c2 => fresh ⟨c, Or.inl (hm.mp (ha.trans c2))⟩, fun c2 => ?_⟩⟩
      have hb2 := hb c2
      rw [wri (z := b) (by omega) (by omega)]
      refine ⟨fun c3 => same (fun q => ?_), fun c3 => fresh ⟨c, Or.inr (by omega)⟩⟩
      rcases q.2 with q | q
      · exact c2 (ha.symm.trans (hm.mpr q))
      · omega
theorem sp_taker (hst : K.1.stackTraces = false) (hI : Inv S) (hR : RM S M) {j : Nat} (hj : j < snJ S) (hQ : ∀ M', FK S M M' → Q (.inl (some (aI (nkS S (sjz S j) (snV S)).1))) GG M') : MetA K fM_takerOf [aR 63, aI j] GG M Q :=
  EM_takerOf hst _ (BM_takerOf_0 _ (lp_taker hst hI hR hj hQ (snV S) 0 (-1) 0 M (by omega) FK.rf rfl (fun q => absurd rfl q)))
end MJ
