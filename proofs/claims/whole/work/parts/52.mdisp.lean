/-! the reference: regrets, givings, questions -/
section MD2
variable {K : KX} {S : SS} {M : AM} {Q : Res → AG → AM → Prop}
theorem lp_mreg (hst : K.1.stackTraces = false) (hI : Inv S) {M0 : AM} (hR0 : RM S M0) {j v : Nat} (hj : j < snJ S) (h0 : sjs S j = 0) (hv : (nkS S (sjz S j) (snV S)).1 = (v : Int)) (hQ : ∀ M', FK S M0 M' → Q (.inl (some (aI (regS S j)))) GG M') :
    ∀ (d n : Nat) (M : AM), n + d = snV S → FK S M0 M → WM K fM_regretOf (EM K fM_regretOf 80 Q) 44 [some (aR 63), some (aI j), some (aI v), some (aI (nkS S (sjz S j) (snV S)).2), some (aI (sec S (sjz S j) v n)), some (aI n), none] [] GG M 0 0 := by
  have h6 := hI.2.1.1
  have hJ := hI.2.2.1
  have hvb := nkS_bd (S := S) (t := sjz S j) (snV S)
  intro d
  induction d with
  | zero =>
    intro n M hn hF
    have hn2 : n = snV S := by omega
    subst hn2
    have bs := sec_bd (S := S) (t := sjz S j) (w := v) (snV S)
    have e2 : sec S (sjz S j) v (snV S) = (rgS S (sjz S j) (snV S)).2 := by
      have := (sec_rg (S := S) (t := sjz S j) (snV S)).2 (by omega)
      rw [hv] at this
      exact this
    have e1 := nk_rg (S := S) (t := sjz S j) (snV S)
    have hne : ¬ (rgS S (sjz S j) (snV S)).1 = -1 := fun q => by
      have := (nk_m1 (S := S) (t := sjz S j) (snV S)).mpr (by rw [e1]; exact q)
      omega
    unfold regS at hQ
    rw [if_neg (by omega), if_neg hne] at hQ
    refine BM_regretOf_44 _ _ _ _ _ ⟨fun _ => ?_, fun c => absurd ?_ c⟩
    · rw [wr_m1, wri (z := sec S (sjz S j) v (snV S)) (by omega) (by omega)]
      rw [e2] at bs ⊢
      refine ⟨fun c => BM_regretOf_127 _ _ _ _ _ _ ?_, fun c => BM_regretOf_127 _ _ _ _ _ _ ?_⟩
      · rw [if_pos c] at hQ; exact hQ M hF
      · rw [if_neg c, ← e1] at hQ; exact hQ M hF
    · rw [(hR0.fk hF).2.2.2.1.1, wrn (by omega)]; omega
  | succ d ih =>
    intro n M hn hF
    have hR := hR0.fk hF
    have hnV : n < snV S := by omega
    have bs := sec_bd (S := S) (t := sjz S j) (w := v) n
    have bl := lenS_bd (S := S) (v := n) (t := sjz S j)
    have at75 : ∀ (y : Int) (M1 : AM), FK S M0 M1 → -1 ≤ y → y < 1000 → sec S (sjz S j) v (n + 1) = (if y ≠ -1 ∧ (sec S (sjz S j) v n = -1 ∨ y < sec S (sjz S j) v n) then y else sec S (sjz S j) v n) → WM K fM_regretOf (EM K fM_regretOf 80 Q) 75 [some (aR 63), some (aI j), some (aI v), some (aI (nkS S (sjz S j) (snV S)).2), some (aI (sec S (sjz S j) v n)), some (aI n), none] [aI y] GG M1 0 0 := fun y M1 f1 y1 y2 he => by
      have hnx := ih (n + 1) M1 (by omega) f1
      rw [he] at hnx
      refine BM_regretOf_75 _ _ _ _ _ _ ?_
      rw [wr_m1, wri (z := y) (by omega) (by omega), wri (z := sec S (sjz S j) v n) (by omega) (by omega)]
      have same : ¬ (y ≠ -1 ∧ (sec S (sjz S j) v n = -1 ∨ y < sec S (sjz S j) v n)) → WM K fM_regretOf (EM K fM_regretOf 80 Q) 101 [some (aR 63), some (aI j), some (aI v), some (aI (nkS S (sjz S j) (snV S)).2), some (aI (sec S (sjz S j) v n)), some (aI n), some (aI y)] [] GG M1 0 0 := fun h => by
        rw [if_neg h] at hnx
        exact BM_regretOf_101 _ _ _ _ _ _ (BM_regretOf_103 _ _ _ _ _ _ _ hnx)
      have fresh : (y ≠ -1 ∧ (sec S (sjz S j) v n = -1 ∨ y < sec S (sjz S j) v n)) → WM K fM_regretOf (EM K fM_regretOf 80 Q) 96 [some (aR 63), some (aI j), some (aI v), some (aI (nkS S (sjz S j) (snV S)).2), some (aI (sec S (sjz S j) v n)), some (aI n), some (aI y)] [] GG M1 0 0 := fun h => by
        rw [if_pos h] at hnx
        exact BM_regretOf_96 _ _ _ _ _ _ (BM_regretOf_103 _ _ _ _ _ _ _ hnx)
      exact ⟨fun c => same (fun q => q.1 c), fun c => ⟨fun c2 => fresh ⟨c, Or.inl c2⟩, fun c2 => ⟨fun c3 => same (fun q => by rcases q.2 with q | q <;> omega), fun c3 => fresh ⟨c, Or.inr (by omega)⟩⟩⟩⟩
    refine BM_regretOf_44 _ _ _ _ _ ⟨fun c => ?_, fun _ => ⟨fun c => at75 (-1) M hF (by omega) (by omega) ?_, fun c => ⟨j, wrn (by omega), by omega, ?_⟩⟩⟩
    · rw [hR.2.2.2.1.1, wrn (by omega), wrn (by omega)] at c; omega
    · rw [wrn (by omega), wrn (by omega)] at c
      show (if (n : Int) ≠ v ∧ lenS S n (sjz S j) ≠ -1 ∧ (sec S (sjz S j) v n = -1 ∨ lenS S n (sjz S j) < sec S (sjz S j) v n) then lenS S n (sjz S j) else sec S (sjz S j) v n) = _
      rw [if_neg (fun q => q.1 c), if_neg (fun q => q.1 rfl)]
    · rw [wrn (by omega), wrn (by omega)] at c
      rw [(hR.2.2.2.2.2.2.2 j hj).1]
      refine sp_couldGo hst hI hR hnV (hI.2.2.2.2.2.2.2.1 j hj) (fun M1 f1 _ => ⟨rfl, at75 _ M1 (hF.tr f1) bl.1 bl.2 ?_⟩)
      show (if (n : Int) ≠ v ∧ lenS S n (sjz S j) ≠ -1 ∧ (sec S (sjz S j) v n = -1 ∨ lenS S n (sjz S j) < sec S (sjz S j) v n) then lenS S n (sjz S j) else sec S (sjz S j) v n) = _
      by_cases q : lenS S n (sjz S j) ≠ -1 ∧ (sec S (sjz S j) v n = -1 ∨ lenS S n (sjz S j) < sec S (sjz S j) v n)
      · rw [if_pos q, if_pos ⟨c, q⟩]
      · rw [if_neg q, if_neg (fun z => q z.2)]
theorem sp_mreg (hst : K.1.stackTraces = false) (hI : Inv S) (hR : RM S M) {j : Nat} (hj : j < snJ S) (hQ : ∀ M', FK S M M' → Q (.inl (some (aI (regS S j)))) GG M') : MetA K fM_regretOf [aR 63, aI j] GG M Q := by
  have h6 := hI.2.1.1
  have hJ := hI.2.2.1
  have hs := hI.2.2.2.2.2.2.2.2.2.1 j
  refine EM_regretOf hst _ (BM_regretOf_0 _ ⟨j, wrn (by omega), by omega, ?_⟩)
  rw [(hR.2.2.2.2.2.2.2 j hj).2.1, wri (by omega) (by omega)]
  have none : regS S j = -1 → ∀ M1, FK S M M1 → WM K fM_regretOf (EM K fM_regretOf 80 Q) 18 [some (aR 63), some (aI j), none, none, none, none, none] [aI (-1)] GG M1 0 0 := fun h M1 f1 => by
    rw [h] at hQ
    exact BM_regretOf_18 _ _ ⟨fun _ => hQ M1 f1, fun c => absurd rfl c⟩
  refine ⟨fun c => sp_taker hst hI hR hj (fun M1 f1 => ⟨rfl, ?_⟩), fun c => none (by unfold regS; rw [if_pos c]) M FK.rf⟩
  dsimp only
  have hb := nkS_bd (S := S) (t := sjz S j) (snV S)
  by_cases h1 : (nkS S (sjz S j) (snV S)).1 = -1
  · rw [h1]
    refine none ?_ M1 f1
    unfold regS
    rw [if_neg (by omega), if_pos (by rw [← nk_rg]; exact (nk_m1 _).mp h1)]
  · obtain ⟨v, g1, g2, g3, g4⟩ := nk_go (S := S) (t := sjz S j) (snV S) (fun q => h1 ((nk_m1 _).mpr q))
    have hR1 := hR.fk f1
    rw [g1]
    refine BM_regretOf_18 _ _ ⟨fun c2 => ?_, fun _ => ⟨j, wrn (by omega), by omega, ?_⟩⟩
    · rw [wr_m1, wrn (by omega)] at c2; omega
    · rw [(hR1.2.2.2.2.2.2.2 j hj).1]
      refine sp_couldGo hst hI hR1 g2 (hI.2.2.2.2.2.2.2.1 j hj) (fun M2 f2 _ => ⟨rfl, ?_⟩)
      dsimp only
      rw [g3]
      exact lp_mreg hst hI hR hj c g1 hQ (snV S) 0 M2 (by omega) (f1.tr f2)
theorem lp_mbest (hst : K.1.stackTraces = false) (hI : Inv S) {M0 : AM} (hR0 : RM S M0) (hQ : ∀ M', FK S M0 M' → WM K fM_dispatch (EM K fM_dispatch 80 Q) 11 [some (aR 63), some (aI (bsS S (snJ S)).1), some (aI (bsS S (snJ S)).2), some (aI (snJ S)), none] [] GG M' 0 0) :
    ∀ (d n : Nat) (M : AM), n + d = snJ S → FK S M0 M → WM K fM_dispatch (EM K fM_dispatch 80 Q) 11 [some (aR 63), some (aI (bsS S n).1), some (aI (bsS S n).2), some (aI n), none] [] GG M 0 0 := by
  have h6 := hI.2.1.1
  have hJ := hI.2.2.1
  intro d
  induction d with
  | zero =>
    intro n M hn hF
    have hn2 : n = snJ S := by omega
    subst hn2
    exact hQ M hF
  | succ d ih =>
    intro n M hn hF
    have hR := hR0.fk hF
    have hnV : n < snJ S := by omega
    have bn := bsS_bd (S := S) n
    have bd := regS_bd (S := S) (j := n)
    refine BM_dispatch_11 _ _ _ ⟨fun c => ?_, fun _ => sp_mreg hst hI hR hnV (fun M1 f1 => ⟨rfl, ?_⟩)⟩
    · rw [hR.2.2.2.2.2.2.1, wrn (by omega), wrn (by omega)] at c; omega
    · have hnx := ih (n + 1) M1 (by omega) (hF.tr f1)
      unfold bsS at hnx
      dsimp only
      rw [wri (z := regS S n) (by omega) (by omega), wri (z := (bsS S n).2) (by omega) (by omega)]
      refine ⟨fun c => BM_dispatch_37 _ _ _ _ _ ?_, fun c => BM_dispatch_37 _ _ _ _ _ ?_⟩
      · rw [if_neg (by omega)] at hnx
        rw [wri (z := regS S n) (by omega) (by omega), wri (z := (bsS S n).2) (by omega) (by omega)]
        exact ⟨fun _ => BM_dispatch_50 _ _ _ _ _ hnx, fun c2 => absurd c c2⟩
      · rw [if_pos (by omega)] at hnx
        rw [wri (z := regS S n) (by omega) (by omega), wri (z := (bsS S n).2) (by omega) (by omega)]
        exact ⟨fun c2 => absurd c2 c, fun _ => BM_dispatch_50 _ _ _ _ _ hnx⟩
theorem RM.give {S : SS} {M : AM} (hI : Inv S) (h : RM S M) {v j : Nat} (hv : v < snV S) (hj : j < snJ S) (hg : canGo S v (sjz S j) = true) (hw : ∀ k, k < sD S (szn S v) (sjz S j) → M 70 (20 * v + k) = (wyD (sD S) (szn S v) (sjz S j) (k + 1) : Int)) :
    RM (opGive S v j) (um (um (um (um M 69 v (sD S (szn S v) (sjz S j))) 72 v j) 74 j 1) 75 j v) := by
  obtain ⟨g1, g2, g3, g4, g5⟩ := canGo_spec hg
  have hz := (hI.2.1.2 v hv).1
  have ht := hI.2.2.2.2.2.2.2.1 j hj
  have hsm := hI.1.small hz ht g3
  obtain ⟨r1, r2, r3, r4, r5, r6, r7, r8⟩ := h
  refine ⟨fun i k hi hk => ?_, ?_, fun x hx => ?_, ⟨?_, fun u hu => ?_⟩, fun u hu => ?_, fun u hu => ?_, ?_, fun i hi => ?_⟩
  · simp (disch := omega) only [um_ne]; exact r1 i k hi hk
  · simp (disch := omega) only [um_ne]; exact r2
  · simp (disch := omega) only [um_ne]; exact r3 x hx
  · simp (disch := omega) only [um_ne]; exact r4.1
  · obtain ⟨k1, k2, k3, k4⟩ := r4.2 u hu
    show _ = (szn S u : Int) ∧ _ = ((upN (srl S) v (sD S (szn S v) (sjz S j)) u : Nat) : Int) ∧ upN (srl S) v (sD S (szn S v) (sjz S j)) u ≤ 20 ∧ ∀ k, k < upN (srl S) v (sD S (szn S v) (sjz S j)) u → _ = ((upN (srz S) v (fun k => wyD (sD S) (szn S v) (sjz S j) (k + 1)) u k : Nat) : Int)
    by_cases q : u = v
    · rw [q, upN_s, upN_s]
      refine ⟨?_, ?_, by omega, fun k hk => ?_⟩
      · simp (disch := omega) only [um_ne]; rw [← q]; exact k1
      · simp (disch := omega) only [um_ne, um_self]
      · simp (disch := omega) only [um_ne]; exact hw k hk
    · rw [upN_n q, upN_n q]
      refine ⟨?_, ?_, k3, fun k hk => ?_⟩
      · simp (disch := omega) only [um_ne]; exact k1
      · simp (disch := omega) only [um_ne, um_ne2]; exact k2
      · simp (disch := omega) only [um_ne]; exact k4 k hk
  · simp (disch := omega) only [um_ne]; exact r5 u hu
  · show _ = o2i (upN (stk S) v (some j) u)
    by_cases q : u = v
    · rw [q, upN_s]
      simp (disch := omega) only [um_ne, um_self]
      rfl
    · rw [upN_n q]
      simp (disch := omega) only [um_ne, um_ne2]
      exact r6 u hu
  · simp (disch := omega) only [um_ne]; exact r7
  · obtain ⟨k1, k2, k3⟩ := r8 i hi
    show _ = (sjz S i : Int) ∧ _ = upN (sjs S) j 1 i ∧ _ = upN (sjv S) j (v : Int) i
    by_cases q : i = j
    · rw [q, upN_s, upN_s]
      refine ⟨?_, ?_, ?_⟩
      · simp (disch := omega) only [um_ne]; rw [← q]; exact k1
      · simp (disch := omega) only [um_ne, um_self]
      · simp (disch := omega) only [um_self]
    · rw [upN_n q, upN_n q]
      refine ⟨?_, ?_, ?_⟩
      · simp (disch := omega) only [um_ne]; exact k1
      · simp (disch := omega) only [um_ne, um_ne2]; exact k2
      · simp (disch := omega) only [um_ne2, um_ne]; exact k3
theorem m_dispatch (hst : K.1.stackTraces = false) (hI : Inv S) (hR : RM S M) (hQ : mq (aDsp S) M Q) : MetA K fM_dispatch [aR 63] GG M Q := by
  have h6 := hI.2.1.1
  have hJ := hI.2.2.1
  unfold aDsp at hQ
  refine EM_dispatch hst (BM_dispatch_0 (lp_mbest hst hI hR.code (fun M1 f1 => ?_) (snJ S) 0 (um M 63 0 0) (by omega) FK.rf))
  have hR1 := hR.code.fk f1
  have hF1 : FQ M M1 := (FQ.rf.um (by omega)).tr f1.fq
  have c1 : M1 63 0 = 0 := by rw [f1.1 _ _ (by omega) (by omega) (by omega) (by omega) (by omega), um_self]
  have bb := bsS_bd (S := S) (snJ S)
  refine BM_dispatch_11 _ _ _ ⟨fun _ => ?_, fun c => absurd ?_ c⟩
  · rcases bs_spec (S := S) (snJ S) with h | ⟨j, h1, h2, h3, h4⟩
    · rw [if_pos h.1] at hQ
      rw [h.1]
      exact ⟨fun _ => BM_dispatch_106 _ _ _ (hQ M1 hR1 hF1 c1), fun c => absurd rfl c⟩
    · obtain ⟨g0, v, g1, g2, g3⟩ := reg_go h4
      rw [if_neg (by omega), h1, tn, g1, tn] at hQ
      rw [h1, wr_m1, wrn (by omega)]
      refine ⟨fun c => by omega, fun _ => sp_taker hst hI hR1 h2 (fun M2 f2 => ⟨rfl, j, rfl, by omega, ?_⟩)⟩
      have hR2 := hR1.fk f2
      rw [g1, (hR2.2.2.2.2.2.2.2 j h2).1, wrn (by omega)]
      refine sp_couldGo hst hI hR2 g2 (hI.2.2.2.2.2.2.2.1 j h2) (fun M3 f3 w3 => ⟨rfl, v, rfl, by omega, v, rfl, by omega, j, rfl, by omega, j, rfl, by omega, BM_dispatch_106 _ _ _ ?_⟩)
      have hR3 := hR2.fk f3
      have hl : lenS S v (sjz S j) = (sD S (szn S v) (sjz S j) : Int) := if_pos g3
      rw [hl]
      refine hQ _ (hR3.give hI g2 h2 g3 (w3 g3)) (((((hF1.tr f2.fq).tr f3.fq).um (by omega)).um (by omega)).um (by omega) |>.um (by omega)) ?_
      simp (disch := omega) only [um_ne]
      rw [f3.1 _ _ (by omega) (by omega) (by omega) (by omega) (by omega), f2.1 _ _ (by omega) (by omega) (by omega) (by omega) (by omega)]
      exact c1
  · rw [hR1.2.2.2.2.2.2.1]; exact Int.le_refl _
end MD2
