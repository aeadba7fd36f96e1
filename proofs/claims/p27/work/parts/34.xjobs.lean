/-! regrets and givings, as the class finds them -/
def nkS (S : SS) (t : Nat) : Nat → Int × Int
  | 0 => (-1, -1)
  | n + 1 => if lenS S n t ≠ -1 ∧ ((nkS S t n).2 = -1 ∨ lenS S n t < (nkS S t n).2) then ((n : Int), lenS S n t) else nkS S t n
def rgS (S : SS) (t : Nat) : Nat → Int × Int
  | 0 => (-1, -1)
  | n + 1 => if lenS S n t = -1 then rgS S t n else if (rgS S t n).1 = -1 ∨ lenS S n t < (rgS S t n).1 then (lenS S n t, (rgS S t n).1) else if (rgS S t n).2 = -1 ∨ lenS S n t < (rgS S t n).2 then ((rgS S t n).1, lenS S n t) else rgS S t n
def regS (S : SS) (j : Nat) : Int := if sjs S j ≠ 0 then -1 else if (rgS S (sjz S j) (snV S)).1 = -1 then -1 else if (rgS S (sjz S j) (snV S)).2 = -1 then 1000 else (rgS S (sjz S j) (snV S)).2 - (rgS S (sjz S j) (snV S)).1
def bsS (S : SS) : Nat → Int × Int
  | 0 => (-1, -1)
  | n + 1 => if (bsS S n).2 < regS S n then ((n : Int), regS S n) else bsS S n
theorem lenS_bd {S : SS} {v t : Nat} : -1 ≤ lenS S v t ∧ lenS S v t < 1000 := by
  unfold lenS
  by_cases h : canGo S v t = true
  · rw [if_pos h]
    have := (canGo_spec h).2.2.1
    omega
  · rw [if_neg h]; omega
theorem nkS_bd {S : SS} {t : Nat} : ∀ n, -1 ≤ (nkS S t n).1 ∧ (nkS S t n).1 < n ∧ -1 ≤ (nkS S t n).2 ∧ (nkS S t n).2 < 1000 := by
  intro n
  induction n with
  | zero => unfold nkS; simp
  | succ n ih =>
    unfold nkS
    have := lenS_bd (S := S) (v := n) (t := t)
    split
    · dsimp only; omega
    · omega
theorem rgS_bd {S : SS} {t : Nat} : ∀ n, -1 ≤ (rgS S t n).1 ∧ (rgS S t n).1 < 1000 ∧ -1 ≤ (rgS S t n).2 ∧ (rgS S t n).2 < 1000 := by
  intro n
  induction n with
  | zero => unfold rgS; simp
  | succ n ih =>
    unfold rgS
    have := lenS_bd (S := S) (v := n) (t := t)
    split
    · exact ih
    · split
      · dsimp only; omega
      · split
        · dsimp only; omega
        · exact ih
theorem rgS_ord {S : SS} {t : Nat} : ∀ n, (rgS S t n).2 ≠ -1 → (rgS S t n).1 ≠ -1 ∧ (rgS S t n).1 ≤ (rgS S t n).2 := by
  intro n
  induction n with
  | zero => unfold rgS; simp
  | succ n ih =>
    unfold rgS
    split
    · exact ih
    · split
      · dsimp only; intro h; omega
      · split
        · dsimp only; intro h; omega
        · exact ih
theorem regS_bd {S : SS} {j : Nat} : -1 ≤ regS S j ∧ regS S j ≤ 1000 := by
  unfold regS
  have h1 := rgS_bd (S := S) (t := sjz S j) (snV S)
  have h2 := rgS_ord (S := S) (t := sjz S j) (snV S)
  split
  · omega
  · split
    · omega
    · split
      · omega
      · have := h2 (by assumption); omega
theorem bsS_bd {S : SS} : ∀ n, -1 ≤ (bsS S n).1 ∧ (bsS S n).1 < n ∧ -1 ≤ (bsS S n).2 ∧ (bsS S n).2 ≤ 1000 := by
  intro n
  induction n with
  | zero => unfold bsS; simp
  | succ n ih =>
    unfold bsS
    have := regS_bd (S := S) (j := n)
    split
    · dsimp only; omega
    · omega
theorem wri {z : Int} (h1 : -2147483648 ≤ z) (h2 : z < 2147483648) : wr z = z := wr_of h1 h2
section XJ
variable {K : KX} {S : SS} {Q : Res → AG → AM → Prop}
theorem lp_nearest (hst : K.1.stackTraces = false) (hI : Inv S) {j : Nat} (hj : j < snJ S) {M0 : AM} (hQ : ∀ M', RX S M' → FT M0 M' → Q (.inl (some (aI (nkS S (sjz S j) (snV S)).1))) GG M') : ∀ (d n : Nat) (a b : Int) (M : AM), n + d = snV S → RX S M → FT M0 M → nkS S (sjz S j) n = (a, b) → WM K fZ_nearestTaker (EM K fZ_nearestTaker 126 Q) 7 [some (aR 0), some (aI j), some (aI a), some (aI b), some (aI n), none] [] GG M 0 0 := by
  have h6 := hI.2.1.1
  have hJ := hI.2.2.1
  intro d
  induction d with
  | zero =>
    intro n a b M hn hX hF hab
    have hn2 : n = snV S := by omega
    subst hn2
    rw [hab] at hQ
    refine BZ_nearestTaker_7 _ _ _ _ ⟨fun _ => hQ M hX hF, fun c => absurd ?_ c⟩
    rw [hX.2.2.2.1.1, wrn (by omega)]; omega
  | succ d ih =>
    intro n a b M hn hX hF hab
    have hnV : n < snV S := by omega
    refine BZ_nearestTaker_7 _ _ _ _ ⟨fun c => ?_, fun _ => ⟨j, wrn (by omega), by omega, ?_⟩⟩
    · rw [hX.2.2.2.1.1, wrn (by omega), wrn (by omega)] at c; omega
    · rw [(hX.2.2.2.2.2.2 j (by omega)).1]
      refine sp_lengthFor hst hI hX hnV (hI.2.2.2.2.2.2.2.1 j hj) (fun M1 f1 => ⟨rfl, ?_⟩)
      have hnx := fun a' b' => ih (n + 1) a' b' M1 (by omega) (hX.ft f1) (hF.tr f1)
      have bd := lenS_bd (S := S) (v := n) (t := sjz S j)
      have bn := nkS_bd (S := S) (t := sjz S j) n
      unfold nkS at hnx
      rw [hab] at hnx bn
      dsimp only at hnx bn ⊢
      rw [wr_m1, wri (z := lenS S n (sjz S j)) (by omega) (by omega), wri (z := b) (by omega) (by omega)]
      refine ⟨fun c => hnx a b (if_neg (by omega)), fun c => ⟨fun c2 => hnx _ _ (if_pos (by omega)), fun c2 => ⟨fun c3 => hnx a b (if_neg (by omega)), fun c3 => hnx _ _ (if_pos (by omega))⟩⟩⟩
theorem sp_nearest (hst : K.1.stackTraces = false) (hI : Inv S) {j : Nat} (hj : j < snJ S) {M : AM} (hX : RX S M) (hQ : ∀ M', RX S M' → FT M M' → Q (.inl (some (aI (nkS S (sjz S j) (snV S)).1))) GG M') : MetA K fZ_nearestTaker [aR 0, aI j] GG M Q :=
  EZ_nearestTaker hst _ (BZ_nearestTaker_0 _ (lp_nearest hst hI hj hQ (snV S) 0 (-1) (-1) M (by omega) hX FT.rf rfl))
theorem lp_regret (hst : K.1.stackTraces = false) (hI : Inv S) {j : Nat} (hj : j < snJ S) (h0 : sjs S j = 0) {M0 : AM} (hQ : ∀ M', RX S M' → FT M0 M' → Q (.inl (some (aI (regS S j)))) GG M') : ∀ (d n : Nat) (a b : Int) (M : AM), n + d = snV S → RX S M → FT M0 M → rgS S (sjz S j) n = (a, b) → WM K fZ_regretOf (EM K fZ_regretOf 126 Q) 21 [some (aR 0), some (aI j), some (aI a), some (aI b), some (aI n), none] [] GG M 0 0 := by
  have h6 := hI.2.1.1
  have hJ := hI.2.2.1
  intro d
  induction d with
  | zero =>
    intro n a b M hn hX hF hab
    have hn2 : n = snV S := by omega
    subst hn2
    have bn := rgS_bd (S := S) (t := sjz S j) (snV S)
    unfold regS at hQ
    rw [if_neg (by omega), hab] at hQ
    rw [hab] at bn
    dsimp only at hQ bn
    refine BZ_regretOf_21 _ _ _ _ ⟨fun _ => ?_, fun c => absurd ?_ c⟩
    · rw [wr_m1, wri (z := a) (by omega) (by omega), wri (z := b) (by omega) (by omega)]
      refine ⟨fun c => ?_, fun c => ⟨fun c2 => ?_, fun c2 => ?_⟩⟩
      · rw [if_pos c] at hQ; exact hQ M hX hF
      · rw [if_neg c, if_pos c2] at hQ; exact hQ M hX hF
      · rw [if_neg c, if_neg c2] at hQ; exact hQ M hX hF
    · rw [hX.2.2.2.1.1, wrn (by omega)]; omega
  | succ d ih =>
    intro n a b M hn hX hF hab
    have hnV : n < snV S := by omega
    refine BZ_regretOf_21 _ _ _ _ ⟨fun c => ?_, fun _ => ⟨j, wrn (by omega), by omega, ?_⟩⟩
    · rw [hX.2.2.2.1.1, wrn (by omega), wrn (by omega)] at c; omega
    · rw [(hX.2.2.2.2.2.2 j (by omega)).1]
      refine sp_lengthFor hst hI hX hnV (hI.2.2.2.2.2.2.2.1 j hj) (fun M1 f1 => ⟨rfl, ?_⟩)
      have hnx := fun a' b' => ih (n + 1) a' b' M1 (by omega) (hX.ft f1) (hF.tr f1)
      have bd := lenS_bd (S := S) (v := n) (t := sjz S j)
      have bn := rgS_bd (S := S) (t := sjz S j) n
      unfold rgS at hnx
      rw [hab] at hnx bn
      dsimp only at hnx bn ⊢
      rw [wr_m1, wri (z := lenS S n (sjz S j)) (by omega) (by omega), wri (z := a) (by omega) (by omega), wri (z := b) (by omega) (by omega)]
      refine ⟨fun c => hnx a b (if_pos c), fun c => ?_⟩
      rw [if_neg c] at hnx
      refine ⟨fun c2 => hnx _ _ (if_pos (Or.inl c2)), fun c2 => ⟨fun c3 => ?_, fun c3 => hnx _ _ (if_pos (by omega))⟩⟩
      rw [if_neg (by omega)] at hnx
      exact ⟨fun c4 => hnx _ _ (if_pos (Or.inl c4)), fun c4 => ⟨fun c5 => hnx a b (if_neg (by omega)), fun c5 => hnx _ _ (if_pos (by omega))⟩⟩
theorem sp_regretOf (hst : K.1.stackTraces = false) (hI : Inv S) {j : Nat} (hj : j < snJ S) {M : AM} (hX : RX S M) (hQ : ∀ M', RX S M' → FT M M' → Q (.inl (some (aI (regS S j)))) GG M') : MetA K fZ_regretOf [aR 0, aI j] GG M Q := by
  have hJ := hI.2.2.1
  have hs := hI.2.2.2.2.2.2.2.2.2.1 j
  refine EZ_regretOf hst _ (BZ_regretOf_0 _ ⟨j, wrn (by omega), by omega, ?_⟩)
  rw [(hX.2.2.2.2.2.2 j (by omega)).2.1, wri (by omega) (by omega)]
  refine ⟨fun c => lp_regret hst hI hj c hQ (snV S) 0 (-1) (-1) M (by omega) hX FT.rf rfl, fun c => ?_⟩
  have : regS S j = -1 := by unfold regS; rw [if_pos c]
  rw [this] at hQ
  exact hQ M hX FT.rf
theorem lp_most (hst : K.1.stackTraces = false) (hI : Inv S) {M0 : AM} (hQ : ∀ M', RX S M' → FT M0 M' → Q (.inl (some (aI (bsS S (snJ S)).1))) GG M') : ∀ (d n : Nat) (a b : Int) (M : AM), n + d = snJ S → RX S M → FT M0 M → bsS S n = (a, b) → WM K fZ_mostRegretted (EM K fZ_mostRegretted 126 Q) 6 [some (aR 0), some (aI a), some (aI b), some (aI n), none] [] GG M 0 0 := by
  have hJ := hI.2.2.1
  intro d
  induction d with
  | zero =>
    intro n a b M hn hX hF hab
    have hn2 : n = snJ S := by omega
    subst hn2
    rw [hab] at hQ
    refine BZ_mostRegretted_6 _ _ _ ⟨fun _ => hQ M hX hF, fun c => absurd ?_ c⟩
    rw [hX.2.2.2.2.2.1, wrn (by omega)]; omega
  | succ d ih =>
    intro n a b M hn hX hF hab
    have hnV : n < snJ S := by omega
    refine BZ_mostRegretted_6 _ _ _ ⟨fun c => ?_, fun _ => ?_⟩
    · rw [hX.2.2.2.2.2.1, wrn (by omega), wrn (by omega)] at c; omega
    · refine sp_regretOf hst hI hnV hX (fun M1 x1 f1 => ⟨rfl, ?_⟩)
      have hnx := fun a' b' => ih (n + 1) a' b' M1 (by omega) x1 (hF.tr f1)
      have bd := regS_bd (S := S) (j := n)
      have bn := bsS_bd (S := S) n
      unfold bsS at hnx
      rw [hab] at hnx bn
      dsimp only at hnx bn ⊢
      rw [wri (z := regS S n) (by omega) (by omega), wri (z := b) (by omega) (by omega)]
      exact ⟨fun c => hnx a b (if_neg (by omega)), fun c => hnx _ _ (if_pos (by omega))⟩
theorem sp_most (hst : K.1.stackTraces = false) (hI : Inv S) {M : AM} (hX : RX S M) (hQ : ∀ M', RX S M' → FT M M' → Q (.inl (some (aI (bsS S (snJ S)).1))) GG M') : MetA K fZ_mostRegretted [aR 0] GG M Q :=
  EZ_mostRegretted hst (BZ_mostRegretted_0 (lp_most hst hI hQ (snJ S) 0 (-1) (-1) M (by omega) hX FT.rf rfl))
end XJ
-- a job with a regret has a taker, and the taker can go there
theorem nk_rg {S : SS} {t : Nat} : ∀ n, (nkS S t n).2 = (rgS S t n).1 := by
  intro n
  induction n with
  | zero => rfl
  | succ n ih =>
    unfold nkS rgS
    rw [ih]
    by_cases h1 : lenS S n t = -1
    · rw [if_pos h1, if_neg (by omega)]; exact ih
    · rw [if_neg h1]
      by_cases h2 : (rgS S t n).1 = -1 ∨ lenS S n t < (rgS S t n).1
      · rw [if_pos h2, if_pos ⟨h1, h2⟩]
      · rw [if_neg h2, if_neg (fun q => h2 q.2)]
        split
        · exact ih
        · exact ih
theorem nk_go {S : SS} {t : Nat} : ∀ n, (nkS S t n).2 ≠ -1 → ∃ v : Nat, (nkS S t n).1 = (v : Int) ∧ v < n ∧ lenS S v t = (nkS S t n).2 ∧ canGo S v t = true := by
  intro n
  induction n with
  | zero => unfold nkS; simp
  | succ n ih =>
    unfold nkS
    split
    · rename_i h
      intro _
      refine ⟨n, rfl, by omega, rfl, ?_⟩
      unfold lenS at h
      by_cases hc : canGo S n t = true
      · exact hc
      · rw [if_neg hc] at h; exact absurd rfl h.1
    · intro h
      obtain ⟨v, h1, h2, h3⟩ := ih h
      exact ⟨v, h1, by omega, h3⟩
theorem bs_spec {S : SS} : ∀ n, ((bsS S n).1 = -1 ∧ (bsS S n).2 = -1) ∨ ∃ j : Nat, (bsS S n).1 = (j : Int) ∧ j < n ∧ (bsS S n).2 = regS S j ∧ 0 ≤ regS S j := by
  intro n
  induction n with
  | zero => exact Or.inl ⟨rfl, rfl⟩
  | succ n ih =>
    unfold bsS
    split
    · have h : (bsS S n).2 < regS S n := by assumption
      have := bsS_bd (S := S) n
      exact Or.inr ⟨n, rfl, by omega, rfl, by omega⟩
    · rcases ih with h | ⟨j, h1, h2, h3⟩
      · exact Or.inl h
      · exact Or.inr ⟨j, h1, by omega, h3⟩
theorem reg_go {S : SS} {j : Nat} (h : 0 ≤ regS S j) : sjs S j = 0 ∧ ∃ v : Nat, (nkS S (sjz S j) (snV S)).1 = (v : Int) ∧ v < snV S ∧ canGo S v (sjz S j) = true := by
  unfold regS at h
  by_cases h0 : sjs S j ≠ 0
  · rw [if_pos h0] at h; omega
  · rw [if_neg h0] at h
    refine ⟨by omega, ?_⟩
    by_cases h1 : (rgS S (sjz S j) (snV S)).1 = -1
    · rw [if_pos h1] at h; omega
    · obtain ⟨v, g1, g2, g3, g4⟩ := nk_go (S := S) (t := sjz S j) (snV S) (by rw [nk_rg]; exact h1)
      exact ⟨v, g1, g2, g4⟩
