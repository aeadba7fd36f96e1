/-! the reference: distances by breadth first -/
theorem wdv_n {a b : Nat} (ha : a < 2147483648) (h0 : 0 < b) (hb : b < 2147483648) : wdv a b = ((a / b : Nat) : Int) := by
  unfold wdv
  rw [ofI_nat, ofI_nat]
  have h := pk_div (a := a) (d := b) ha h0 hb
  have h2 : Int32.ofNat a / Int32.ofNat b = Int32.ofNat (a / b) := h
  rw [h2]
  exact toI_nat (Nat.lt_of_le_of_lt (Nat.div_le_self _ _) ha)
def LM (M : AM) (D : Nat → Nat → Nat) : Prop := ∀ i j, i < 20 → j < 20 → M 64 (20 * i + j) = if D i j = 1 then 1 else 0
def fzD (D : Nat → Nat → Nat) (t z : Nat) : Int := if D z t < 1000 then (D z t : Int) else -1
def F1 (c0 : Nat) (M M' : AM) : Prop := ∀ c k, c ≠ c0 → M' c k = M c k
theorem F1.rf {c0 : Nat} {M : AM} : F1 c0 M M := fun _ _ _ => rfl
theorem F1.um {c0 k : Nat} {x : Int} {M M' : AM} (h : F1 c0 M M') : F1 c0 M (um M' c0 k x) := fun c j hc => by rw [um_ne hc]; exact h c j hc
section MD
variable {K : KX} {D : Nat → Nat → Nat} {Q : Res → AG → AM → Prop}
theorem sp_in (hst : K.1.stackTraces = false) {M : AM} {p a b : Int} (hp : R32 p) (ha : R32 a) (hb : R32 b) (hQ : Q (.inl (some (aI (b2i (decide (a ≤ p ∧ p ≤ b)))))) GG M) : MetA K fM_in [aI p, aI a, aI b] GG M Q := by
  refine EM_in hst _ _ _ (BM_in_0 _ _ _ ?_)
  rw [wri hp.1 hp.2, wri ha.1 ha.2, wri hb.1 hb.2]
  unfold b2i at hQ
  refine ⟨fun c => ?_, fun c => ⟨fun c2 => ?_, fun c2 => ?_⟩⟩
  · rwa [if_neg (by simp; intro q; omega)] at hQ
  · rwa [if_neg (by simp; intro q; omega)] at hQ
  · rwa [if_pos (by simp; omega)] at hQ
theorem sp_isZone (hst : K.1.stackTraces = false) {M : AM} {p : Int} (hp : R32 p) (hQ : Q (.inl (some (aI (b2i (decide (zin p)))))) GG M) : MetA K fM_isZone [aI p] GG M Q := by
  refine EM_isZone hst _ (BM_isZone_0 _ (sp_in hst hp ⟨by omega, by omega⟩ ⟨by omega, by omega⟩ ⟨rfl, b2i_01 _, ?_⟩))
  have : decide (0 ≤ p ∧ p ≤ 19) = decide (zin p) := decide_eq_decide.mpr ⟨fun h => ⟨h.1, by omega⟩, fun h => ⟨h.1, by have := h.2; omega⟩⟩
  rw [this]
  exact hQ
theorem sp_well (hst : K.1.stackTraces = false) {M : AM} {c : Nat} (hc : c < 10) (hQ : Q (.inl (some (aI (b2i (decide (c = 0)))))) GG (um M 63 0 c)) : MetA K fM_goesWell [aR 63, aI c] GG M Q := by
  refine EM_goesWell hst _ (BM_goesWell_0 _ ?_)
  rw [wrn (by omega)]
  unfold b2i at hQ
  refine ⟨fun h => ?_, fun h => ?_⟩
  · rwa [if_pos (by simp; omega)] at hQ
  · rwa [if_neg (by simp; omega)] at hQ
/-- while round r is under way: the lanes ahead of number k are done -/
def MV (D : Nat → Nat → Nat) (t r k : Nat) (M : AM) : Prop := ∀ z, z < 20 → (D z t ≤ r → M 66 z = D z t) ∧ (r < D z t → (M 66 z = (r : Int) + 1 ∧ D z t = r + 1) ∨ (M 66 z = -1 ∧ ∀ i, i < 20 → 20 * i + z < k → D i z = 1 → D i t ≠ r))
theorem lp_init {t : Nat} (ht : t < 20) {M0 : AM} (hQ : ∀ M' : AM, F1 66 M0 M' → (∀ z, z < 20 → M' 66 z = if z = t then 0 else -1) → WM K fM_measure (EM K fM_measure 80 Q) 32 [some (aR 63), some (aI t), some (aI 0), none] [] GG M' 0 0) : ∀ (d n : Nat) (M : AM), n + d = 20 → F1 66 M0 M → (∀ z, z < n → M 66 z = if z = t then 0 else -1) → WM K fM_measure (EM K fM_measure 80 Q) 2 [some (aR 63), some (aI t), some (aI n), none] [] GG M 0 0 := by
  intro d
  induction d with
  | zero =>
    intro n M hn hF hz
    refine BM_measure_2 _ _ ⟨fun _ => hQ M hF (fun z hz2 => hz z (by omega)), fun c => absurd ?_ c⟩
    rw [wr_20, wrn (by omega)]; omega
  | succ d ih =>
    intro n M hn hF hz
    refine BM_measure_2 _ _ ⟨fun c => ?_, fun _ => ?_⟩
    · rw [wr_20, wrn (by omega)] at c; omega
    · rw [wrn (by omega), wrn (by omega)]
      refine ⟨fun c => ⟨n, rfl, by omega, ih (n + 1) _ (by omega) hF.um (fun z hz2 => ?_)⟩, fun c => ⟨n, rfl, by omega, ih (n + 1) _ (by omega) hF.um (fun z hz2 => ?_)⟩⟩
      · by_cases e : z = n
        · subst e; rw [um_self, if_pos (by omega)]
        · rw [um_ne2 e]; exact hz z (by omega)
      · by_cases e : z = n
        · subst e; rw [um_self, if_neg (by omega)]
        · rw [um_ne2 e]; exact hz z (by omega)
theorem MV.init (hD : GM D) {t : Nat} (ht : t < 20) {M : AM} (h : ∀ z, z < 20 → M 66 z = if z = t then 0 else -1) : MV D t 0 0 M := by
  intro z hz
  by_cases e : z = t
  · subst e
    have := hD.1 z hz
    exact ⟨fun _ => by rw [h z hz, if_pos rfl, this]; rfl, fun c => by omega⟩
  · have := hD.2.1 z t hz ht e
    exact ⟨fun c => by omega, fun _ => Or.inr ⟨by rw [h z hz, if_neg e], fun i _ c => by omega⟩⟩
theorem MV.next (hD : GM D) {t r : Nat} (ht : t < 20) (hr : r < 20) {M : AM} (h : MV D t r 400 M) : MV D t (r + 1) 0 M := by
  intro z hz
  obtain ⟨h1, h2⟩ := h z hz
  refine ⟨fun c => ?_, fun c => Or.inr ⟨?_, fun i _ q => by omega⟩⟩
  · by_cases e : D z t ≤ r
    · exact h1 e
    · rcases h2 (by omega) with ⟨g1, g2⟩ | ⟨g1, g2⟩
      · rw [g1, g2]; rfl
      · exfalso
        obtain ⟨k, hk, e1, e2⟩ := hD.2.2.2.2.1 z t r hz ht (by omega) (by omega)
        exact g2 k hk (by omega) (by rw [hD.2.2.1 k z hk hz]; exact e1) e2
  · rcases h2 (by omega) with ⟨g1, g2⟩ | ⟨g1, g2⟩
    · omega
    · exact g1
theorem MV.keep {t r i j : Nat} {M : AM} (hj : j < 20) (h : MV D t r (20 * i + j) M) (hn : D i j = 1 → D i t = r → M 66 j ≠ -1) : MV D t r (20 * i + j + 1) M := by
  intro z hz
  obtain ⟨h1, h2⟩ := h z hz
  refine ⟨h1, fun c => ?_⟩
  rcases h2 c with g | ⟨g1, g2⟩
  · exact Or.inl g
  · refine Or.inr ⟨g1, fun i2 hi2 hk hd he => ?_⟩
    by_cases e : 20 * i2 + z = 20 * i + j
    · have e1 : i2 = i := by omega
      have e2 : z = j := by omega
      subst e1; subst e2
      exact hn hd he g1
    · exact g2 i2 hi2 (by omega) hd he
theorem MV.put (hD : GM D) {t r i j : Nat} {M : AM} (ht : t < 20) (hi : i < 20) (hj : j < 20) (h : MV D t r (20 * i + j) M) (h1 : D i j = 1) (h2 : D i t = r) (h3 : M 66 j = -1) : MV D t r (20 * i + j + 1) (um M 66 j ((r : Int) + 1)) := by
  have hdj : D j t = r + 1 := by
    have q1 := hD.2.2.2.1 j i t hj hi ht
    rw [hD.2.2.1 j i hj hi, h1, h2] at q1
    by_cases e : D j t ≤ r
    · have := (h j hj).1 e; omega
    · omega
  intro z hz
  by_cases e : z = j
  · subst e
    rw [um_self]
    exact ⟨fun c => by omega, fun _ => Or.inl ⟨rfl, hdj⟩⟩
  · rw [um_ne2 e]
    obtain ⟨g1, g2⟩ := h z hz
    refine ⟨g1, fun c => ?_⟩
    rcases g2 c with g | ⟨k1, k2⟩
    · exact Or.inl g
    · exact Or.inr ⟨k1, fun i2 hi2 hk hd he => k2 i2 hi2 (by omega) hd he⟩
theorem MV.at {t r k i : Nat} {M : AM} (h : MV D t r k M) (hi : i < 20) : M 66 i = r ↔ D i t = r := by
  obtain ⟨h1, h2⟩ := h i hi
  constructor
  · intro e
    by_cases c : D i t ≤ r
    · have := h1 c; omega
    · rcases h2 (by omega) with g | g <;> omega
  · intro e
    rw [h1 (by omega), e]
theorem MV.bd (hD : GM D) {t r k i : Nat} {M : AM} (ht : t < 20) (hr : r < 20) (h : MV D t r k M) (hi : i < 20) : -1 ≤ M 66 i ∧ M 66 i ≤ 1000 := by
  obtain ⟨h1, h2⟩ := h i hi
  have := hD.2.2.2.2.2 i t hi ht
  by_cases c : D i t ≤ r
  · have := h1 c; omega
  · rcases h2 (by omega) with g | g <;> omega
theorem lp_round (hD : GM D) {t r : Nat} (ht : t < 20) (hr : r < 20) {M0 : AM} (hL : LM M0 D) (hQ : ∀ M' : AM, F1 66 M0 M' → MV D t (r + 1) 0 M' → WM K fM_measure (EM K fM_measure 80 Q) 32 [some (aR 63), some (aI t), some (aI (r + 1 : Nat)), none] [] GG M' 0 0) : ∀ (d n : Nat) (M : AM), n + d = 400 → F1 66 M0 M → MV D t r n M → WM K fM_measure (EM K fM_measure 80 Q) 40 [some (aR 63), some (aI t), some (aI r), some (aI n)] [] GG M 0 0 := by
  intro d
  induction d with
  | zero =>
    intro n M hn hF hV
    have : n = 400 := by omega
    subst this
    refine BM_measure_40 _ _ _ ⟨fun _ => hQ M hF (hV.next hD ht hr), fun c => absurd ?_ c⟩
    rw [wr_400, wrn (by omega)]; omega
  | succ d ih =>
    intro n M hn hF hV
    obtain ⟨i, j, hi, hj, rfl⟩ : ∃ i j, i < 20 ∧ j < 20 ∧ n = 20 * i + j := ⟨n / 20, n % 20, by omega, by omega, by omega⟩
    have hq : wdv ((20 * i + j : Nat) : Int) 20 = (i : Int) := by
      rw [show (20 : Int) = ((20 : Nat) : Int) from rfl, wdv_n (by omega) (by omega) (by omega)]
      exact congrArg Int.ofNat (by omega)
    have hm : ((20 * i + j : Nat) : Int) - (wdv ((20 * i + j : Nat) : Int) 20) * 20 = (j : Int) := by rw [hq]; omega
    have hne : ¬ wr 20 = 0 := by rw [wr_20]; omega
    have hl : M 64 (20 * i + j) = if D i j = 1 then 1 else 0 := by rw [hF 64 _ (by omega)]; exact hL i j hi hj
    have hb := hV.bd hD ht hr hi
    have hb2 := hV.bd hD ht hr hj
    have ha := hV.at hi
    refine BM_measure_40 _ _ _ ⟨fun c => ?_, fun _ => ⟨20 * i + j, wrn (by omega), by omega, fun c => ?_, fun c => ⟨hne, i, by rw [hq, wrn (by omega)], hi, fun c2 => ⟨hne, j, by rw [hm, wrn (by omega)], hj, fun c3 => ⟨hne, j, by rw [hm, wrn (by omega)], hj, ?_⟩, fun c3 => ?_⟩, fun c2 => ?_⟩⟩⟩
    · rw [wr_400, wrn (by omega)] at c; omega
    · refine ih (20 * i + j + 1) _ (by omega) hF (hV.keep hj (fun e _ => ?_))
      rw [hl, if_pos e, wr_1] at c
      omega
    · rw [wri (by omega) (by omega), wrn (by omega)] at c2
      rw [wri (by omega) (by omega), wr_m1] at c3
      refine ih (20 * i + j + 1) _ (by omega) hF.um (hV.put hD ht hi hj ?_ (ha.mp c2) c3)
      by_cases e : D i j = 1
      · exact e
      · rw [hl, if_neg e] at c; exact absurd rfl c
    · rw [wri (by omega) (by omega), wr_m1] at c3
      exact ih (20 * i + j + 1) _ (by omega) hF (hV.keep hj (fun _ _ => c3))
    · rw [wri (by omega) (by omega), wrn (by omega)] at c2
      exact ih (20 * i + j + 1) _ (by omega) hF (hV.keep hj (fun _ e => absurd (ha.mpr e) c2))
theorem LM.f1 {M M' : AM} (h : LM M D) (hF : F1 66 M M') : LM M' D := fun i j hi hj => by rw [hF 64 _ (by omega)]; exact h i j hi hj
theorem lp_rounds (hD : GM D) {t : Nat} (ht : t < 20) {M0 : AM} (hL : LM M0 D) (hQ : ∀ M' : AM, F1 66 M0 M' → (∀ z, z < 20 → M' 66 z = fzD D t z) → Q (.inl none) GG M') : ∀ (d r : Nat) (M : AM), r + d = 20 → F1 66 M0 M → MV D t r 0 M → WM K fM_measure (EM K fM_measure 80 Q) 32 [some (aR 63), some (aI t), some (aI r), none] [] GG M 0 0 := by
  intro d
  induction d with
  | zero =>
    intro r M hr hF hV
    have : r = 20 := by omega
    subst this
    refine BM_measure_32 _ _ ⟨fun _ => hQ M hF (fun z hz => ?_), fun c => absurd ?_ c⟩
    · obtain ⟨h1, h2⟩ := hV z hz
      unfold fzD
      by_cases e : D z t < 1000
      · rw [if_pos e]
        have := hD.small hz ht e
        exact h1 (by omega)
      · rw [if_neg e]
        rcases h2 (by omega) with g | g
        · omega
        · exact g.1
    · rw [wr_20, wrn (by omega)]; omega
  | succ d ih =>
    intro r M hr hF hV
    refine BM_measure_32 _ _ ⟨fun c => ?_, fun _ => lp_round hD ht (by omega) hL (fun M1 f1 v1 => ih (r + 1) M1 (by omega) f1 v1) 400 0 M (by omega) hF hV⟩
    rw [wr_20, wrn (by omega)] at c; omega
theorem sp_measure (hst : K.1.stackTraces = false) (hD : GM D) {t : Nat} (ht : t < 20) {M : AM} (hL : LM M D) (hQ : ∀ M' : AM, F1 66 M M' → (∀ z, z < 20 → M' 66 z = fzD D t z) → Q (.inl none) GG M') : MetA K fM_measure [aR 63, aI t] GG M Q :=
  EM_measure hst _ (BM_measure_0 _ (lp_init ht (fun M1 f1 h1 => lp_rounds hD ht hL hQ 20 0 M1 (by omega) f1 (MV.init hD ht h1)) 20 0 M (by omega) F1.rf (fun z hz => by omega)))
end MD
