/-! the reference: distances by breadth first -/
theorem wdv_n {a b : Nat} (ha : a < 2147483648) (h0 : 0 < b) (hb : b < 2147483648) : wdv a b = ((a / b : Nat) : Int) := by
  unfold wdv
  rw [ofI_nat, ofI_nat]
  have h := pk_div (a := a) (d := b) ha h0 hb
  have h2 : Int32.ofNat a / Int32.ofNat b = Int32.ofNat (a / b) := h
  rw [h2]
  exact toI_nat (Nat.lt_of_le_of_lt (Nat.div_le_self _ _) ha)
def LM (M : AM) (D : Nat → Nat → Nat) : Prop := ∀ i j, i < 20 → j < 20 → M 64 (20 * i + j) = if D i j = 1 then 1 else 0
def fzD (D : Nat → Nat → Nat) (t z : Nat) : Int := if D z t < 1000 then (D z t : Int) else -1
def F1 (c0 : Nat) (M M' : AM) : Prop := ∀ c k, c ≠ c0 → M' c k = M c k
theorem F1.rf {c0 : Nat} {M : AM} : F1 c0 M M := fun _ _ _ => rfl
theorem F1.um {c0 k : Nat} {x : Int} {M M' : AM} (h : F1 c0 M M') : F1 c0 M (um M' c0 k x) := fun c j hc => by rw [um_ne hc]; exact h c j hc
section MD
variable {K : KX} {D : Nat → Nat → Nat} {Q : Res → AG → AM → Prop}
theorem sp_in (hst : K.1.stackTraces = false) {M : AM} {p a b : Int} (hp : R32 p) (ha : R32 a) (hb : R32 b) (hQ : Q (.inl (some (aI (b2i (decide (a ≤ p ∧ p ≤ b)))))) GG M) : MetA K fM_in [aI p, aI a, aI b] GG M Q := by
  refine EM_in hst _ _ _ (BM_in_0 _ _ _ ?_)
  rw [wri hp.1 hp.2, wri ha.1 ha.2, wri hb.1 hb.2]
  unfold b2i at hQ
  refine ⟨fun c => ?_, fun c => ⟨fun c2 => ?_, fun c2 => ?_⟩⟩
  · rwa [if_neg (by simp; intro q; omega)] at hQ
  · rwa [if_neg (by simp; intro q; omega)] at hQ
  · rwa [if_pos (by simp; omega)] at hQ
theorem sp_isZone (hst : K.1.stackTraces = false) {M : AM} {p : Int} (hp : R32 p) (hQ : Q (.inl (some (aI (b2i (decide (zin p)))))) GG M) : MetA K fM_isZone [aI p] GG M Q := by
  refine EM_isZone hst _ (BM_isZone_0 _ (sp_in hst hp ⟨by omega, by omega⟩ ⟨by omega, by omega⟩ ⟨rfl, b2i_01 _, ?_⟩))
  have : decide (0 ≤ p ∧ p ≤ 19) = decide (zin p) := decide_eq_decide.mpr ⟨fun h => ⟨h.1, by omega⟩, fun h => ⟨h.1, by have := h.2; omega⟩⟩
  rw [this]
  exact hQ
theorem sp_well (hst : K.1.stackTraces = false) {M : AM} {c : Nat} (hc : c < 10) (hQ : Q (.inl (some (aI (b2i (decide (c = 0)))))) GG (um M 63 0 c)) : MetA K fM_goesWell [aR 63, aI c] GG M Q := by
  refine EM_goesWell hst _ (BM_goesWell_0 _ ?_)
  rw [wrn (by omega)]
  unfold b2i at hQ
  refine ⟨fun h => ?_, fun h => ?_⟩
  · rwa [if_pos (by simp; omega)] at hQ
  · rwa [if_neg (by simp; omega)] at hQ
/-- while round r is under way: the lanes ahead of number k are done -/
def BF (D : Nat → Nat → Nat) (t r k z : Nat) : Int := if D z t ≤ r then (D z t : Int) else if D z t = r + 1 ∧ (∃ i j, i < 20 ∧ j < 20 ∧ 20 * i + j < k ∧ j = z ∧ D i j = 1 ∧ D i t = r) then (r : Int) + 1 else -1
theorem lp_init {t : Nat} (ht : t < 20) {M0 : AM} (hQ : ∀ M' : AM, F1 66 M0 M' → (∀ z, z < 20 → M' 66 z = if z = t then 0 else -1) → WM K fM_measure (EM K fM_measure 80 Q) 32 [some (aR 63), some (aI t), some (aI 0), none] [] GG M' 0 0) : ∀ (d n : Nat) (M : AM), n + d = 20 → F1 66 M0 M → (∀ z, z < n → M 66 z = if z = t then 0 else -1) → WM K fM_measure (EM K fM_measure 80 Q) 2 [some (aR 63), some (aI t), some (aI n), none] [] GG M 0 0 := by
  intro d
  induction d with
  | zero =>
    intro n M hn hF hz
    refine BM_measure_2 _ _ ⟨fun _ => hQ M hF (fun z hz2 => hz z (by omega)), fun c => absurd ?_ c⟩
    rw [wr_20, wrn (by omega)]; omega
  | succ d ih =>
    intro n M hn hF hz
    refine BM_measure_2 _ _ ⟨fun c => ?_, fun _ => ?_⟩
    · rw [wr_20, wrn (by omega)] at c; omega
    · rw [wrn (by omega), wrn (by omega)]
      refine ⟨fun c => ⟨n, rfl, by omega, ih (n + 1) _ (by omega) hF.um (fun z hz2 => ?_)⟩, fun c => ⟨n, rfl, by omega, ih (n + 1) _ (by omega) hF.um (fun z hz2 => ?_)⟩⟩
      · by_cases e : z = n
        · subst e; rw [um_self, if_pos (by omega)]
        · rw [um_ne2 e]; exact hz z (by omega)
      · by_cases e : z = n
        · subst e; rw [um_self, if_neg (by omega)]
        · rw [um_ne2 e]; exact hz z (by omega)
theorem BF_0 {t r : Nat} (hD : GM D) (ht : t < 20) {z : Nat} (hz : z < 20) : BF D t (r + 1) 0 z = BF D t r 400 z := by
  unfold BF
  by_cases h1 : D z t ≤ r
  · rw [if_pos (by omega), if_pos h1]
  · rw [if_neg h1]
    by_cases h2 : D z t = r + 1
    · rw [if_pos (by omega)]
      by_cases h3 : r + 1 < 1000
      · obtain ⟨k, hk, e1, e2⟩ := hD.2.2.2.2.1 z t r hz ht h2 h3
        rw [if_pos ⟨h2, k, z, hk, hz, by omega, rfl, by rw [hD.2.2.1 k z hk hz]; exact e1, e2⟩]
        omega
      · by_cases h4 : (D z t = r + 1 ∧ ∃ i j, i < 20 ∧ j < 20 ∧ 20 * i + j < 400 ∧ j = z ∧ D i j = 1 ∧ D i t = r)
        · rw [if_pos h4]; omega
        · exfalso
          have hc := hD.2.2.2.2.2 z t hz ht
          sorry
    · rw [if_neg (by omega), if_neg (fun q => h2 q.1), if_neg (fun q => by obtain ⟨_, i, j, _, _, h, _⟩ := q; omega)]
end MD
