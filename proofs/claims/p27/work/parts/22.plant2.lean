/-! ways as bits, energy for a way, a lane more -/
def rbt (f : Nat → Nat) : Nat → Nat
  | 0 => 0
  | n + 1 => rbt f n ||| 2 ^ f n
theorem rbt_bit {f : Nat → Nat} {n z : Nat} : (rbt f n).testBit z = true ↔ ∃ k, k < n ∧ f k = z := by
  induction n with
  | zero => simp [rbt]
  | succ n ih =>
    unfold rbt
    rw [Nat.testBit_or, pw_bit, Bool.or_eq_true, ih]
    constructor
    · rintro (⟨k, h1, h2⟩ | h)
      · exact ⟨k, by omega, h2⟩
      · exact ⟨n, by omega, of_decide_eq_true h⟩
    · rintro ⟨k, h1, h2⟩
      by_cases e : k = n
      · subst e; exact Or.inr (decide_eq_true h2)
      · exact Or.inl ⟨k, by omega, h2⟩
theorem rbt_lt {f : Nat → Nat} {n m : Nat} (h : ∀ k, k < n → f k < m) : rbt f n < 2 ^ m := by
  refine bits_lt (fun i hi => ?_)
  cases hb : (rbt f n).testBit i with
  | false => rfl
  | true =>
    obtain ⟨k, h1, h2⟩ := rbt_bit.mp hb
    have := h k h1
    omega
theorem rbt_congr {f g : Nat → Nat} {n : Nat} (h : ∀ k, k < n → f k = g k) : rbt f n = rbt g n := by
  induction n with
  | zero => rfl
  | succ n ih =>
    unfold rbt
    rw [ih (fun k hk => h k (by omega)), h n (by omega)]
def mnC (ch : Nat → Bool) (D : Nat → Nat → Nat) (t : Nat) : Nat → Nat
  | 0 => 1000
  | n + 1 => if ch n = true then min (mnC ch D t n) (D t n) else mnC ch D t n
theorem mnC_le {ch : Nat → Bool} {D : Nat → Nat → Nat} {t : Nat} : ∀ n, mnC ch D t n ≤ 1000 := by
  intro n
  induction n with
  | zero => exact Nat.le_refl _
  | succ n ih =>
    unfold mnC
    split <;> omega
def enD (ch : Nat → Bool) (D : Nat → Nat → Nat) (a t : Nat) : Nat := if mnC ch D t 20 < 1000 then D a t + mnC ch D t 20 else D a t
def b2i (b : Bool) : Int := if b = true then 1 else 0
theorem mn_n {a b : Nat} (ha : a < 2147483648) (hb : b < 2147483648) : mn a b = ((min a b : Nat) : Int) := by
  unfold mn
  rw [wrn ha, wrn hb]
  by_cases h : (b : Int) < a
  · rw [if_pos h]; omega
  · rw [if_neg h]; omega
section PLANT
variable {K : KX} {M : AM} {D : Nat → Nat → Nat} {ch : Nat → Bool} {Q : Res → AG → AM → Prop}
theorem lp_wayBits (hst : K.1.stackTraces = false) (hD : GM D) (hP : PX M D) {a t : Nat} (ha : a < 20) (ht : t < 20) (hd : D a t < 1000) (hQ : Q (.inl (some (aI (rbt (fun k => wyD D a t (k + 1)) (D a t))))) GG M) : ∀ d q : Nat, q + d = D a t → WM K fP_wayBits (EM K fP_wayBits 126 Q) 18 [some (aR 1), some (aI a), some (aI t), some (aI (rbt (fun k => wyD D a t (k + 1)) q)), some (aI (wyD D a t q)), some (aI (D a t)), some (aI q)] [] GG M 0 0 := by
  intro d
  induction d with
  | zero =>
    intro q hq
    refine BP_wayBits_18 _ _ _ _ _ _ ⟨fun _ => ?_, fun c => absurd ?_ c⟩
    · rw [show q = D a t by omega]; exact hQ
    · rw [wrn (by omega), wrn (by omega)]; omega
  | succ d ih =>
    intro q hq
    refine BP_wayBits_18 _ _ _ _ _ _ ⟨fun c => ?_, fun _ => ?_⟩
    · rw [wrn (by omega), wrn (by omega)] at c; omega
    · have h1 := wyD_spec hD ha ht hd q (by omega)
      have h2 := wyD_spec hD ha ht hd (q + 1) (by omega)
      refine sp_nextOnWay hst hD hP h1.1 ht ⟨rfl, ?_⟩
      have e : wio (rbt (fun k => wyD D a t (k + 1)) q) (wsl 1 (nxD D (wyD D a t q) t)) = ((rbt (fun k => wyD D a t (k + 1)) (q + 1) : Nat) : Int) := by
        have h3 : nxD D (wyD D a t q) t < 20 := h2.1
        rw [wsl_k _ (by omega)]
        rw [wio_n ?_ (pw_lt (by omega))]
        · rfl
        · have := rbt_lt (f := fun k => wyD D a t (k + 1)) (n := q) (m := 20) (fun k hk => (wyD_spec hD ha ht hd (k + 1) (by omega)).1)
          omega
      dsimp only
      rw [e]
      exact ih (q + 1) (by omega)
theorem sp_wayBits (hst : K.1.stackTraces = false) (hD : GM D) (hP : PX M D) {a t : Nat} (ha : a < 20) (ht : t < 20) (hd : D a t < 1000) (hQ : Q (.inl (some (aI (rbt (fun k => wyD D a t (k + 1)) (D a t))))) GG M) : MetA K fP_wayBits [aR 1, aI a, aI t] GG M Q := by
  refine EP_wayBits hst _ _ (BP_wayBits_0 _ _ ⟨a, wrn (by omega), ha, t, wrn (by omega), ht, ?_⟩)
  rw [hP a t ha ht]
  exact lp_wayBits hst hD hP ha ht hd hQ (D a t) 0 (by omega)
theorem lp_energy (hst : K.1.stackTraces = false) (hD : GM D) (hP : PX M D) (hC : ∀ z, z < 20 → M 23 z = b2i (ch z)) {a t : Nat} (ha : a < 20) (ht : t < 20) (hQ : Q (.inl (some (aI (enD ch D a t)))) GG M) : ∀ d z : Nat, z + d = 20 → WM K fP_energyForWay (EM K fP_energyForWay 126 Q) 7 [some (aR 1), some (aI a), some (aI t), some (aI (mnC ch D t z)), some (aI z)] [] GG M 0 0 := by
  intro d
  have gc := hD.2.2.2.2.2
  induction d with
  | zero =>
    intro z hz
    have hz2 : z = 20 := by omega
    subst hz2
    have hm := mnC_le (ch := ch) (D := D) (t := t) 20
    refine BP_energyForWay_7 _ _ _ _ ⟨fun _ => ⟨fun c => ⟨a, wrn (by omega), ha, t, wrn (by omega), ht, ?_⟩, fun c => ⟨a, wrn (by omega), ha, t, wrn (by omega), ht, ?_⟩⟩, fun c => absurd ?_ c⟩
    · rw [wr_1000, wrn (by omega)] at c
      unfold enD at hQ
      rw [if_neg (by omega)] at hQ
      rw [hP a t ha ht]; exact hQ
    · rw [wr_1000, wrn (by omega)] at c
      unfold enD at hQ
      rw [if_pos (by omega)] at hQ
      rw [hP a t ha ht]; exact hQ
    · rw [wr_20, wrn (by omega)]; omega
  | succ d ih =>
    intro z hz
    have hz20 : z < 20 := by omega
    have hm := mnC_le (ch := ch) (D := D) (t := t) z
    have hg := gc t z ht hz20
    refine BP_energyForWay_7 _ _ _ _ ⟨fun c => ?_, fun _ => ⟨z, wrn (by omega), hz20, ?_⟩⟩
    · rw [wr_20, wrn (by omega)] at c; omega
    · rw [hC z hz20]
      have e0 := ih (z + 1) (by omega)
      unfold mnC at e0
      unfold b2i
      by_cases h : ch z = true
      · rw [if_pos h] at e0
        rw [if_pos h]
        refine ⟨fun c => absurd c (by rw [wr_1]; decide), fun _ => ⟨t, wrn (by omega), ht, z, wrn (by omega), hz20, ?_⟩⟩
        rw [hP t z ht hz20, mn_n (by omega) (by omega)]
        exact e0
      · rw [if_neg h] at e0
        rw [if_neg h]
        exact ⟨fun _ => e0, fun c => absurd wr_0 c⟩
theorem sp_energy (hst : K.1.stackTraces = false) (hD : GM D) (hP : PX M D) (hC : ∀ z, z < 20 → M 23 z = b2i (ch z)) {a t : Nat} (ha : a < 20) (ht : t < 20) (hQ : Q (.inl (some (aI (enD ch D a t)))) GG M) : MetA K fP_energyForWay [aR 1, aI a, aI t] GG M Q := by
  refine EP_energyForWay hst _ _ (BP_energyForWay_0 _ _ ?_)
  exact lp_energy hst hD hP hC ha ht hQ 20 0 rfl
end PLANT
section LAY
variable {K : KX} {D : Nat → Nat → Nat} {Q : Res → AG → AM → Prop}
/-- while a lane is laid: the cells ahead of (i, j) are done, the others in between -/
def LY (D : Nat → Nat → Nat) (a b : Nat) (M0 M : AM) (i j : Nat) : Prop := (∀ c k, c < 3 ∨ 23 ≤ c → M c k = M0 c k) ∧
  (∀ p q, p < 20 → q < 20 → ∃ x : Nat, M (3 + p) q = (x : Int) ∧ x ≤ D p q ∧ layD D a b p q ≤ x ∧ (p < i ∨ (p = i ∧ q < j) → x = layD D a b p q))
theorem layD_tri {D : Nat → Nat → Nat} (h : GM D) {a b p q : Nat} (ha : a < 20) (hb : b < 20) (hp : p < 20) (hq : q < 20) : layD D a b p q ≤ layD D a b p a + 1 + layD D a b b q ∧ layD D a b p q ≤ layD D a b p b + 1 + layD D a b a q := by
  have hL := h.lay ha hb
  have t := hL.2.2.2.1
  have h1 : layD D a b a b ≤ 1 := by
    have := h.1 a ha; have := h.1 b hb
    unfold layD; omega
  have h2 : layD D a b b a ≤ 1 := by
    have := h.1 a ha; have := h.1 b hb
    unfold layD; omega
  have t1 := t p a q hp ha hq
  have t2 := t a b q ha hb hq
  have t3 := t p b q hp hb hq
  have t4 := t b a q hb ha hq
  omega
theorem lp_lay (hst : K.1.stackTraces = false) (hD : GM D) {M0 : AM} {a b : Nat} (ha : a < 20) (hb : b < 20) (hQ : ∀ M' : AM, PX M' (layD D a b) → (∀ c k, c < 3 ∨ 23 ≤ c → (c ≠ 1 ∨ k ≠ 2) → M' c k = M0 c k) → M' 1 2 = M0 1 2 + 1 → Q (.inl none) GG M') :
    ∀ (d i j : Nat) (M : AM), i * 21 + j + d = 420 → i ≤ 20 → j ≤ 20 → LY D a b M0 M i j → (i < 20 → WM K fP_lay (EM K fP_lay 126 Q) 11 [some (aR 1), some (aI a), some (aI b), some (aI i), some (aI j), none, none] [] GG M 0 0) ∧ (j = 0 → WM K fP_lay (EM K fP_lay 126 Q) 2 [some (aR 1), some (aI a), some (aI b), some (aI i), none, none, none] [] GG M 0 0) := by
  have gc := hD.2.2.2.2.2
  intro d
  induction d with
  | zero =>
    intro i j M hd hi hj hL
    have hi20 : i = 20 := by omega
    subst hi20
    refine ⟨fun c => absurd c (by omega), fun hj0 => ?_⟩
    refine BP_lay_2 _ _ _ ⟨fun _ => ?_, fun c => absurd ?_ c⟩
    · refine hQ _ (fun p q hp hq => ?_) (fun c k h1 h2 => ?_) ?_
      · obtain ⟨x, e1, e2, e3, e4⟩ := hL.2 p q hp hq
        rw [um_ne (by omega), e1, e4 (Or.inl hp)]
      · by_cases hc : c = 1
        · subst hc
          rw [um_ne2 (by omega)]
          exact hL.1 _ _ h1
        · rw [um_ne hc]
          exact hL.1 _ _ h1
      · rw [um_self, hL.1 1 2 (by omega)]
    · rw [wr_20, wrn (by omega)]; omega
  | succ d ih =>
    intro i j M hd hi hj hL
    have main : i < 20 → WM K fP_lay (EM K fP_lay 126 Q) 11 [some (aR 1), some (aI a), some (aI b), some (aI i), some (aI j), none, none] [] GG M 0 0 := by
      intro hi20
      refine BP_lay_11 _ _ _ _ ⟨fun c => ?_, fun c => ?_⟩
      · rw [wr_20, wrn (by omega)] at c
        have hj20 : j = 20 := by omega
        subst hj20
        refine (ih (i + 1) 0 M (by omega) (by omega) (by omega) ⟨hL.1, fun p q hp hq => ?_⟩).2 rfl
        obtain ⟨x, e1, e2, e3, e4⟩ := hL.2 p q hp hq
        exact ⟨x, e1, e2, e3, fun h => e4 (by omega)⟩
      · rw [wr_20, wrn (by omega)] at c
        have hj20 : j < 20 := by omega
        refine ⟨i, wrn (by omega), hi20, a, wrn (by omega), ha, b, wrn (by omega), hb, j, wrn (by omega), hj20, i, wrn (by omega), hi20, b, wrn (by omega), hb, a, wrn (by omega), ha, j, wrn (by omega), hj20, i, wrn (by omega), hi20, i, wrn (by omega), hi20, j, wrn (by omega), hj20, j, wrn (by omega), hj20, ?_⟩
        obtain ⟨x1, a1, a2, a3, -⟩ := hL.2 i a hi20 ha
        obtain ⟨x2, b1, b2, b3, -⟩ := hL.2 b j hb hj20
        obtain ⟨x3, c1, c2, c3, -⟩ := hL.2 i b hi20 hb
        obtain ⟨x4, d1, d2, d3, -⟩ := hL.2 a j ha hj20
        obtain ⟨x5, e1, e2, e3, -⟩ := hL.2 i j hi20 hj20
        have m1 := gc i a hi20 ha
        have m2 := gc b j hb hj20
        have m3 := gc i b hi20 hb
        have m4 := gc a j ha hj20
        have m5 := gc i j hi20 hj20
        have k1 : mn (M (3 + i) a + 1 + M (3 + b) j) (M (3 + i) b + 1 + M (3 + a) j) = ((min (x1 + 1 + x2) (x3 + 1 + x4) : Nat) : Int) := by
          rw [a1, b1, c1, d1]
          exact mn_n (a := x1 + 1 + x2) (b := x3 + 1 + x4) (by omega) (by omega)
        rw [k1, e1, mn_n (by omega) (by omega)]
        have tri := layD_tri hD ha hb hi20 hj20
        have hval : min x5 (min (x1 + 1 + x2) (x3 + 1 + x4)) = layD D a b i j := by
          have : layD D a b i j = min (D i j) (min (D i a + 1 + D b j) (D i b + 1 + D a j)) := rfl
          omega
        rw [hval]
        refine (ih i (j + 1) _ (by omega) (by omega) (by omega) ⟨fun c k h => ?_, fun p q hp hq => ?_⟩).1 hi20
        · rw [um_ne (by omega)]
          exact hL.1 c k h
        · obtain ⟨x, g1, g2, g3, g4⟩ := hL.2 p q hp hq
          by_cases hpq : p = i ∧ q = j
          · obtain ⟨rfl, rfl⟩ := hpq
            exact ⟨layD D a b p q, um_self, by unfold layD; omega, Nat.le_refl _, fun _ => rfl⟩
          · refine ⟨x, ?_, g2, g3, fun h => g4 (by omega)⟩
            rw [um_at]
            by_cases hp2 : 3 + p = 3 + i
            · rw [if_pos hp2, if_neg (fun q2 => hpq ⟨by omega, q2⟩)]
              exact g1
            · rw [if_neg hp2]
              exact g1
    refine ⟨main, fun hj0 => ?_⟩
    subst hj0
    by_cases hi20 : i < 20
    · refine BP_lay_2 _ _ _ ⟨fun c => ?_, fun c => main hi20⟩
      rw [wr_20, wrn (by omega)] at c; omega
    · exact absurd hd (by omega)
theorem sp_lay (hst : K.1.stackTraces = false) (hD : GM D) {M : AM} (hP : PX M D) {a b : Nat} (ha : a < 20) (hb : b < 20) (hQ : ∀ M' : AM, PX M' (layD D a b) → (∀ c k, c < 3 ∨ 23 ≤ c → (c ≠ 1 ∨ k ≠ 2) → M' c k = M c k) → M' 1 2 = M 1 2 + 1 → Q (.inl none) GG M') : MetA K fP_lay [aR 1, aI a, aI b] GG M Q := by
  refine EP_lay hst _ _ (BP_lay_0 _ _ ?_)
  refine (lp_lay hst hD ha hb hQ 420 0 0 M (by omega) (by omega) (by omega) ⟨fun _ _ _ => rfl, fun p q hp hq => ⟨D p q, hP p q hp hq, Nat.le_refl _, by unfold layD; omega, fun h => by omega⟩⟩).2 rfl
end LAY
