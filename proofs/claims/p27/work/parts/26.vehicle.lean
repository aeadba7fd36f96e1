/-! a vehicle of the class: where it is, and its route of l zones r 0, r 1 .. -/
def VX (M : AM) (v z l : Nat) (r : Nat → Nat) : Prop := M (30 + 2 * v) 4 = (z : Int) ∧ M (30 + 2 * v) 3 = (rbt r l : Int) ∧ ∃ nx : Nat, M (30 + 2 * v) 1 = (nx : Int) ∧ M (30 + 2 * v) 2 = ((nx + l : Nat) : Int) ∧ nx + l ≤ 20 ∧ ∀ k, k < l → M (31 + 2 * v) (nx + k) = (r k : Int)
theorem VX.congr {M M' : AM} {v z l : Nat} {r : Nat → Nat} (h : VX M v z l r) (h1 : ∀ k, k < 5 → M' (30 + 2 * v) k = M (30 + 2 * v) k) (h2 : ∀ k, M' (31 + 2 * v) k = M (31 + 2 * v) k) : VX M' v z l r := by
  obtain ⟨a1, a2, nx, a3, a4, a5, a6⟩ := h
  exact ⟨by rw [h1 4 (by omega)]; exact a1, by rw [h1 3 (by omega)]; exact a2, nx, by rw [h1 1 (by omega)]; exact a3, by rw [h1 2 (by omega)]; exact a4, a5, fun k hk => by rw [h2]; exact a6 k hk⟩
def lstz (z l : Nat) (r : Nat → Nat) : Nat := if 0 < l then r (l - 1) else z
section VE
variable {K : KX} {Q : Res → AG → AM → Prop} {M : AM} {v z l : Nat} {r : Nat → Nat}
theorem sp_isIdle (hst : K.1.stackTraces = false) (hv : v < 6) (hV : VX M v z l r) (hQ : Q (.inl (some (aI (if l = 0 then 1 else 0)))) GG M) : MetA K fV_isIdle [aR (30 + 2 * v)] GG M Q := by
  obtain ⟨a1, a2, nx, a3, a4, a5, a6⟩ := hV
  refine EV_isIdle hst v (BV_isIdle_0 v hv ?_)
  rw [a3, a4, wrn (by omega), wrn (by omega)]
  refine ⟨fun c => ?_, fun c => ?_⟩
  · rwa [if_neg (by omega)] at hQ
  · rwa [if_pos (by omega)] at hQ
theorem sp_zonesLeft (hst : K.1.stackTraces = false) (hv : v < 6) (hV : VX M v z l r) (hQ : Q (.inl (some (aI l))) GG M) : MetA K fV_zonesLeft [aR (30 + 2 * v)] GG M Q := by
  obtain ⟨a1, a2, nx, a3, a4, a5, a6⟩ := hV
  refine EV_zonesLeft hst v (BV_zonesLeft_0 v hv ?_)
  have : M (30 + 2 * v) 2 - M (30 + 2 * v) 1 = (l : Int) := by rw [a3, a4]; omega
  rw [this]
  exact hQ
theorem sp_nextZone (hst : K.1.stackTraces = false) (hv : v < 6) (hV : VX M v z l r) (hQ : Q (.inl (some (aI ((if 0 < l then r 0 else z : Nat) : Int)))) GG M) : MetA K fV_nextZone [aR (30 + 2 * v)] GG M Q := by
  obtain ⟨a1, a2, nx, a3, a4, a5, a6⟩ := hV
  refine EV_nextZone hst v (BV_nextZone_0 v hv ?_)
  rw [a1, a3, a4, wrn (by omega), wrn (by omega)]
  refine ⟨fun c => ?_, fun c => ⟨nx, rfl, by omega, ?_⟩⟩
  · rwa [if_neg (by omega)] at hQ
  · have := a6 0 (by omega)
    rw [show M (31 + 2 * v) nx = (r 0 : Int) from this]
    rwa [if_pos (by omega)] at hQ
theorem sp_lastZone (hst : K.1.stackTraces = false) (hv : v < 6) (hV : VX M v z l r) (hQ : Q (.inl (some (aI (lstz z l r)))) GG M) : MetA K fV_lastZone [aR (30 + 2 * v)] GG M Q := by
  obtain ⟨a1, a2, nx, a3, a4, a5, a6⟩ := hV
  refine EV_lastZone hst v (BV_lastZone_0 v hv ?_)
  unfold lstz at hQ
  have e : wr (((nx + l : Nat) : Int) - 1) = (nx : Int) + l - 1 := wr_of (by omega) (by omega)
  rw [a1, a3, a4, wrn (by omega), wrn (by omega), e]
  refine ⟨fun c => ?_, fun c => ⟨nx + l - 1, by omega, by omega, ?_⟩⟩
  · rwa [if_neg (by omega)] at hQ
  · have := a6 (l - 1) (by omega)
    rw [show nx + l - 1 = nx + (l - 1) by omega, this]
    rwa [if_pos (by omega)] at hQ
/-- only vehicle v's own cells have changed, and of its object not the energy and what follows -/
def FV (v : Nat) (M0 M : AM) : Prop := ∀ c k, (c ≠ 30 + 2 * v ∧ c ≠ 31 + 2 * v) ∨ (c = 30 + 2 * v ∧ 4 < k) → M c k = M0 c k
theorem sp_dropRoute (hst : K.1.stackTraces = false) (hv : v < 6) (hV : VX M v z l r) (hQ : ∀ M' : AM, FV v M M' → VX M' v z 0 r → Q (.inl none) GG M') : MetA K fV_dropRoute [aR (30 + 2 * v)] GG M Q := by
  obtain ⟨a1, a2, nx, a3, a4, a5, a6⟩ := hV
  refine EV_dropRoute hst v (BV_dropRoute_0 v hv (hQ _ (fun c k h => ?_) ⟨?_, ?_, 0, ?_, ?_, by omega, fun k hk => by omega⟩))
  · rcases h with h | h
    · rw [um_ne h.1, um_ne h.1, um_ne h.1]
    · rw [um_ne2 (by omega), um_ne2 (by omega), um_ne2 (by omega)]
  · rw [um_ne2 (by omega), um_ne2 (by omega), um_ne2 (by omega)]; exact a1
  · rw [um_self]; rfl
  · rw [um_ne2 (by omega), um_ne2 (by omega), um_self]; rfl
  · rw [um_ne2 (by omega), um_self]; rfl
theorem sp_advance (hst : K.1.stackTraces = false) (hv : v < 6) (hV : VX M v z l r) (hl : 0 < l) (hr : ∀ k, k < l → r k < 20) (hinj : ∀ k, 0 < k → k < l → r k ≠ r 0) (hQ : ∀ M' : AM, (∀ c k, c ≠ 30 + 2 * v ∨ 5 < k → M' c k = M c k) → M' (30 + 2 * v) 5 = M (30 + 2 * v) 5 - 1 → VX M' v (r 0) (l - 1) (fun k => r (k + 1)) → Q (.inl none) GG M') : MetA K fV_advance [aR (30 + 2 * v)] GG M Q := by
  refine EV_advance hst v (BV_advance_0 v hv (sp_nextZone hst hv hV ⟨rfl, ?_⟩))
  obtain ⟨a1, a2, nx, a3, a4, a5, a6⟩ := hV
  dsimp only
  rw [if_pos hl]
  have hz := hr 0 hl
  have hb : rbt r l < 1048576 := rbt_lt (m := 20) (fun k hk => hr k hk)
  have e3 : (um M (30 + 2 * v) 4 (r 0 : Int)) (30 + 2 * v) 3 = (rbt r l : Int) := by rw [um_ne2 (by omega)]; exact a2
  have e4 : (um M (30 + 2 * v) 4 (r 0 : Int)) (30 + 2 * v) 4 = (r 0 : Int) := um_self
  rw [e3, e4, wsl_k _ (by omega), wnot_n (by omega)]
  have hbits : ndf (rbt r l) (2 ^ r 0) = rbt (fun k => r (k + 1)) (l - 1) := by
    apply Nat.eq_of_testBit_eq
    intro i
    rw [ndf_bit, pw_bit]
    apply Bool.eq_iff_iff.mpr
    rw [Bool.and_eq_true, rbt_bit, rbt_bit]
    constructor
    · rintro ⟨⟨k, h1, h2⟩, h3⟩
      have h4 : ¬ r 0 = i := by simpa using h3
      have hk0 : k ≠ 0 := fun q => h4 (q ▸ h2)
      exact ⟨k - 1, by omega, by rw [show k - 1 + 1 = k by omega]; exact h2⟩
    · rintro ⟨k, h1, h2⟩
      refine ⟨⟨k + 1, by omega, h2⟩, ?_⟩
      have := hinj (k + 1) (by omega) (by omega)
      rw [h2] at this
      simp
      exact fun q => this q.symm
  rw [hbits]
  have w : ∀ (x y : Int), (um (um (um (um M (30 + 2 * v) 4 (r 0 : Int)) (30 + 2 * v) 3 ((rbt (fun k => r (k + 1)) (l - 1) : Nat) : Int)) (30 + 2 * v) 1 x) (30 + 2 * v) 5 y) = (um (um (um (um M (30 + 2 * v) 4 (r 0 : Int)) (30 + 2 * v) 3 ((rbt (fun k => r (k + 1)) (l - 1) : Nat) : Int)) (30 + 2 * v) 1 x) (30 + 2 * v) 5 y) := fun _ _ => rfl
  refine hQ _ (fun c k h => ?_) ?_ ⟨?_, ?_, nx + 1, ?_, ?_, by omega, fun k hk => ?_⟩
  · rcases h with h | h
    · rw [um_ne h, um_ne h, um_ne h, um_ne h]
    · rw [um_ne2 (by omega), um_ne2 (by omega), um_ne2 (by omega), um_ne2 (by omega)]
  · rw [um_self, um_ne2 (by omega), um_ne2 (by omega), um_ne2 (by omega)]
  · rw [um_ne2 (by omega), um_ne2 (by omega), um_ne2 (by omega), um_self]
  · rw [um_ne2 (by omega), um_ne2 (by omega), um_self]
  · rw [um_ne2 (by omega), um_self, um_ne2 (by omega), um_ne2 (by omega), a3]; omega
  · rw [um_ne2 (by omega), um_ne2 (by omega), um_ne2 (by omega), um_ne2 (by omega), a4]; omega
  · rw [um_ne (by omega), um_ne (by omega), um_ne (by omega), um_ne (by omega), show nx + 1 + k = nx + (k + 1) by omega]
    exact a6 (k + 1) (by omega)
end VE
section TW
variable {K : KX} {Q : Res → AG → AM → Prop} {D : Nat → Nat → Nat}
theorem lp_takeWay (hst : K.1.stackTraces = false) (hD : GM D) {M0 : AM} {v a t : Nat} (hv : v < 6) (ha : a < 20) (ht : t < 20) (hd : D a t < 1000) (hQ : ∀ M' : AM, FV v M0 M' → VX M' v a (D a t) (fun k => wyD D a t (k + 1)) → Q (.inl none) GG M') :
    ∀ (d q : Nat) (M : AM), q + d = D a t → PX M D → FV v M0 M → M (30 + 2 * v) 4 = (a : Int) → M (30 + 2 * v) 3 = (rbt (fun k => wyD D a t (k + 1)) q : Int) → (∀ k, k < q → M (31 + 2 * v) k = (wyD D a t (k + 1) : Int)) → WM K fV_takeWay (EM K fV_takeWay 126 Q) 31 [some (aR (30 + 2 * v)), some (aR 1), some (aI t), some (aI (D a t)), some (aI (wyD D a t q)), some (aI q)] [] GG M 0 0 := by
  have hsm := hD.small ha ht hd
  intro d
  induction d with
  | zero =>
    intro q M hq hP hF h4 h3 hr
    have hq2 : q = D a t := by omega
    refine BV_takeWay_31 _ _ _ _ v hv ⟨fun _ => hQ _ (fun c k h => ?_) ⟨?_, ?_, 0, ?_, ?_, by omega, fun k hk => ?_⟩, fun c => absurd ?_ c⟩
    · rw [← hF c k h]
      rcases h with h | h
      · rw [um_ne h.1, um_ne h.1]
      · rw [um_ne2 (by omega), um_ne2 (by omega)]
    · rw [um_ne2 (by omega), um_ne2 (by omega)]; exact h4
    · rw [um_ne2 (by omega), um_ne2 (by omega), h3, hq2]
    · rw [um_ne2 (by omega), um_self]; rfl
    · rw [um_self, Nat.zero_add]
    · rw [um_ne (by omega), um_ne (by omega), Nat.zero_add]; exact hr k (by omega)
    · rw [wrn (by omega), wrn (by omega)]; omega
  | succ d ih =>
    intro q M hq hP hF h4 h3 hr
    refine BV_takeWay_31 _ _ _ _ v hv ⟨fun c => ?_, fun _ => ?_⟩
    · rw [wrn (by omega), wrn (by omega)] at c; omega
    · have h1 := wyD_spec hD ha ht hd q (by omega)
      have h2 := wyD_spec hD ha ht hd (q + 1) (by omega)
      have h2' : nxD D (wyD D a t q) t < 20 := h2.1
      refine sp_nextOnWay hst hD hP h1.1 ht ⟨rfl, q, wrn (by omega), by omega, ?_⟩
      have hb : rbt (fun k => wyD D a t (k + 1)) q < 1048576 := rbt_lt (m := 20) (fun k hk => (wyD_spec hD ha ht hd (k + 1) (by omega)).1)
      have e : wio ((um M (31 + 2 * v) q (nxD D (wyD D a t q) t : Int)) (30 + 2 * v) 3) (wsl 1 (nxD D (wyD D a t q) t)) = ((rbt (fun k => wyD D a t (k + 1)) (q + 1) : Nat) : Int) := by
        rw [um_ne (by omega), h3, wsl_k _ (by omega), wio_n (by omega) (pw_lt (by omega))]
        rfl
      rw [e]
      refine ih (q + 1) _ (by omega) (fun i j hi hj => ?_) (fun c k h => ?_) ?_ ?_ (fun k hk => ?_)
      · rw [um_ne (by omega), um_ne (by omega)]; exact hP i j hi hj
      · rw [← hF c k h]
        rcases h with h | h
        · rw [um_ne h.1, um_ne h.2]
        · rw [um_ne2 (by omega), um_ne (by omega)]
      · rw [um_ne2 (by omega), um_ne (by omega)]; exact h4
      · rw [um_self]
      · rw [um_ne (by omega)]
        by_cases hkq : k = q
        · subst hkq; rw [um_self]; rfl
        · rw [um_ne2 hkq]; exact hr k (by omega)
theorem sp_takeWay (hst : K.1.stackTraces = false) (hD : GM D) {M : AM} (hP : PX M D) {v z l t : Nat} {r : Nat → Nat} (hv : v < 6) (hV : VX M v z l r) (hz : z < 20) (ht : t < 20) (hd : D z t < 1000) (hQ : ∀ M' : AM, FV v M M' → VX M' v z (D z t) (fun k => wyD D z t (k + 1)) → Q (.inl none) GG M') : MetA K fV_takeWay [aR (30 + 2 * v), aR 1, aI t] GG M Q := by
  have hsm := hD.small hz ht hd
  refine EV_takeWay hst _ v (BV_takeWay_0 _ v hv ⟨z, by rw [hV.1]; exact wrn (by omega), hz, t, wrn (by omega), ht, ?_⟩)
  have e : mn (M (3 + z) t) 20 = (D z t : Int) := by
    rw [hP z t hz ht]
    have := mn_n (a := D z t) (b := 20) (by omega) (by omega)
    rw [show min (D z t) 20 = D z t by omega] at this
    exact this
  rw [e, hV.1]
  refine lp_takeWay hst hD hv hz ht hd hQ (D z t) 0 _ (by omega) (fun i j hi hj => ?_) (fun c k h => ?_) ?_ ?_ (fun k hk => by omega)
  · rw [um_ne (by omega)]; exact hP i j hi hj
  · rcases h with h | h
    · rw [um_ne h.1]
    · rw [um_ne2 (by omega)]
  · rw [um_ne2 (by omega)]; exact hV.1
  · rw [um_self]; rfl
end TW
