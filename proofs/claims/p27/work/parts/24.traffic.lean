/-! the picture of the vehicles: what Traffic's methods answer -/
def TX (M : AM) (g : Nat) (sB eB rB : Nat → Nat) : Prop := M 24 4 = (g : Int) ∧ g < 64 ∧ ∀ v, v < 6 → (M 25 v = (sB v : Int) ∧ M 26 v = (eB v : Int) ∧ M 27 v = (rB v : Int)) ∧ sB v < 1048576 ∧ eB v < 1048576 ∧ rB v < 1048576
def tk (sB eB : Nat → Nat) (S : Nat) : Nat → Nat
  | 0 => 0
  | n + 1 => tk sB eB S n ||| (if S.testBit n = true then eB n else sB n)
def rst (rB : Nat → Nat) (T : Nat) : Nat → Nat
  | 0 => 0
  | n + 1 => if rB n &&& T = 0 then rst rB T n ||| 2 ^ n else rst rB T n
def okT (g : Nat) (sB eB rB : Nat → Nat) (S v : Nat) : Bool := g.testBit v && !S.testBit v && decide (rB v &&& tk sB eB S 6 = 0)
def runB (g : Nat) (sB eB rB : Nat → Nat) (S : Nat) : Nat := ndf (rst rB (tk sB eB S 6) 6 &&& g) S
theorem or20 {a b : Nat} (h : a < 1048576) (h2 : b < 1048576) : a ||| b < 1048576 := Nat.or_lt_two_pow (n := 20) h h2
theorem or6 {a b : Nat} (h : a < 64) (h2 : b < 64) : a ||| b < 64 := Nat.or_lt_two_pow (n := 6) h h2
theorem pw6 {v : Nat} (h : v < 6) : 2 ^ v < 64 := by
  have : 2 ^ v < 2 ^ 6 := Nat.pow_lt_pow_right (by omega) h
  exact this
theorem pw20 {v : Nat} (h : v < 20) : 2 ^ v < 1048576 := by
  have : 2 ^ v < 2 ^ 20 := Nat.pow_lt_pow_right (by omega) h
  exact this
theorem tk_lt {sB eB : Nat → Nat} {S : Nat} (h : ∀ v, v < 6 → sB v < 1048576 ∧ eB v < 1048576) : ∀ n, n ≤ 6 → tk sB eB S n < 1048576 := by
  intro n
  induction n with
  | zero => intro _; unfold tk; omega
  | succ n ih =>
    intro hn
    have h1 := h n (by omega)
    unfold tk
    exact or20 (ih (by omega)) (by split; exact h1.2; exact h1.1)
theorem rst_bit {rB : Nat → Nat} {T v : Nat} : ∀ n, (rst rB T n).testBit v = (decide (v < n) && decide (rB v &&& T = 0)) := by
  intro n
  induction n with
  | zero => simp [rst]
  | succ n ih =>
    unfold rst
    by_cases h : rB n &&& T = 0
    · rw [if_pos h, or_bit, ih]
      by_cases e : n = v
      · subst e; simp [h]
      · have : decide (v < n) = decide (v < n + 1) := by
          apply decide_eq_decide.mpr; omega
        simp [e, this]
    · rw [if_neg h, ih]
      by_cases e : n = v
      · subst e; simp [h]
      · have : decide (v < n) = decide (v < n + 1) := by
          apply decide_eq_decide.mpr; omega
        rw [this]
theorem rst_lt {rB : Nat → Nat} {T n : Nat} (h : n ≤ 6) : rst rB T n < 64 := bits_lt (k := 6) (fun i hi => by
  rw [rst_bit]
  simp
  omega)
theorem okT_fit {g : Nat} {sB eB rB : Nat → Nat} : Fit (okT g sB eB rB) g := fun S v h => by
  unfold okT at h
  simp at h
  exact ⟨h.1.1, h.1.2⟩
theorem bit6 {g v : Nat} (hg : g < 64) (h : g.testBit v = true) : v < 6 := Classical.byContradiction fun h2 => by
  rw [lt_bits (k := 6) hg (by omega)] at h
  cases h
theorem runB_bit {g : Nat} {sB eB rB : Nat → Nat} {S v : Nat} (hg : g < 64) : (runB g sB eB rB S).testBit v = okT g sB eB rB S v := by
  unfold runB okT
  rw [ndf_bit, Nat.testBit_and, rst_bit]
  cases hb : g.testBit v with
  | false => simp
  | true =>
    have := bit6 hg hb
    simp [this]
    cases S.testBit v <;> simp
theorem runB_lt {g : Nat} {sB eB rB : Nat → Nat} {S : Nat} : runB g sB eB rB S < 64 := bits_lt (k := 6) (fun i hi => by
  unfold runB
  rw [ndf_bit, Nat.testBit_and, lt_bits (k := 6) (rst_lt (Nat.le_refl _)) hi]
  rfl)
theorem wtest {S n : Nat} (hS : S < 2147483648) (hn : n < 31) : wr (wia (S : Int) (wsl 1 (n : Int))) = 0 ↔ S.testBit n = false := by
  rw [wsl_k n hn, wia_n hS, wrn (and_lt hS), ← and_pw]
  omega
section TR
variable {K : KX} {M : AM} {g : Nat} {sB eB rB : Nat → Nat} {Q : Res → AG → AM → Prop}
theorem lp_run2 (hT : TX M g sB eB rB) {S : Nat} (hS : S < 64) (hQ : Q (.inl (some (aI (runB g sB eB rB S)))) GG M) : ∀ d n : Nat, n + d = 6 → WM K fT_runnersBehind (EM K fT_runnersBehind 126 Q) 47 [some (aR 24), some (aI S), some (aI (tk sB eB S 6)), some (aI (rst rB (tk sB eB S 6) n)), some (aI n)] [] GG M 0 0 := by
  obtain ⟨t1, t2, t3⟩ := hT
  have tl := tk_lt (S := S) (fun v hv => ⟨(t3 v hv).2.1, (t3 v hv).2.2.1⟩) 6 (Nat.le_refl _)
  intro d
  induction d with
  | zero =>
    intro n hn
    have hn6 : n = 6 := by omega
    subst hn6
    refine BT_runnersBehind_47 _ _ _ _ ⟨fun _ => ?_, fun c => absurd ?_ c⟩
    · have hr := rst_lt (rB := rB) (T := tk sB eB S 6) (n := 6) (Nat.le_refl _)
      rw [t1, wia_n (by omega), wnot_n (and_lt (by omega))]
      exact hQ
    · rw [wr_6, wrn (by omega)]; omega
  | succ d ih =>
    intro n hn
    have hn6 : n < 6 := by omega
    refine BT_runnersBehind_47 _ _ _ _ ⟨fun c => ?_, fun _ => ⟨n, wrn (by omega), hn6, ?_⟩⟩
    · rw [wr_6, wrn (by omega)] at c; omega
    · have hb := t3 n hn6
      have e0 := ih (n + 1) (by omega)
      have hr := rst_lt (rB := rB) (T := tk sB eB S 6) (n := n) (by omega)
      have hp := pw6 hn6
      unfold rst at e0
      rw [hb.1.2.2, wia_n (by omega), wrn (and_lt (by omega))]
      refine ⟨fun c => ?_, fun c => ?_⟩
      · rw [if_pos (by omega)] at e0
        rw [wsl_k n (by omega), wio_n (by omega) (by omega)]
        exact e0
      · rw [if_neg (by omega)] at e0
        exact e0
theorem lp_run1 (hT : TX M g sB eB rB) {S : Nat} (hS : S < 64) (hQ : Q (.inl (some (aI (runB g sB eB rB S)))) GG M) : ∀ d n : Nat, n + d = 6 → WM K fT_runnersBehind (EM K fT_runnersBehind 126 Q) 4 [some (aR 24), some (aI S), some (aI (tk sB eB S n)), some (aI n), none] [] GG M 0 0 := by
  have hT0 := hT
  obtain ⟨t1, t2, t3⟩ := hT
  intro d
  induction d with
  | zero =>
    intro n hn
    have hn6 : n = 6 := by omega
    subst hn6
    refine BT_runnersBehind_4 _ _ _ ⟨fun _ => lp_run2 hT0 hS hQ 6 0 rfl, fun c => absurd ?_ c⟩
    rw [wr_6, wrn (by omega)]; omega
  | succ d ih =>
    intro n hn
    have hn6 : n < 6 := by omega
    have hb := t3 n hn6
    have tl := tk_lt (S := S) (fun v hv => ⟨(t3 v hv).2.1, (t3 v hv).2.2.1⟩) n (by omega)
    have e0 := ih (n + 1) (by omega)
    unfold tk at e0
    refine BT_runnersBehind_4 _ _ _ ⟨fun c => ?_, fun _ => ⟨fun c => ⟨n, wrn (by omega), hn6, ?_⟩, fun c => ⟨n, wrn (by omega), hn6, ?_⟩⟩⟩
    · rw [wr_6, wrn (by omega)] at c; omega
    · rw [wtest (by omega) (by omega)] at c
      rw [if_neg (by rw [c]; decide)] at e0
      rw [hb.1.1, wio_n (by omega) (by omega)]
      exact e0
    · rw [wtest (by omega) (by omega)] at c
      rw [if_pos (by simpa using c)] at e0
      rw [hb.1.2.1, wio_n (by omega) (by omega)]
      exact e0
theorem sp_runners (hst : K.1.stackTraces = false) (hT : TX M g sB eB rB) {S : Nat} (hS : S < 64) (hQ : Q (.inl (some (aI (runB g sB eB rB S)))) GG M) : MetA K fT_runnersBehind [aR 24, aI S] GG M Q :=
  ET_runnersBehind hst _ (BT_runnersBehind_0 _ (lp_run1 hT hS hQ 6 0 rfl))
theorem lp_sum {S R : Nat} {c : Nat → Nat} (hS : S < 64) (hR : R < 64) (hc : ∀ v, v < 6 → R.testBit v = true → M 28 (S ||| 2 ^ v) = (c v : Int)) (hQ : Q (.inl (some (aI (sumN (fun v => if R.testBit v = true then c v else 0) 6)))) GG M) : ∀ d n : Nat, n + d = 6 → WM K fT_sumBehind (EM K fT_sumBehind 126 Q) 5 [some (aR 24), some (aI S), some (aI R), some (aI (sumN (fun v => if R.testBit v = true then c v else 0) n)), some (aI n), none] [] GG M 0 0 := by
  intro d
  induction d with
  | zero =>
    intro n hn
    have hn6 : n = 6 := by omega
    subst hn6
    refine BT_sumBehind_5 _ _ _ _ ⟨fun _ => hQ, fun c => absurd ?_ c⟩
    rw [wr_6, wrn (by omega)]; omega
  | succ d ih =>
    intro n hn
    have hn6 : n < 6 := by omega
    have e0 := ih (n + 1) (by omega)
    unfold sumN at e0
    have hp := pw6 hn6
    refine BT_sumBehind_5 _ _ _ _ ⟨fun c => ?_, fun _ => ⟨fun c => ?_, fun c => ⟨S ||| 2 ^ n, ?_, or6 hS hp, ?_⟩⟩⟩
    · rw [wr_6, wrn (by omega)] at c; omega
    · rw [wtest (by omega) (by omega)] at c
      rw [if_neg (by rw [c]; decide)] at e0
      exact e0
    · rw [wsl_k n (by omega), wio_n (by omega) (by omega)]
      have := or6 hS hp
      exact wrn (by omega)
    · rw [wtest (by omega) (by omega)] at c
      have c2 : R.testBit n = true := by simpa using c
      rw [if_pos c2] at e0
      rw [hc n hn6 c2]
      exact e0
theorem sp_sum (hst : K.1.stackTraces = false) {S R : Nat} {c : Nat → Nat} (hS : S < 64) (hR : R < 64) (hc : ∀ v, v < 6 → R.testBit v = true → M 28 (S ||| 2 ^ v) = (c v : Int)) (hQ : Q (.inl (some (aI (sumN (fun v => if R.testBit v = true then c v else 0) 6)))) GG M) : MetA K fT_sumBehind [aR 24, aI S, aI R] GG M Q :=
  ET_sumBehind hst _ _ (BT_sumBehind_0 _ _ (lp_sum hS hR hc hQ 6 0 rfl))
end TR
section TC
variable {K : KX} {g : Nat} {sB eB rB : Nat → Nat} {Q : Res → AG → AM → Prop}
theorem TX.um {M : AM} {k : Nat} {x : Int} (h : TX M g sB eB rB) : TX (um M 28 k x) g sB eB rB := ⟨by rw [um_ne (by omega)]; exact h.1, h.2.1, fun v hv => by
  have h2 := h.2.2 v hv
  rw [um_ne (by omega), um_ne (by omega), um_ne (by omega)]
  exact h2⟩
theorem lp_count (hst : K.1.stackTraces = false) {M0 : AM} (hQ : ∀ M' : AM, (∀ c k, c ≠ 28 → M' c k = M0 c k) → (∀ S, Sub S g → M' 28 S = (cnt (okT g sB eB rB) g S : Int)) → Q (.inl (some (aI (cnt (okT g sB eB rB) g 0)))) GG M') :
    ∀ (n : Nat) (M : AM), n ≤ g → TX M g sB eB rB → (∀ c k, c ≠ 28 → M c k = M0 c k) → (∀ S, n ≤ S → Sub S g → M 28 S = (cnt (okT g sB eB rB) g S : Int)) → WM K fT_countOrders (EM K fT_countOrders 126 Q) 17 [some (aR 24), some (aI ((n : Int) - 1))] [] GG M 0 0 := by
  intro n
  induction n with
  | zero =>
    intro M _ hT hF hC
    refine BT_countOrders_17 _ ⟨fun _ => ⟨0, wr_0, by omega, ?_⟩, fun c => absurd ?_ c⟩
    · rw [hC 0 (by omega) Sub.zero]
      exact hQ M hF (fun S hs => hC S (by omega) hs)
    · rw [wr_of (by omega) (by omega)]; omega
  | succ t ih =>
    intro M ht hT hF hC
    have hT0 := hT
    obtain ⟨t1, t2, t3⟩ := hT
    have e : ((t + 1 : Nat) : Int) - 1 = (t : Int) := by omega
    rw [e]
    have e2 : ((t : Int) + (-1)) = (t : Int) - 1 := by omega
    refine BT_countOrders_17 _ ⟨fun c => ?_, fun _ => ?_⟩
    · rw [wrn (by omega)] at c; omega
    · rw [t1, wnot_n (by omega), wrn (ndf_lt (by omega))]
      refine ⟨fun c => ?_, fun c => ?_⟩
      · have hs : Sub t g := ndf_0.mp (by omega)
        refine sp_runners hst hT0 (by omega) ⟨rfl, ?_⟩
        refine sp_sum hst (c := fun v => cnt (okT g sB eB rB) g (t ||| 2 ^ v)) (by omega) runB_lt (fun v hv hb => ?_) ⟨rfl, ⟨t, wrn (by omega), by omega, ?_⟩⟩
        · rw [runB_bit t2] at hb
          obtain ⟨h1, h2⟩ := okT_fit t v hb
          exact hC _ (or_gt h2) (hs.add h1)
        · rw [e2]
          refine ih _ (by omega) hT0.um (fun c k hc => by rw [um_ne hc]; exact hF c k hc) (fun S h1 h2 => ?_)
          by_cases hSt : S = t
          · subst hSt
            rw [um_self, cnt_eq t2 okT_fit h2, if_neg (by omega)]
            exact congrArg (fun n : Nat => (n : Int)) (sumN_congr (fun v _ => by rw [runB_bit t2]))
          · rw [um_ne2 hSt]
            exact hC S (by omega) h2
      · rw [e2]
        refine ih M (by omega) hT0 hF (fun S h1 h2 => ?_)
        by_cases hSt : S = t
        · subst hSt
          exact absurd (by have := ndf_0.mpr h2; omega) c
        · exact hC S (by omega) h2
theorem sp_count (hst : K.1.stackTraces = false) {M : AM} (hT : TX M g sB eB rB) (hQ : ∀ M' : AM, (∀ c k, c ≠ 28 → M' c k = M c k) → (∀ S, Sub S g → M' 28 S = (cnt (okT g sB eB rB) g S : Int)) → Q (.inl (some (aI (cnt (okT g sB eB rB) g 0)))) GG M') : MetA K fT_countOrders [aR 24] GG M Q := by
  have t2 := hT.2.1
  refine ET_countOrders hst (BT_countOrders_0 ⟨g, by rw [hT.1]; exact wrn (by omega), t2, ?_⟩)
  rw [um_ne (by omega), hT.1]
  refine lp_count hst hQ g _ (Nat.le_refl _) hT.um (fun c k hc => um_ne hc _) (fun S h1 h2 => ?_)
  have : S = g := Nat.le_antisymm (sub_le h2) h1
  subst this
  rw [um_self, cnt_eq t2 okT_fit h2, if_pos rfl]
  rfl
end TC
