/-! the first order; the picture laid -/
def upN {α : Type} (f : Nat → α) (k : Nat) (x : α) : Nat → α := fun i => if i = k then x else f i
theorem upN_s {α : Type} {f : Nat → α} {k : Nat} {x : α} : upN f k x k = x := if_pos rfl
theorem upN_n {α : Type} {f : Nat → α} {k i : Nat} {x : α} (h : i ≠ k) : upN f k x i = f i := if_neg h
def o2i (o : Option Nat) : Int := match o with
  | some v => (v : Int)
  | none => -1
section TF
variable {K : KX} {M : AM} {g : Nat} {sB eB rB : Nat → Nat} {Q : Res → AG → AM → Prop}
theorem lp_first (hT : TX M g sB eB rB) {S : Nat} (hs : Sub S g) (hC : ∀ S, Sub S g → M 28 S = (cnt (okT g sB eB rB) g S : Int)) (hQ : Q (.inl (some (aI (o2i (fr1 (okT g sB eB rB) g S))))) GG M) :
    ∀ d n : Nat, n + d = 6 → (∀ y, y < n → ¬ (okT g sB eB rB S y = true ∧ 0 < cnt (okT g sB eB rB) g (S ||| 2 ^ y))) → WM K fT_firstToRun (EM K fT_firstToRun 126 Q) 8 [some (aR 24), some (aI S), some (aI (runB g sB eB rB S)), some (aI n), none] [] GG M 0 0 := by
  have t2 := hT.2.1
  have hS := sub_lt t2 hs
  have hR := runB_lt (g := g) (sB := sB) (eB := eB) (rB := rB) (S := S)
  intro d
  induction d with
  | zero =>
    intro n hn hb
    have hn6 : n = 6 := by omega
    subst hn6
    refine BT_firstToRun_8 _ _ _ ⟨fun _ => ?_, fun c => absurd ?_ c⟩
    · have : fr1 (okT g sB eB rB) g S = none := List.find?_eq_none.mpr (fun x hx => by
        have := hb x (List.mem_range.mp hx)
        simp
        intro h
        have h2 : ¬ 0 < cnt (okT g sB eB rB) g (S ||| 2 ^ x) := fun q => this ⟨h, q⟩
        omega)
      rw [this] at hQ
      exact hQ
    · rw [wr_6, wrn (by omega)]; omega
  | succ d ih =>
    intro n hn hb
    have hn6 : n < 6 := by omega
    have hp := pw6 hn6
    have hnext : ¬ (okT g sB eB rB S n = true ∧ 0 < cnt (okT g sB eB rB) g (S ||| 2 ^ n)) → WM K fT_firstToRun (EM K fT_firstToRun 126 Q) 8 [some (aR 24), some (aI S), some (aI (runB g sB eB rB S)), some (aI ((n : Int) + 1)), none] [] GG M 0 0 := fun h => ih (n + 1) (by omega) (fun y hy => by
      by_cases e : y = n
      · subst e; exact h
      · exact hb y (by omega))
    refine BT_firstToRun_8 _ _ _ ⟨fun c => ?_, fun _ => ⟨fun c => ?_, fun c => ⟨S ||| 2 ^ n, ?_, or6 hS hp, ?_⟩⟩⟩
    · rw [wr_6, wrn (by omega)] at c; omega
    · rw [wtest (by omega) (by omega), runB_bit t2] at c
      exact hnext (fun q => by rw [c] at q; exact absurd q.1 (by decide))
    · rw [wsl_k n (by omega), wio_n (by omega) (by omega)]
      have := or6 hS hp
      exact wrn (by omega)
    · rw [wtest (by omega) (by omega), runB_bit t2] at c
      have c2 : okT g sB eB rB S n = true := by simpa using c
      obtain ⟨h1, h2⟩ := okT_fit S n c2
      have bd := cnt_bd (ok := okT g sB eB rB) (g := g) (S := S ||| 2 ^ n)
      rw [hC _ (hs.add h1), wrn (by omega)]
      refine ⟨fun c => hnext (fun q => by omega), fun c => ?_⟩
      have : fr1 (okT g sB eB rB) g S = some n := List.find?_range_eq_some.mpr ⟨by simp [c2]; omega, List.mem_range.mpr hn6, fun j hj => by
        have := hb j hj
        cases h : okT g sB eB rB S j with
        | false => simp
        | true =>
          have h2 : ¬ 0 < cnt (okT g sB eB rB) g (S ||| 2 ^ j) := fun q => this ⟨h, q⟩
          simp
          omega⟩
      rw [this] at hQ
      exact hQ
theorem sp_first (hst : K.1.stackTraces = false) (hT : TX M g sB eB rB) {S : Nat} (hs : Sub S g) (hC : ∀ S, Sub S g → M 28 S = (cnt (okT g sB eB rB) g S : Int)) (hQ : Q (.inl (some (aI (o2i (fr1 (okT g sB eB rB) g S))))) GG M) : MetA K fT_firstToRun [aR 24, aI S] GG M Q := by
  refine ET_firstToRun hst _ (BT_firstToRun_0 _ (sp_runners hst hT (sub_lt hT.2.1 hs) ⟨rfl, ?_⟩))
  exact lp_first hT hs hC hQ 6 0 rfl (fun y hy => by omega)
theorem foS_sub {ok : Nat → Nat → Bool} (hf : Fit ok g) : ∀ k, Sub (foS ok g k) g := by
  intro k
  induction k with
  | zero => exact Sub.zero
  | succ k ih =>
    unfold foS
    cases h : fr1 ok g (foS ok g k) with
    | none => exact ih
    | some v =>
      have := List.find?_some h
      simp at this
      exact ih.add (hf _ _ this.1).1
theorem lp_order (hst : K.1.stackTraces = false) (hT : TX M g sB eB rB) (hC : ∀ S, Sub S g → M 28 S = (cnt (okT g sB eB rB) g S : Int)) {p : Nat} (hp6 : p < 6) (hfo : ∀ k, k ≤ p → ∃ v, fr1 (okT g sB eB rB) g (foS (okT g sB eB rB) g k) = some v) (hQ : Q (.inl (some (aI (o2i (fr1 (okT g sB eB rB) g (foS (okT g sB eB rB) g p)))))) GG M) :
    ∀ (d k : Nat) (x : Int), k + d = p + 1 → (∀ j, k = j + 1 → x = o2i (fr1 (okT g sB eB rB) g (foS (okT g sB eB rB) g j))) → WM K fT_runnerInFirstOrder (EM K fT_runnerInFirstOrder 126 Q) 7 [some (aR 24), some (aI p), some (aI (foS (okT g sB eB rB) g k)), some (aI x), some (aI k)] [] GG M 0 0 := by
  intro d
  induction d with
  | zero =>
    intro k x hk hx
    have hk2 : k = p + 1 := by omega
    refine BT_runnerInFirstOrder_7 _ _ _ _ ⟨fun _ => ?_, fun c => absurd ?_ c⟩
    · rw [hx p hk2]; exact hQ
    · rw [wrn (by omega), wrn (by omega)]; omega
  | succ d ih =>
    intro k x hk hx
    have hs := foS_sub (okT_fit (g := g) (sB := sB) (eB := eB) (rB := rB)) k
    refine BT_runnerInFirstOrder_7 _ _ _ _ ⟨fun c => ?_, fun _ => ?_⟩
    · rw [wrn (by omega), wrn (by omega)] at c; omega
    · refine sp_first hst hT hs hC ⟨rfl, ?_⟩
      obtain ⟨v, hv⟩ := hfo k (by omega)
      have hv6 : v < 6 := List.mem_range.mp (List.mem_of_find?_eq_some hv)
      dsimp only
      have ho : o2i (some v) = (v : Int) := rfl
      rw [hv, ho, wrn (by omega), wr_m1]
      refine ⟨fun c => absurd c (by omega), fun _ => ?_⟩
      have e := ih (k + 1) (v : Int) (by omega) (fun j hj => by
        have : j = k := by omega
        subst this
        rw [hv]; rfl)
      have hp := pw6 hv6
      have hS := sub_lt hT.2.1 hs
      rw [wsl_k v (by omega), wio_n (by omega) (by omega)]
      unfold foS at e
      rw [hv] at e
      exact e
theorem sp_order (hst : K.1.stackTraces = false) (hT : TX M g sB eB rB) (hC : ∀ S, Sub S g → M 28 S = (cnt (okT g sB eB rB) g S : Int)) {p : Nat} (hp6 : p < 6) (hfo : ∀ k, k ≤ p → ∃ v, fr1 (okT g sB eB rB) g (foS (okT g sB eB rB) g k) = some v) (hQ : Q (.inl (some (aI (o2i (fr1 (okT g sB eB rB) g (foS (okT g sB eB rB) g p)))))) GG M) : MetA K fT_runnerInFirstOrder [aR 24, aI p] GG M Q :=
  ET_runnerInFirstOrder hst _ (BT_runnerInFirstOrder_0 _ (lp_order hst hT hC hp6 hfo hQ (p + 1) 0 (-1) (by omega) (fun j hj => by omega)))
end TF
section TP
variable {K : KX} {Q : Res → AG → AM → Prop}
/-- only the picture's cells have changed -/
def FT (M0 M : AM) : Prop := ∀ c k, (c < 24 ∨ 28 < c) → M c k = M0 c k
theorem FT.rf {M : AM} : FT M M := fun _ _ _ => rfl
theorem FT.um {M0 M : AM} (h : FT M0 M) {c k : Nat} {x : Int} (hc : 24 ≤ c ∧ c ≤ 28) : FT M0 (um M c k x) := fun c' k' h' => by rw [um_ne (by omega)]; exact h c' k' h'
theorem FT.tr {M0 M M2 : AM} (h : FT M0 M) (h2 : FT M M2) : FT M0 M2 := fun c k hc => (h2 c k hc).trans (h c k hc)
theorem lp_clear {M0 : AM} (hQ : ∀ M' : AM, FT M0 M' → TX M' 0 (fun _ => 0) (fun _ => 0) (fun _ => 0) → Q (.inl none) GG M') : ∀ (d n : Nat) (M : AM), n + d = 6 → FT M0 M → M 24 4 = 0 → (∀ v, v < n → M 25 v = 0 ∧ M 26 v = 0 ∧ M 27 v = 0) → WM K fT_clear (EM K fT_clear 126 Q) 7 [some (aR 24), some (aI n)] [] GG M 0 0 := by
  intro d
  induction d with
  | zero =>
    intro n M hn hF h4 hz
    refine BT_clear_7 _ ⟨fun _ => hQ M hF ⟨h4, by omega, fun v hv => ⟨hz v (by omega), by show 0 < 1048576; omega, by show 0 < 1048576; omega, by show 0 < 1048576; omega⟩⟩, fun c => absurd ?_ c⟩
    rw [wr_6, wrn (by omega)]; omega
  | succ d ih =>
    intro n M hn hF h4 hz
    have hn6 : n < 6 := by omega
    refine BT_clear_7 _ ⟨fun c => ?_, fun _ => ⟨n, wrn (by omega), hn6, n, wrn (by omega), hn6, n, wrn (by omega), hn6, ?_⟩⟩
    · rw [wr_6, wrn (by omega)] at c; omega
    · refine ih (n + 1) _ (by omega) (((hF.um (by omega)).um (by omega)).um (by omega)) ?_ (fun v hv => ?_)
      · rw [um_ne (by omega), um_ne (by omega), um_ne (by omega)]; exact h4
      · by_cases e : v = n
        · subst e
          refine ⟨?_, ?_, ?_⟩
          · rw [um_ne (by omega), um_ne (by omega), um_self]
          · rw [um_ne (by omega), um_self]
          · rw [um_self]
        · have h := hz v (by omega)
          refine ⟨?_, ?_, ?_⟩
          · rw [um_ne (by omega), um_ne (by omega), um_ne2 e]; exact h.1
          · rw [um_ne (by omega), um_ne2 e, um_ne (by omega)]; exact h.2.1
          · rw [um_ne2 e, um_ne (by omega), um_ne (by omega)]; exact h.2.2
theorem sp_clear (hst : K.1.stackTraces = false) {M : AM} (hQ : ∀ M' : AM, FT M M' → TX M' 0 (fun _ => 0) (fun _ => 0) (fun _ => 0) → Q (.inl none) GG M') : MetA K fT_clear [aR 24] GG M Q :=
  ET_clear hst (BT_clear_0 (lp_clear hQ 6 0 _ rfl (FT.rf.um (by omega)) um_self (fun v hv => by omega)))
theorem sp_put (hst : K.1.stackTraces = false) {M : AM} {g : Nat} {sB eB rB : Nat → Nat} (hT : TX M g sB eB rB) {v z b t : Nat} (hv : v < 6) (hz : z < 20) (hb : b < 1048576) (ht : t < 20)
    (hQ : ∀ M' : AM, FT M M' → TX M' (if b = 0 then ndf g (2 ^ v) else g ||| 2 ^ v) (upN sB v (2 ^ z)) (upN eB v (2 ^ t)) (upN rB v b) → Q (.inl none) GG M') : MetA K fT_put [aR 24, aI v, aI z, aI b, aI t] GG M Q := by
  obtain ⟨t1, t2, t3⟩ := hT
  have hp := pw6 hv
  have mem : ∀ (M1 : AM) (g' : Nat) (x : Int), x = (g' : Int) → g' < 64 → TX (um (um (um (um M 25 v ((2 ^ z : Nat) : Int)) 26 v ((2 ^ t : Nat) : Int)) 27 v (b : Int)) 24 4 x) g' (upN sB v (2 ^ z)) (upN eB v (2 ^ t)) (upN rB v b) := by
    intro M1 g' x hx hg'
    refine ⟨by rw [um_self]; exact hx, hg', fun w hw => ?_⟩
    by_cases e : w = v
    · subst e
      rw [upN_s, upN_s, upN_s]
      refine ⟨⟨?_, ?_, ?_⟩, pw20 hz, pw20 ht, hb⟩
      · rw [um_ne (by omega), um_ne (by omega), um_ne (by omega), um_self]
      · rw [um_ne (by omega), um_ne (by omega), um_self]
      · rw [um_ne (by omega), um_self]
    · have h := t3 w hw
      rw [upN_n e, upN_n e, upN_n e]
      refine ⟨⟨?_, ?_, ?_⟩, h.2⟩
      · rw [um_ne (by omega), um_ne (by omega), um_ne (by omega), um_ne2 e]; exact h.1.1
      · rw [um_ne (by omega), um_ne (by omega), um_ne2 e, um_ne (by omega)]; exact h.1.2.1
      · rw [um_ne (by omega), um_ne2 e, um_ne (by omega), um_ne (by omega)]; exact h.1.2.2
  have h24 : (um (um (um M 25 v ((2 ^ z : Nat) : Int)) 26 v ((2 ^ t : Nat) : Int)) 27 v (b : Int)) 24 4 = (g : Int) := by
    rw [um_ne (by omega), um_ne (by omega), um_ne (by omega)]; exact t1
  refine ET_put hst _ _ _ _ (BT_put_0 _ _ _ _ ⟨v, wrn (by omega), hv, v, wrn (by omega), hv, v, wrn (by omega), hv, ?_⟩)
  rw [wsl_k z (by omega), wsl_k t (by omega), wsl_k v (by omega), h24, wrn (by omega)]
  refine ⟨fun c => hQ _ ((((FT.rf.um (by omega)).um (by omega)).um (by omega)).um (by omega)) ?_, fun c => hQ _ ((((FT.rf.um (by omega)).um (by omega)).um (by omega)).um (by omega)) ?_⟩
  · rw [if_pos (by omega)]
    have hl : ndf g (2 ^ v) < 64 := Nat.xor_lt_two_pow (n := 6) t2 (Nat.lt_of_le_of_lt Nat.and_le_left t2)
    exact mem M _ _ (wnot_n (by omega)) hl
  · rw [if_neg (by omega)]
    exact mem M _ _ (wio_n (by omega) (by omega)) (or6 t2 hp)
end TP
