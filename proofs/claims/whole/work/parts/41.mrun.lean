/-! the reference: who can run through -/
theorem wsr_f : ∀ S : Fin 64, ∀ v : Fin 6, wia (wsr (S.val : Int) (v.val : Int)) 1 = if S.val.testBit v.val = true then 1 else 0 := by decide +kernel
theorem wsr_k {S v : Nat} (hS : S < 64) (hv : v < 6) : wia (wsr (S : Int) (v : Int)) 1 = if S.testBit v = true then 1 else 0 := wsr_f ⟨S, hS⟩ ⟨v, hv⟩
theorem wsr_1 {S v : Nat} (hS : S < 64) (hv : v < 6) : wr (wia (wsr (S : Int) (v : Int)) 1) = wr 1 ↔ S.testBit v = true := by
  rw [wsr_k hS hv, wr_1]
  by_cases h : S.testBit v = true
  · rw [if_pos h, wr_1]; simp [h]
  · rw [if_neg h, wr_0]; simp [h]
theorem wsr_0 {S v : Nat} (hS : S < 64) (hv : v < 6) : wr (wia (wsr (S : Int) (v : Int)) 1) = 0 ↔ S.testBit v = false := by
  rw [wsr_k hS hv]
  by_cases h : S.testBit v = true
  · rw [if_pos h, wr_1]; simp [h]
  · rw [if_neg h, wr_0]; simpa using h
theorem wio_0 {a : Nat} (h : a < 2147483648) : wio (a : Int) 0 = (a : Int) := by
  have := wio_n (a := a) (b := 0) h (by omega)
  rw [Nat.or_zero] at this
  exact this
theorem wio_p {a v : Nat} (h : a < 2147483648) (hv : v < 6) : wio (a : Int) (wsl 1 (v : Int)) = ((a ||| 2 ^ v : Nat) : Int) := by
  rw [wsl_k v (by omega)]
  exact wio_n h (pw_lt (by omega))
/-- the reference's cells of a picture -/
def MP (M : AM) (n : Nat) (zn rl : Nat → Nat) (rz : Nat → Nat → Nat) : Prop := M 63 5 = (n : Int) ∧ ∀ v, v < n → M 67 v = (zn v : Int) ∧ M 69 v = (rl v : Int) ∧ rl v ≤ 20 ∧ ∀ k, k < rl v → M 70 (20 * v + k) = (rz v k : Int)
/-- of the cells ahead of 79 only ways and canEnd have changed -/
def FS (M M' : AM) : Prop := ∀ c k, c ≠ 76 → c ≠ 77 → M' c k = M c k
theorem FS.rf {M : AM} : FS M M := fun _ _ _ _ => rfl
theorem FS.tr {M M1 M2 : AM} (h : FS M M1) (h2 : FS M1 M2) : FS M M2 := fun c k ha hb => (h2 c k ha hb).trans (h c k ha hb)
theorem FS.u6 {M M' : AM} {k : Nat} {x : Int} (h : FS M M') : FS M (um M' 76 k x) := fun c j ha hb => by rw [um_ne ha]; exact h c j ha hb
theorem FS.u7 {M M' : AM} {k : Nat} {x : Int} (h : FS M M') : FS M (um M' 77 k x) := fun c j ha hb => by rw [um_ne hb]; exact h c j ha hb
theorem MP.fs {M M' : AM} {n : Nat} {zn rl : Nat → Nat} {rz : Nat → Nat → Nat} (h : MP M n zn rl rz) (hF : FS M M') : MP M' n zn rl rz :=
  ⟨by rw [hF _ _ (by omega) (by omega)]; exact h.1, fun v hv => by
    obtain ⟨h1, h2, h3, h4⟩ := h.2 v hv
    refine ⟨?_, ?_, h3, fun k hk => ?_⟩
    · rw [hF _ _ (by omega) (by omega)]; exact h1
    · rw [hF _ _ (by omega) (by omega)]; exact h2
    · rw [hF _ _ (by omega) (by omega)]; exact h4 k hk⟩
section MR
variable {K : KX} {n : Nat} {zn rl : Nat → Nat} {rz : Nat → Nat → Nat} {Q : Res → AG → AM → Prop}
theorem lp_busy {M : AM} (h6 : n ≤ 6) (hP : MP M n zn rl rz) (hQ : Q (.inl (some (aI (bsy n rl)))) GG M) : ∀ d i : Nat, i + d = n → WM K fM_countBusy (EM K fM_countBusy 80 Q) 4 [some (aR 63), some (aI (bsy i rl)), some (aI i)] [] GG M 0 0 := by
  intro d
  induction d with
  | zero =>
    intro i hi
    have : i = n := by omega
    subst this
    refine BM_countBusy_4 _ _ ⟨fun _ => hQ, fun c => absurd ?_ c⟩
    rw [hP.1]; omega
  | succ d ih =>
    intro i hi
    have hin : i < n := by omega
    obtain ⟨h1, h2, h3, h4⟩ := hP.2 i hin
    have hnx := ih (i + 1) (by omega)
    unfold bsy at hnx
    have bd := bsy_lt (n := i) (rl := rl) (by omega)
    refine BM_countBusy_4 _ _ ⟨fun c => ?_, fun _ => ⟨i, wrn (by omega), by omega, fun c => ?_, fun c => ?_⟩⟩
    · rw [hP.1, wrn (by omega), wrn (by omega)] at c; omega
    · rw [h2, wrn (by omega)] at c
      rw [if_neg (by omega)] at hnx
      rw [wio_0 (by omega)]
      exact hnx
    · rw [h2, wrn (by omega)] at c
      rw [if_pos (by omega)] at hnx
      rw [wio_p (by omega) (by omega)]
      exact hnx
theorem sp_busy (hst : K.1.stackTraces = false) {M : AM} (h6 : n ≤ 6) (hP : MP M n zn rl rz) (hQ : Q (.inl (some (aI (bsy n rl)))) GG M) : MetA K fM_countBusy [aR 63] GG M Q :=
  EM_countBusy hst (BM_countBusy_0 (lp_busy h6 hP hQ n 0 (by omega)))
theorem sp_place (hst : K.1.stackTraces = false) {M : AM} (h6 : n ≤ 6) (hP : MP M n zn rl rz) {v S : Nat} (hv : v < n) (hS : S < 64) (hs : Sub S (bsy n rl)) (hQ : Q (.inl (some (aI (plc zn rl rz v S)))) GG M) : MetA K fM_place [aR 63, aI v, aI S] GG M Q := by
  obtain ⟨h1, h2, h3, h4⟩ := hP.2 v hv
  have hne : ¬ wr 1 = 0 := by rw [wr_1]; omega
  have hw := wsr_1 hS (v := v) (by omega)
  unfold plc at hQ
  refine EM_place hst _ _ (BM_place_0 _ _ ⟨fun c => ⟨fun c2 => absurd c2 hne, fun _ => ⟨v, wrn (by omega), by omega, ?_⟩⟩, fun c => ⟨fun _ => ⟨v, wrn (by omega), by omega, ?_⟩, fun c2 => absurd wr_0 c2⟩⟩)
  · have hb := hw.mp c
    have hp := hs v hb
    rw [bsy_bit, Bool.and_eq_true] at hp
    have hp := of_decide_eq_true hp.2
    rw [if_pos hb] at hQ
    unfold lstz at hQ
    rw [if_pos hp] at hQ
    refine ⟨20 * v + (rl v - 1), ?_, by omega, ?_⟩
    · rw [h2, wri (by omega) (by omega)]; omega
    · rw [h4 _ (by omega)]; exact hQ
  · rw [if_neg (fun q => c (hw.mpr q))] at hQ
    rw [h1]
    exact hQ
def cr1 (n : Nat) (zn rl : Nat → Nat) (rz : Nat → Nat → Nat) (S v k m : Nat) : Prop := ∀ o, o < m → o ≠ v → plc zn rl rz o S ≠ rz v k
def crA (n : Nat) (zn rl : Nat → Nat) (rz : Nat → Nat → Nat) (S v l : Nat) : Prop := ∀ k, k < l → cr1 n zn rl rz S v k n
theorem plc_lt (hPg : Pg n zn rl rz) {v S : Nat} (hv : v < n) : plc zn rl rz v S < 20 := by
  unfold plc
  split
  · exact hPg.lst hv
  · exact (hPg.2 v hv).1
theorem lp_can2 (hst : K.1.stackTraces = false) {M : AM} (hPg : Pg n zn rl rz) (hP : MP M n zn rl rz) {v S k : Nat} (hv : v < n) (hS : S < 64) (hs : Sub S (bsy n rl)) (hk : k < rl v)
    (hQ : ∀ x : Int, (x = 1 ∧ crA n zn rl rz S v (k + 1)) ∨ (x = 0 ∧ ¬ crA n zn rl rz S v (k + 1)) → WM K fM_canRun (EM K fM_canRun 80 Q) 5 [some (aR 63), some (aI v), some (aI S), some (aI x), some (aI (k + 1 : Nat)), none] [] GG M 0 0) :
    ∀ (d m : Nat) (x : Int), m + d = n → ((x = 1 ∧ crA n zn rl rz S v k ∧ cr1 n zn rl rz S v k m) ∨ (x = 0 ∧ ¬ crA n zn rl rz S v (k + 1))) → WM K fM_canRun (EM K fM_canRun 80 Q) 19 [some (aR 63), some (aI v), some (aI S), some (aI x), some (aI k), some (aI m)] [] GG M 0 0 := by
  have h6 := hPg.1
  obtain ⟨h1, h2, h3, h4⟩ := hP.2 v hv
  intro d
  induction d with
  | zero =>
    intro m x hm hx
    have : m = n := by omega
    subst this
    refine BM_canRun_19 _ _ _ _ _ ⟨fun _ => hQ x ?_, fun c => absurd ?_ c⟩
    · rcases hx with ⟨e, ha, hb⟩ | h
      · exact Or.inl ⟨e, fun k2 hk2 => by
          by_cases e2 : k2 = k
          · subst e2; exact hb
          · exact ha k2 (by omega)⟩
      · exact Or.inr h
    · rw [hP.1]; omega
  | succ d ih =>
    intro m x hm hx
    have hmn : m < n := by omega
    refine BM_canRun_19 _ _ _ _ _ ⟨fun c => ?_, fun _ => ⟨fun c => ?_, fun c => ⟨fun c2 => ?_, fun c2 => ?_⟩⟩⟩
    · rw [hP.1, wrn (by omega), wrn (by omega)] at c; omega
    · rcases hx with ⟨e, _⟩ | ⟨e, h⟩
      · rw [e, wr_1] at c; omega
      · exact ih (m + 1) 0 (by omega) (Or.inr ⟨rfl, h⟩)
    · rcases hx with ⟨e, ha, hb⟩ | ⟨e, h⟩
      · rw [wrn (by omega), wrn (by omega)] at c2
        exact ih (m + 1) 1 (by omega) (Or.inl ⟨rfl, ha, fun o ho hne => hb o (by omega) hne⟩)
      · rw [e, wr_0] at c; exact absurd rfl c
    · rcases hx with ⟨e, ha, hb⟩ | ⟨e, h⟩
      · rw [wrn (by omega), wrn (by omega)] at c2
        refine sp_place hst h6 hP hmn hS hs ⟨rfl, 20 * v + k, (wri (by omega) (by omega)).trans (by omega), by omega, ?_⟩
        have b1 := plc_lt hPg hmn (S := S)
        have b2 := ((hPg.2 v hv).2 k hk).1
        rw [h4 k hk, wrn (by omega), wrn (by omega)]
        refine ⟨fun c3 => ih (m + 1) 0 (by omega) (Or.inr ⟨rfl, fun q => q k (by omega) m hmn (by omega) (by omega)⟩), fun c3 => ih (m + 1) 1 (by omega) (Or.inl ⟨rfl, ha, fun o ho hne => ?_⟩)⟩
        by_cases e2 : o = m
        · subst e2; omega
        · exact hb o (by omega) hne
      · rw [e, wr_0] at c; exact absurd rfl c
theorem lp_can1 (hst : K.1.stackTraces = false) {M : AM} (hPg : Pg n zn rl rz) (hP : MP M n zn rl rz) {v S : Nat} (hv : v < n) (hS : S < 64) (hs : Sub S (bsy n rl)) (hQ : ∀ x : Int, (x = 1 ∧ crA n zn rl rz S v (rl v)) ∨ (x = 0 ∧ ¬ crA n zn rl rz S v (rl v)) → Q (.inl (some (aI x))) GG M) :
    ∀ (d k : Nat) (x : Int), k + d = rl v → ((x = 1 ∧ crA n zn rl rz S v k) ∨ (x = 0 ∧ ¬ crA n zn rl rz S v k)) → WM K fM_canRun (EM K fM_canRun 80 Q) 5 [some (aR 63), some (aI v), some (aI S), some (aI x), some (aI k), none] [] GG M 0 0 := by
  have h6 := hPg.1
  obtain ⟨h1, h2, h3, h4⟩ := hP.2 v hv
  intro d
  induction d with
  | zero =>
    intro k x hk hx
    have : k = rl v := by omega
    subst this
    refine BM_canRun_5 _ _ _ _ ⟨v, wrn (by omega), by omega, fun _ => ⟨by omega, hQ x hx⟩, fun c => absurd ?_ c⟩
    rw [h2]; omega
  | succ d ih =>
    intro k x hk hx
    refine BM_canRun_5 _ _ _ _ ⟨v, wrn (by omega), by omega, fun c => ?_, fun _ => ?_⟩
    · rw [h2, wrn (by omega), wrn (by omega)] at c; omega
    · refine lp_can2 hst hPg hP hv hS hs (by omega) (fun x2 hx2 => ih (k + 1) x2 (by omega) hx2) n 0 x (by omega) ?_
      rcases hx with ⟨e, h⟩ | ⟨e, h⟩
      · exact Or.inl ⟨e, h, fun o ho => by omega⟩
      · exact Or.inr ⟨e, fun q => h (fun k2 hk2 => q k2 (by omega))⟩
theorem sp_canRun (hst : K.1.stackTraces = false) {M : AM} (hPg : Pg n zn rl rz) (hP : MP M n zn rl rz) {v S : Nat} (hv : v < n) (hS : S < 64) (hs : Sub S (bsy n rl)) (h0 : (bsy n rl).testBit v = true) (h1 : S.testBit v = false) (hQ : Q (.inl (some (aI (b2i (okP n zn rl rz S v))))) GG M) : MetA K fM_canRun [aR 63, aI v, aI S] GG M Q := by
  rw [bsy_bit, Bool.and_eq_true] at h0
  have hr := of_decide_eq_true h0.2
  refine EM_canRun hst _ _ (BM_canRun_0 _ _ (lp_can1 hst hPg hP hv hS hs (fun x hx => ?_) (rl v) 0 1 (by omega) (Or.inl ⟨rfl, fun k hk => by omega⟩)))
  have : x = b2i (okP n zn rl rz S v) := by
    unfold okP b2i
    rcases hx with ⟨e, h⟩ | ⟨e, h⟩
    · rw [if_pos, e]
      simp only [decide_eq_true hv, decide_eq_true hr, h1, Bool.not_false, Bool.true_and]
      exact decide_eq_true h
    · rw [if_neg, e]
      simp only [decide_eq_true hv, decide_eq_true hr, h1, Bool.not_false, Bool.true_and]
      intro q
      exact h (fun k hk o ho hne => of_decide_eq_true q k hk o ho hne)
  rw [this]
  exact hQ
end MR
