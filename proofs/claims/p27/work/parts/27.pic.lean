/-! pictures: n vehicles, where they are, their routes; who can run through when those of S have -/
def bsy (n : Nat) (rl : Nat → Nat) : Nat := match n with
  | 0 => 0
  | k + 1 => if 0 < rl k then bsy k rl ||| 2 ^ k else bsy k rl
theorem bsy_bit {rl : Nat → Nat} {v : Nat} : ∀ n, (bsy n rl).testBit v = (decide (v < n) && decide (0 < rl v)) := by
  intro n
  induction n with
  | zero => simp [bsy]
  | succ n ih =>
    unfold bsy
    have h1 : v ≠ n → decide (v < n) = decide (v < n + 1) := fun e => decide_eq_decide.mpr (by omega)
    by_cases h : 0 < rl n
    · rw [if_pos h, or_bit, ih]
      by_cases e : n = v
      · subst e; simp [h]
      · rw [h1 (fun q => e q.symm)]; simp [e]
    · rw [if_neg h, ih]
      by_cases e : n = v
      · subst e; simp [h]
      · rw [h1 (fun q => e q.symm)]
theorem bsy_lt {rl : Nat → Nat} {n : Nat} (h : n ≤ 6) : bsy n rl < 64 := bits_lt (k := 6) (fun i hi => by
  rw [bsy_bit]
  simp
  omega)
def plc (zn rl : Nat → Nat) (rz : Nat → Nat → Nat) (o S : Nat) : Nat := if S.testBit o = true then lstz (zn o) (rl o) (rz o) else zn o
def okP (n : Nat) (zn rl : Nat → Nat) (rz : Nat → Nat → Nat) (S v : Nat) : Bool := decide (v < n) && decide (0 < rl v) && !S.testBit v && decide (∀ k, k < rl v → ∀ o, o < n → o ≠ v → plc zn rl rz o S ≠ rz v k)
def cntP (n : Nat) (zn rl : Nat → Nat) (rz : Nat → Nat → Nat) (S : Nat) : Nat := cnt (okP n zn rl rz) (bsy n rl) S
theorem okP_fit {n : Nat} {zn rl : Nat → Nat} {rz : Nat → Nat → Nat} : Fit (okP n zn rl rz) (bsy n rl) := fun S v h => by
  unfold okP at h
  simp at h
  rw [bsy_bit]
  simp
  exact ⟨h.1.1, h.1.2⟩
def sBP (n : Nat) (zn : Nat → Nat) (v : Nat) : Nat := if v < n then 2 ^ zn v else 0
def eBP (n : Nat) (zn rl : Nat → Nat) (rz : Nat → Nat → Nat) (v : Nat) : Nat := if v < n then 2 ^ lstz (zn v) (rl v) (rz v) else 0
def rBP (n : Nat) (rl : Nat → Nat) (rz : Nat → Nat → Nat) (v : Nat) : Nat := if v < n then rbt (rz v) (rl v) else 0
def TXP (M : AM) (n : Nat) (zn rl : Nat → Nat) (rz : Nat → Nat → Nat) : Prop := TX M (bsy n rl) (sBP n zn) (eBP n zn rl rz) (rBP n rl rz)
theorem TX.congr {M : AM} {g g' : Nat} {sB eB rB sB' eB' rB' : Nat → Nat} (h : TX M g sB eB rB) (hg : g' = g) (hf : ∀ v, v < 6 → sB' v = sB v ∧ eB' v = eB v ∧ rB' v = rB v) : TX M g' sB' eB' rB' := by
  subst hg
  refine ⟨h.1, h.2.1, fun v hv => ?_⟩
  rw [(hf v hv).1, (hf v hv).2.1, (hf v hv).2.2]
  exact h.2.2 v hv
/-- a picture in order: no vehicle's zone is in its route -/
def Pg (n : Nat) (zn rl : Nat → Nat) (rz : Nat → Nat → Nat) : Prop := n ≤ 6 ∧ ∀ v, v < n → zn v < 20 ∧ ∀ k, k < rl v → rz v k < 20 ∧ rz v k ≠ zn v
theorem tk_bit {sB eB : Nat → Nat} {S z : Nat} : ∀ m, (tk sB eB S m).testBit z = true ↔ ∃ o, o < m ∧ (if S.testBit o = true then eB o else sB o).testBit z = true := by
  intro m
  induction m with
  | zero => simp [tk]
  | succ m ih =>
    unfold tk
    rw [Nat.testBit_or, Bool.or_eq_true, ih]
    constructor
    · rintro (⟨o, h1, h2⟩ | h)
      · exact ⟨o, by omega, h2⟩
      · exact ⟨m, by omega, h⟩
    · rintro ⟨o, h1, h2⟩
      by_cases e : o = m
      · subst e; exact Or.inr h2
      · exact Or.inl ⟨o, by omega, h2⟩
theorem tkP_bit {n : Nat} {zn rl : Nat → Nat} {rz : Nat → Nat → Nat} {S z : Nat} (hn : n ≤ 6) : (tk (sBP n zn) (eBP n zn rl rz) S 6).testBit z = true ↔ ∃ o, o < n ∧ plc zn rl rz o S = z := by
  rw [tk_bit]
  constructor
  · rintro ⟨o, h1, h2⟩
    by_cases ho : o < n
    · refine ⟨o, ho, ?_⟩
      unfold plc
      by_cases hs : S.testBit o = true
      · rw [if_pos hs] at h2 ⊢
        unfold eBP at h2
        rw [if_pos ho, pw_bit] at h2
        exact of_decide_eq_true h2
      · rw [if_neg hs] at h2 ⊢
        unfold sBP at h2
        rw [if_pos ho, pw_bit] at h2
        exact of_decide_eq_true h2
    · unfold eBP sBP at h2
      rw [if_neg ho, if_neg ho] at h2
      simp at h2
  · rintro ⟨o, ho, h⟩
    refine ⟨o, by omega, ?_⟩
    unfold plc at h
    by_cases hs : S.testBit o = true
    · rw [if_pos hs] at h ⊢
      unfold eBP
      rw [if_pos ho, pw_bit]
      exact decide_eq_true h
    · rw [if_neg hs] at h ⊢
      unfold sBP
      rw [if_pos ho, pw_bit]
      exact decide_eq_true h
theorem okT_okP {n : Nat} {zn rl : Nat → Nat} {rz : Nat → Nat → Nat} (h : Pg n zn rl rz) (S v : Nat) : okT (bsy n rl) (sBP n zn) (eBP n zn rl rz) (rBP n rl rz) S v = okP n zn rl rz S v := by
  unfold okT okP
  rw [bsy_bit]
  by_cases hv : v < n
  · by_cases hs : S.testBit v = true
    · simp [hs]
    · have hs2 : S.testBit v = false := by simpa using hs
      simp only [hs2]
      have : (rBP n rl rz v &&& tk (sBP n zn) (eBP n zn rl rz) S 6 = 0) ↔ (∀ k, k < rl v → ∀ o, o < n → o ≠ v → plc zn rl rz o S ≠ rz v k) := by
        rw [zero_bits]
        unfold rBP
        rw [if_pos hv]
        constructor
        · intro h1 k hk o ho hne hp
          have h2 := h1 (rz v k)
          rw [Nat.testBit_and, rbt_bit.mpr ⟨k, hk, rfl⟩, (tkP_bit h.1).mpr ⟨o, ho, hp⟩] at h2
          cases h2
        · intro h1 i
          rw [Nat.testBit_and]
          cases hb : (rbt (rz v) (rl v)).testBit i with
          | false => rfl
          | true =>
            obtain ⟨k, hk, hki⟩ := rbt_bit.mp hb
            cases hc : (tk (sBP n zn) (eBP n zn rl rz) S 6).testBit i with
            | false => rfl
            | true =>
              obtain ⟨o, ho, hoi⟩ := (tkP_bit h.1).mp hc
              by_cases e : o = v
              · subst e
                unfold plc at hoi
                rw [if_neg hs] at hoi
                exact absurd (hki.trans hoi.symm) ((h.2 o ho).2 k hk).2
              · exact absurd (hoi.trans hki.symm) (h1 k hk o ho e)
      rw [decide_eq_decide.mpr this]
  · simp [hv]
theorem cntT_P {n : Nat} {zn rl : Nat → Nat} {rz : Nat → Nat → Nat} (h : Pg n zn rl rz) (S : Nat) : cnt (okT (bsy n rl) (sBP n zn) (eBP n zn rl rz) (rBP n rl rz)) (bsy n rl) S = cntP n zn rl rz S := cnt_congr (okT_okP h)
theorem rbt_zero {f : Nat → Nat} {l : Nat} : rbt f l = 0 ↔ l = 0 := by
  constructor
  · intro h
    refine Classical.byContradiction fun hl => ?_
    have := rbt_bit (f := f) (n := l) (z := f 0).mpr ⟨0, by omega, rfl⟩
    rw [h] at this
    simp at this
  · rintro rfl; rfl
theorem TXP.put {M : AM} {n v z l : Nat} {zn rl r : Nat → Nat} {rz : Nat → Nat → Nat} (hv : v ≤ n) (h : TX M (if rbt r l = 0 then ndf (bsy n rl) (2 ^ v) else bsy n rl ||| 2 ^ v) (upN (sBP n zn) v (2 ^ z)) (upN (eBP n zn rl rz) v (2 ^ lstz z l r)) (upN (rBP n rl rz) v (rbt r l))) :
    TXP M (if v = n then n + 1 else n) (upN zn v z) (upN rl v l) (upN rz v r) := by
  have hlt : ∀ w, w ≠ v → ((w < if v = n then n + 1 else n) ↔ w < n) := fun w hw => by
    by_cases e : v = n
    · rw [if_pos e]; omega
    · rw [if_neg e]
  have hvv : v < if v = n then n + 1 else n := by
    by_cases e : v = n
    · rw [if_pos e]; omega
    · rw [if_neg e]; omega
  refine h.congr ?_ (fun w hw => ?_)
  · apply Nat.eq_of_testBit_eq
    intro i
    rw [bsy_bit]
    by_cases hi : i = v
    · subst hi
      rw [upN_s, decide_eq_true hvv]
      by_cases hl : rbt r l = 0
      · rw [if_pos hl, ndf_bit, pw_bit, rbt_zero.mp hl]; simp
      · rw [if_neg hl, or_bit]
        have : 0 < l := Nat.pos_of_ne_zero (fun q => hl (rbt_zero.mpr q))
        simp [this]
    · have e2 : decide (i < if v = n then n + 1 else n) = decide (i < n) := decide_eq_decide.mpr (hlt i hi)
      rw [upN_n hi, e2]
      by_cases hl : rbt r l = 0
      · rw [if_pos hl, ndf_bit, pw_bit, bsy_bit]
        have : ¬ v = i := fun q => hi q.symm
        simp [this]
      · rw [if_neg hl, or_bit, bsy_bit]
        have : ¬ v = i := fun q => hi q.symm
        simp [this]
  · by_cases hi : w = v
    · subst hi
      unfold sBP eBP rBP
      rw [if_pos hvv, if_pos hvv, if_pos hvv]
      simp only [upN_s, and_self]
    · simp only [upN_n hi]
      unfold sBP eBP rBP
      simp only [upN_n hi]
      by_cases hw2 : w < n
      · rw [if_pos ((hlt w hi).mpr hw2), if_pos ((hlt w hi).mpr hw2), if_pos ((hlt w hi).mpr hw2), if_pos hw2, if_pos hw2, if_pos hw2]
        exact ⟨rfl, rfl, rfl⟩
      · rw [if_neg (fun q => hw2 ((hlt w hi).mp q)), if_neg (fun q => hw2 ((hlt w hi).mp q)), if_neg (fun q => hw2 ((hlt w hi).mp q)), if_neg hw2, if_neg hw2, if_neg hw2]
        exact ⟨rfl, rfl, rfl⟩
