/-! orders, counted by sets of those that have run through -/
def sumN (f : Nat → Nat) : Nat → Nat
  | 0 => 0
  | n + 1 => sumN f n + f n
theorem sumN_congr {f g : Nat → Nat} {n : Nat} (h : ∀ i, i < n → f i = g i) : sumN f n = sumN g n := by
  induction n with
  | zero => rfl
  | succ n ih => unfold sumN; rw [ih (fun i hi => h i (by omega)), h n (by omega)]
theorem sumN_le {f g : Nat → Nat} {n : Nat} (h : ∀ i, i < n → f i ≤ g i) : sumN f n ≤ sumN g n := by
  induction n with
  | zero => exact Nat.le_refl _
  | succ n ih => unfold sumN; have := ih (fun i hi => h i (by omega)); have := h n (by omega); omega
theorem sumN_lt {f g : Nat → Nat} {n : Nat} (h : ∀ i, i < n → f i ≤ g i) {v : Nat} (hv : v < n) (hlt : f v < g v) : sumN f n < sumN g n := by
  induction n with
  | zero => omega
  | succ n ih =>
    unfold sumN
    have h1 := h n (by omega)
    by_cases e : v = n
    · subst e
      have := sumN_le (f := f) (g := g) (n := v) (fun i hi => h i (by omega))
      omega
    · have := ih (fun i hi => h i (by omega)) (by omega)
      omega
theorem sumN_bd {f : Nat → Nat} {n b : Nat} (h : ∀ i, i < n → f i ≤ b) : sumN f n ≤ n * b := by
  induction n with
  | zero => simp [sumN]
  | succ n ih => unfold sumN; have := ih (fun i hi => h i (by omega)); have := h n (by omega); rw [Nat.succ_mul]; omega
theorem sumN_pos {f : Nat → Nat} {n : Nat} : 0 < sumN f n ↔ ∃ i, i < n ∧ 0 < f i := by
  induction n with
  | zero => simp [sumN]
  | succ n ih =>
    unfold sumN
    constructor
    · intro h
      by_cases h2 : 0 < sumN f n
      · obtain ⟨i, h3, h4⟩ := ih.mp h2
        exact ⟨i, by omega, h4⟩
      · exact ⟨n, by omega, by omega⟩
    · rintro ⟨i, h1, h2⟩
      by_cases e : i = n
      · subst e; omega
      · have := ih.mpr ⟨i, by omega, h2⟩
        omega
/-- S's members are among g's -/
def Sub (S g : Nat) : Prop := ∀ i, S.testBit i = true → g.testBit i = true
/-- what may run next: only of g, and not of S -/
def Fit (ok : Nat → Nat → Bool) (g : Nat) : Prop := ∀ S v, ok S v = true → g.testBit v = true ∧ S.testBit v = false
def remS (g S : Nat) : Nat := sumN (fun v => if g.testBit v = true ∧ S.testBit v = false then 1 else 0) 6
theorem or_bit {S v i : Nat} : (S ||| 2 ^ v).testBit i = (S.testBit i || decide (v = i)) := by rw [Nat.testBit_or, pw_bit]
theorem Sub.add {S g v : Nat} (h : Sub S g) (hv : g.testBit v = true) : Sub (S ||| 2 ^ v) g := fun i hi => by
  rw [or_bit, Bool.or_eq_true] at hi
  rcases hi with hi | hi
  · exact h i hi
  · have := of_decide_eq_true hi
    subst this
    exact hv
theorem Sub.zero {g : Nat} : Sub 0 g := fun i h => by simp at h
theorem rem_le {g S : Nat} : remS g S ≤ 6 := by
  have := sumN_bd (f := fun v => if g.testBit v = true ∧ S.testBit v = false then 1 else 0) (n := 6) (b := 1) (fun i _ => by split <;> omega)
  unfold remS
  omega
theorem rem_add {g S v : Nat} (hg : g < 64) (h1 : g.testBit v = true) (h2 : S.testBit v = false) : remS g (S ||| 2 ^ v) < remS g S := by
  have hv : v < 6 := Classical.byContradiction fun h => by
    have := lt_bits (n := g) (k := 6) hg (i := v) (by omega)
    rw [this] at h1
    cases h1
  unfold remS
  refine sumN_lt (fun i _ => ?_) hv ?_
  · rw [or_bit]
    by_cases hc : g.testBit i = true ∧ (S.testBit i || decide (v = i)) = false
    · rw [if_pos hc, if_pos ⟨hc.1, by have := hc.2; simp at this; simpa using this.1⟩]
      exact Nat.le_refl _
    · rw [if_neg hc]
      exact Nat.zero_le _
  · rw [or_bit, if_neg (by simp), if_pos ⟨h1, h2⟩]
    omega
theorem rem_0 {g S : Nat} (hg : g < 64) (hs : Sub S g) (h : remS g S = 0) : S = g := by
  apply Nat.eq_of_testBit_eq
  intro i
  cases h1 : S.testBit i with
  | true => exact (hs i h1).symm
  | false =>
    cases h2 : g.testBit i with
    | false => rfl
    | true =>
      have := rem_add hg h2 h1
      omega
def cnF (ok : Nat → Nat → Bool) (g : Nat) : Nat → Nat → Nat
  | 0, S => if S = g then 1 else 0
  | f + 1, S => if S = g then 1 else sumN (fun v => if ok S v = true then cnF ok g f (S ||| 2 ^ v) else 0) 6
def cnt (ok : Nat → Nat → Bool) (g S : Nat) : Nat := cnF ok g 6 S
theorem cnF_more {ok : Nat → Nat → Bool} {g : Nat} (hg : g < 64) (hf : Fit ok g) : ∀ (f S : Nat), Sub S g → remS g S ≤ f → cnF ok g (f + 1) S = cnF ok g f S := by
  intro f
  induction f with
  | zero =>
    intro S hs hr
    have := rem_0 hg hs (by omega)
    subst this
    simp [cnF]
  | succ f ih =>
    intro S hs hr
    by_cases e : S = g
    · simp [cnF, e]
    · rw [cnF, if_neg e, cnF, if_neg e]
      refine sumN_congr (fun v _ => ?_)
      by_cases ho : ok S v = true
      · rw [if_pos ho, if_pos ho]
        obtain ⟨h1, h2⟩ := hf S v ho
        have := rem_add hg h1 h2
        exact ih _ (hs.add h1) (by omega)
      · rw [if_neg ho, if_neg ho]
theorem cnt_eq {ok : Nat → Nat → Bool} {g : Nat} (hg : g < 64) (hf : Fit ok g) {S : Nat} (hs : Sub S g) : cnt ok g S = if S = g then 1 else sumN (fun v => if ok S v = true then cnt ok g (S ||| 2 ^ v) else 0) 6 := by
  unfold cnt
  by_cases e : S = g
  · simp [cnF, e]
  · rw [cnF, if_neg e, if_neg e]
    refine sumN_congr (fun v _ => ?_)
    by_cases ho : ok S v = true
    · rw [if_pos ho, if_pos ho]
      obtain ⟨h1, h2⟩ := hf S v ho
      have h3 := rem_add hg h1 h2
      have h4 := rem_le (g := g) (S := S)
      exact (cnF_more hg hf 5 _ (hs.add h1) (by omega)).symm
    · rw [if_neg ho, if_neg ho]
theorem cnF_bd {ok : Nat → Nat → Bool} {g : Nat} : ∀ (f S : Nat), cnF ok g f S ≤ 6 ^ f := by
  intro f
  induction f with
  | zero => intro S; unfold cnF; split <;> simp
  | succ f ih =>
    intro S
    unfold cnF
    split
    · exact Nat.pos_of_ne_zero (by simp)
    · have := sumN_bd (f := fun v => if ok S v = true then cnF ok g f (S ||| 2 ^ v) else 0) (n := 6) (b := 6 ^ f) (fun v _ => by split; exact ih _; exact Nat.zero_le _)
      rw [Nat.pow_succ]
      omega
theorem cnt_bd {ok : Nat → Nat → Bool} {g S : Nat} : cnt ok g S ≤ 46656 := cnF_bd (ok := ok) (g := g) 6 S
theorem cnF_congr {ok ok' : Nat → Nat → Bool} {g : Nat} (h : ∀ S v, ok S v = ok' S v) : ∀ (f S : Nat), cnF ok g f S = cnF ok' g f S := by
  intro f
  induction f with
  | zero => intro S; rfl
  | succ f ih =>
    intro S
    unfold cnF
    by_cases e : S = g
    · rw [if_pos e, if_pos e]
    · rw [if_neg e, if_neg e]
      exact sumN_congr (fun v _ => by rw [h S v, ih])
theorem cnt_congr {ok ok' : Nat → Nat → Bool} {g S : Nat} (h : ∀ S v, ok S v = ok' S v) : cnt ok g S = cnt ok' g S := cnF_congr h 6 S
theorem sub_lt {S g : Nat} (hg : g < 64) (hs : Sub S g) : S < 64 := bits_lt (k := 6) (fun i hi => by
  cases h : S.testBit i with
  | false => rfl
  | true =>
    have h1 := hs i h
    rw [lt_bits (k := 6) hg hi] at h1
    cases h1)
theorem or_gt {S v : Nat} (h : S.testBit v = false) : S < S ||| 2 ^ v := by
  have h1 : S ≤ S ||| 2 ^ v := Nat.left_le_or
  have h2 : S ≠ S ||| 2 ^ v := fun e => by
    have : (S ||| 2 ^ v).testBit v = true := by rw [or_bit]; simp
    rw [← e, h] at this
    cases this
  omega
theorem sub_le {S g : Nat} (hs : Sub S g) : S ≤ g := by
  have : S ||| g = g := by
    apply Nat.eq_of_testBit_eq
    intro i
    rw [Nat.testBit_or]
    cases h : S.testBit i with
    | false => simp
    | true => rw [hs i h]; rfl
  rw [← this]
  exact Nat.left_le_or
theorem ndf_0 {S g : Nat} : ndf S g = 0 ↔ Sub S g := by
  rw [zero_bits]
  constructor
  · intro h i hi
    have := h i
    rw [ndf_bit, hi] at this
    cases hg : g.testBit i with
    | true => rfl
    | false => rw [hg] at this; cases this
  · intro h i
    rw [ndf_bit]
    cases hi : S.testBit i with
    | false => rfl
    | true => rw [h i hi]; rfl
/-- the first one that can run so that the others can, too -/
def fr1 (ok : Nat → Nat → Bool) (g S : Nat) : Option Nat := (List.range 6).find? (fun v => ok S v && decide (0 < cnt ok g (S ||| 2 ^ v)))
/-- the set behind k of the first order -/
def foS (ok : Nat → Nat → Bool) (g : Nat) : Nat → Nat
  | 0 => 0
  | k + 1 => match fr1 ok g (foS ok g k) with
    | some v => foS ok g k ||| 2 ^ v
    | none => foS ok g k
theorem fr1_some {ok : Nat → Nat → Bool} {g S : Nat} (hg : g < 64) (hf : Fit ok g) (hs : Sub S g) (hp : 0 < cnt ok g S) (hne : S ≠ g) : ∃ v, fr1 ok g S = some v ∧ v < 6 ∧ ok S v = true ∧ 0 < cnt ok g (S ||| 2 ^ v) := by
  rw [cnt_eq hg hf hs, if_neg hne] at hp
  obtain ⟨v, hv, h1⟩ := sumN_pos.mp hp
  cases hfr : fr1 ok g S with
  | none =>
    have := List.find?_eq_none.mp hfr v (List.mem_range.mpr hv)
    by_cases ho : ok S v = true
    · rw [if_pos ho] at h1
      simp [ho, h1] at this
    · rw [if_neg ho] at h1
      omega
  | some w =>
    have h2 := List.find?_some hfr
    simp at h2
    exact ⟨w, rfl, List.mem_range.mp (List.mem_of_find?_eq_some hfr), h2.1, h2.2⟩
