/-! the reference: ways to each set, told by what is kept: ways already at the end and those that the open sets can still bring -/
theorem sumN_upd {f h : Nat → Nat} {n j : Nat} (hj : j < n) (he : ∀ i, i < n → i ≠ j → f i = h i) : sumN f n + h j = sumN h n + f j := by
  induction n with
  | zero => omega
  | succ n ih =>
    unfold sumN
    by_cases e : j = n
    · subst e
      have : sumN f j = sumN h j := sumN_congr (fun i hi => he i (by omega) (by omega))
      omega
    · have := ih (by omega) (fun i hi => he i (by omega))
      have := he n (by omega) (by omega)
      omega
theorem sumN_get {f : Nat → Nat} {n j : Nat} (hj : j < n) : f j ≤ sumN f n := by
  induction n with
  | zero => omega
  | succ n ih =>
    unfold sumN
    by_cases e : j = n
    · subst e; omega
    · have := ih (by omega); omega
theorem sumN_zero {f : Nat → Nat} {n : Nat} (h : ∀ i, i < n → f i = 0) : sumN f n = 0 := by
  induction n with
  | zero => rfl
  | succ n ih => unfold sumN; rw [ih (fun i hi => h i (by omega)), h n (by omega)]
/-- what the sets from s on bring, weighed by c, and what is at the end already -/
def ptw (c : Nat → Nat) (g : Nat) (w : Nat → Nat) (s : Nat) : Nat := sumN (fun T => if s ≤ T ∧ T ≠ g then w T * c T else 0) 64 + w g * c g
def tlw (c : Nat → Nat) (ok : Nat → Nat → Bool) (s v : Nat) : Nat := sumN (fun u => if v ≤ u ∧ ok s u = true then c (s ||| 2 ^ u) else 0) 6
def adw (w : Nat → Nat) (T x : Nat) : Nat → Nat := upN w T (w T + x)
theorem ptw_add {c : Nat → Nat} {g : Nat} {w : Nat → Nat} {s T x : Nat} (hg : g < 64) (hT : T < 64) (hs : s ≤ T) : ptw c g (adw w T x) s = ptw c g w s + x * c T := by
  unfold ptw adw
  by_cases e : T = g
  · subst e
    rw [upN_s, sumN_congr (g := fun U => if s ≤ U ∧ U ≠ T then w U * c U else 0), Nat.add_mul]
    · omega
    · intro i hi
      by_cases e2 : i = T
      · rw [if_neg (fun q => q.2 e2), if_neg (fun q => q.2 e2)]
      · rw [upN_n e2]
  · rw [upN_n (fun q => e q.symm)]
    have := sumN_upd (f := fun U => if s ≤ U ∧ U ≠ g then upN w T (w T + x) U * c U else 0) (h := fun U => if s ≤ U ∧ U ≠ g then w U * c U else 0) hT (fun i _ hi => by (try dsimp only); rw [upN_n hi])
    (try dsimp only at this)
    rw [if_pos ⟨hs, e⟩, if_pos ⟨hs, e⟩, upN_s, Nat.add_mul] at this
    omega
theorem ptw_next {c : Nat → Nat} {g : Nat} {w : Nat → Nat} {s : Nat} (hs : s < 64) : ptw c g w s = ptw c g w (s + 1) + if s = g then 0 else w s * c s := by
  unfold ptw
  have := sumN_upd (f := fun U => if s ≤ U ∧ U ≠ g then w U * c U else 0) (h := fun U => if s + 1 ≤ U ∧ U ≠ g then w U * c U else 0) hs (fun i _ hi => by
    (try dsimp only)
    by_cases e : s ≤ i ∧ i ≠ g
    · rw [if_pos e, if_pos ⟨by omega, e.2⟩]
    · rw [if_neg e, if_neg (fun q => e ⟨by omega, q.2⟩)])
  (try dsimp only at this)
  rw [if_neg (fun q : s + 1 ≤ s ∧ s ≠ g => by omega)] at this
  by_cases e : s = g
  · rw [if_neg (fun q : s ≤ s ∧ s ≠ g => q.2 e)] at this
    rw [if_pos e]
    omega
  · rw [if_pos (⟨Nat.le_refl _, e⟩ : s ≤ s ∧ s ≠ g)] at this
    rw [if_neg e]
    omega
theorem ptw_get {c : Nat → Nat} {g : Nat} {w : Nat → Nat} {s T : Nat} (hT : T < 64) (hs : s ≤ T) : w T * c T ≤ ptw c g w s := by
  unfold ptw
  by_cases e : T = g
  · subst e; omega
  · have := sumN_get (f := fun T => if s ≤ T ∧ T ≠ g then w T * c T else 0) hT
    (try dsimp only at this)
    rw [if_pos ⟨hs, e⟩] at this
    omega
theorem tlw_ok {c : Nat → Nat} {ok : Nat → Nat → Bool} {s v : Nat} (hv : v < 6) : tlw c ok s v = tlw c ok s (v + 1) + if ok s v = true then c (s ||| 2 ^ v) else 0 := by
  unfold tlw
  have := sumN_upd (f := fun u => if v ≤ u ∧ ok s u = true then c (s ||| 2 ^ u) else 0) (h := fun u => if v + 1 ≤ u ∧ ok s u = true then c (s ||| 2 ^ u) else 0) hv (fun i _ hi => by
    (try dsimp only)
    by_cases e : v ≤ i ∧ ok s i = true
    · rw [if_pos e, if_pos ⟨by omega, e.2⟩]
    · rw [if_neg e, if_neg (fun q => e ⟨by omega, q.2⟩)])
  (try dsimp only at this)
  rw [if_neg (fun q : v + 1 ≤ v ∧ ok s v = true => by omega)] at this
  by_cases e : ok s v = true
  · rw [if_pos (⟨Nat.le_refl _, e⟩ : v ≤ v ∧ ok s v = true)] at this
    rw [if_pos e]
    omega
  · rw [if_neg (fun q : v ≤ v ∧ ok s v = true => e q.2)] at this
    rw [if_neg e]
    omega
/-- a weight for the bound: each set goes on in at most six ways -/
def c6 (g S : Nat) : Nat := 6 ^ remS g S
theorem c6_pos {g S : Nat} : 0 < c6 g S := Nat.pos_of_ne_zero (by unfold c6; simp)
theorem c6_tl {ok : Nat → Nat → Bool} {g S : Nat} (hg : g < 64) (hf : Fit ok g) : tlw (c6 g) ok S 0 ≤ c6 g S := by
  by_cases h : ∃ v, ok S v = true
  · obtain ⟨v, hv⟩ := h
    have hr := rem_add hg (hf S v hv).1 (hf S v hv).2
    have := sumN_bd (f := fun u => if 0 ≤ u ∧ ok S u = true then c6 g (S ||| 2 ^ u) else 0) (n := 6) (b := 6 ^ (remS g S - 1)) (fun u _ => by
      (try dsimp only)
      split
      · rename_i q
        have := rem_add hg (hf S u q.2).1 (hf S u q.2).2
        exact Nat.pow_le_pow_right (by omega) (by omega)
      · exact Nat.zero_le _)
    have e : 6 * 6 ^ (remS g S - 1) = 6 ^ remS g S := by
      have h3 : remS g S = (remS g S - 1) + 1 := by omega
      rw [h3, Nat.pow_succ, Nat.add_sub_cancel]
      omega
    unfold tlw c6 at *
    omega
  · have : tlw (c6 g) ok S 0 = 0 := sumN_zero (fun i _ => if_neg (fun q => h ⟨i, q.2⟩))
    omega
theorem cn_tl {ok : Nat → Nat → Bool} {g S : Nat} (hg : g < 64) (hf : Fit ok g) (hs : Sub S g) (hne : S ≠ g) : tlw (cnt ok g) ok S 0 = cnt ok g S := by
  rw [cnt_eq hg hf hs, if_neg hne]
  exact sumN_congr (fun i _ => by (try dsimp only); by_cases e : ok S i = true <;> simp [e])
theorem g_tl {c : Nat → Nat} {ok : Nat → Nat → Bool} {g : Nat} (hf : Fit ok g) : tlw c ok g 0 = 0 := sumN_zero (fun i _ => if_neg (fun q => by
  have := hf g i q.2
  rw [this.1] at this
  cases this.2))
/-- the invariant: while set s is at vehicle v -/
def WI (ok : Nat → Nat → Bool) (g C : Nat) (w : Nat → Nat) (s v : Nat) : Prop := (∀ T, T < 64 → w T ≤ 46656) ∧ (∀ T, T < 64 → 0 < w T → Sub T g) ∧ ptw (cnt ok g) g w (s + 1) + w s * tlw (cnt ok g) ok s v = C ∧ ptw (c6 g) g w (s + 1) + w s * tlw (c6 g) ok s v ≤ 46656
/-- between two sets -/
def WO (ok : Nat → Nat → Bool) (g C : Nat) (w : Nat → Nat) (s : Nat) : Prop := (∀ T, T < 64 → w T ≤ 46656) ∧ (∀ T, T < 64 → 0 < w T → Sub T g) ∧ ptw (cnt ok g) g w s = C ∧ ptw (c6 g) g w s ≤ 46656
theorem WO.start {ok : Nat → Nat → Bool} {g : Nat} (hg : g < 64) : WO ok g (cnt ok g 0) (fun T => if T = 0 then 1 else 0) 0 := by
  have key : ∀ c : Nat → Nat, ptw c g (fun T => if T = 0 then 1 else 0) 0 = c 0 := fun c => by
    unfold ptw
    by_cases e : g = 0
    · subst e
      rw [sumN_zero (fun i _ => by
        (try dsimp only)
        by_cases e2 : i = 0
        · rw [if_neg (fun q => q.2 e2)]
        · rw [if_neg e2]; simp)]
      simp
    · (try dsimp only)
      rw [if_neg e]
      have := sumN_upd (f := fun T => if 0 ≤ T ∧ T ≠ g then (if T = 0 then 1 else 0) * c T else 0) (h := fun _ => 0) (n := 64) (j := 0) (by omega) (fun i _ hi => by
        (try dsimp only)
        rw [if_neg hi]; simp)
      rw [sumN_zero (f := fun _ => 0) (fun _ _ => rfl)] at this
      (try dsimp only at this)
      rw [if_pos (⟨Nat.le_refl _, fun q => e q.symm⟩ : 0 ≤ 0 ∧ (0 : Nat) ≠ g)] at this
      simp at this ⊢
      exact this
  refine ⟨fun T _ => by (try dsimp only); split <;> omega, fun T _ h => ?_, key _, ?_⟩
  · (try dsimp only at h)
    by_cases e : T = 0
    · subst e; exact Sub.zero
    · rw [if_neg e] at h; omega
  · rw [key]
    have h := rem_le (g := g) (S := 0)
    have : 6 ^ remS g 0 ≤ 6 ^ 6 := Nat.pow_le_pow_right (by omega) h
    exact this
theorem WO.enter {ok : Nat → Nat → Bool} {g C : Nat} {w : Nat → Nat} {s : Nat} (hg : g < 64) (hf : Fit ok g) (h : WO ok g C w s) (hs : s < 64) : WI ok g C w s 0 := by
  obtain ⟨h1, h2, h3, h4⟩ := h
  refine ⟨h1, h2, ?_, ?_⟩
  · rw [ptw_next hs] at h3
    by_cases e : s = g
    · rw [if_pos e] at h3
      rw [e, g_tl hf]
      rw [e] at h3
      simpa using h3
    · rw [if_neg e] at h3
      by_cases e2 : 0 < w s
      · rw [cn_tl hg hf (h2 s hs e2) e]; exact h3
      · have : w s = 0 := by omega
        rw [this] at h3 ⊢
        simpa using h3
  · rw [ptw_next hs] at h4
    by_cases e : s = g
    · rw [if_pos e] at h4
      rw [e, g_tl hf]
      rw [e] at h4
      simpa using h4
    · rw [if_neg e] at h4
      have := Nat.mul_le_mul_left (w s) (c6_tl hg hf (S := s))
      omega
theorem WI.leave {ok : Nat → Nat → Bool} {g C : Nat} {w : Nat → Nat} {s v : Nat} (h : WI ok g C w s v) (h0 : w s = 0 ∨ ∀ u, v ≤ u → u < 6 → ok s u = false) : WO ok g C w (s + 1) := by
  obtain ⟨h1, h2, h3, h4⟩ := h
  have z : ∀ c : Nat → Nat, w s * tlw c ok s v = 0 := fun c => by
    rcases h0 with e | e
    · rw [e]; simp
    · have : tlw c ok s v = 0 := sumN_zero (fun i hi => if_neg (fun q => by
        have := e i q.1 hi
        rw [this] at q
        cases q.2))
      rw [this]; simp
  rw [z] at h3 h4
  exact ⟨h1, h2, h3, h4⟩
theorem WI.skip {ok : Nat → Nat → Bool} {g C : Nat} {w : Nat → Nat} {s v : Nat} (h : WI ok g C w s v) (hv : v < 6) (h0 : ok s v = false) : WI ok g C w s (v + 1) := by
  obtain ⟨h1, h2, h3, h4⟩ := h
  rw [tlw_ok hv, h0] at h3 h4
  exact ⟨h1, h2, h3, h4⟩
theorem WI.add {ok : Nat → Nat → Bool} {g C : Nat} {w : Nat → Nat} {s v : Nat} (hg : g < 64) (hf : Fit ok g) (h : WI ok g C w s v) (hs : s < 64) (hv : v < 6) (h0 : ok s v = true) (hp : 0 < w s) : WI ok g C (adw w (s ||| 2 ^ v) (w s)) s (v + 1) := by
  obtain ⟨h1, h2, h3, h4⟩ := h
  have hfv := hf s v h0
  have hT : s ||| 2 ^ v < 64 := or6 hs (pw6 hv)
  have hgt := or_gt hfv.2
  have hs2 : adw w (s ||| 2 ^ v) (w s) s = w s := upN_n (by omega)
  rw [tlw_ok hv, if_pos h0, Nat.mul_add] at h3 h4
  have e1 := ptw_add (c := cnt ok g) (w := w) (x := w s) (s := s + 1) hg hT (by omega)
  have e2 := ptw_add (c := c6 g) (w := w) (x := w s) (s := s + 1) hg hT (by omega)
  refine ⟨fun T hT2 => ?_, fun T hT2 hT3 => ?_, ?_, ?_⟩
  · by_cases e : T = s ||| 2 ^ v
    · subst e
      have q := ptw_get (c := c6 g) (g := g) (w := adw w (s ||| 2 ^ v) (w s)) (s := s + 1) hT (by omega)
      have := Nat.le_mul_of_pos_right (adw w (s ||| 2 ^ v) (w s) (s ||| 2 ^ v)) (c6_pos (g := g) (S := s ||| 2 ^ v))
      omega
    · unfold adw
      rw [upN_n e]
      exact h1 T hT2
  · by_cases e : T = s ||| 2 ^ v
    · subst e
      exact (h2 s hs hp).add hfv.1
    · unfold adw at hT3
      rw [upN_n e] at hT3
      exact h2 T hT2 hT3
  · rw [hs2, e1]; omega
  · rw [hs2, e2]; omega
theorem WO.done {ok : Nat → Nat → Bool} {g C : Nat} {w : Nat → Nat} (hg : g < 64) (h : WO ok g C w 64) : w g = C := by
  have h3 := h.2.2.1
  unfold ptw at h3
  rw [sumN_zero (fun i hi => if_neg (fun q => by omega))] at h3
  have : cnt ok g g = 1 := by simp [cnt, cnF]
  rw [this] at h3
  omega
