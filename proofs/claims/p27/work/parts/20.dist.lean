/-! numbers; the distances of a plant -/
theorem wrn {n : Nat} (h : n < 2147483648) : wr (n : Int) = n := wr_of (by omega) (by omega)
theorem wrc {z : Int} {j : Nat} (h : z = j) (hj : j < 2147483648) : wr z = j := by rw [h]; exact wrn hj
theorem wr_lit (n : Nat) (h : n < 2147483648) : wr (OfNat.ofNat n : Int) = OfNat.ofNat n := wr_of (by show (-2147483648 : Int) ≤ (n : Int); omega) (by show (n : Int) < 2147483648; omega)
theorem wr_m1 : wr (-1) = -1 := wr_of (by omega) (by omega)
/-- the numbers of lanes between zones: 1000 where there is no way -/
def GM (D : Nat → Nat → Nat) : Prop := (∀ i, i < 20 → D i i = 0) ∧ (∀ i j, i < 20 → j < 20 → i ≠ j → 1 ≤ D i j) ∧ (∀ i j, i < 20 → j < 20 → D i j = D j i) ∧ (∀ i j k, i < 20 → j < 20 → k < 20 → D i k ≤ D i j + D j k) ∧
  (∀ i j d, i < 20 → j < 20 → D i j = d + 1 → d + 1 < 1000 → ∃ k, k < 20 ∧ D i k = 1 ∧ D k j = d) ∧ (∀ i j, i < 20 → j < 20 → D i j ≤ 1000)
theorem nodup_le : ∀ (n : Nat) (l : List Nat), l.Nodup → (∀ x ∈ l, x < n) → l.length ≤ n := by
  intro n
  induction n with
  | zero =>
    intro l _ h
    cases l with
    | nil => simp
    | cons a l => exact absurd (h a List.mem_cons_self) (by omega)
  | succ n ih =>
    intro l hn h
    by_cases hm : n ∈ l
    · have h1 := ih (l.erase n) (hn.erase n) (fun x hx => by
        have h2 := (List.Nodup.mem_erase_iff hn).mp hx
        have h3 := h x h2.2
        have h4 := h2.1
        omega)
      rw [List.length_erase_of_mem hm] at h1
      omega
    · have h1 := ih l hn (fun x hx => by
        have h3 := h x hx
        have h4 : x ≠ n := fun e => hm (e ▸ hx)
        omega)
      omega
theorem GM.chain {D : Nat → Nat → Nat} (h : GM D) {j : Nat} (hj : j < 20) : ∀ (d i : Nat), i < 20 → D i j = d → d < 1000 → ∃ l : List Nat, l.length = d + 1 ∧ l.Nodup ∧ ∀ x ∈ l, x < 20 ∧ D x j ≤ d := by
  intro d
  induction d with
  | zero =>
    intro i hi hd _
    exact ⟨[i], rfl, by simp, fun x hx => by rw [List.mem_singleton.mp hx]; exact ⟨hi, by omega⟩⟩
  | succ d ih =>
    intro i hi hd hlt
    obtain ⟨k, hk, h1, h2⟩ := h.2.2.2.2.1 i j d hi hj hd hlt
    obtain ⟨l, g1, g2, g3⟩ := ih k hk h2 (by omega)
    refine ⟨i :: l, by simp [g1], List.nodup_cons.mpr ⟨fun hm => ?_, g2⟩, fun x hx => ?_⟩
    · have := (g3 i hm).2
      omega
    · rcases List.mem_cons.mp hx with rfl | hx
      · exact ⟨hi, by omega⟩
      · exact ⟨(g3 x hx).1, by have := (g3 x hx).2; omega⟩
theorem GM.small {D : Nat → Nat → Nat} (h : GM D) {i j : Nat} (hi : i < 20) (hj : j < 20) (hd : D i j < 1000) : D i j ≤ 19 := by
  obtain ⟨l, g1, g2, g3⟩ := h.chain hj (D i j) i hi rfl hd
  have := nodup_le 20 l g2 (fun x hx => (g3 x hx).1)
  omega
/-- a lane more -/
def layD (D : Nat → Nat → Nat) (a b i j : Nat) : Nat := min (D i j) (min (D i a + 1 + D b j) (D i b + 1 + D a j))
theorem GM.lay {D : Nat → Nat → Nat} (h : GM D) {a b : Nat} (ha : a < 20) (hb : b < 20) : GM (layD D a b) := by
  obtain ⟨g0, g1, gs, gt, ge, gc⟩ := h
  have le1 : ∀ i j, layD D a b i j ≤ D i j := fun i j => by unfold layD; omega
  have le2 : ∀ i j, layD D a b i j ≤ D i a + 1 + D b j := fun i j => by unfold layD; omega
  have le3 : ∀ i j, layD D a b i j ≤ D i b + 1 + D a j := fun i j => by unfold layD; omega
  have cs : ∀ i j, layD D a b i j = D i j ∨ layD D a b i j = D i a + 1 + D b j ∨ layD D a b i j = D i b + 1 + D a j := fun i j => by unfold layD; omega
  have s0 : ∀ i, i < 20 → layD D a b i i = 0 := fun i hi => by have := le1 i i; have := g0 i hi; omega
  have s1 : ∀ i j, i < 20 → j < 20 → i ≠ j → 1 ≤ layD D a b i j := fun i j hi hj hne => by
    have := g1 i j hi hj hne
    rcases cs i j with e | e | e <;> omega
  have st : ∀ i j k, i < 20 → j < 20 → k < 20 → layD D a b i k ≤ layD D a b i j + layD D a b j k := by
    intro i j k hi hj hk
    have t1 := gt i j k hi hj hk
    have t2 := gt b j k hb hj hk
    have t3 := gt a j k ha hj hk
    have t4 := gt i j a hi hj ha
    have t5 := gt i j b hi hj hb
    have t6 := gt i a k hi ha hk
    have t7 := gt i b k hi hb hk
    have u1 := le1 i k
    have u2 := le2 i k
    have u3 := le3 i k
    rcases cs i j with e | e | e <;> rcases cs j k with f | f | f <;> omega
  refine ⟨s0, s1, fun i j hi hj => ?_, st, fun i j d hi hj hd hlt => ?_, fun i j hi hj => Nat.le_trans (le1 i j) (gc i j hi hj)⟩
  · unfold layD
    rw [gs i j hi hj, gs i a hi ha, gs b j hb hj, gs i b hi hb, gs a j ha hj]
    omega
  · have key : ∀ k, k < 20 → i ≠ k → layD D a b i k ≤ 1 → layD D a b k j ≤ d → ∃ k, k < 20 ∧ layD D a b i k = 1 ∧ layD D a b k j = d := by
      intro k hk hne h1 h2
      have h3 := s1 i k hi hk hne
      have h4 := st i k j hi hk hj
      exact ⟨k, hk, by omega, by omega⟩
    have side : ∀ (x y : Nat), x < 20 → y < 20 → (∀ i j, layD D a b i j ≤ D i x + 1 + D y j) → x ≠ y → layD D a b i j = D i x + 1 + D y j → ∃ k, k < 20 ∧ layD D a b i k = 1 ∧ layD D a b k j = d := by
      intro x y hx hy hle hne e
      by_cases hix : i = x
      · subst hix
        have h1 := g0 i hi
        have h2 := g0 y hy
        refine key y hy hne ?_ ?_
        · have := hle i y; omega
        · have := le1 y j; omega
      · have h1 := g1 i x hi hx hix
        obtain ⟨k, hk, h2, h3⟩ := ge i x (D i x - 1) hi hx (by omega) (by omega)
        refine key k hk (fun q => ?_) ?_ ?_
        · subst q; have := g0 i hi; omega
        · have := le1 i k; omega
        · have := hle k j; omega
    by_cases hab : a = b
    · subst hab
      rcases cs i j with e | e | e
      · obtain ⟨k, hk, h1, h2⟩ := ge i j d hi hj (by omega) hlt
        exact key k hk (fun q => by subst q; have := g0 i hi; omega) (by have := le1 i k; omega) (by have := le1 k j; omega)
      · have := gt i a j hi ha hj; have := le1 i j; omega
      · have := gt i a j hi ha hj; have := le1 i j; omega
    · rcases cs i j with e | e | e
      · obtain ⟨k, hk, h1, h2⟩ := ge i j d hi hj (by omega) hlt
        exact key k hk (fun q => by subst q; have := g0 i hi; omega) (by have := le1 i k; omega) (by have := le1 k j; omega)
      · exact side a b ha hb le2 hab e
      · exact side b a hb ha le3 (fun q => hab q.symm) e
theorem layD_one {D : Nat → Nat → Nat} (h : GM D) {a b i j : Nat} (ha : a < 20) (hb : b < 20) (hab : a ≠ b) (hi : i < 20) (hj : j < 20) : layD D a b i j = 1 ↔ D i j = 1 ∨ (i = a ∧ j = b) ∨ (i = b ∧ j = a) := by
  obtain ⟨g0, g1, gs, gt, ge, gc⟩ := h
  have z : ∀ x y, x < 20 → y < 20 → D x y = 0 → x = y := fun x y hx hy h0 => Classical.byContradiction fun hne => by
    have := g1 x y hx hy hne
    omega
  constructor
  · intro h1
    have cs : layD D a b i j = D i j ∨ layD D a b i j = D i a + 1 + D b j ∨ layD D a b i j = D i b + 1 + D a j := by unfold layD; omega
    rcases cs with e | e | e
    · exact Or.inl (by omega)
    · exact Or.inr (Or.inl ⟨z i a hi ha (by omega), (z b j hb hj (by omega)).symm⟩)
    · exact Or.inr (Or.inr ⟨z i b hi hb (by omega), (z a j ha hj (by omega)).symm⟩)
  · rintro (h1 | ⟨rfl, rfl⟩ | ⟨rfl, rfl⟩)
    · have hne : i ≠ j := fun q => by subst q; have := g0 i hi; omega
      have := g1 i j hi hj hne
      have k2 : layD D a b i j ≤ D i j := by unfold layD; omega
      have k3 : 1 ≤ layD D a b i j := by unfold layD; omega
      omega
    · have := g0 i hi; have := g0 j hj; have := g1 i j hi hj hab
      unfold layD; omega
    · have := g0 i hi; have := g0 j hj; have := g1 i j hi hj (fun q => hab q.symm)
      unfold layD; omega
/-- the next zone on a way -/
def nxD (D : Nat → Nat → Nat) (a t : Nat) : Nat := ((List.range 20).find? (fun z => decide (D a z = 1 ∧ D z t + 1 = D a t))).getD t
theorem nxD_spec {D : Nat → Nat → Nat} (h : GM D) {a t : Nat} (ha : a < 20) (ht : t < 20) (hd : D a t < 1000) (hne : a ≠ t) : nxD D a t < 20 ∧ D a (nxD D a t) = 1 ∧ D (nxD D a t) t + 1 = D a t := by
  obtain ⟨g0, g1, gs, gt, ge, gc⟩ := h
  have h1 := g1 a t ha ht hne
  obtain ⟨k, hk, e1, e2⟩ := ge a t (D a t - 1) ha ht (by omega) (by omega)
  unfold nxD
  cases hf : (List.range 20).find? (fun z => decide (D a z = 1 ∧ D z t + 1 = D a t)) with
  | none =>
    have := List.find?_eq_none.mp hf k (List.mem_range.mpr hk)
    simp at this
    exact absurd (by omega) (this e1)
  | some z =>
    have h2 := List.find?_some hf
    have h3 := List.mem_of_find?_eq_some hf
    simp at h2
    exact ⟨List.mem_range.mp h3, h2.1, h2.2⟩
/-- the zones of a way, in their order: number 0 is where it starts -/
def wyD (D : Nat → Nat → Nat) (a t : Nat) : Nat → Nat
  | 0 => a
  | k + 1 => nxD D (wyD D a t k) t
theorem wyD_spec {D : Nat → Nat → Nat} (h : GM D) {a t : Nat} (ha : a < 20) (ht : t < 20) (hd : D a t < 1000) : ∀ k, k ≤ D a t → wyD D a t k < 20 ∧ D (wyD D a t k) t + k = D a t := by
  intro k
  induction k with
  | zero => intro _; exact ⟨ha, by simp [wyD]⟩
  | succ k ih =>
    intro hk
    obtain ⟨h1, h2⟩ := ih (by omega)
    have hne : wyD D a t k ≠ t := fun q => by rw [q, h.1 t ht] at h2; omega
    obtain ⟨s1, s2, s3⟩ := nxD_spec h h1 ht (by omega) hne
    exact ⟨s1, by show D (nxD D (wyD D a t k) t) t + (k + 1) = _; omega⟩
theorem wyD_inj {D : Nat → Nat → Nat} (h : GM D) {a t i j : Nat} (ha : a < 20) (ht : t < 20) (hd : D a t < 1000) (hi : i ≤ D a t) (hj : j ≤ D a t) (e : wyD D a t i = wyD D a t j) : i = j := by
  have h1 := (wyD_spec h ha ht hd i hi).2
  have h2 := (wyD_spec h ha ht hd j hj).2
  rw [e] at h1
  omega
theorem wyD_last {D : Nat → Nat → Nat} (h : GM D) {a t : Nat} (ha : a < 20) (ht : t < 20) (hd : D a t < 1000) : wyD D a t (D a t) = t := by
  obtain ⟨h1, h2⟩ := wyD_spec h ha ht hd (D a t) (Nat.le_refl _)
  exact Classical.byContradiction fun hne => by
    have := h.2.1 _ t h1 ht hne
    omega
