/-! the reference's cells for a state; ways -/
def RM (S : SS) (M : AM) : Prop := LM M (sD S) ∧ M 63 2 = sln S ∧ (∀ z, z < 20 → M 65 z = b2i (sch S z)) ∧ MP M (snV S) (szn S) (srl S) (srz S) ∧
  (∀ v, v < snV S → M 68 v = sen S v ∧ M 71 v = swt S v) ∧ (∀ v, v < 6 → M 72 v = o2i (stk S v)) ∧ M 63 12 = (snJ S : Int) ∧ ∀ j, j < snJ S → M 73 j = (sjz S j : Int) ∧ M 74 j = sjs S j ∧ M 75 j = sjv S j
/-- of the reference only what it scribbles on has changed -/
def FK (S : SS) (M M' : AM) : Prop := (∀ c k, c ≠ 66 → c ≠ 70 → c ≠ 76 → c ≠ 77 → c ≠ 78 → M' c k = M c k) ∧ ∀ v k, v < snV S → k < srl S v → M' 70 (20 * v + k) = M 70 (20 * v + k)
theorem FK.rf {S : SS} {M : AM} : FK S M M := ⟨fun _ _ _ _ _ _ _ => rfl, fun _ _ _ _ => rfl⟩
theorem FK.tr {S : SS} {M M1 M2 : AM} (h : FK S M M1) (h2 : FK S M1 M2) : FK S M M2 := ⟨fun c k a1 a2 a3 a4 a5 => (h2.1 c k a1 a2 a3 a4 a5).trans (h.1 c k a1 a2 a3 a4 a5), fun v k hv hk => (h2.2 v k hv hk).trans (h.2 v k hv hk)⟩
theorem FK.fs {S : SS} {M M' : AM} (h : FS M M') : FK S M M' := ⟨fun c k _ _ a3 a4 _ => h c k a3 a4, fun _ _ _ _ => h _ _ (by omega) (by omega)⟩
theorem FK.f1 {S : SS} {M M' : AM} (h : F1 66 M M') : FK S M M' := ⟨fun c k a1 _ _ _ _ => h c k a1, fun _ _ _ _ => h _ _ (by omega)⟩
theorem RM.fk {S : SS} {M M' : AM} (h : RM S M) (hF : FK S M M') : RM S M' := by
  obtain ⟨h1, h2, h3, h4, h5, h6, h7, h8⟩ := h
  obtain ⟨f1, f2⟩ := hF
  refine ⟨fun i j hi hj => ?_, ?_, fun z hz => ?_, ⟨?_, fun v hv => ?_⟩, fun v hv => ?_, fun v hv => ?_, ?_, fun j hj => ?_⟩
  · rw [f1 64 _ (by omega) (by omega) (by omega) (by omega) (by omega)]; exact h1 i j hi hj
  · rw [f1 63 _ (by omega) (by omega) (by omega) (by omega) (by omega)]; exact h2
  · rw [f1 65 _ (by omega) (by omega) (by omega) (by omega) (by omega)]; exact h3 z hz
  · rw [f1 63 _ (by omega) (by omega) (by omega) (by omega) (by omega)]; exact h4.1
  · obtain ⟨g1, g2, g3, g4⟩ := h4.2 v hv
    refine ⟨?_, ?_, g3, fun k hk => ?_⟩
    · rw [f1 67 _ (by omega) (by omega) (by omega) (by omega) (by omega)]; exact g1
    · rw [f1 69 _ (by omega) (by omega) (by omega) (by omega) (by omega)]; exact g2
    · rw [f2 v k hv hk]; exact g4 k hk
  · rw [f1 68 _ (by omega) (by omega) (by omega) (by omega) (by omega), f1 71 _ (by omega) (by omega) (by omega) (by omega) (by omega)]; exact h5 v hv
  · rw [f1 72 _ (by omega) (by omega) (by omega) (by omega) (by omega)]; exact h6 v hv
  · rw [f1 63 _ (by omega) (by omega) (by omega) (by omega) (by omega)]; exact h7
  · rw [f1 73 _ (by omega) (by omega) (by omega) (by omega) (by omega), f1 74 _ (by omega) (by omega) (by omega) (by omega) (by omega), f1 75 _ (by omega) (by omega) (by omega) (by omega) (by omega)]; exact h8 j hj
/-- the class's cells have not changed -/
def FQ (M M' : AM) : Prop := ∀ c k, (c < 63 ∨ 79 ≤ c) → M' c k = M c k
theorem FQ.rf {M : AM} : FQ M M := fun _ _ _ => rfl
theorem FQ.tr {M M1 M2 : AM} (h : FQ M M1) (h2 : FQ M1 M2) : FQ M M2 := fun c k hc => (h2 c k hc).trans (h c k hc)
theorem FK.fq {S : SS} {M M' : AM} (h : FK S M M') : FQ M M' := fun c k hc => h.1 c k (by omega) (by omega) (by omega) (by omega) (by omega)
theorem FQ.um {M M' : AM} (h : FQ M M') {c k : Nat} {x : Int} (hc : 63 ≤ c ∧ c < 79) : FQ M (um M' c k x) := fun c' k' h' => by rw [um_ne (by omega)]; exact h c' k' h'
theorem RM.code {S : SS} {M : AM} {x : Int} (h : RM S M) : RM S (um M 63 0 x) := by
  obtain ⟨h1, h2, h3, h4, h5, h6, h7, h8⟩ := h
  refine ⟨fun i j hi hj => ?_, ?_, fun z hz => ?_, ⟨?_, fun v hv => ?_⟩, fun v hv => ?_, fun v hv => ?_, ?_, fun j hj => ?_⟩
  · rw [um_ne (by omega)]; exact h1 i j hi hj
  · rw [um_ne2 (by omega)]; exact h2
  · rw [um_ne (by omega)]; exact h3 z hz
  · rw [um_ne2 (by omega)]; exact h4.1
  · obtain ⟨g1, g2, g3, g4⟩ := h4.2 v hv
    refine ⟨?_, ?_, g3, fun k hk => ?_⟩
    · rw [um_ne (by omega)]; exact g1
    · rw [um_ne (by omega)]; exact g2
    · rw [um_ne (by omega)]; exact g4 k hk
  · rw [um_ne (by omega), um_ne (by omega)]; exact h5 v hv
  · rw [um_ne (by omega)]; exact h6 v hv
  · rw [um_ne2 (by omega)]; exact h7
  · rw [um_ne (by omega), um_ne (by omega), um_ne (by omega)]; exact h8 j hj
/-! a search from above for the least -/
def dn (P : Nat → Prop) (m n : Nat) (x : Int) : Prop := (∃ u : Nat, x = u ∧ m ≤ u ∧ u < n ∧ P u ∧ ∀ w, m ≤ w → w < u → ¬ P w) ∨ (x = -1 ∧ ∀ w, m ≤ w → w < n → ¬ P w)
theorem dn_0 {P : Nat → Prop} {n : Nat} : dn P n n (-1) := Or.inr ⟨rfl, fun w h1 h2 => by omega⟩
theorem dn_hit {P : Nat → Prop} {m n : Nat} (hm : m < n) (h : P m) : dn P m n (m : Nat) := Or.inl ⟨m, rfl, by omega, hm, h, fun w h1 h2 => by omega⟩
theorem dn_no {P : Nat → Prop} {m n : Nat} {x : Int} (hx : dn P (m + 1) n x) (h : ¬ P m) : dn P m n x := by
  rcases hx with ⟨u, h1, h2, h3, h4, h5⟩ | ⟨h1, h2⟩
  · refine Or.inl ⟨u, h1, by omega, h3, h4, fun w hw1 hw2 => ?_⟩
    by_cases e : w = m
    · subst e; exact h
    · exact h5 w (by omega) hw2
  · refine Or.inr ⟨h1, fun w hw1 hw2 => ?_⟩
    by_cases e : w = m
    · subst e; exact h
    · exact h2 w (by omega) hw2
theorem dn_bd {P : Nat → Prop} {m n : Nat} {x : Int} (h : dn P m n x) : -1 ≤ x ∧ x < n := by
  rcases h with ⟨u, h1, h2, h3, _⟩ | ⟨h1, _⟩ <;> omega
section MW
variable {K : KX} {S : SS} {D : Nat → Nat → Nat} {ch : Nat → Bool} {Q : Res → AG → AM → Prop}
def lsC (ch : Nat → Bool) (D : Nat → Nat → Nat) (t n : Nat) : Int := if mnC ch D t n < 1000 then (mnC ch D t n : Int) else -1
theorem lp_toC (hD : GM D) {t : Nat} (ht : t < 20) {M : AM} (hC : ∀ z, z < 20 → M 65 z = b2i (ch z)) (hZ : ∀ z, z < 20 → M 66 z = fzD D t z) (hQ : Q (.inl (some (aI (if mnC ch D t 20 < 1000 then (mnC ch D t 20 : Int) else 0)))) GG M) :
    ∀ d n : Nat, n + d = 20 → WM K fM_toCharger (EM K fM_toCharger 80 Q) 9 [some (aR 63), some (aI t), some (aI (lsC ch D t n)), some (aI n), none] [] GG M 0 0 := by
  intro d
  induction d with
  | zero =>
    intro n hn
    have : n = 20 := by omega
    subst this
    have bd := mnC_le (ch := ch) (D := D) (t := t) 20
    unfold lsC
    refine BM_toCharger_9 _ _ _ ⟨fun _ => ⟨fun c => BM_toCharger_88 _ _ _ _ ?_, fun c => BM_toCharger_88 _ _ _ _ ?_⟩, fun c => absurd ?_ c⟩
    · by_cases e : mnC ch D t 20 < 1000
      · rw [if_pos e, wr_m1, wrn (by omega)] at c; omega
      · rw [if_neg e] at hQ; exact hQ
    · by_cases e : mnC ch D t 20 < 1000
      · rw [if_pos e] at hQ ⊢; exact hQ
      · rw [if_neg e] at c; exact absurd rfl c
    · rw [wr_20, wrn (by omega)]; omega
  | succ d ih =>
    intro n hn
    have hn20 : n < 20 := by omega
    have bd := mnC_le (ch := ch) (D := D) (t := t) n
    have gc := hD.2.2.2.2.2 n t hn20 ht
    have gs := hD.2.2.1 n t hn20 ht
    have hnx := ih (n + 1) (by omega)
    have same : lsC ch D t (n + 1) = lsC ch D t n → ∀ y : Int, WM K fM_toCharger (EM K fM_toCharger 80 Q) 70 [some (aR 63), some (aI t), some (aI (lsC ch D t n)), some (aI n), some (aI y)] [] GG M 0 0 := fun e y => by
      refine BM_toCharger_70 _ _ _ _ (BM_toCharger_71 _ _ _ _ _ ?_)
      rw [e] at hnx
      exact hnx
    have fresh : lsC ch D t (n + 1) = fzD D t n → ∀ y : Int, WM K fM_toCharger (EM K fM_toCharger 80 Q) 61 [some (aR 63), some (aI t), some (aI (lsC ch D t n)), some (aI n), some (aI y)] [] GG M 0 0 := fun e y => by
      refine BM_toCharger_61 _ _ _ _ ⟨n, wrn (by omega), hn20, BM_toCharger_71 _ _ _ _ _ ?_⟩
      rw [hZ n hn20, ← e]
      exact hnx
    have at39 : ∀ y : Int, isB y (ch n = true ∧ D n t < 1000) → WM K fM_toCharger (EM K fM_toCharger 80 Q) 39 [some (aR 63), some (aI t), some (aI (lsC ch D t n)), some (aI n), none] [aI y] GG M 0 0 := fun y hy => by
      refine BM_toCharger_39 _ _ _ _ ⟨fun c => same ?_ _, fun c => ?_⟩
      · have h := isB_0 hy c
        have hm : mnC ch D t (n + 1) = mnC ch D t n := by
          show (if ch n = true then min (mnC ch D t n) (D t n) else mnC ch D t n) = _
          by_cases e : ch n = true
          · have e2 : ¬ D n t < 1000 := fun q => h ⟨e, q⟩
            rw [if_pos e]
            omega
          · rw [if_neg e]
        unfold lsC
        rw [hm]
      · have h := isB_1 hy c
        have hm : mnC ch D t (n + 1) = min (mnC ch D t n) (D n t) := by
          show (if ch n = true then min (mnC ch D t n) (D t n) else mnC ch D t n) = _
          rw [if_pos h.1, gs]
        have hf : fzD D t n = (D n t : Int) := if_pos h.2
        refine ⟨fun c2 => fresh ?_ _, fun c2 => ⟨n, wrn (by omega), hn20, fun c3 => same ?_ _, fun c3 => fresh ?_ _⟩⟩
        · unfold lsC at c2 ⊢
          by_cases e : mnC ch D t n < 1000
          · rw [if_pos e, wr_m1, wrn (by omega)] at c2; omega
          · rw [hm, if_pos (by omega), hf]; omega
        · rw [hZ n hn20, hf] at c3
          unfold lsC at c2 c3 ⊢
          by_cases e : mnC ch D t n < 1000
          · rw [if_pos e, wrn (by omega), wrn (by omega)] at c3
            rw [hm, if_pos (by omega), if_pos e]; omega
          · rw [if_neg e] at c2; exact absurd rfl c2
        · rw [hZ n hn20, hf] at c3
          unfold lsC at c2 c3 ⊢
          by_cases e : mnC ch D t n < 1000
          · rw [if_pos e, wrn (by omega), wrn (by omega)] at c3
            rw [hm, if_pos (by omega), hf]; omega
          · rw [if_neg e] at c2; exact absurd rfl c2
    refine BM_toCharger_9 _ _ _ ⟨fun c => ?_, fun _ => ⟨n, wrn (by omega), hn20, fun c => BM_toCharger_38 _ _ _ (at39 0 (Or.inr ⟨rfl, fun q => ?_⟩)), fun c => ⟨n, wrn (by omega), hn20, fun c2 => BM_toCharger_38 _ _ _ (at39 0 (Or.inr ⟨rfl, fun q => ?_⟩)), fun c2 => at39 1 (Or.inl ⟨rfl, ?_, ?_⟩)⟩⟩⟩
    · rw [wr_20, wrn (by omega)] at c; omega
    · rw [hC n hn20, q.1] at c
      exact absurd c (by show ¬ wr 1 = 0; rw [wr_1]; omega)
    · rw [hZ n hn20] at c2
      unfold fzD at c2
      rw [if_pos q.2, wr_m1, wrn (by omega)] at c2; omega
    · rw [hC n hn20] at c
      cases e : ch n with
      | true => rfl
      | false => rw [e] at c; exact absurd wr_0 c
    · rw [hZ n hn20] at c2
      unfold fzD at c2
      by_cases e : D n t < 1000
      · exact e
      · rw [if_neg e] at c2; exact absurd rfl c2
theorem sp_toC (hst : K.1.stackTraces = false) (hD : GM D) {t : Nat} (ht : t < 20) {M : AM} (hL : LM M D) (hC : ∀ z, z < 20 → M 65 z = b2i (ch z)) (hQ : ∀ M', F1 66 M M' → Q (.inl (some (aI (if mnC ch D t 20 < 1000 then (mnC ch D t 20 : Int) else 0)))) GG M') : MetA K fM_toCharger [aR 63, aI t] GG M Q :=
  EM_toCharger hst _ (BM_toCharger_0 _ (sp_measure hst hD ht hL (fun M1 f1 z1 => ⟨rfl, lp_toC hD ht (fun z hz => by rw [f1 65 _ (by omega)]; exact hC z hz) z1 (hQ M1 f1) 20 0 (by omega)⟩)))
def F8 (M M' : AM) : Prop := ∀ c k, c ≠ 66 → c ≠ 78 → M' c k = M c k
theorem F8.rf {M : AM} : F8 M M := fun _ _ _ _ => rfl
theorem F8.of {M M' : AM} (h : F1 66 M M') : F8 M M' := fun c k h1 _ => h c k h1
theorem F8.u {M M' : AM} {k : Nat} {x : Int} (h : F8 M M') : F8 M (um M' 78 k x) := fun c j h1 h2 => by rw [um_ne h2]; exact h c j h1 h2
theorem lp_nxt (hD : GM D) {v t a k len : Nat} (ht : t < 20) (ha : a < 20) (hd : D a t < 1000) (hne : a ≠ t) {M : AM} (hL : LM M D) (hZ : ∀ z, z < 20 → M 66 z = fzD D t z) (hk : k < 20)
    (hQ : WM K fM_findWay (EM K fM_findWay 80 Q) 23 [some (aR 63), some (aI v), some (aI t), some (aI (nxD D a t)), some (aI len), some (aI (k + 1 : Nat)), none, none] [] GG (um M 78 k (nxD D a t)) 0 0) :
    ∀ (m : Nat) (x : Int), m ≤ 20 → dn (fun z => D a z = 1 ∧ D z t + 1 = D a t) m 20 x → WM K fM_findWay (EM K fM_findWay 80 Q) 37 [some (aR 63), some (aI v), some (aI t), some (aI a), some (aI len), some (aI k), some (aI x), some (aI ((m : Int) - 1))] [] GG M 0 0 := by
  intro m
  induction m with
  | zero =>
    intro x _ hx
    have hs := nxD_spec hD ha ht hd hne
    have : x = (nxD D a t : Int) := by
      rcases hx with ⟨u, h1, h2, h3, h4, h5⟩ | ⟨h1, h2⟩
      · rw [h1, nx_hit h3 h4 (fun y hy => h5 y (by omega) hy)]
      · exact absurd hs.2 (h2 _ (by omega) hs.1)
    subst this
    refine BM_findWay_37 _ _ _ _ _ _ _ ⟨fun _ => ⟨k, wrn (by omega), hk, hQ⟩, fun c => absurd ?_ c⟩
    rw [wri (by omega) (by omega)]; omega
  | succ m ih =>
    intro x hm hx
    have e : ((m + 1 : Nat) : Int) - 1 = (m : Int) := by omega
    rw [e]
    have hm20 : m < 20 := by omega
    have gcm := hD.2.2.2.2.2 m t hm20 ht
    have h1a := hD.2.1 a t ha ht hne
    have hl : M 64 (20 * a + m) = if D a m = 1 then 1 else 0 := hL a m ha hm20
    have hza : M 66 a = (D a t : Int) := by rw [hZ a ha]; exact if_pos hd
    have hzm := hZ m hm20
    have hji : wr (20 * (a : Int) + (m : Int)) = ((20 * a + m : Nat) : Int) := (wri (by omega) (by omega)).trans (by omega)
    have keep : ¬ (D a m = 1 ∧ D m t + 1 = D a t) → WM K fM_findWay (EM K fM_findWay 80 Q) 37 [some (aR 63), some (aI v), some (aI t), some (aI a), some (aI len), some (aI k), some (aI x), some (aI ((m : Int) + (-1)))] [] GG M 0 0 := fun q => ih x (by omega) (dn_no hx q)
    refine BM_findWay_37 _ _ _ _ _ _ _ ⟨fun c => ?_, fun _ => ⟨20 * a + m, hji, by omega, fun c => keep (fun q => ?_), fun c => ⟨m, wrn (by omega), hm20, a, wrn (by omega), ha, fun c2 => ih (m : Nat) (by omega) (dn_hit hm20 ⟨?_, ?_⟩), fun c2 => keep (fun q => ?_)⟩⟩⟩
    · rw [wrn (by omega)] at c; omega
    · rw [hl, if_pos q.1, wr_1] at c; omega
    · by_cases e2 : D a m = 1
      · exact e2
      · rw [hl, if_neg e2] at c; exact absurd wr_0 c
    · rw [hza, hzm, wri (z := (D a t : Int) - 1) (by omega) (by omega)] at c2
      unfold fzD at c2
      by_cases e2 : D m t < 1000
      · rw [if_pos e2, wrn (by omega)] at c2; omega
      · rw [if_neg e2, wr_m1] at c2; omega
    · rw [hza, hzm, wri (z := (D a t : Int) - 1) (by omega) (by omega)] at c2
      unfold fzD at c2
      rw [if_pos (by omega), wrn (by omega)] at c2
      omega
theorem lp_way (hD : GM D) {v a t : Nat} (ha : a < 20) (ht : t < 20) (hd : D a t < 1000) {M0 : AM} (hL : LM M0 D) (hQ : ∀ M', F8 M0 M' → (∀ k, k < D a t → M' 78 k = (wyD D a t (k + 1) : Int)) → Q (.inl (some (aI (D a t)))) GG M') :
    ∀ (d k : Nat) (M : AM), k + d = D a t → F8 M0 M → (∀ z, z < 20 → M 66 z = fzD D t z) → (∀ i, i < k → M 78 i = (wyD D a t (i + 1) : Int)) → WM K fM_findWay (EM K fM_findWay 80 Q) 23 [some (aR 63), some (aI v), some (aI t), some (aI (wyD D a t k)), some (aI (D a t)), some (aI k), none, none] [] GG M 0 0 := by
  have hs := hD.small ha ht hd
  intro d
  induction d with
  | zero =>
    intro k M hk hF hZ hW
    have : k = D a t := by omega
    subst this
    exact BM_findWay_23 _ _ _ _ _ ⟨fun _ => hQ M hF hW, fun c => absurd (Int.le_refl _) c⟩
  | succ d ih =>
    intro k M hk hF hZ hW
    obtain ⟨w1, w2⟩ := wyD_spec hD ha ht hd k (by omega)
    have hne : wyD D a t k ≠ t := fun q => by rw [q, hD.1 t ht] at w2; omega
    refine BM_findWay_23 _ _ _ _ _ ⟨fun c => ?_, fun _ => ?_⟩
    · rw [wrn (by omega), wrn (by omega)] at c; omega
    · refine lp_nxt hD ht w1 (by omega) hne (fun i j hi hj => by rw [hF 64 _ (by omega) (by omega)]; exact hL i j hi hj) hZ (by omega) ?_ 20 (-1) (by omega) dn_0
      refine ih (k + 1) _ (by omega) hF.u (fun z hz => by rw [um_ne (by omega)]; exact hZ z hz) (fun i hi => ?_)
      by_cases e : i = k
      · subst e; rw [um_self]; rfl
      · rw [um_ne2 e]; exact hW i (by omega)
theorem sp_way (hst : K.1.stackTraces = false) (hD : GM D) {v a t : Nat} (hv : v < 6) (ha : a < 20) (ht : t < 20) {M : AM} (hz : M 67 v = (a : Int)) (hL : LM M D) (hQ : ∀ M', F8 M M' → (D a t < 1000 → ∀ k, k < D a t → M' 78 k = (wyD D a t (k + 1) : Int)) → Q (.inl (some (aI (fzD D t a)))) GG M') : MetA K fM_findWay [aR 63, aI v, aI t] GG M Q := by
  refine EM_findWay hst _ _ (BM_findWay_0 _ _ (sp_measure hst hD ht hL (fun M1 f1 z1 => ⟨rfl, v, wrn (by omega), hv, a, ?_, ha, ?_⟩)))
  · rw [f1 67 _ (by omega), hz]; exact wrn (by omega)
  · rw [f1 67 _ (by omega), hz, z1 a ha]
    by_cases e : D a t < 1000
    · have hq := hQ
      unfold fzD at hq ⊢
      rw [if_pos e] at hq ⊢
      exact lp_way hD ha ht e (fun i j hi hj => by rw [f1 64 _ (by omega)]; exact hL i j hi hj) (fun M2 f2 w2 => hq M2 (fun c k h1 h2 => (f2 c k h1 h2).trans (f1 c k h1)) (fun _ => w2)) (D a t) 0 M1 (by omega) F8.rf z1 (fun i hi => by omega)
    · have hq := hQ M1 (F8.of f1) (fun q => absurd q e)
      unfold fzD at hq ⊢
      rw [if_neg e] at hq ⊢
      refine BM_findWay_23 _ _ _ _ _ ⟨fun _ => hq, fun c => absurd ?_ c⟩
      rw [wr_m1, wr_0]; omega
theorem lp_set {v l : Nat} (hv : v < 6) (hl : l ≤ 20) {r : Nat → Nat} {M0 : AM} (hr : ∀ k, k < l → M0 78 k = (r k : Int))
    (hQ : ∀ M' : AM, (∀ c k, c ≠ 69 → c ≠ 70 → M' c k = M0 c k) → (∀ w, w ≠ v → M' 69 w = M0 69 w) → M' 69 v = (l : Int) → (∀ w k, w ≠ v → k < 20 → M' 70 (20 * w + k) = M0 70 (20 * w + k)) → (∀ k, k < l → M' 70 (20 * v + k) = (r k : Int)) → Q (.inl none) GG M') :
    ∀ (d k : Nat) (M : AM), k + d = l → (∀ c i, c ≠ 70 → M c i = M0 c i) → (∀ w i, w ≠ v → i < 20 → M 70 (20 * w + i) = M0 70 (20 * w + i)) → (∀ i, i < k → M 70 (20 * v + i) = (r i : Int)) → WM K fM_setRoute (EM K fM_setRoute 80 Q) 2 [some (aR 63), some (aI v), some (aI l), some (aI k)] [] GG M 0 0 := by
  intro d
  induction d with
  | zero =>
    intro k M hk h1 h2 h3
    have : k = l := by omega
    subst this
    refine BM_setRoute_2 _ _ _ ⟨fun _ => ⟨v, wrn (by omega), hv, hQ _ (fun c i a b => ?_) (fun w hw => ?_) um_self (fun w i hw hi => ?_) (fun i hi => ?_)⟩, fun c => absurd (Int.le_refl _) c⟩
    · rw [um_ne a]; exact h1 c i b
    · rw [um_ne2 hw]; exact h1 _ _ (by omega)
    · rw [um_ne (by omega)]; exact h2 w i hw hi
    · rw [um_ne (by omega)]; exact h3 i hi
  | succ d ih =>
    intro k M hk h1 h2 h3
    have hji : wr (20 * (v : Int) + (k : Int)) = ((20 * v + k : Nat) : Int) := (wri (by omega) (by omega)).trans (by omega)
    refine BM_setRoute_2 _ _ _ ⟨fun c => ?_, fun _ => ⟨k, wrn (by omega), by omega, 20 * v + k, hji, by omega, ih (k + 1) _ (by omega) (fun c i a => ?_) (fun w i hw hi => ?_) (fun i hi => ?_)⟩⟩
    · rw [wrn (by omega), wrn (by omega)] at c; omega
    · rw [um_ne a]; exact h1 c i a
    · rw [um_ne2 (by omega)]; exact h2 w i hw hi
    · by_cases e : i = k
      · subst e; rw [um_self, h1 _ _ (by omega)]; exact hr i (by omega)
      · rw [um_ne2 (by omega)]; exact h3 i (by omega)
theorem sp_set (hst : K.1.stackTraces = false) {v l : Nat} (hv : v < 6) (hl : l ≤ 20) {r : Nat → Nat} {M : AM} (hr : ∀ k, k < l → M 78 k = (r k : Int))
    (hQ : ∀ M' : AM, (∀ c k, c ≠ 69 → c ≠ 70 → M' c k = M c k) → (∀ w, w ≠ v → M' 69 w = M 69 w) → M' 69 v = (l : Int) → (∀ w k, w ≠ v → k < 20 → M' 70 (20 * w + k) = M 70 (20 * w + k)) → (∀ k, k < l → M' 70 (20 * v + k) = (r k : Int)) → Q (.inl none) GG M') : MetA K fM_setRoute [aR 63, aI v, aI l] GG M Q :=
  EM_setRoute hst _ _ (BM_setRoute_0 _ _ (lp_set hv hl hr hQ l 0 M (by omega) (fun _ _ _ => rfl) (fun _ _ _ _ => rfl) (fun i hi => by omega)))
end MW
