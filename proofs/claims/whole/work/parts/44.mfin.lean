/-! the reference: orders -/
section MF
variable {K : KX} {n : Nat} {zn rl : Nat → Nat} {rz : Nat → Nat → Nat} {Q : Res → AG → AM → Prop}
theorem cntP_ex (h6 : n ≤ 6) {S : Nat} (hs : Sub S (bsy n rl)) : 0 < cntP n zn rl rz S ↔ S = bsy n rl ∨ ∃ u, u < n ∧ okP n zn rl rz S u = true ∧ 0 < cntP n zn rl rz (S ||| 2 ^ u) := by
  unfold cntP
  rw [cnt_eq (bsy_lt h6) okP_fit hs]
  by_cases e : S = bsy n rl
  · rw [if_pos e]
    exact ⟨fun _ => Or.inl e, fun _ => by omega⟩
  · rw [if_neg e, sumN_pos]
    constructor
    · rintro ⟨i, hi, h⟩
      by_cases ho : okP n zn rl rz S i = true
      · rw [if_pos ho] at h
        exact Or.inr ⟨i, okP_of ho, ho, h⟩
      · rw [if_neg ho] at h; omega
    · rintro (h | ⟨u, h1, h2, h3⟩)
      · exact absurd h e
      · exact ⟨u, by omega, by rw [if_pos h2]; exact h3⟩
def F7 (M M' : AM) : Prop := ∀ c k, c ≠ 77 → M' c k = M c k
theorem F7.fs {M M' : AM} (h : F7 M M') : FS M M' := fun c k _ hb => h c k hb
theorem F7.u {M M' : AM} {k : Nat} {x : Int} (h : F7 M M') : F7 M (um M' 77 k x) := fun c j hb => by rw [um_ne hb]; exact h c j hb
/-- what the sets from s on are known to be -/
def CE2 (M : AM) (n : Nat) (zn rl : Nat → Nat) (rz : Nat → Nat → Nat) (s : Nat) : Prop := (∀ T, Sub T (bsy n rl) → s ≤ T → M 77 T = b2i (decide (0 < cntP n zn rl rz T))) ∧ ∀ T, T < 64 → T < s → M 77 T = b2i (decide (T = bsy n rl))
/-- what set s is known to be, up to vehicle v -/
def fl (n : Nat) (zn rl : Nat → Nat) (rz : Nat → Nat → Nat) (s v : Nat) : Prop := s = bsy n rl ∨ ∃ u, u < v ∧ okP n zn rl rz s u = true ∧ 0 < cntP n zn rl rz (s ||| 2 ^ u)
theorem fl_s {s v : Nat} : fl n zn rl rz s (v + 1) ↔ fl n zn rl rz s v ∨ (okP n zn rl rz s v = true ∧ 0 < cntP n zn rl rz (s ||| 2 ^ v)) := by
  unfold fl
  constructor
  · rintro (h | ⟨u, h1, h2⟩)
    · exact Or.inl (Or.inl h)
    · by_cases e : u = v
      · subst e; exact Or.inr h2
      · exact Or.inl (Or.inr ⟨u, by omega, h2⟩)
  · rintro ((h | ⟨u, h1, h2⟩) | h)
    · exact Or.inl h
    · exact Or.inr ⟨u, by omega, h2⟩
    · exact Or.inr ⟨v, by omega, h⟩
def isB (x : Int) (P : Prop) : Prop := (x = 1 ∧ P) ∨ (x = 0 ∧ ¬ P)
theorem isB_b2i {x : Int} {P : Prop} [Decidable P] (h : isB x P) : x = b2i (decide P) := by
  unfold b2i
  rcases h with ⟨h, p⟩ | ⟨h, p⟩
  · rw [if_pos (decide_eq_true p)]; exact h
  · rw [if_neg (by simpa using p)]; exact h
theorem isB_of {P : Prop} [Decidable P] : isB (b2i (decide P)) P := by
  by_cases p : P
  · exact Or.inl ⟨by simp [b2i, p], p⟩
  · exact Or.inr ⟨by simp [b2i, p], p⟩
theorem isB_1 {x : Int} {P : Prop} (h : isB x P) (c : ¬ wr x = 0) : P := by
  rcases h with ⟨_, p⟩ | ⟨e, _⟩
  · exact p
  · rw [e, wr_0] at c; exact absurd rfl c
theorem isB_0 {x : Int} {P : Prop} (h : isB x P) (c : wr x = 0) : ¬ P := by
  rcases h with ⟨e, _⟩ | ⟨_, p⟩
  · rw [e, wr_1] at c; omega
  · exact p
theorem isB_iff {x : Int} {P R : Prop} (h : isB x P) (e : P ↔ R) : isB x R := by
  unfold isB at *
  rw [← e]
  exact h
theorem lp_ends (hst : K.1.stackTraces = false) {M0 : AM} (hPg : Pg n zn rl rz) (hP : MP M0 n zn rl rz) {s : Nat} (hs : s < 64) (hsub : Sub s (bsy n rl))
    (hQ : ∀ M' : AM, F7 M0 M' → CE2 M' n zn rl rz s → WM K fM_layEnds (EM K fM_layEnds 80 Q) 106 [some (aR 63), some (aI (bsy n rl)), some (aI s), some (aI n), none] [] GG M' 0 0) :
    ∀ (d v : Nat) (M : AM), v + d = n → F7 M0 M → (∀ T, Sub T (bsy n rl) → s < T → M 77 T = b2i (decide (0 < cntP n zn rl rz T))) → (∀ T, T < 64 → T < s → M 77 T = b2i (decide (T = bsy n rl))) → isB (M 77 s) (fl n zn rl rz s v) →
      WM K fM_layEnds (EM K fM_layEnds 80 Q) 13 [some (aR 63), some (aI (bsy n rl)), some (aI s), some (aI v), none] [] GG M 0 0 := by
  have h6 := hPg.1
  have hg := bsy_lt (n := n) (rl := rl) h6
  have hf := okP_fit (n := n) (zn := zn) (rl := rl) (rz := rz)
  intro d
  induction d with
  | zero =>
    intro v M hv hF h1 h2 h3
    have : v = n := by omega
    subst this
    refine BM_layEnds_13 _ _ _ ⟨fun _ => hQ M hF ⟨fun T hT hsT => ?_, h2⟩, fun c => absurd ?_ c⟩
    · by_cases e : T = s
      · subst e
        exact isB_b2i (isB_iff h3 (cntP_ex h6 hsub).symm)
      · exact h1 T hT (by omega)
    · rw [(hP.fs hF.fs).1]; omega
  | succ d ih =>
    intro v M hv hF h1 h2 h3
    have hvn : v < n := by omega
    have hT : s ||| 2 ^ v < 64 := or6 hs (pw6 (by omega))
    -- writing down the new word
    have put : ∀ x : Int, isB x (fl n zn rl rz s (v + 1)) → ∀ y : Int, WM K fM_layEnds (EM K fM_layEnds 80 Q) 99 [some (aR 63), some (aI (bsy n rl)), some (aI s), some (aI v), some (aI y)] [aI x, aI s, aR 77] GG M 0 0 := fun x hx y => by
      refine BM_layEnds_99 _ _ _ _ _ _ ⟨s, wrn (by omega), hs, by rcases hx with h | h <;> omega, ih (v + 1) _ (by omega) hF.u (fun T hT2 hsT => ?_) (fun T hT2 hsT => ?_) ?_⟩
      · rw [um_ne2 (by omega)]; exact h1 T hT2 hsT
      · rw [um_ne2 (by omega)]; exact h2 T hT2 hsT
      · rw [um_self]; exact hx
    have yes : fl n zn rl rz s (v + 1) → ∀ y : Int, WM K fM_layEnds (EM K fM_layEnds 80 Q) 94 [some (aR 63), some (aI (bsy n rl)), some (aI s), some (aI v), some (aI y)] [aI s, aR 77] GG M 0 0 := fun h y => BM_layEnds_94 _ _ _ _ _ (put 1 (Or.inl ⟨rfl, h⟩) y)
    have no : ¬ fl n zn rl rz s (v + 1) → ∀ y : Int, WM K fM_layEnds (EM K fM_layEnds 80 Q) 98 [some (aR 63), some (aI (bsy n rl)), some (aI s), some (aI v), some (aI y)] [aI s, aR 77] GG M 0 0 := fun h y => BM_layEnds_98 _ _ _ _ _ (put 0 (Or.inr ⟨rfl, h⟩) y)
    have at51 : ∀ y : Int, isB y ((bsy n rl).testBit v = true ∧ s.testBit v = false) → WM K fM_layEnds (EM K fM_layEnds 80 Q) 51 [some (aR 63), some (aI (bsy n rl)), some (aI s), some (aI v), none] [aI y] GG M 0 0 := fun y hy => by
      refine BM_layEnds_51 _ _ _ _ ⟨s, wrn (by omega), hs, fun c => ⟨fun c2 => no (fun q => ?_) _, fun c2 => ⟨s ||| 2 ^ v, by rw [wio_p (by omega) (by omega), wrn (by omega)], hT, fun c3 => no (fun q => ?_) _, fun c3 => ?_⟩⟩, fun c => yes (fl_s.mpr (Or.inl (isB_1 h3 c))) _⟩
      · rcases fl_s.mp q with q | q
        · exact isB_0 h3 c q
        · exact isB_0 hy c2 (hf s v q.1)
      · rcases fl_s.mp q with q | q
        · exact isB_0 h3 c q
        · have hy2 := isB_1 hy c2
          rw [h1 _ (hsub.add hy2.1) (or_gt hy2.2)] at c3
          exact isB_0 isB_of c3 q.2
      · have hy2 := isB_1 hy c2
        rw [h1 _ (hsub.add hy2.1) (or_gt hy2.2)] at c3
        have hc := isB_1 isB_of c3
        refine sp_canRun hst hPg (hP.fs hF.fs) hvn hs hsub hy2.1 hy2.2 ⟨rfl, ?_⟩
        dsimp only
        refine ⟨fun c4 => no (fun q => ?_) _, fun c4 => yes (fl_s.mpr (Or.inr ⟨?_, hc⟩)) _⟩
        · rcases fl_s.mp q with q | q
          · exact isB_0 h3 c q
          · rw [q.1] at c4; exact absurd c4 (by show ¬ wr 1 = 0; rw [wr_1]; omega)
        · cases e : okP n zn rl rz s v with
          | false => rw [e] at c4; exact absurd wr_0 c4
          | true => rfl
    refine BM_layEnds_13 _ _ _ ⟨fun c => ?_, fun _ => ⟨fun _ => ⟨fun c2 => ⟨fun c3 => at51 1 (Or.inl ⟨rfl, (wsr_1 hg (by omega)).mp c2, (wsr_0 hs (by omega)).mp c3⟩), fun c3 => BM_layEnds_50 _ _ _ (at51 0 (Or.inr ⟨rfl, fun q => c3 ((wsr_0 hs (by omega)).mpr q.2)⟩))⟩, fun c2 => BM_layEnds_50 _ _ _ (at51 0 (Or.inr ⟨rfl, fun q => c2 ((wsr_1 hg (by omega)).mpr q.1)⟩))⟩, fun c => absurd ?_ c⟩⟩
    · rw [(hP.fs hF.fs).1, wrn (by omega), wrn (by omega)] at c; omega
    · rw [wnot_n (by omega), ndf_0.mpr hsub]; exact wr_0
theorem lp_layEnds (hst : K.1.stackTraces = false) {M0 : AM} (hPg : Pg n zn rl rz) (hP : MP M0 n zn rl rz) (hQ : ∀ M' : AM, F7 M0 M' → CE2 M' n zn rl rz 0 → Q (.inl none) GG M') :
    ∀ (s : Nat) (M : AM), s ≤ 64 → F7 M0 M → CE2 M n zn rl rz s → WM K fM_layEnds (EM K fM_layEnds 80 Q) 7 [some (aR 63), some (aI (bsy n rl)), some (aI ((s : Int) - 1)), none, none] [] GG M 0 0 := by
  have h6 := hPg.1
  have hg := bsy_lt (n := n) (rl := rl) h6
  intro s
  induction s with
  | zero =>
    intro M hs hF hC
    refine BM_layEnds_7 _ _ ⟨fun _ => hQ M hF hC, fun c => absurd ?_ c⟩
    rw [wri (by omega) (by omega)]; omega
  | succ s ih =>
    intro M hs hF hC
    have e : ((s + 1 : Nat) : Int) - 1 = (s : Int) := by omega
    rw [e]
    refine BM_layEnds_7 _ _ ⟨fun c => ?_, fun _ => ?_⟩
    · rw [wrn (by omega)] at c; omega
    · by_cases hsub : Sub s (bsy n rl)
      · refine lp_ends hst hPg hP (by omega) hsub (fun M1 f1 C1 => BM_layEnds_106 _ _ _ ?_) n 0 M (by omega) hF (fun T hT hsT => hC.1 T hT (by omega)) (fun T hT hsT => hC.2 T hT (by omega)) ?_
        · exact ih M1 (by omega) f1 C1
        · rw [hC.2 s (by omega) (by omega)]
          refine isB_iff isB_of ⟨fun h => Or.inl h, fun h => ?_⟩
          rcases h with h | ⟨u, hu, _⟩
          · exact h
          · omega
      · have hout : ∀ x3 : Int, WM K fM_layEnds (EM K fM_layEnds 80 Q) 106 [some (aR 63), some (aI (bsy n rl)), some (aI s), some (aI x3), none] [] GG M 0 0 := fun x3 => by
          refine BM_layEnds_106 _ _ _ (ih M (by omega) hF ⟨fun T hT hsT => ?_, fun T hT hsT => hC.2 T hT (by omega)⟩)
          by_cases e2 : T = s
          · subst e2; exact absurd hT hsub
          · exact hC.1 T hT (by omega)
        refine BM_layEnds_13 _ _ _ ⟨fun _ => hout 0, fun _ => ⟨fun c => ?_, fun _ => hout 0⟩⟩
        rw [wnot_n (by omega)] at c
        have := ndf_lt (a := s) (b := bsy n rl) (by omega)
        rw [wrn this] at c
        exact absurd (ndf_0.mp (by omega)) hsub
theorem sp_layEnds (hst : K.1.stackTraces = false) {M : AM} (hPg : Pg n zn rl rz) (hP : MP M n zn rl rz) (hC : ∀ T, T < 64 → M 77 T = b2i (decide (T = bsy n rl))) (hQ : ∀ M' : AM, F7 M M' → (∀ T, Sub T (bsy n rl) → M' 77 T = b2i (decide (0 < cntP n zn rl rz T))) → Q (.inl none) GG M') : MetA K fM_layEnds [aR 63] GG M Q := by
  have h6 := hPg.1
  have hg := bsy_lt (n := n) (rl := rl) h6
  refine EM_layEnds hst (BM_layEnds_0 (sp_busy hst h6 hP ⟨rfl, ?_⟩))
  have := lp_layEnds (K := K) hst hPg hP (fun M1 f1 C1 => hQ M1 f1 (fun T hT => C1.1 T hT (by omega))) (bsy n rl + 1) M (by omega) (fun _ _ _ => rfl) ⟨fun T hT h => ?_, fun T hT _ => hC T hT⟩
  · have e : ((bsy n rl + 1 : Nat) : Int) - 1 = (bsy n rl : Int) := by omega
    rw [e] at this
    exact this
  · have := sub_le hT
    omega
end MF
