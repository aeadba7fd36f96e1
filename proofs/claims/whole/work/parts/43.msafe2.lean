/-! the reference: isSafe -/
section MS
variable {K : KX} {n : Nat} {zn rl : Nat → Nat} {rz : Nat → Nat → Nat} {Q : Res → AG → AM → Prop}
theorem okP_of {S v : Nat} (h : okP n zn rl rz S v = true) : v < n := by
  unfold okP at h
  simp at h
  exact h.1.1.1
/-- ways and canEnd of the reference -/
def WC (M : AM) (w : Nat → Nat) (g : Nat) : Prop := (∀ T, T < 64 → M 76 T = (w T : Int)) ∧ ∀ T, T < 64 → M 77 T = b2i (decide (T = g))
theorem lp_sets {M0 : AM} {g : Nat} (hg : g < 64) (hQ : ∀ M' : AM, FS M0 M' → WC M' (fun T => if T = 0 then 1 else 0) g → WM K fM_isSafe (EM K fM_isSafe 80 Q) 52 [some (aR 63), some (aI g), some (aI 0), none, none] [] GG M' 0 0) :
    ∀ (d s : Nat) (M : AM), s + d = 64 → FS M0 M → (∀ T, T < s → M 76 T = ((if T = 0 then 1 else 0 : Nat) : Int)) → (∀ T, T < s → M 77 T = b2i (decide (T = g))) → WM K fM_isSafe (EM K fM_isSafe 80 Q) 7 [some (aR 63), some (aI g), some (aI s), none, none] [] GG M 0 0 := by
  intro d
  induction d with
  | zero =>
    intro s M hs hF h1 h2
    have : s = 64 := by omega
    subst this
    refine BM_isSafe_7 _ _ ⟨fun _ => hQ M hF ⟨h1, h2⟩, fun c => absurd ?_ c⟩
    rw [wr_64, wrn (by omega)]; omega
  | succ d ih =>
    intro s M hs hF h1 h2
    have key : ∀ y : Int, y = ((if s = 0 then 1 else 0 : Nat) : Int) → WM K fM_isSafe (EM K fM_isSafe 80 Q) 27 [some (aR 63), some (aI g), some (aI s), none, none] [aI y, aI s, aR 76] GG M 0 0 := by
      intro y hy
      have hnx : ∀ y2 : Int, y2 = b2i (decide (s = g)) → WM K fM_isSafe (EM K fM_isSafe 80 Q) 7 [some (aR 63), some (aI g), some (aI (s + 1 : Nat)), none, none] [] GG (um (um M 76 s y) 77 s y2) 0 0 := fun y2 hy2 => by
        refine ih (s + 1) _ (by omega) hF.u6.u7 (fun T hT => ?_) (fun T hT => ?_)
        · by_cases e : T = s
          · subst e; rw [um_ne (by omega), um_self, hy]
          · rw [um_ne (by omega), um_ne2 e]; exact h1 T (by omega)
        · by_cases e : T = s
          · subst e; rw [um_self, hy2]
          · rw [um_ne2 e, um_ne (by omega)]; exact h2 T (by omega)
      refine BM_isSafe_27 _ _ _ _ ⟨s, wrn (by omega), by omega, ?_⟩
      rw [wrn (by omega), wrn (by omega)]
      refine ⟨fun c => BM_isSafe_43 _ _ _ _ ⟨s, wrn (by omega), by omega, Or.inr rfl, hnx 1 ?_⟩, fun c => BM_isSafe_43 _ _ _ _ ⟨s, wrn (by omega), by omega, Or.inl rfl, hnx 0 ?_⟩⟩
      · rw [decide_eq_true (show s = g by omega)]; rfl
      · rw [decide_eq_false (show ¬ s = g by omega)]; rfl
    refine BM_isSafe_7 _ _ ⟨fun c => ?_, fun _ => ⟨fun c => key 1 ?_, fun c => key 0 ?_⟩⟩
    · rw [wr_64, wrn (by omega)] at c; omega
    · rw [wrn (by omega)] at c
      rw [if_pos (by omega)]; rfl
    · rw [wrn (by omega)] at c
      rw [if_neg (by omega)]; rfl
theorem WC.add {M : AM} {w : Nat → Nat} {g T x : Nat} (h : WC M w g) (hT : T < 64) : WC (um M 76 T ((w T : Int) + (x : Int))) (adw w T x) g := ⟨fun U hU => by
  unfold adw
  by_cases e : U = T
  · subst e; rw [um_self, upN_s]; rfl
  · rw [um_ne2 e, upN_n e]; exact h.1 U hU, fun U hU => by rw [um_ne (by omega)]; exact h.2 U hU⟩
theorem lp_run (hst : K.1.stackTraces = false) {M0 : AM} (hPg : Pg n zn rl rz) (hP : MP M0 n zn rl rz) {C s : Nat} (hs : s < 64)
    (hQ : ∀ (M' : AM) (w : Nat → Nat), FS M0 M' → WC M' w (bsy n rl) → WO (okP n zn rl rz) (bsy n rl) C w (s + 1) → WM K fM_isSafe (EM K fM_isSafe 80 Q) 52 [some (aR 63), some (aI (bsy n rl)), some (aI (s + 1 : Nat)), none, none] [] GG M' 0 0) :
    ∀ (d v : Nat) (M : AM) (w : Nat → Nat), v + d = n → FS M0 M → WC M w (bsy n rl) → WI (okP n zn rl rz) (bsy n rl) C w s v → WM K fM_isSafe (EM K fM_isSafe 80 Q) 60 [some (aR 63), some (aI (bsy n rl)), some (aI s), some (aI v), none] [] GG M 0 0 := by
  have h6 := hPg.1
  have hg := bsy_lt (n := n) (rl := rl) h6
  have hf := okP_fit (n := n) (zn := zn) (rl := rl) (rz := rz)
  intro d
  induction d with
  | zero =>
    intro v M w hv hF hW hI
    have : v = n := by omega
    subst this
    refine BM_isSafe_60 _ _ _ ⟨fun _ => BM_isSafe_140 _ _ _ (hQ M w hF hW (hI.leave (Or.inr fun u hu _ => ?_))), fun c => absurd ?_ c⟩
    · cases e : okP v zn rl rz s u with
      | false => rfl
      | true => have := okP_of e; omega
    · rw [(hP.fs hF).1]; omega
  | succ d ih =>
    intro v M w hv hF hW hI
    have hvn : v < n := by omega
    have hw := hI.1 s hs
    have skip : okP n zn rl rz s v = false → WM K fM_isSafe (EM K fM_isSafe 80 Q) 60 [some (aR 63), some (aI (bsy n rl)), some (aI s), some (aI (v + 1 : Nat)), none] [] GG M 0 0 := fun h0 => ih (v + 1) M w (by omega) hF hW (hI.skip (by omega) h0)
    have no : okP n zn rl rz s v = false → ∀ y : Int, y = 0 → WM K fM_isSafe (EM K fM_isSafe 80 Q) 99 [some (aR 63), some (aI (bsy n rl)), some (aI s), some (aI v), none] [aI y] GG M 0 0 := fun h0 y hy => by
      refine BM_isSafe_99 _ _ _ _ ⟨fun _ => BM_isSafe_134 _ _ _ _ (skip h0), fun c => ?_⟩
      rw [hy, wr_0] at c
      exact absurd rfl c
    refine BM_isSafe_60 _ _ _ ⟨fun c => ?_, fun _ => ⟨s, wrn (by omega), hs, fun c => ?_, fun c => ⟨fun c2 => ⟨fun c3 => ?_, fun c3 => ?_⟩, fun c2 => ?_⟩⟩⟩
    · rw [(hP.fs hF).1, wrn (by omega), wrn (by omega)] at c; omega
    · rw [hW.1 s hs, wrn (by omega)] at c
      exact BM_isSafe_140 _ _ _ (hQ M w hF hW (hI.leave (Or.inl (by omega))))
    · rw [hW.1 s hs, wrn (by omega)] at c
      have b1 := (wsr_1 hg (by omega)).mp c2
      have b2 := (wsr_0 hs (by omega)).mp c3
      have hT : s ||| 2 ^ v < 64 := or6 hs (pw6 (by omega))
      refine BM_isSafe_99 _ _ _ _ ⟨fun q => absurd q (by rw [wr_1]; omega), fun _ => ?_⟩
      refine sp_canRun hst hPg (hP.fs hF) hvn hs (hI.2.1 s hs (by omega)) b1 b2 ⟨rfl, ?_⟩
      dsimp only
      refine ⟨fun c4 => BM_isSafe_134 _ _ _ _ (skip ?_), fun c4 => ?_⟩
      · cases e : okP n zn rl rz s v with
        | false => rfl
        | true => rw [e] at c4; exact absurd c4 (by show ¬ wr 1 = 0; rw [wr_1]; omega)
      · have h0 : okP n zn rl rz s v = true := by
          cases e : okP n zn rl rz s v with
          | false => rw [e] at c4; exact absurd wr_0 c4
          | true => rfl
        have hj : wr (wio (s : Int) (wsl 1 (v : Int))) = ((s ||| 2 ^ v : Nat) : Int) := by rw [wio_p (by omega) (by omega), wrn (by omega)]
        refine ⟨s ||| 2 ^ v, hj, hT, s, wrn (by omega), hs, s ||| 2 ^ v, hj, hT, BM_isSafe_134 _ _ _ _ ?_⟩
        rw [hW.1 s hs, hW.1 _ hT]
        exact ih (v + 1) _ _ (by omega) hF.u6 (hW.add hT) (hI.add hg hf hs (by omega) h0 (by omega))
    · refine BM_isSafe_98 _ _ _ (no ?_ 0 rfl)
      have b2 := fun q => c3 ((wsr_0 hs (by omega)).mpr q)
      cases e : okP n zn rl rz s v with
      | false => rfl
      | true => exact absurd (hf s v e).2 b2
    · refine BM_isSafe_98 _ _ _ (no ?_ 0 rfl)
      have b1 := fun q => c2 ((wsr_1 hg (by omega)).mpr q)
      cases e : okP n zn rl rz s v with
      | false => rfl
      | true => exact absurd (hf s v e).1 b1
theorem lp_sets2 (hst : K.1.stackTraces = false) {M0 : AM} (hPg : Pg n zn rl rz) (hP : MP M0 n zn rl rz) (hQ : ∀ M' : AM, FS M0 M' → M' 76 (bsy n rl) = (cntP n zn rl rz 0 : Int) → (∀ T, T < 64 → M' 77 T = b2i (decide (T = bsy n rl))) → Q (.inl (some (aI (b2i (decide (0 < cntP n zn rl rz 0)))))) GG M') :
    ∀ (d s : Nat) (M : AM) (w : Nat → Nat), s + d = 64 → FS M0 M → WC M w (bsy n rl) → WO (okP n zn rl rz) (bsy n rl) (cntP n zn rl rz 0) w s → WM K fM_isSafe (EM K fM_isSafe 80 Q) 52 [some (aR 63), some (aI (bsy n rl)), some (aI s), none, none] [] GG M 0 0 := by
  have h6 := hPg.1
  have hg := bsy_lt (n := n) (rl := rl) h6
  have hf := okP_fit (n := n) (zn := zn) (rl := rl) (rz := rz)
  have bd : cntP n zn rl rz 0 ≤ 46656 := cnt_bd
  intro d
  induction d with
  | zero =>
    intro s M w hs hF hW hI
    have : s = 64 := by omega
    subst this
    have hwg := hI.done hg
    have hm : M 76 (bsy n rl) = (cntP n zn rl rz 0 : Int) := by rw [hW.1 _ hg, hwg]
    have hq := hQ M hF hm hW.2
    unfold b2i at hq
    refine BM_isSafe_52 _ _ ⟨fun _ => ⟨bsy n rl, wrn (by omega), hg, fun c => ?_, fun c => ?_⟩, fun c => absurd ?_ c⟩
    · rw [hm, wrn (by omega)] at c
      rw [if_neg (by simp; omega)] at hq
      exact BM_isSafe_160 _ _ _ ⟨Or.inl rfl, hq⟩
    · rw [hm, wrn (by omega)] at c
      rw [if_pos (by simp; omega)] at hq
      exact BM_isSafe_160 _ _ _ ⟨Or.inr rfl, hq⟩
    · rw [wr_64, wrn (by omega)]; omega
  | succ d ih =>
    intro s M w hs hF hW hI
    refine BM_isSafe_52 _ _ ⟨fun c => ?_, fun _ => ?_⟩
    · rw [wr_64, wrn (by omega)] at c; omega
    · exact lp_run hst hPg hP (by omega) (fun M1 w1 f1 W1 I1 => ih (s + 1) M1 w1 (by omega) f1 W1 I1) n 0 M w (by omega) hF hW (hI.enter hg hf (by omega))
theorem sp_msafe (hst : K.1.stackTraces = false) {M : AM} (hPg : Pg n zn rl rz) (hP : MP M n zn rl rz) (hQ : ∀ M' : AM, FS M M' → M' 76 (bsy n rl) = (cntP n zn rl rz 0 : Int) → (∀ T, T < 64 → M' 77 T = b2i (decide (T = bsy n rl))) → Q (.inl (some (aI (b2i (decide (0 < cntP n zn rl rz 0)))))) GG M') : MetA K fM_isSafe [aR 63] GG M Q := by
  have h6 := hPg.1
  have hg := bsy_lt (n := n) (rl := rl) h6
  exact EM_isSafe hst (BM_isSafe_0 (sp_busy hst h6 hP ⟨rfl, lp_sets hg (fun M1 f1 W1 => lp_sets2 hst hPg hP hQ 64 0 M1 _ (by omega) f1 W1 (WO.start hg)) 64 0 M (by omega) FS.rf (fun T hT => by omega) (fun T hT => by omega)⟩))
end MS
