/-! the law's loops -/
/-- what goes on behind act number e -/
def NX (K : KX) (E : CE) (b e B C : Nat) : Prop := ∀ (S : SS) (M : AM) (uc us : Nat), Inv3 S → DB S S M → sln S ≤ (e : Int) + 1 → uc ≤ B → us ≤ C → WM K fL_law E 21 [some (aX b), some (aR 0), some (aR 63), some (aI (snJ S : Nat)), some (aI ((e : Int) + 1)), none, none] [] GG M uc us
theorem le_a3 {u a b c C : Nat} (h : u + c ≤ C) (e : a + b ≤ c) : u + a + b ≤ C := by omega
section LW
variable {K : KX} {E : CE} {b N e B C : Nat} {xs : Nat → Int} {S : SS} {M : AM} {uc us : Nat}
theorem w_114 (hst : K.1.stackTraces = false) (hB : B ≤ 600000) (hC : C ≤ 7000000) (hn : NX K E b e B C) (hI : Inv3 S) (h : DB S S M) (hs : sln S ≤ (e : Int) + 1) (hu : uc + 1060 ≤ B) (hw : us + 6400 ≤ C) {x5 x6 : Int} : WM K fL_law E 114 [some (aX b), some (aR 0), some (aR 63), some (aI (snJ S : Nat)), some (aI e), some (aI x5), some (aI x6)] [] GG M uc us := by
  refine BL_law_114 _ _ _ _ (by omega) (by omega) ⟨by rw [wri (by omega) (by omega)]; omega, fun _ => ?_, fun _ => BL_law_142 _ _ _ _ (by omega) (by omega) (hn S M uc us hI h hs (by omega) (by omega))⟩
  refine l_run hst hI h (fun S' M' i1 i2 i3 d => cI_k ⟨fun c => absurd c (by rw [wr_1]; decide), fun _ => ?_⟩)
  refine l_alike hst i1.1 d (fun M2 d2 => cI_k ⟨fun c => absurd c (by rw [wr_1]; decide), fun _ => ?_⟩)
  refine BL_law_142 _ _ _ _ (by omega) (by omega) ?_
  rw [← i2]
  exact hn S' M2 _ _ i1 d2 (by rw [i3]; exact hs) (by omega) (by omega)
theorem w_97 (hst : K.1.stackTraces = false) (hB : B ≤ 600000) (hC : C ≤ 7000000) (hn : NX K E b e B C) (hI : Inv3 S) (h : DB S S M) (hs : sln S ≤ (e : Int) + 1) (hu : uc + 2060 ≤ B) (hw : us + 12400 ≤ C) {x3 x5 x6 y0 y1 : Int} (hy : y1 + y0 = (snJ S : Int)) : WM K fL_law E 97 [some (aX b), some (aR 0), some (aR 63), some (aI x3), some (aI e), some (aI x5), some (aI x6)] [aI y0, aI y1] GG M uc us := by
  refine BL_law_97 _ _ _ _ _ _ (by omega) (by omega) ⟨by rw [wri (by omega) (by omega)]; omega, fun _ => ?_, fun _ => ?_⟩
  · refine l_vehs hst hI h (fun M1 d1 => cI_k ⟨fun c => absurd c (by rw [wr_1]; decide), fun _ => ?_⟩)
    rw [hy]
    exact w_114 hst hB hC hn hI d1 hs (le_a3 (u := uc) (a := 1000) (b := 1060) (c := 2060) (C := B) hu (Nat.le_of_ble_eq_true rfl)) (le_a3 (u := us) (a := 6000) (b := 6400) (c := 12400) (C := C) hw (Nat.le_of_ble_eq_true rfl))
  · rw [hy]
    exact w_114 hst hB hC hn hI h hs (by omega) (by omega)
theorem w_62 (hst : K.1.stackTraces = false) (hB : B ≤ 600000) (hC : C ≤ 7000000) (hn : NX K E b e B C) (hI : Inv3 S) (h : DB S S M) (hs : sln S ≤ (e : Int) + 1) (hu : uc + 2120 ≤ B) (hw : us + 12800 ≤ C) {n : Nat} {v t : Int} (hj : snJ S = if wr t ≠ wr (-99999) ∧ lw v 20 = 16 then n + 1 else n) : WM K fL_law E 62 [some (aX b), some (aR 0), some (aR 63), some (aI n), some (aI e), some (aI v), some (aI t)] [] GG M uc us := by
  have h20 := lw_bd (p := v) (q := 20) (by omega) (by omega)
  refine BL_law_62 _ _ _ _ (by omega) (by omega) (l_alike hst hI.1 h (fun M1 d1 => cI_k ⟨fun c => absurd c (by rw [wr_1]; decide), fun _ => ?_⟩))
  refine ⟨fun c => ?_, fun c => l_low hst (by omega) (by omega) (cI_k ?_)⟩
  · rw [if_neg (fun q => q.1 c)] at hj
    exact BL_law_96 _ _ _ _ _ (by omega) (by omega) (w_97 hst hB hC hn hI d1 hs (le_a3 (u := uc) (a := 60) (b := 2060) (c := 2120) (C := B) hu (Nat.le_of_ble_eq_true rfl)) (le_a3 (u := us) (a := 400) (b := 12400) (c := 12800) (C := C) hw (Nat.le_of_ble_eq_true rfl)) (by omega))
  · rw [wri (z := lw v 20) (by omega) (by omega), wri (z := 16) (by omega) (by omega)]
    refine ⟨fun c2 => ?_, fun c2 => ?_⟩
    · rw [if_pos ⟨c, c2⟩] at hj
      exact w_97 hst hB hC hn hI d1 hs (le_a3 (u := uc) (a := 60) (b := 2060) (c := 2120) (C := B) hu (Nat.le_of_ble_eq_true rfl)) (le_a3 (u := us) (a := 400) (b := 12400) (c := 12800) (C := C) hw (Nat.le_of_ble_eq_true rfl)) (by omega)
    · rw [if_neg (fun q => c2 q.2)] at hj
      exact BL_law_96 _ _ _ _ _ (by omega) (by omega) (w_97 hst hB hC hn hI d1 hs (le_a3 (u := uc) (a := 60) (b := 2060) (c := 2120) (C := B) hu (Nat.le_of_ble_eq_true rfl)) (le_a3 (u := us) (a := 400) (b := 12400) (c := 12800) (C := C) hw (Nat.le_of_ble_eq_true rfl)) (by omega))
theorem w_21 (hst : K.1.stackTraces = false) (hX : XE E b N xs) (hN : N ≤ 260) (he : e < 90) (hB : B ≤ 600000) (hC : C ≤ 7000000) (hn : NX K E b e B C) (hI : Inv3 S) (h : DB S S M) (hs : sln S ≤ (e : Int)) (hu : uc + 2200 ≤ B) (hw : us + 13200 ≤ C) : WM K fL_law E 21 [some (aX b), some (aR 0), some (aR 63), some (aI (snJ S : Nat)), some (aI e), none, none] [] GG M uc us := by
  refine BL_law_21 hX _ _ (by omega) (by omega) ⟨fun c => ?_, fun _ => ?_⟩
  · rw [wri (by omega) (by omega), wrn (by omega)] at c; omega
  · refine l_cell hst hN (by omega) (cI_k ?_)
    generalize clS N xs e = v
    have g := g_Act hI (by omega) v
    have j := j_Act (S := S) v
    obtain ⟨g1, g2, g3, g4, g5⟩ := g
    have e9 : wr (-99999) = -99999 := wri (by omega) (by omega)
    refine l_act hst hI.1 h.1 (fun M1 r1 f1 => cI_k ?_)
    have d1 : DB (aAct S v).2 S M1 := h.o r1 f1
    by_cases c : (aAct S v).1.1 = 0
    · obtain ⟨k1, k2⟩ := g3 c
      rw [tld_0 c, e9]
      have et : wr (aAct S v).1.2 = (aAct S v).1.2 := wri (by omega) (by omega)
      refine ⟨fun q => by rw [et] at q; omega, fun _ => ?_⟩
      refine sw_cI [v] rfl (l_act (M := sw M1) hst hI.1 d1.2 (fun M2 r2 f2 => cI_k ?_))
      have d2 : DB (aAct S v).2 (aAct S v).2 (sw M2) := d1.p r2 f2
      rw [tld_0 c]
      refine ⟨fun _ => ?_, fun q => absurd rfl q⟩
      refine w_62 hst hB hC hn g1 d2 (by omega) (le_a3 (u := uc) (a := 54) (b := 2120) (c := 2200) (C := B) hu (Nat.le_of_ble_eq_true rfl)) (le_a3 (u := us) (a := 324) (b := 12800) (c := 13200) (C := C) hw (Nat.le_of_ble_eq_true rfl)) ?_
      rw [j, et, e9]
      by_cases c2 : lw v 20 = 16
      · rw [if_pos ⟨c, c2⟩, if_pos ⟨by omega, c2⟩]
      · rw [if_neg (fun q => c2 q.2), if_neg (fun q => c2 q.2)]
    · have es := g2 c
      rw [tld_n c, e9]
      refine ⟨fun _ => ?_, fun q => absurd rfl q⟩
      rw [es] at d1
      refine w_62 hst hB hC hn hI d1 (by omega) (le_a3 (u := uc) (a := 27) (b := 2120) (c := 2200) (C := B) hu (Nat.le_of_ble_eq_true rfl)) (le_a3 (u := us) (a := 162) (b := 12800) (c := 13200) (C := C) hw (Nat.le_of_ble_eq_true rfl)) ?_
      rw [if_neg (fun q => q.1 rfl)]
theorem lp_jobs (hst : K.1.stackTraces = false) (hI : Inv3 S) (hend : ∀ (L : List (Option AV)) (M : AM) (uc us : Nat), uc ≤ 619158 → us ≤ 7243709 → WM K fL_law E 262 L [aI 1] GG M uc us) : ∀ (d j : Nat) (M : AM) (uc us : Nat), j + d = snJ S → uc + 6 * d + 10 ≤ 619158 → us + 36 * d + 100 ≤ 7243709 → DB S S M →
    WM K fL_law E 151 [some (aX b), some (aR 0), some (aR 63), some (aI (snJ S : Nat)), some (aI j), none, none] [] GG M uc us := by
  have hJ := hI.1.2.2.1
  intro d
  induction d with
  | zero =>
    intro j M uc us hj hu hw h
    refine BL_law_151 _ _ (by omega) (by omega) ⟨fun _ => hend _ M uc us (by omega) (by omega), fun c => absurd ?_ c⟩
    rw [wrn (by omega), wrn (by omega)]; omega
  | succ d ih =>
    intro j M uc us hj hu hw h
    have hj2 : j < snJ S := by omega
    have hs := hI.1.2.2.2.2.2.2.2.2.2.1 j
    obtain ⟨q1, q2, q3⟩ := hI.2.2.2.1 j hj2
    have hr := regS_bd (S := S) (j := j)
    refine BL_law_151 _ _ (by omega) (by omega) ⟨fun c => ?_, fun _ => ?_⟩
    · rw [wrn (by omega), wrn (by omega)] at c; omega
    · refine o_jobState hst hI.1 h hj2 (fun M1 d1 => p_jobState hst hI.1 d1 hj2 (fun M2 d2 => ⟨fun _ => ?_, fun c => absurd rfl c⟩))
      refine o_jobVehicle hst hI.1 d2 hj2 (fun M3 d3 => ?_)
      have h246 : ∀ (M9 : AM) (uc9 us9 : Nat), uc9 ≤ uc + 6 → us9 ≤ us + 36 → DB S S M9 → WM K fL_law E 246 [some (aX b), some (aR 0), some (aR 63), some (aI (snJ S : Nat)), some (aI j), some (aI (sjs S j)), none] [aI 1] GG M9 uc9 us9 := fun M9 uc9 us9 g1 g2 g3 =>
        BL_law_246 _ _ _ _ (by omega) (by omega) ⟨fun c => absurd c (by rw [wr_1]; decide), fun _ => ih (j + 1) M9 uc9 us9 (by omega) (by omega) (by omega) g3⟩
      have h219 : ∀ (M9 : AM) (uc9 us9 : Nat), uc9 ≤ uc + 4 → us9 ≤ us + 24 → DB S S M9 → WM K fL_law E 219 [some (aX b), some (aR 0), some (aR 63), some (aI (snJ S : Nat)), some (aI j), some (aI (sjs S j)), none] [] GG M9 uc9 us9 := fun M9 uc9 us9 g1 g2 g3 => by
        refine BL_law_219 _ _ _ (by omega) (by omega) (o_regret hst hI.1 g3 hj2 (fun M10 d10 => ?_))
        rw [wri (z := regS S j) (by omega) (by omega), wr_m1]
        refine ⟨fun c => by omega, fun _ => o_regret hst hI.1 d10 hj2 (fun M11 d11 => ?_)⟩
        rw [wri (z := regS S j) (by omega) (by omega), wri (z := 1000) (by omega) (by omega)]
        exact ⟨fun c => by omega, fun _ => h246 M11 _ _ (by omega) (by omega) d11⟩
      have h201 : ∀ (y : Int), WM K fL_law E 201 [some (aX b), some (aR 0), some (aR 63), some (aI (snJ S : Nat)), some (aI j), some (aI (sjs S j)), none] [aI y, aI y] GG M3 (uc + 3) (us + 18) := fun y => by
        refine BL_law_201 _ _ _ _ _ (by omega) (by omega) ⟨fun _ => ?_, fun c => absurd rfl c⟩
        refine o_regret hst hI.1 d3 hj2 (fun M4 d4 => ⟨fun _ => h219 M4 _ _ (by omega) (by omega) d4, fun c => ⟨fun _ => h219 M4 _ _ (by omega) (by omega) d4, fun c2 => ?_⟩⟩)
        exfalso
        rw [wri (z := sjs S j) (by omega) (by omega)] at c2
        refine c ?_
        unfold regS
        rw [if_pos c2]
      rw [wri (z := sjv S j) (by omega) (by omega), wr_m1]
      refine ⟨fun c => BL_law_191 _ _ _ _ (by omega) (by omega) ?_, fun c => BL_law_191 _ _ _ _ (by omega) (by omega) ?_⟩
      · rw [wri (z := sjs S j) (by omega) (by omega)]
        exact ⟨fun _ => h201 1, fun c2 => absurd (q1.mp c) c2⟩
      · rw [wri (z := sjs S j) (by omega) (by omega)]
        exact ⟨fun c2 => absurd (q1.mpr c2) c, fun _ => h201 0⟩
theorem lp_law (hst : K.1.stackTraces = false) (hX : XE E b N xs) (hN : N ≤ 260) (hend : ∀ (L : List (Option AV)) (M : AM) (uc us : Nat), uc ≤ 619158 → us ≤ 7243709 → WM K fL_law E 262 L [aI 1] GG M uc us) : ∀ (d e : Nat) (S : SS) (M : AM) (uc us : Nat), e + d = 90 → Inv3 S → DB S S M → sln S ≤ (e : Int) → uc ≤ 1000 + 2200 * e → us ≤ 20000 + 13200 * e →
    WM K fL_law E 21 [some (aX b), some (aR 0), some (aR 63), some (aI (snJ S : Nat)), some (aI e), none, none] [] GG M uc us := by
  intro d
  induction d with
  | zero =>
    intro e S M uc us he hI h hs hu hw
    have hJ := hI.1.2.2.1
    have he9 : e = 90 := by omega
    subst he9
    refine BL_law_21 hX _ _ (by omega) (by omega) ⟨fun _ => ?_, fun c => absurd (Int.le_refl _) c⟩
    exact lp_jobs hst hI hend (snJ S) 0 M uc us (by omega) (by omega) (by omega) h
  | succ d ih =>
    intro e S M uc us he hI h hs hu hw
    refine w_21 (B := 1000 + 2200 * (e + 1)) (C := 20000 + 13200 * (e + 1)) hst hX hN (by omega) (by omega) (by omega) (fun S' M' uc' us' i1 i2 i3 i4 i5 => ?_) hI h hs (by omega) (by omega)
    exact ih (e + 1) S' M' uc' us' (by omega) i1 i2 (by omega) i4 i5
end LW
