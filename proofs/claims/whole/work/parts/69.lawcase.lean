/-! the law's cases (printed by gen69.py) -/
theorem s_wid {K : KX} {F : Fn} {E : CE} {pc : Nat} {L : List (Option AV)} {st : List AV} {G : AG} {M : AM} {uc us uc' us' : Nat} (h : uc ≤ uc') (h2 : us ≤ us') (k : WM K F E pc L st G M uc' us') : WM K F E pc L st G M uc us := by
  intro _ p e R s m args below meth c A n0 ad0 al Qe hE C ad H locs ls g1 g2 hP hD hS h3
  exact W.widen h h2 (k () hE C ad H locs ls g1 g2 hP hD hS h3)
theorem wcmp_s {x : Int} : wr (wcmp x x) = 0 := by
  have : wcmp x x = 0 := by unfold wcmp lg_cmp; simp
  rw [this]; exact wr_0
theorem hl_thr : hwd fM_thrown ∈ gw := hwd_c rfl g_642
section LC
variable {K : KX} {E : CE} {S : SS} {M : AM} {b N i uc us : Nat} {xs : Nat → Int}
/-- what goes on behind a case -/
def LK (K : KX) (E : CE) (b i uc us : Nat) : Prop := ∀ (S' : SS) (M' : AM), Inv S' → RX S' M' → RM S' M' → WM K fL_law E 1465 [some (aX b), some (aR 0), some (aR 63), some (aR 79), some (aI i), none, none] [] GG M' (uc + 6) (us + 40)
set_option maxRecDepth 20000 in
theorem w_addLane (hst : K.1.stackTraces = false) (hX : XE E b N xs) (hr : ∀ j, R32 (xs j)) (hi : i + 3 ≤ N) (hN : N ≤ 1536) (hI : Inv S) (hRX : RX S M) (hRM : RM S M) (hu : uc + 6 ≤ 601024 ∧ us + 40 ≤ 7293034) (k : LK K E b i uc us) : WM K fL_law E 148 [some (aX b), some (aR 0), some (aR 63), some (aR 79), some (aI i), none, none] [] GG M uc us := by
  refine s_aload_n (i := 1) (by decide +kernel) rfl ?_
  refine s_aloadX_n (i := 0) (by decide +kernel) rfl ?_
  refine s_iload (i := 4) (by decide +kernel) rfl ?_
  refine s_iconst (n := 1) (by decide +kernel) ?_
  refine s_iadd (by decide +kernel) ?_
  refine s_sld (j := i + 1) hX (wrn (n := i + 1) (by omega)) (by omega) (by decide +kernel) ?_
  refine s_aloadX_n (i := 0) (by decide +kernel) rfl ?_
  refine s_iload (i := 4) (by decide +kernel) rfl ?_
  refine s_iconst (n := 2) (by decide +kernel) ?_
  refine s_iadd (by decide +kernel) ?_
  refine s_sld (j := i + 2) hX (wrn (n := i + 2) (by omega)) (by omega) (by decide +kernel) ?_
  refine s_aload_n (i := 3) (by decide +kernel) rfl ?_
  refine s_callSH (Fc := fL_addLane) (index := 86) (as := [aR 0, aI (xs (i + 1)), aI (xs (i + 2)), aR 79]) (rest := []) rfl (l_addLane hst hI hRX (hr _) (hr _) (Q := fun r G M1 => r = .inl (some (aI (aLane S (xs (i + 1)) (xs (i + 2))).1.1)) ∧ G = GG ∧ RX (aLane S (xs (i + 1)) (xs (i + 2))).2 M1 ∧ FW M M1 ∧ ((aLane S (xs (i + 1)) (xs (i + 2))).1.1 = 0 → M1 79 0 = wr (aLane S (xs (i + 1)) (xs (i + 2))).1.2)) (fun M1 r1 f1 o1 => ⟨rfl, rfl, r1, f1, o1⟩)) ⟨g_239, hwd_h (by decide) g_241, g_0, by decide, (show (parseMethodDescriptor fL_addLane.1.desc).map (fun d => d.parameters.length) = some 4 from by decide +kernel), by decide, by decide, ?_, ?_⟩ g_240 (by decide) rfl (Nat.le_of_ble_eq_true rfl) (by decide +kernel) (fun r G M1 h => ?_)
  · show uc + fL_addLane.2.2.2.2.1.cells ≤ 601024; have : fL_addLane.2.2.2.2.1.cells ≤ 5 := by decide
    omega
  · show us + fL_addLane.2.2.2.2.1.slots ≤ 7293034; have : fL_addLane.2.2.2.2.1.slots ≤ 30 := by decide
    omega
  obtain ⟨rfl, rfl, rx, fw, ow⟩ := h
  show WM K fL_law E 165 [some (aX b), some (aR 0), some (aR 63), some (aR 79), some (aI i), none, none] [aI (aLane S (xs (i + 1)) (xs (i + 2))).1.1] GG M1 _ _
  refine s_istore (i := 5) (by decide +kernel) (by decide) ?_
  show WM K fL_law E _ [some (aX b), some (aR 0), some (aR 63), some (aR 79), some (aI i), some (aI (aLane S (xs (i + 1)) (xs (i + 2))).1.1), none] [] GG M1 _ _
  refine s_aload_n (i := 2) (by decide +kernel) rfl ?_
  refine s_aloadX_n (i := 0) (by decide +kernel) rfl ?_
  refine s_iload (i := 4) (by decide +kernel) rfl ?_
  refine s_iconst (n := 1) (by decide +kernel) ?_
  refine s_iadd (by decide +kernel) ?_
  refine s_sld (j := i + 1) hX (wrn (n := i + 1) (by omega)) (by omega) (by decide +kernel) ?_
  refine s_aloadX_n (i := 0) (by decide +kernel) rfl ?_
  refine s_iload (i := 4) (by decide +kernel) rfl ?_
  refine s_iconst (n := 2) (by decide +kernel) ?_
  refine s_iadd (by decide +kernel) ?_
  refine s_sld (j := i + 2) hX (wrn (n := i + 2) (by omega)) (by omega) (by decide +kernel) ?_
  refine s_callV (Fc := fM_addLane) (index := 91) (ci := 5) (as := [aI (xs (i + 1)), aI (xs (i + 2))]) (rest := []) rfl (m_addLane hst hI (hRM.fx fw) (hr _) (hr _) (Q := fun r G M2 => r = .inl (some (aI (vl (aLane S (xs (i + 1)) (xs (i + 2))).1))) ∧ G = GG ∧ RM (aLane S (xs (i + 1)) (xs (i + 2))).2 M2 ∧ FQ M1 M2 ∧ M2 63 0 = ((aLane S (xs (i + 1)) (xs (i + 2))).1.1 : Int)) (fun M2 r2 f2 c2 => ⟨rfl, rfl, r2, f2, c2⟩)) rfl rfl (by decide) rfl ⟨g_643, hwd_c rfl g_646, g_6, by decide, (show (parseMethodDescriptor fM_addLane.1.desc).map (fun d => d.parameters.length) = some 2 from by decide +kernel), by decide, by decide, ?_, ?_⟩ g_644 g_645 rfl rfl (Nat.le_of_ble_eq_true rfl) (by decide +kernel) (fun r G M2 h => ?_)
  · show uc + fL_addLane.2.2.2.2.1.cells + fM_addLane.2.2.2.2.1.cells ≤ 601024; have : fL_addLane.2.2.2.2.1.cells ≤ 5 := by decide
    have : fM_addLane.2.2.2.2.1.cells = 0 := rfl
    omega
  · show us + fL_addLane.2.2.2.2.1.slots + fM_addLane.2.2.2.2.1.slots ≤ 7293034; have : fL_addLane.2.2.2.2.1.slots ≤ 30 := by decide
    have : fM_addLane.2.2.2.2.1.slots = 0 := rfl
    omega
  obtain ⟨rfl, rfl, rm, fq, ct⟩ := h
  show WM K fL_law E 183 [some (aX b), some (aR 0), some (aR 63), some (aR 79), some (aI i), some (aI (aLane S (xs (i + 1)) (xs (i + 2))).1.1), none] [aI (vl (aLane S (xs (i + 1)) (xs (i + 2))).1)] GG M2 _ _
  refine s_istore (i := 6) (by decide +kernel) (by decide) ?_
  show WM K fL_law E _ [some (aX b), some (aR 0), some (aR 63), some (aR 79), some (aI i), some (aI (aLane S (xs (i + 1)) (xs (i + 2))).1.1), some (aI (vl (aLane S (xs (i + 1)) (xs (i + 2))).1))] [] GG M2 _ _
  refine s_aload_n (i := 2) (by decide +kernel) rfl ?_
  refine s_callV (Fc := fM_thrown) (index := 92) (ci := 5) (as := []) (rest := []) rfl (EM_thrown hst (BM_thrown_0 (Q := fun r G M3 => r = .inl (some (aI (M2 63 0))) ∧ G = GG ∧ M3 = M2) ⟨rfl, rfl, rfl⟩)) rfl rfl (by decide) rfl ⟨g_639, hl_thr, g_6, by decide, (show (parseMethodDescriptor fM_thrown.1.desc).map (fun d => d.parameters.length) = some 0 from by decide +kernel), by decide, by decide, ?_, ?_⟩ g_640 g_641 rfl rfl (Nat.le_of_ble_eq_true rfl) (by decide +kernel) (fun r G M3 h => ?_)
  · show uc + fL_addLane.2.2.2.2.1.cells + fM_addLane.2.2.2.2.1.cells + 0 ≤ 601024; have : fL_addLane.2.2.2.2.1.cells ≤ 5 := by decide
    have : fM_addLane.2.2.2.2.1.cells = 0 := rfl
    omega
  · show us + fL_addLane.2.2.2.2.1.slots + fM_addLane.2.2.2.2.1.slots + 0 ≤ 7293034; have : fL_addLane.2.2.2.2.1.slots ≤ 30 := by decide
    have : fM_addLane.2.2.2.2.1.slots = 0 := rfl
    omega
  obtain ⟨rfl, rfl, rfl⟩ := h
  show WM K fL_law E 189 [some (aX b), some (aR 0), some (aR 63), some (aR 79), some (aI i), some (aI (aLane S (xs (i + 1)) (xs (i + 2))).1.1), some (aI (vl (aLane S (xs (i + 1)) (xs (i + 2))).1))] [aI (M3 63 0)] GG M3 _ _
  refine s_iload (i := 5) (by decide +kernel) rfl ?_
  have hk := k_addLane (S := S) (p := xs (i + 1)) (q := xs (i + 2))
  refine s_icmp_eq (off := 5) (tgt := 196) (by decide +kernel) (by decide) (fun c => ?_) (fun c => absurd (by rw [ct]) c)
  have done : WM K fL_law E 213 [some (aX b), some (aR 0), some (aR 63), some (aR 79), some (aI i), some (aI (aLane S (xs (i + 1)) (xs (i + 2))).1.1), some (aI (vl (aLane S (xs (i + 1)) (xs (i + 2))).1))] [] GG M3 (uc + fL_addLane.2.2.2.2.1.cells + fM_addLane.2.2.2.2.1.cells + 0) (us + fL_addLane.2.2.2.2.1.slots + fM_addLane.2.2.2.2.1.slots + 0) := by
    refine s_goto (off := 1252) (tgt := 1465) (by decide +kernel) (by decide) ?_
    refine s_loc (L' := [some (aX b), some (aR 0), some (aR 63), some (aR 79), some (aI i), none, none]) (ll_s (ll_s (ll_s (ll_s (ll_s (ll_n (ll_n ll_nil))))))) ?_
    have e1 : fL_addLane.2.2.2.2.1.cells ≤ 5 := by decide
    have e2 : fM_addLane.2.2.2.2.1.cells = 0 := rfl
    have e3 : fL_addLane.2.2.2.2.1.slots ≤ 30 := by decide
    have e4 : fM_addLane.2.2.2.2.1.slots = 0 := rfl
    exact s_wid (by omega) (by omega) (k (aLane S (xs (i + 1)) (xs (i + 2))).2 M3 (i_aLane hI _ _) (rx.fq fq) rm)
  refine s_iload (i := 5) (by decide +kernel) rfl ?_
  refine s_if_ne (off := 15) (tgt := 213) (by decide +kernel) (by decide) (fun _ => done) (fun c2 => ?_)
  rw [wrn (by omega)] at c2
  have h0 : (aLane S (xs (i + 1)) (xs (i + 2))).1.1 = 0 := by omega
  refine s_aload_n (i := 3) (by decide +kernel) rfl ?_
  refine s_iconst (n := 0) (by decide +kernel) ?_
  refine s_lald (j := 0) (n := 1) (rs := []) rfl wr_0 (by omega) (by decide +kernel) ?_
  refine s_iload (i := 6) (by decide +kernel) rfl ?_
  refine s_i2l (by decide +kernel) ?_
  refine s_lcmp (by decide +kernel) ?_
  have e7 : M3 79 0 = wr (vl (aLane S (xs (i + 1)) (xs (i + 2))).1) := by rw [fq 79 0 (by omega), ow h0]; unfold vl; rw [if_pos h0]
  rw [e7]
  exact s_if_eq (off := 5) (tgt := 213) (by decide +kernel) (by decide) (fun _ => done) (fun c3 => absurd wcmp_s c3)
set_option maxRecDepth 20000 in
theorem w_distance (hst : K.1.stackTraces = false) (hX : XE E b N xs) (hr : ∀ j, R32 (xs j)) (hi : i + 3 ≤ N) (hN : N ≤ 1536) (hI : Inv S) (hRX : RX S M) (hRM : RM S M) (hu : uc + 6 ≤ 601024 ∧ us + 40 ≤ 7293034) (k : LK K E b i uc us) : WM K fL_law E 307 [some (aX b), some (aR 0), some (aR 63), some (aR 79), some (aI i), none, none] [] GG M uc us := by
  refine s_aload_n (i := 1) (by decide +kernel) rfl ?_
  refine s_aloadX_n (i := 0) (by decide +kernel) rfl ?_
  refine s_iload (i := 4) (by decide +kernel) rfl ?_
  refine s_iconst (n := 1) (by decide +kernel) ?_
  refine s_iadd (by decide +kernel) ?_
  refine s_sld (j := i + 1) hX (wrn (n := i + 1) (by omega)) (by omega) (by decide +kernel) ?_
  refine s_aloadX_n (i := 0) (by decide +kernel) rfl ?_
  refine s_iload (i := 4) (by decide +kernel) rfl ?_
  refine s_iconst (n := 2) (by decide +kernel) ?_
  refine s_iadd (by decide +kernel) ?_
  refine s_sld (j := i + 2) hX (wrn (n := i + 2) (by omega)) (by omega) (by decide +kernel) ?_
  refine s_aload_n (i := 3) (by decide +kernel) rfl ?_
  refine s_callSH (Fc := fL_distance) (index := 100) (as := [aR 0, aI (xs (i + 1)), aI (xs (i + 2)), aR 79]) (rest := []) rfl (l_distance hst hI hRX (hr _) (hr _) (Q := fun r G M1 => r = .inl (some (aI (aDist S (xs (i + 1)) (xs (i + 2))).1.1)) ∧ G = GG ∧ RX (aDist S (xs (i + 1)) (xs (i + 2))).2 M1 ∧ FW M M1 ∧ ((aDist S (xs (i + 1)) (xs (i + 2))).1.1 = 0 → M1 79 0 = wr (aDist S (xs (i + 1)) (xs (i + 2))).1.2)) (fun M1 r1 f1 o1 => ⟨rfl, rfl, r1, f1, o1⟩)) ⟨g_348, hwd_h (by decide) g_350, g_0, by decide, (show (parseMethodDescriptor fL_distance.1.desc).map (fun d => d.parameters.length) = some 4 from by decide +kernel), by decide, by decide, ?_, ?_⟩ g_349 (by decide) rfl (Nat.le_of_ble_eq_true rfl) (by decide +kernel) (fun r G M1 h => ?_)
  · show uc + fL_distance.2.2.2.2.1.cells ≤ 601024; have : fL_distance.2.2.2.2.1.cells ≤ 5 := by decide
    omega
  · show us + fL_distance.2.2.2.2.1.slots ≤ 7293034; have : fL_distance.2.2.2.2.1.slots ≤ 30 := by decide
    omega
  obtain ⟨rfl, rfl, rx, fw, ow⟩ := h
  show WM K fL_law E 324 [some (aX b), some (aR 0), some (aR 63), some (aR 79), some (aI i), none, none] [aI (aDist S (xs (i + 1)) (xs (i + 2))).1.1] GG M1 _ _
  refine s_istore (i := 5) (by decide +kernel) (by decide) ?_
  show WM K fL_law E _ [some (aX b), some (aR 0), some (aR 63), some (aR 79), some (aI i), some (aI (aDist S (xs (i + 1)) (xs (i + 2))).1.1), none] [] GG M1 _ _
  refine s_aload_n (i := 2) (by decide +kernel) rfl ?_
  refine s_aloadX_n (i := 0) (by decide +kernel) rfl ?_
  refine s_iload (i := 4) (by decide +kernel) rfl ?_
  refine s_iconst (n := 1) (by decide +kernel) ?_
  refine s_iadd (by decide +kernel) ?_
  refine s_sld (j := i + 1) hX (wrn (n := i + 1) (by omega)) (by omega) (by decide +kernel) ?_
  refine s_aloadX_n (i := 0) (by decide +kernel) rfl ?_
  refine s_iload (i := 4) (by decide +kernel) rfl ?_
  refine s_iconst (n := 2) (by decide +kernel) ?_
  refine s_iadd (by decide +kernel) ?_
  refine s_sld (j := i + 2) hX (wrn (n := i + 2) (by omega)) (by omega) (by decide +kernel) ?_
  refine s_callV (Fc := fM_distance) (index := 102) (ci := 5) (as := [aI (xs (i + 1)), aI (xs (i + 2))]) (rest := []) rfl (m_distance hst hI (hRM.fx fw) (hr _) (hr _) (Q := fun r G M2 => r = .inl (some (aI (vl (aDist S (xs (i + 1)) (xs (i + 2))).1))) ∧ G = GG ∧ RM (aDist S (xs (i + 1)) (xs (i + 2))).2 M2 ∧ FQ M1 M2 ∧ M2 63 0 = ((aDist S (xs (i + 1)) (xs (i + 2))).1.1 : Int)) (fun M2 r2 f2 c2 => ⟨rfl, rfl, r2, f2, c2⟩)) rfl rfl (by decide) rfl ⟨g_661, hwd_c rfl g_664, g_6, by decide, (show (parseMethodDescriptor fM_distance.1.desc).map (fun d => d.parameters.length) = some 2 from by decide +kernel), by decide, by decide, ?_, ?_⟩ g_662 g_663 rfl rfl (Nat.le_of_ble_eq_true rfl) (by decide +kernel) (fun r G M2 h => ?_)
  · show uc + fL_distance.2.2.2.2.1.cells + fM_distance.2.2.2.2.1.cells ≤ 601024; have : fL_distance.2.2.2.2.1.cells ≤ 5 := by decide
    have : fM_distance.2.2.2.2.1.cells = 0 := rfl
    omega
  · show us + fL_distance.2.2.2.2.1.slots + fM_distance.2.2.2.2.1.slots ≤ 7293034; have : fL_distance.2.2.2.2.1.slots ≤ 30 := by decide
    have : fM_distance.2.2.2.2.1.slots = 0 := rfl
    omega
  obtain ⟨rfl, rfl, rm, fq, ct⟩ := h
  show WM K fL_law E 342 [some (aX b), some (aR 0), some (aR 63), some (aR 79), some (aI i), some (aI (aDist S (xs (i + 1)) (xs (i + 2))).1.1), none] [aI (vl (aDist S (xs (i + 1)) (xs (i + 2))).1)] GG M2 _ _
  refine s_istore (i := 6) (by decide +kernel) (by decide) ?_
  show WM K fL_law E _ [some (aX b), some (aR 0), some (aR 63), some (aR 79), some (aI i), some (aI (aDist S (xs (i + 1)) (xs (i + 2))).1.1), some (aI (vl (aDist S (xs (i + 1)) (xs (i + 2))).1))] [] GG M2 _ _
  refine s_aload_n (i := 2) (by decide +kernel) rfl ?_
  refine s_callV (Fc := fM_thrown) (index := 92) (ci := 5) (as := []) (rest := []) rfl (EM_thrown hst (BM_thrown_0 (Q := fun r G M3 => r = .inl (some (aI (M2 63 0))) ∧ G = GG ∧ M3 = M2) ⟨rfl, rfl, rfl⟩)) rfl rfl (by decide) rfl ⟨g_639, hl_thr, g_6, by decide, (show (parseMethodDescriptor fM_thrown.1.desc).map (fun d => d.parameters.length) = some 0 from by decide +kernel), by decide, by decide, ?_, ?_⟩ g_640 g_641 rfl rfl (Nat.le_of_ble_eq_true rfl) (by decide +kernel) (fun r G M3 h => ?_)
  · show uc + fL_distance.2.2.2.2.1.cells + fM_distance.2.2.2.2.1.cells + 0 ≤ 601024; have : fL_distance.2.2.2.2.1.cells ≤ 5 := by decide
    have : fM_distance.2.2.2.2.1.cells = 0 := rfl
    omega
  · show us + fL_distance.2.2.2.2.1.slots + fM_distance.2.2.2.2.1.slots + 0 ≤ 7293034; have : fL_distance.2.2.2.2.1.slots ≤ 30 := by decide
    have : fM_distance.2.2.2.2.1.slots = 0 := rfl
    omega
  obtain ⟨rfl, rfl, rfl⟩ := h
  show WM K fL_law E 348 [some (aX b), some (aR 0), some (aR 63), some (aR 79), some (aI i), some (aI (aDist S (xs (i + 1)) (xs (i + 2))).1.1), some (aI (vl (aDist S (xs (i + 1)) (xs (i + 2))).1))] [aI (M3 63 0)] GG M3 _ _
  refine s_iload (i := 5) (by decide +kernel) rfl ?_
  have hk := k_distance (S := S) (p := xs (i + 1)) (q := xs (i + 2))
  refine s_icmp_eq (off := 5) (tgt := 355) (by decide +kernel) (by decide) (fun c => ?_) (fun c => absurd (by rw [ct]) c)
  have done : WM K fL_law E 372 [some (aX b), some (aR 0), some (aR 63), some (aR 79), some (aI i), some (aI (aDist S (xs (i + 1)) (xs (i + 2))).1.1), some (aI (vl (aDist S (xs (i + 1)) (xs (i + 2))).1))] [] GG M3 (uc + fL_distance.2.2.2.2.1.cells + fM_distance.2.2.2.2.1.cells + 0) (us + fL_distance.2.2.2.2.1.slots + fM_distance.2.2.2.2.1.slots + 0) := by
    refine s_goto (off := 1093) (tgt := 1465) (by decide +kernel) (by decide) ?_
    refine s_loc (L' := [some (aX b), some (aR 0), some (aR 63), some (aR 79), some (aI i), none, none]) (ll_s (ll_s (ll_s (ll_s (ll_s (ll_n (ll_n ll_nil))))))) ?_
    have e1 : fL_distance.2.2.2.2.1.cells ≤ 5 := by decide
    have e2 : fM_distance.2.2.2.2.1.cells = 0 := rfl
    have e3 : fL_distance.2.2.2.2.1.slots ≤ 30 := by decide
    have e4 : fM_distance.2.2.2.2.1.slots = 0 := rfl
    exact s_wid (by omega) (by omega) (k (aDist S (xs (i + 1)) (xs (i + 2))).2 M3 (i_aDist hI _ _) (rx.fq fq) rm)
  refine s_iload (i := 5) (by decide +kernel) rfl ?_
  refine s_if_ne (off := 15) (tgt := 372) (by decide +kernel) (by decide) (fun _ => done) (fun c2 => ?_)
  rw [wrn (by omega)] at c2
  have h0 : (aDist S (xs (i + 1)) (xs (i + 2))).1.1 = 0 := by omega
  refine s_aload_n (i := 3) (by decide +kernel) rfl ?_
  refine s_iconst (n := 0) (by decide +kernel) ?_
  refine s_lald (j := 0) (n := 1) (rs := []) rfl wr_0 (by omega) (by decide +kernel) ?_
  refine s_iload (i := 6) (by decide +kernel) rfl ?_
  refine s_i2l (by decide +kernel) ?_
  refine s_lcmp (by decide +kernel) ?_
  have e7 : M3 79 0 = wr (vl (aDist S (xs (i + 1)) (xs (i + 2))).1) := by rw [fq 79 0 (by omega), ow h0]; unfold vl; rw [if_pos h0]
  rw [e7]
  exact s_if_eq (off := 5) (tgt := 372) (by decide +kernel) (by decide) (fun _ => done) (fun c3 => absurd wcmp_s c3)
set_option maxRecDepth 20000 in
theorem w_addVehicle (hst : K.1.stackTraces = false) (hX : XE E b N xs) (hr : ∀ j, R32 (xs j)) (hi : i + 3 ≤ N) (hN : N ≤ 1536) (hI : Inv S) (hRX : RX S M) (hRM : RM S M) (hu : uc + 6 ≤ 601024 ∧ us + 40 ≤ 7293034) (k : LK K E b i uc us) : WM K fL_law E 375 [some (aX b), some (aR 0), some (aR 63), some (aR 79), some (aI i), none, none] [] GG M uc us := by
  refine s_aload_n (i := 1) (by decide +kernel) rfl ?_
  refine s_aloadX_n (i := 0) (by decide +kernel) rfl ?_
  refine s_iload (i := 4) (by decide +kernel) rfl ?_
  refine s_iconst (n := 1) (by decide +kernel) ?_
  refine s_iadd (by decide +kernel) ?_
  refine s_sld (j := i + 1) hX (wrn (n := i + 1) (by omega)) (by omega) (by decide +kernel) ?_
  refine s_aloadX_n (i := 0) (by decide +kernel) rfl ?_
  refine s_iload (i := 4) (by decide +kernel) rfl ?_
  refine s_iconst (n := 2) (by decide +kernel) ?_
  refine s_iadd (by decide +kernel) ?_
  refine s_sld (j := i + 2) hX (wrn (n := i + 2) (by omega)) (by omega) (by decide +kernel) ?_
  refine s_aload_n (i := 3) (by decide +kernel) rfl ?_
  refine s_callSH (Fc := fL_addVehicle) (index := 103) (as := [aR 0, aI (xs (i + 1)), aI (xs (i + 2)), aR 79]) (rest := []) rfl (l_addVehicle hst hI hRX (hr _) (hr _) (Q := fun r G M1 => r = .inl (some (aI (aVeh S (xs (i + 1)) (xs (i + 2))).1.1)) ∧ G = GG ∧ RX (aVeh S (xs (i + 1)) (xs (i + 2))).2 M1 ∧ FW M M1 ∧ ((aVeh S (xs (i + 1)) (xs (i + 2))).1.1 = 0 → M1 79 0 = wr (aVeh S (xs (i + 1)) (xs (i + 2))).1.2)) (fun M1 r1 f1 o1 => ⟨rfl, rfl, r1, f1, o1⟩)) ⟨g_355, hwd_h (by decide) g_357, g_0, by decide, (show (parseMethodDescriptor fL_addVehicle.1.desc).map (fun d => d.parameters.length) = some 4 from by decide +kernel), by decide, by decide, ?_, ?_⟩ g_356 (by decide) rfl (Nat.le_of_ble_eq_true rfl) (by decide +kernel) (fun r G M1 h => ?_)
  · show uc + fL_addVehicle.2.2.2.2.1.cells ≤ 601024; have : fL_addVehicle.2.2.2.2.1.cells ≤ 5 := by decide
    omega
  · show us + fL_addVehicle.2.2.2.2.1.slots ≤ 7293034; have : fL_addVehicle.2.2.2.2.1.slots ≤ 30 := by decide
    omega
  obtain ⟨rfl, rfl, rx, fw, ow⟩ := h
  show WM K fL_law E 392 [some (aX b), some (aR 0), some (aR 63), some (aR 79), some (aI i), none, none] [aI (aVeh S (xs (i + 1)) (xs (i + 2))).1.1] GG M1 _ _
  refine s_istore (i := 5) (by decide +kernel) (by decide) ?_
  show WM K fL_law E _ [some (aX b), some (aR 0), some (aR 63), some (aR 79), some (aI i), some (aI (aVeh S (xs (i + 1)) (xs (i + 2))).1.1), none] [] GG M1 _ _
  refine s_aload_n (i := 2) (by decide +kernel) rfl ?_
  refine s_aloadX_n (i := 0) (by decide +kernel) rfl ?_
  refine s_iload (i := 4) (by decide +kernel) rfl ?_
  refine s_iconst (n := 1) (by decide +kernel) ?_
  refine s_iadd (by decide +kernel) ?_
  refine s_sld (j := i + 1) hX (wrn (n := i + 1) (by omega)) (by omega) (by decide +kernel) ?_
  refine s_aloadX_n (i := 0) (by decide +kernel) rfl ?_
  refine s_iload (i := 4) (by decide +kernel) rfl ?_
  refine s_iconst (n := 2) (by decide +kernel) ?_
  refine s_iadd (by decide +kernel) ?_
  refine s_sld (j := i + 2) hX (wrn (n := i + 2) (by omega)) (by omega) (by decide +kernel) ?_
  refine s_callV (Fc := fM_addVehicle) (index := 105) (ci := 5) (as := [aI (xs (i + 1)), aI (xs (i + 2))]) (rest := []) rfl (m_addVehicle hst hI (hRM.fx fw) (hr _) (hr _) (Q := fun r G M2 => r = .inl (some (aI (vl (aVeh S (xs (i + 1)) (xs (i + 2))).1))) ∧ G = GG ∧ RM (aVeh S (xs (i + 1)) (xs (i + 2))).2 M2 ∧ FQ M1 M2 ∧ M2 63 0 = ((aVeh S (xs (i + 1)) (xs (i + 2))).1.1 : Int)) (fun M2 r2 f2 c2 => ⟨rfl, rfl, r2, f2, c2⟩)) rfl rfl (by decide) rfl ⟨g_669, hwd_c rfl g_672, g_6, by decide, (show (parseMethodDescriptor fM_addVehicle.1.desc).map (fun d => d.parameters.length) = some 2 from by decide +kernel), by decide, by decide, ?_, ?_⟩ g_670 g_671 rfl rfl (Nat.le_of_ble_eq_true rfl) (by decide +kernel) (fun r G M2 h => ?_)
  · show uc + fL_addVehicle.2.2.2.2.1.cells + fM_addVehicle.2.2.2.2.1.cells ≤ 601024; have : fL_addVehicle.2.2.2.2.1.cells ≤ 5 := by decide
    have : fM_addVehicle.2.2.2.2.1.cells = 0 := rfl
    omega
  · show us + fL_addVehicle.2.2.2.2.1.slots + fM_addVehicle.2.2.2.2.1.slots ≤ 7293034; have : fL_addVehicle.2.2.2.2.1.slots ≤ 30 := by decide
    have : fM_addVehicle.2.2.2.2.1.slots = 0 := rfl
    omega
  obtain ⟨rfl, rfl, rm, fq, ct⟩ := h
  show WM K fL_law E 410 [some (aX b), some (aR 0), some (aR 63), some (aR 79), some (aI i), some (aI (aVeh S (xs (i + 1)) (xs (i + 2))).1.1), none] [aI (vl (aVeh S (xs (i + 1)) (xs (i + 2))).1)] GG M2 _ _
  refine s_istore (i := 6) (by decide +kernel) (by decide) ?_
  show WM K fL_law E _ [some (aX b), some (aR 0), some (aR 63), some (aR 79), some (aI i), some (aI (aVeh S (xs (i + 1)) (xs (i + 2))).1.1), some (aI (vl (aVeh S (xs (i + 1)) (xs (i + 2))).1))] [] GG M2 _ _
  refine s_aload_n (i := 2) (by decide +kernel) rfl ?_
  refine s_callV (Fc := fM_thrown) (index := 92) (ci := 5) (as := []) (rest := []) rfl (EM_thrown hst (BM_thrown_0 (Q := fun r G M3 => r = .inl (some (aI (M2 63 0))) ∧ G = GG ∧ M3 = M2) ⟨rfl, rfl, rfl⟩)) rfl rfl (by decide) rfl ⟨g_639, hl_thr, g_6, by decide, (show (parseMethodDescriptor fM_thrown.1.desc).map (fun d => d.parameters.length) = some 0 from by decide +kernel), by decide, by decide, ?_, ?_⟩ g_640 g_641 rfl rfl (Nat.le_of_ble_eq_true rfl) (by decide +kernel) (fun r G M3 h => ?_)
  · show uc + fL_addVehicle.2.2.2.2.1.cells + fM_addVehicle.2.2.2.2.1.cells + 0 ≤ 601024; have : fL_addVehicle.2.2.2.2.1.cells ≤ 5 := by decide
    have : fM_addVehicle.2.2.2.2.1.cells = 0 := rfl
    omega
  · show us + fL_addVehicle.2.2.2.2.1.slots + fM_addVehicle.2.2.2.2.1.slots + 0 ≤ 7293034; have : fL_addVehicle.2.2.2.2.1.slots ≤ 30 := by decide
    have : fM_addVehicle.2.2.2.2.1.slots = 0 := rfl
    omega
  obtain ⟨rfl, rfl, rfl⟩ := h
  show WM K fL_law E 416 [some (aX b), some (aR 0), some (aR 63), some (aR 79), some (aI i), some (aI (aVeh S (xs (i + 1)) (xs (i + 2))).1.1), some (aI (vl (aVeh S (xs (i + 1)) (xs (i + 2))).1))] [aI (M3 63 0)] GG M3 _ _
  refine s_iload (i := 5) (by decide +kernel) rfl ?_
  have hk := k_addVehicle (S := S) (p := xs (i + 1)) (q := xs (i + 2))
  refine s_icmp_eq (off := 5) (tgt := 423) (by decide +kernel) (by decide) (fun c => ?_) (fun c => absurd (by rw [ct]) c)
  have done : WM K fL_law E 440 [some (aX b), some (aR 0), some (aR 63), some (aR 79), some (aI i), some (aI (aVeh S (xs (i + 1)) (xs (i + 2))).1.1), some (aI (vl (aVeh S (xs (i + 1)) (xs (i + 2))).1))] [] GG M3 (uc + fL_addVehicle.2.2.2.2.1.cells + fM_addVehicle.2.2.2.2.1.cells + 0) (us + fL_addVehicle.2.2.2.2.1.slots + fM_addVehicle.2.2.2.2.1.slots + 0) := by
    refine s_goto (off := 1025) (tgt := 1465) (by decide +kernel) (by decide) ?_
    refine s_loc (L' := [some (aX b), some (aR 0), some (aR 63), some (aR 79), some (aI i), none, none]) (ll_s (ll_s (ll_s (ll_s (ll_s (ll_n (ll_n ll_nil))))))) ?_
    have e1 : fL_addVehicle.2.2.2.2.1.cells ≤ 5 := by decide
    have e2 : fM_addVehicle.2.2.2.2.1.cells = 0 := rfl
    have e3 : fL_addVehicle.2.2.2.2.1.slots ≤ 30 := by decide
    have e4 : fM_addVehicle.2.2.2.2.1.slots = 0 := rfl
    exact s_wid (by omega) (by omega) (k (aVeh S (xs (i + 1)) (xs (i + 2))).2 M3 (i_aVeh hI _ _) (rx.fq fq) rm)
  refine s_iload (i := 5) (by decide +kernel) rfl ?_
  refine s_if_ne (off := 15) (tgt := 440) (by decide +kernel) (by decide) (fun _ => done) (fun c2 => ?_)
  rw [wrn (by omega)] at c2
  have h0 : (aVeh S (xs (i + 1)) (xs (i + 2))).1.1 = 0 := by omega
  refine s_aload_n (i := 3) (by decide +kernel) rfl ?_
  refine s_iconst (n := 0) (by decide +kernel) ?_
  refine s_lald (j := 0) (n := 1) (rs := []) rfl wr_0 (by omega) (by decide +kernel) ?_
  refine s_iload (i := 6) (by decide +kernel) rfl ?_
  refine s_i2l (by decide +kernel) ?_
  refine s_lcmp (by decide +kernel) ?_
  have e7 : M3 79 0 = wr (vl (aVeh S (xs (i + 1)) (xs (i + 2))).1) := by rw [fq 79 0 (by omega), ow h0]; unfold vl; rw [if_pos h0]
  rw [e7]
  exact s_if_eq (off := 5) (tgt := 440) (by decide +kernel) (by decide) (fun _ => done) (fun c3 => absurd wcmp_s c3)
set_option maxRecDepth 20000 in
theorem w_assign (hst : K.1.stackTraces = false) (hX : XE E b N xs) (hr : ∀ j, R32 (xs j)) (hi : i + 3 ≤ N) (hN : N ≤ 1536) (hI : Inv S) (hRX : RX S M) (hRM : RM S M) (hu : uc + 6 ≤ 601024 ∧ us + 40 ≤ 7293034) (k : LK K E b i uc us) : WM K fL_law E 443 [some (aX b), some (aR 0), some (aR 63), some (aR 79), some (aI i), none, none] [] GG M uc us := by
  refine s_aload_n (i := 1) (by decide +kernel) rfl ?_
  refine s_aloadX_n (i := 0) (by decide +kernel) rfl ?_
  refine s_iload (i := 4) (by decide +kernel) rfl ?_
  refine s_iconst (n := 1) (by decide +kernel) ?_
  refine s_iadd (by decide +kernel) ?_
  refine s_sld (j := i + 1) hX (wrn (n := i + 1) (by omega)) (by omega) (by decide +kernel) ?_
  refine s_aloadX_n (i := 0) (by decide +kernel) rfl ?_
  refine s_iload (i := 4) (by decide +kernel) rfl ?_
  refine s_iconst (n := 2) (by decide +kernel) ?_
  refine s_iadd (by decide +kernel) ?_
  refine s_sld (j := i + 2) hX (wrn (n := i + 2) (by omega)) (by omega) (by decide +kernel) ?_
  refine s_aload_n (i := 3) (by decide +kernel) rfl ?_
  refine s_callSH (Fc := fL_assign) (index := 106) (as := [aR 0, aI (xs (i + 1)), aI (xs (i + 2)), aR 79]) (rest := []) rfl (l_assign hst hI hRX (hr _) (hr _) (Q := fun r G M1 => r = .inl (some (aI (aAsg S (xs (i + 1)) (xs (i + 2))).1.1)) ∧ G = GG ∧ RX (aAsg S (xs (i + 1)) (xs (i + 2))).2 M1 ∧ FW M M1 ∧ ((aAsg S (xs (i + 1)) (xs (i + 2))).1.1 = 0 → M1 79 0 = wr (aAsg S (xs (i + 1)) (xs (i + 2))).1.2)) (fun M1 r1 f1 o1 => ⟨rfl, rfl, r1, f1, o1⟩)) ⟨g_374, hwd_h (by decide) g_376, g_0, by decide, (show (parseMethodDescriptor fL_assign.1.desc).map (fun d => d.parameters.length) = some 4 from by decide +kernel), by decide, by decide, ?_, ?_⟩ g_375 (by decide) rfl (Nat.le_of_ble_eq_true rfl) (by decide +kernel) (fun r G M1 h => ?_)
  · show uc + fL_assign.2.2.2.2.1.cells ≤ 601024; have : fL_assign.2.2.2.2.1.cells ≤ 5 := by decide
    omega
  · show us + fL_assign.2.2.2.2.1.slots ≤ 7293034; have : fL_assign.2.2.2.2.1.slots ≤ 30 := by decide
    omega
  obtain ⟨rfl, rfl, rx, fw, ow⟩ := h
  show WM K fL_law E 460 [some (aX b), some (aR 0), some (aR 63), some (aR 79), some (aI i), none, none] [aI (aAsg S (xs (i + 1)) (xs (i + 2))).1.1] GG M1 _ _
  refine s_istore (i := 5) (by decide +kernel) (by decide) ?_
  show WM K fL_law E _ [some (aX b), some (aR 0), some (aR 63), some (aR 79), some (aI i), some (aI (aAsg S (xs (i + 1)) (xs (i + 2))).1.1), none] [] GG M1 _ _
  refine s_aload_n (i := 2) (by decide +kernel) rfl ?_
  refine s_aloadX_n (i := 0) (by decide +kernel) rfl ?_
  refine s_iload (i := 4) (by decide +kernel) rfl ?_
  refine s_iconst (n := 1) (by decide +kernel) ?_
  refine s_iadd (by decide +kernel) ?_
  refine s_sld (j := i + 1) hX (wrn (n := i + 1) (by omega)) (by omega) (by decide +kernel) ?_
  refine s_aloadX_n (i := 0) (by decide +kernel) rfl ?_
  refine s_iload (i := 4) (by decide +kernel) rfl ?_
  refine s_iconst (n := 2) (by decide +kernel) ?_
  refine s_iadd (by decide +kernel) ?_
  refine s_sld (j := i + 2) hX (wrn (n := i + 2) (by omega)) (by omega) (by decide +kernel) ?_
  refine s_callV (Fc := fM_assign) (index := 108) (ci := 5) (as := [aI (xs (i + 1)), aI (xs (i + 2))]) (rest := []) rfl (m_assign hst hI (hRM.fx fw) (hr _) (hr _) (Q := fun r G M2 => r = .inl (some (aI (vl (aAsg S (xs (i + 1)) (xs (i + 2))).1))) ∧ G = GG ∧ RM (aAsg S (xs (i + 1)) (xs (i + 2))).2 M2 ∧ FQ M1 M2 ∧ M2 63 0 = ((aAsg S (xs (i + 1)) (xs (i + 2))).1.1 : Int)) (fun M2 r2 f2 c2 => ⟨rfl, rfl, r2, f2, c2⟩)) rfl rfl (by decide) rfl ⟨g_693, hwd_c rfl g_696, g_6, by decide, (show (parseMethodDescriptor fM_assign.1.desc).map (fun d => d.parameters.length) = some 2 from by decide +kernel), by decide, by decide, ?_, ?_⟩ g_694 g_695 rfl rfl (Nat.le_of_ble_eq_true rfl) (by decide +kernel) (fun r G M2 h => ?_)
  · show uc + fL_assign.2.2.2.2.1.cells + fM_assign.2.2.2.2.1.cells ≤ 601024; have : fL_assign.2.2.2.2.1.cells ≤ 5 := by decide
    have : fM_assign.2.2.2.2.1.cells = 0 := rfl
    omega
  · show us + fL_assign.2.2.2.2.1.slots + fM_assign.2.2.2.2.1.slots ≤ 7293034; have : fL_assign.2.2.2.2.1.slots ≤ 30 := by decide
    have : fM_assign.2.2.2.2.1.slots = 0 := rfl
    omega
  obtain ⟨rfl, rfl, rm, fq, ct⟩ := h
  show WM K fL_law E 478 [some (aX b), some (aR 0), some (aR 63), some (aR 79), some (aI i), some (aI (aAsg S (xs (i + 1)) (xs (i + 2))).1.1), none] [aI (vl (aAsg S (xs (i + 1)) (xs (i + 2))).1)] GG M2 _ _
  refine s_istore (i := 6) (by decide +kernel) (by decide) ?_
  show WM K fL_law E _ [some (aX b), some (aR 0), some (aR 63), some (aR 79), some (aI i), some (aI (aAsg S (xs (i + 1)) (xs (i + 2))).1.1), some (aI (vl (aAsg S (xs (i + 1)) (xs (i + 2))).1))] [] GG M2 _ _
  refine s_aload_n (i := 2) (by decide +kernel) rfl ?_
  refine s_callV (Fc := fM_thrown) (index := 92) (ci := 5) (as := []) (rest := []) rfl (EM_thrown hst (BM_thrown_0 (Q := fun r G M3 => r = .inl (some (aI (M2 63 0))) ∧ G = GG ∧ M3 = M2) ⟨rfl, rfl, rfl⟩)) rfl rfl (by decide) rfl ⟨g_639, hl_thr, g_6, by decide, (show (parseMethodDescriptor fM_thrown.1.desc).map (fun d => d.parameters.length) = some 0 from by decide +kernel), by decide, by decide, ?_, ?_⟩ g_640 g_641 rfl rfl (Nat.le_of_ble_eq_true rfl) (by decide +kernel) (fun r G M3 h => ?_)
  · show uc + fL_assign.2.2.2.2.1.cells + fM_assign.2.2.2.2.1.cells + 0 ≤ 601024; have : fL_assign.2.2.2.2.1.cells ≤ 5 := by decide
    have : fM_assign.2.2.2.2.1.cells = 0 := rfl
    omega
  · show us + fL_assign.2.2.2.2.1.slots + fM_assign.2.2.2.2.1.slots + 0 ≤ 7293034; have : fL_assign.2.2.2.2.1.slots ≤ 30 := by decide
    have : fM_assign.2.2.2.2.1.slots = 0 := rfl
    omega
  obtain ⟨rfl, rfl, rfl⟩ := h
  show WM K fL_law E 484 [some (aX b), some (aR 0), some (aR 63), some (aR 79), some (aI i), some (aI (aAsg S (xs (i + 1)) (xs (i + 2))).1.1), some (aI (vl (aAsg S (xs (i + 1)) (xs (i + 2))).1))] [aI (M3 63 0)] GG M3 _ _
  refine s_iload (i := 5) (by decide +kernel) rfl ?_
  have hk := k_assign (S := S) (p := xs (i + 1)) (q := xs (i + 2))
  refine s_icmp_eq (off := 5) (tgt := 491) (by decide +kernel) (by decide) (fun c => ?_) (fun c => absurd (by rw [ct]) c)
  have done : WM K fL_law E 508 [some (aX b), some (aR 0), some (aR 63), some (aR 79), some (aI i), some (aI (aAsg S (xs (i + 1)) (xs (i + 2))).1.1), some (aI (vl (aAsg S (xs (i + 1)) (xs (i + 2))).1))] [] GG M3 (uc + fL_assign.2.2.2.2.1.cells + fM_assign.2.2.2.2.1.cells + 0) (us + fL_assign.2.2.2.2.1.slots + fM_assign.2.2.2.2.1.slots + 0) := by
    refine s_goto (off := 957) (tgt := 1465) (by decide +kernel) (by decide) ?_
    refine s_loc (L' := [some (aX b), some (aR 0), some (aR 63), some (aR 79), some (aI i), none, none]) (ll_s (ll_s (ll_s (ll_s (ll_s (ll_n (ll_n ll_nil))))))) ?_
    have e1 : fL_assign.2.2.2.2.1.cells ≤ 5 := by decide
    have e2 : fM_assign.2.2.2.2.1.cells = 0 := rfl
    have e3 : fL_assign.2.2.2.2.1.slots ≤ 30 := by decide
    have e4 : fM_assign.2.2.2.2.1.slots = 0 := rfl
    exact s_wid (by omega) (by omega) (k (aAsg S (xs (i + 1)) (xs (i + 2))).2 M3 (i_aAsg hI _ _) (rx.fq fq) rm)
  refine s_iload (i := 5) (by decide +kernel) rfl ?_
  refine s_if_ne (off := 15) (tgt := 508) (by decide +kernel) (by decide) (fun _ => done) (fun c2 => ?_)
  rw [wrn (by omega)] at c2
  have h0 : (aAsg S (xs (i + 1)) (xs (i + 2))).1.1 = 0 := by omega
  refine s_aload_n (i := 3) (by decide +kernel) rfl ?_
  refine s_iconst (n := 0) (by decide +kernel) ?_
  refine s_lald (j := 0) (n := 1) (rs := []) rfl wr_0 (by omega) (by decide +kernel) ?_
  refine s_iload (i := 6) (by decide +kernel) rfl ?_
  refine s_i2l (by decide +kernel) ?_
  refine s_lcmp (by decide +kernel) ?_
  have e7 : M3 79 0 = wr (vl (aAsg S (xs (i + 1)) (xs (i + 2))).1) := by rw [fq 79 0 (by omega), ow h0]; unfold vl; rw [if_pos h0]
  rw [e7]
  exact s_if_eq (off := 5) (tgt := 508) (by decide +kernel) (by decide) (fun _ => done) (fun c3 => absurd wcmp_s c3)
set_option maxRecDepth 20000 in
theorem w_cancel (hst : K.1.stackTraces = false) (hX : XE E b N xs) (hr : ∀ j, R32 (xs j)) (hi : i + 3 ≤ N) (hN : N ≤ 1536) (hI : Inv S) (hRX : RX S M) (hRM : RM S M) (hu : uc + 6 ≤ 601024 ∧ us + 40 ≤ 7293034) (k : LK K E b i uc us) : WM K fL_law E 511 [some (aX b), some (aR 0), some (aR 63), some (aR 79), some (aI i), none, none] [] GG M uc us := by
  refine s_aload_n (i := 1) (by decide +kernel) rfl ?_
  refine s_aloadX_n (i := 0) (by decide +kernel) rfl ?_
  refine s_iload (i := 4) (by decide +kernel) rfl ?_
  refine s_iconst (n := 1) (by decide +kernel) ?_
  refine s_iadd (by decide +kernel) ?_
  refine s_sld (j := i + 1) hX (wrn (n := i + 1) (by omega)) (by omega) (by decide +kernel) ?_
  refine s_aload_n (i := 3) (by decide +kernel) rfl ?_
  refine s_callSH (Fc := fL_cancel) (index := 109) (as := [aR 0, aI (xs (i + 1)), aR 79]) (rest := []) rfl (l_cancel hst hI hRX (hr _) (Q := fun r G M1 => r = .inl (some (aI (aCan S (xs (i + 1))).1.1)) ∧ G = GG ∧ RX (aCan S (xs (i + 1))).2 M1 ∧ FW M M1 ∧ ((aCan S (xs (i + 1))).1.1 = 0 → M1 79 0 = wr (aCan S (xs (i + 1))).1.2)) (fun M1 r1 f1 o1 => ⟨rfl, rfl, r1, f1, o1⟩)) ⟨g_403, hwd_h (by decide) g_405, g_0, by decide, (show (parseMethodDescriptor fL_cancel.1.desc).map (fun d => d.parameters.length) = some 3 from by decide +kernel), by decide, by decide, ?_, ?_⟩ g_404 (by decide) rfl (Nat.le_of_ble_eq_true rfl) (by decide +kernel) (fun r G M1 h => ?_)
  · show uc + fL_cancel.2.2.2.2.1.cells ≤ 601024; have : fL_cancel.2.2.2.2.1.cells ≤ 5 := by decide
    omega
  · show us + fL_cancel.2.2.2.2.1.slots ≤ 7293034; have : fL_cancel.2.2.2.2.1.slots ≤ 30 := by decide
    omega
  obtain ⟨rfl, rfl, rx, fw, ow⟩ := h
  show WM K fL_law E 522 [some (aX b), some (aR 0), some (aR 63), some (aR 79), some (aI i), none, none] [aI (aCan S (xs (i + 1))).1.1] GG M1 _ _
  refine s_istore (i := 5) (by decide +kernel) (by decide) ?_
  show WM K fL_law E _ [some (aX b), some (aR 0), some (aR 63), some (aR 79), some (aI i), some (aI (aCan S (xs (i + 1))).1.1), none] [] GG M1 _ _
  refine s_aload_n (i := 2) (by decide +kernel) rfl ?_
  refine s_aloadX_n (i := 0) (by decide +kernel) rfl ?_
  refine s_iload (i := 4) (by decide +kernel) rfl ?_
  refine s_iconst (n := 1) (by decide +kernel) ?_
  refine s_iadd (by decide +kernel) ?_
  refine s_sld (j := i + 1) hX (wrn (n := i + 1) (by omega)) (by omega) (by decide +kernel) ?_
  refine s_callV (Fc := fM_cancel) (index := 112) (ci := 5) (as := [aI (xs (i + 1))]) (rest := []) rfl (m_cancel hst hI (hRM.fx fw) (hr _) (Q := fun r G M2 => r = .inl (some (aI (vl (aCan S (xs (i + 1))).1))) ∧ G = GG ∧ RM (aCan S (xs (i + 1))).2 M2 ∧ FQ M1 M2 ∧ M2 63 0 = ((aCan S (xs (i + 1))).1.1 : Int)) (fun M2 r2 f2 c2 => ⟨rfl, rfl, r2, f2, c2⟩)) rfl rfl (by decide) rfl ⟨g_717, hwd_c rfl g_720, g_6, by decide, (show (parseMethodDescriptor fM_cancel.1.desc).map (fun d => d.parameters.length) = some 1 from by decide +kernel), by decide, by decide, ?_, ?_⟩ g_718 g_719 rfl rfl (Nat.le_of_ble_eq_true rfl) (by decide +kernel) (fun r G M2 h => ?_)
  · show uc + fL_cancel.2.2.2.2.1.cells + fM_cancel.2.2.2.2.1.cells ≤ 601024; have : fL_cancel.2.2.2.2.1.cells ≤ 5 := by decide
    have : fM_cancel.2.2.2.2.1.cells = 0 := rfl
    omega
  · show us + fL_cancel.2.2.2.2.1.slots + fM_cancel.2.2.2.2.1.slots ≤ 7293034; have : fL_cancel.2.2.2.2.1.slots ≤ 30 := by decide
    have : fM_cancel.2.2.2.2.1.slots = 0 := rfl
    omega
  obtain ⟨rfl, rfl, rm, fq, ct⟩ := h
  show WM K fL_law E 534 [some (aX b), some (aR 0), some (aR 63), some (aR 79), some (aI i), some (aI (aCan S (xs (i + 1))).1.1), none] [aI (vl (aCan S (xs (i + 1))).1)] GG M2 _ _
  refine s_istore (i := 6) (by decide +kernel) (by decide) ?_
  show WM K fL_law E _ [some (aX b), some (aR 0), some (aR 63), some (aR 79), some (aI i), some (aI (aCan S (xs (i + 1))).1.1), some (aI (vl (aCan S (xs (i + 1))).1))] [] GG M2 _ _
  refine s_aload_n (i := 2) (by decide +kernel) rfl ?_
  refine s_callV (Fc := fM_thrown) (index := 92) (ci := 5) (as := []) (rest := []) rfl (EM_thrown hst (BM_thrown_0 (Q := fun r G M3 => r = .inl (some (aI (M2 63 0))) ∧ G = GG ∧ M3 = M2) ⟨rfl, rfl, rfl⟩)) rfl rfl (by decide) rfl ⟨g_639, hl_thr, g_6, by decide, (show (parseMethodDescriptor fM_thrown.1.desc).map (fun d => d.parameters.length) = some 0 from by decide +kernel), by decide, by decide, ?_, ?_⟩ g_640 g_641 rfl rfl (Nat.le_of_ble_eq_true rfl) (by decide +kernel) (fun r G M3 h => ?_)
  · show uc + fL_cancel.2.2.2.2.1.cells + fM_cancel.2.2.2.2.1.cells + 0 ≤ 601024; have : fL_cancel.2.2.2.2.1.cells ≤ 5 := by decide
    have : fM_cancel.2.2.2.2.1.cells = 0 := rfl
    omega
  · show us + fL_cancel.2.2.2.2.1.slots + fM_cancel.2.2.2.2.1.slots + 0 ≤ 7293034; have : fL_cancel.2.2.2.2.1.slots ≤ 30 := by decide
    have : fM_cancel.2.2.2.2.1.slots = 0 := rfl
    omega
  obtain ⟨rfl, rfl, rfl⟩ := h
  show WM K fL_law E 540 [some (aX b), some (aR 0), some (aR 63), some (aR 79), some (aI i), some (aI (aCan S (xs (i + 1))).1.1), some (aI (vl (aCan S (xs (i + 1))).1))] [aI (M3 63 0)] GG M3 _ _
  refine s_iload (i := 5) (by decide +kernel) rfl ?_
  have hk := k_cancel (S := S) (p := xs (i + 1))
  refine s_icmp_eq (off := 5) (tgt := 547) (by decide +kernel) (by decide) (fun c => ?_) (fun c => absurd (by rw [ct]) c)
  have done : WM K fL_law E 564 [some (aX b), some (aR 0), some (aR 63), some (aR 79), some (aI i), some (aI (aCan S (xs (i + 1))).1.1), some (aI (vl (aCan S (xs (i + 1))).1))] [] GG M3 (uc + fL_cancel.2.2.2.2.1.cells + fM_cancel.2.2.2.2.1.cells + 0) (us + fL_cancel.2.2.2.2.1.slots + fM_cancel.2.2.2.2.1.slots + 0) := by
    refine s_goto (off := 901) (tgt := 1465) (by decide +kernel) (by decide) ?_
    refine s_loc (L' := [some (aX b), some (aR 0), some (aR 63), some (aR 79), some (aI i), none, none]) (ll_s (ll_s (ll_s (ll_s (ll_s (ll_n (ll_n ll_nil))))))) ?_
    have e1 : fL_cancel.2.2.2.2.1.cells ≤ 5 := by decide
    have e2 : fM_cancel.2.2.2.2.1.cells = 0 := rfl
    have e3 : fL_cancel.2.2.2.2.1.slots ≤ 30 := by decide
    have e4 : fM_cancel.2.2.2.2.1.slots = 0 := rfl
    exact s_wid (by omega) (by omega) (k (aCan S (xs (i + 1))).2 M3 (i_aCan hI _) (rx.fq fq) rm)
  refine s_iload (i := 5) (by decide +kernel) rfl ?_
  refine s_if_ne (off := 15) (tgt := 564) (by decide +kernel) (by decide) (fun _ => done) (fun c2 => ?_)
  rw [wrn (by omega)] at c2
  have h0 : (aCan S (xs (i + 1))).1.1 = 0 := by omega
  refine s_aload_n (i := 3) (by decide +kernel) rfl ?_
  refine s_iconst (n := 0) (by decide +kernel) ?_
  refine s_lald (j := 0) (n := 1) (rs := []) rfl wr_0 (by omega) (by decide +kernel) ?_
  refine s_iload (i := 6) (by decide +kernel) rfl ?_
  refine s_i2l (by decide +kernel) ?_
  refine s_lcmp (by decide +kernel) ?_
  have e7 : M3 79 0 = wr (vl (aCan S (xs (i + 1))).1) := by rw [fq 79 0 (by omega), ow h0]; unfold vl; rw [if_pos h0]
  rw [e7]
  exact s_if_eq (off := 5) (tgt := 564) (by decide +kernel) (by decide) (fun _ => done) (fun c3 => absurd wcmp_s c3)
set_option maxRecDepth 20000 in
theorem w_charge (hst : K.1.stackTraces = false) (hX : XE E b N xs) (hr : ∀ j, R32 (xs j)) (hi : i + 3 ≤ N) (hN : N ≤ 1536) (hI : Inv S) (hRX : RX S M) (hRM : RM S M) (hu : uc + 6 ≤ 601024 ∧ us + 40 ≤ 7293034) (k : LK K E b i uc us) : WM K fL_law E 567 [some (aX b), some (aR 0), some (aR 63), some (aR 79), some (aI i), none, none] [] GG M uc us := by
  refine s_aload_n (i := 1) (by decide +kernel) rfl ?_
  refine s_aloadX_n (i := 0) (by decide +kernel) rfl ?_
  refine s_iload (i := 4) (by decide +kernel) rfl ?_
  refine s_iconst (n := 1) (by decide +kernel) ?_
  refine s_iadd (by decide +kernel) ?_
  refine s_sld (j := i + 1) hX (wrn (n := i + 1) (by omega)) (by omega) (by decide +kernel) ?_
  refine s_aload_n (i := 3) (by decide +kernel) rfl ?_
  refine s_callSH (Fc := fL_charge) (index := 113) (as := [aR 0, aI (xs (i + 1)), aR 79]) (rest := []) rfl (l_charge hst hI hRX (hr _) (Q := fun r G M1 => r = .inl (some (aI (aChg S (xs (i + 1))).1.1)) ∧ G = GG ∧ RX (aChg S (xs (i + 1))).2 M1 ∧ FW M M1 ∧ ((aChg S (xs (i + 1))).1.1 = 0 → M1 79 0 = wr (aChg S (xs (i + 1))).1.2)) (fun M1 r1 f1 o1 => ⟨rfl, rfl, r1, f1, o1⟩)) ⟨g_423, hwd_h (by decide) g_425, g_0, by decide, (show (parseMethodDescriptor fL_charge.1.desc).map (fun d => d.parameters.length) = some 3 from by decide +kernel), by decide, by decide, ?_, ?_⟩ g_424 (by decide) rfl (Nat.le_of_ble_eq_true rfl) (by decide +kernel) (fun r G M1 h => ?_)
  · show uc + fL_charge.2.2.2.2.1.cells ≤ 601024; have : fL_charge.2.2.2.2.1.cells ≤ 5 := by decide
    omega
  · show us + fL_charge.2.2.2.2.1.slots ≤ 7293034; have : fL_charge.2.2.2.2.1.slots ≤ 30 := by decide
    omega
  obtain ⟨rfl, rfl, rx, fw, ow⟩ := h
  show WM K fL_law E 578 [some (aX b), some (aR 0), some (aR 63), some (aR 79), some (aI i), none, none] [aI (aChg S (xs (i + 1))).1.1] GG M1 _ _
  refine s_istore (i := 5) (by decide +kernel) (by decide) ?_
  show WM K fL_law E _ [some (aX b), some (aR 0), some (aR 63), some (aR 79), some (aI i), some (aI (aChg S (xs (i + 1))).1.1), none] [] GG M1 _ _
  refine s_aload_n (i := 2) (by decide +kernel) rfl ?_
  refine s_aloadX_n (i := 0) (by decide +kernel) rfl ?_
  refine s_iload (i := 4) (by decide +kernel) rfl ?_
  refine s_iconst (n := 1) (by decide +kernel) ?_
  refine s_iadd (by decide +kernel) ?_
  refine s_sld (j := i + 1) hX (wrn (n := i + 1) (by omega)) (by omega) (by decide +kernel) ?_
  refine s_callV (Fc := fM_charge) (index := 115) (ci := 5) (as := [aI (xs (i + 1))]) (rest := []) rfl (m_charge hst hI (hRM.fx fw) (hr _) (Q := fun r G M2 => r = .inl (some (aI (vl (aChg S (xs (i + 1))).1))) ∧ G = GG ∧ RM (aChg S (xs (i + 1))).2 M2 ∧ FQ M1 M2 ∧ M2 63 0 = ((aChg S (xs (i + 1))).1.1 : Int)) (fun M2 r2 f2 c2 => ⟨rfl, rfl, r2, f2, c2⟩)) rfl rfl (by decide) rfl ⟨g_721, hwd_c rfl g_724, g_6, by decide, (show (parseMethodDescriptor fM_charge.1.desc).map (fun d => d.parameters.length) = some 1 from by decide +kernel), by decide, by decide, ?_, ?_⟩ g_722 g_723 rfl rfl (Nat.le_of_ble_eq_true rfl) (by decide +kernel) (fun r G M2 h => ?_)
  · show uc + fL_charge.2.2.2.2.1.cells + fM_charge.2.2.2.2.1.cells ≤ 601024; have : fL_charge.2.2.2.2.1.cells ≤ 5 := by decide
    have : fM_charge.2.2.2.2.1.cells = 0 := rfl
    omega
  · show us + fL_charge.2.2.2.2.1.slots + fM_charge.2.2.2.2.1.slots ≤ 7293034; have : fL_charge.2.2.2.2.1.slots ≤ 30 := by decide
    have : fM_charge.2.2.2.2.1.slots = 0 := rfl
    omega
  obtain ⟨rfl, rfl, rm, fq, ct⟩ := h
  show WM K fL_law E 590 [some (aX b), some (aR 0), some (aR 63), some (aR 79), some (aI i), some (aI (aChg S (xs (i + 1))).1.1), none] [aI (vl (aChg S (xs (i + 1))).1)] GG M2 _ _
  refine s_istore (i := 6) (by decide +kernel) (by decide) ?_
  show WM K fL_law E _ [some (aX b), some (aR 0), some (aR 63), some (aR 79), some (aI i), some (aI (aChg S (xs (i + 1))).1.1), some (aI (vl (aChg S (xs (i + 1))).1))] [] GG M2 _ _
  refine s_aload_n (i := 2) (by decide +kernel) rfl ?_
  refine s_callV (Fc := fM_thrown) (index := 92) (ci := 5) (as := []) (rest := []) rfl (EM_thrown hst (BM_thrown_0 (Q := fun r G M3 => r = .inl (some (aI (M2 63 0))) ∧ G = GG ∧ M3 = M2) ⟨rfl, rfl, rfl⟩)) rfl rfl (by decide) rfl ⟨g_639, hl_thr, g_6, by decide, (show (parseMethodDescriptor fM_thrown.1.desc).map (fun d => d.parameters.length) = some 0 from by decide +kernel), by decide, by decide, ?_, ?_⟩ g_640 g_641 rfl rfl (Nat.le_of_ble_eq_true rfl) (by decide +kernel) (fun r G M3 h => ?_)
  · show uc + fL_charge.2.2.2.2.1.cells + fM_charge.2.2.2.2.1.cells + 0 ≤ 601024; have : fL_charge.2.2.2.2.1.cells ≤ 5 := by decide
    have : fM_charge.2.2.2.2.1.cells = 0 := rfl
    omega
  · show us + fL_charge.2.2.2.2.1.slots + fM_charge.2.2.2.2.1.slots + 0 ≤ 7293034; have : fL_charge.2.2.2.2.1.slots ≤ 30 := by decide
    have : fM_charge.2.2.2.2.1.slots = 0 := rfl
    omega
  obtain ⟨rfl, rfl, rfl⟩ := h
  show WM K fL_law E 596 [some (aX b), some (aR 0), some (aR 63), some (aR 79), some (aI i), some (aI (aChg S (xs (i + 1))).1.1), some (aI (vl (aChg S (xs (i + 1))).1))] [aI (M3 63 0)] GG M3 _ _
  refine s_iload (i := 5) (by decide +kernel) rfl ?_
  have hk := k_charge (S := S) (p := xs (i + 1))
  refine s_icmp_eq (off := 5) (tgt := 603) (by decide +kernel) (by decide) (fun c => ?_) (fun c => absurd (by rw [ct]) c)
  have done : WM K fL_law E 620 [some (aX b), some (aR 0), some (aR 63), some (aR 79), some (aI i), some (aI (aChg S (xs (i + 1))).1.1), some (aI (vl (aChg S (xs (i + 1))).1))] [] GG M3 (uc + fL_charge.2.2.2.2.1.cells + fM_charge.2.2.2.2.1.cells + 0) (us + fL_charge.2.2.2.2.1.slots + fM_charge.2.2.2.2.1.slots + 0) := by
    refine s_goto (off := 845) (tgt := 1465) (by decide +kernel) (by decide) ?_
    refine s_loc (L' := [some (aX b), some (aR 0), some (aR 63), some (aR 79), some (aI i), none, none]) (ll_s (ll_s (ll_s (ll_s (ll_s (ll_n (ll_n ll_nil))))))) ?_
    have e1 : fL_charge.2.2.2.2.1.cells ≤ 5 := by decide
    have e2 : fM_charge.2.2.2.2.1.cells = 0 := rfl
    have e3 : fL_charge.2.2.2.2.1.slots ≤ 30 := by decide
    have e4 : fM_charge.2.2.2.2.1.slots = 0 := rfl
    exact s_wid (by omega) (by omega) (k (aChg S (xs (i + 1))).2 M3 (i_aChg hI _) (rx.fq fq) rm)
  refine s_iload (i := 5) (by decide +kernel) rfl ?_
  refine s_if_ne (off := 15) (tgt := 620) (by decide +kernel) (by decide) (fun _ => done) (fun c2 => ?_)
  rw [wrn (by omega)] at c2
  have h0 : (aChg S (xs (i + 1))).1.1 = 0 := by omega
  refine s_aload_n (i := 3) (by decide +kernel) rfl ?_
  refine s_iconst (n := 0) (by decide +kernel) ?_
  refine s_lald (j := 0) (n := 1) (rs := []) rfl wr_0 (by omega) (by decide +kernel) ?_
  refine s_iload (i := 6) (by decide +kernel) rfl ?_
  refine s_i2l (by decide +kernel) ?_
  refine s_lcmp (by decide +kernel) ?_
  have e7 : M3 79 0 = wr (vl (aChg S (xs (i + 1))).1) := by rw [fq 79 0 (by omega), ow h0]; unfold vl; rw [if_pos h0]
  rw [e7]
  exact s_if_eq (off := 5) (tgt := 620) (by decide +kernel) (by decide) (fun _ => done) (fun c3 => absurd wcmp_s c3)
set_option maxRecDepth 20000 in
theorem w_step (hst : K.1.stackTraces = false) (hX : XE E b N xs) (hr : ∀ j, R32 (xs j)) (hi : i + 3 ≤ N) (hN : N ≤ 1536) (hI : Inv S) (hRX : RX S M) (hRM : RM S M) (hu : uc + 6 ≤ 601024 ∧ us + 40 ≤ 7293034) (k : LK K E b i uc us) : WM K fL_law E 686 [some (aX b), some (aR 0), some (aR 63), some (aR 79), some (aI i), none, none] [] GG M uc us := by
  refine s_aload_n (i := 1) (by decide +kernel) rfl ?_
  refine s_aloadX_n (i := 0) (by decide +kernel) rfl ?_
  refine s_iload (i := 4) (by decide +kernel) rfl ?_
  refine s_iconst (n := 1) (by decide +kernel) ?_
  refine s_iadd (by decide +kernel) ?_
  refine s_sld (j := i + 1) hX (wrn (n := i + 1) (by omega)) (by omega) (by decide +kernel) ?_
  refine s_aload_n (i := 3) (by decide +kernel) rfl ?_
  refine s_callSH (Fc := fL_step) (index := 119) (as := [aR 0, aI (xs (i + 1)), aR 79]) (rest := []) rfl (l_step hst hI hRX (hr _) (Q := fun r G M1 => r = .inl (some (aI (aStp S (xs (i + 1))).1.1)) ∧ G = GG ∧ RX (aStp S (xs (i + 1))).2 M1 ∧ FW M M1 ∧ ((aStp S (xs (i + 1))).1.1 = 0 → M1 79 0 = wr (aStp S (xs (i + 1))).1.2)) (fun M1 r1 f1 o1 => ⟨rfl, rfl, r1, f1, o1⟩)) ⟨g_447, hwd_h (by decide) g_449, g_0, by decide, (show (parseMethodDescriptor fL_step.1.desc).map (fun d => d.parameters.length) = some 3 from by decide +kernel), by decide, by decide, ?_, ?_⟩ g_448 (by decide) rfl (Nat.le_of_ble_eq_true rfl) (by decide +kernel) (fun r G M1 h => ?_)
  · show uc + fL_step.2.2.2.2.1.cells ≤ 601024; have : fL_step.2.2.2.2.1.cells ≤ 5 := by decide
    omega
  · show us + fL_step.2.2.2.2.1.slots ≤ 7293034; have : fL_step.2.2.2.2.1.slots ≤ 30 := by decide
    omega
  obtain ⟨rfl, rfl, rx, fw, ow⟩ := h
  show WM K fL_law E 697 [some (aX b), some (aR 0), some (aR 63), some (aR 79), some (aI i), none, none] [aI (aStp S (xs (i + 1))).1.1] GG M1 _ _
  refine s_istore (i := 5) (by decide +kernel) (by decide) ?_
  show WM K fL_law E _ [some (aX b), some (aR 0), some (aR 63), some (aR 79), some (aI i), some (aI (aStp S (xs (i + 1))).1.1), none] [] GG M1 _ _
  refine s_aload_n (i := 2) (by decide +kernel) rfl ?_
  refine s_aloadX_n (i := 0) (by decide +kernel) rfl ?_
  refine s_iload (i := 4) (by decide +kernel) rfl ?_
  refine s_iconst (n := 1) (by decide +kernel) ?_
  refine s_iadd (by decide +kernel) ?_
  refine s_sld (j := i + 1) hX (wrn (n := i + 1) (by omega)) (by omega) (by decide +kernel) ?_
  refine s_callV (Fc := fM_step) (index := 121) (ci := 5) (as := [aI (xs (i + 1))]) (rest := []) rfl (m_step hst hI (hRM.fx fw) (hr _) (Q := fun r G M2 => r = .inl (some (aI (vl (aStp S (xs (i + 1))).1))) ∧ G = GG ∧ RM (aStp S (xs (i + 1))).2 M2 ∧ FQ M1 M2 ∧ M2 63 0 = ((aStp S (xs (i + 1))).1.1 : Int)) (fun M2 r2 f2 c2 => ⟨rfl, rfl, r2, f2, c2⟩)) rfl rfl (by decide) rfl ⟨g_741, hwd_c rfl g_744, g_6, by decide, (show (parseMethodDescriptor fM_step.1.desc).map (fun d => d.parameters.length) = some 1 from by decide +kernel), by decide, by decide, ?_, ?_⟩ g_742 g_743 rfl rfl (Nat.le_of_ble_eq_true rfl) (by decide +kernel) (fun r G M2 h => ?_)
  · show uc + fL_step.2.2.2.2.1.cells + fM_step.2.2.2.2.1.cells ≤ 601024; have : fL_step.2.2.2.2.1.cells ≤ 5 := by decide
    have : fM_step.2.2.2.2.1.cells = 0 := rfl
    omega
  · show us + fL_step.2.2.2.2.1.slots + fM_step.2.2.2.2.1.slots ≤ 7293034; have : fL_step.2.2.2.2.1.slots ≤ 30 := by decide
    have : fM_step.2.2.2.2.1.slots = 0 := rfl
    omega
  obtain ⟨rfl, rfl, rm, fq, ct⟩ := h
  show WM K fL_law E 709 [some (aX b), some (aR 0), some (aR 63), some (aR 79), some (aI i), some (aI (aStp S (xs (i + 1))).1.1), none] [aI (vl (aStp S (xs (i + 1))).1)] GG M2 _ _
  refine s_istore (i := 6) (by decide +kernel) (by decide) ?_
  show WM K fL_law E _ [some (aX b), some (aR 0), some (aR 63), some (aR 79), some (aI i), some (aI (aStp S (xs (i + 1))).1.1), some (aI (vl (aStp S (xs (i + 1))).1))] [] GG M2 _ _
  refine s_aload_n (i := 2) (by decide +kernel) rfl ?_
  refine s_callV (Fc := fM_thrown) (index := 92) (ci := 5) (as := []) (rest := []) rfl (EM_thrown hst (BM_thrown_0 (Q := fun r G M3 => r = .inl (some (aI (M2 63 0))) ∧ G = GG ∧ M3 = M2) ⟨rfl, rfl, rfl⟩)) rfl rfl (by decide) rfl ⟨g_639, hl_thr, g_6, by decide, (show (parseMethodDescriptor fM_thrown.1.desc).map (fun d => d.parameters.length) = some 0 from by decide +kernel), by decide, by decide, ?_, ?_⟩ g_640 g_641 rfl rfl (Nat.le_of_ble_eq_true rfl) (by decide +kernel) (fun r G M3 h => ?_)
  · show uc + fL_step.2.2.2.2.1.cells + fM_step.2.2.2.2.1.cells + 0 ≤ 601024; have : fL_step.2.2.2.2.1.cells ≤ 5 := by decide
    have : fM_step.2.2.2.2.1.cells = 0 := rfl
    omega
  · show us + fL_step.2.2.2.2.1.slots + fM_step.2.2.2.2.1.slots + 0 ≤ 7293034; have : fL_step.2.2.2.2.1.slots ≤ 30 := by decide
    have : fM_step.2.2.2.2.1.slots = 0 := rfl
    omega
  obtain ⟨rfl, rfl, rfl⟩ := h
  show WM K fL_law E 715 [some (aX b), some (aR 0), some (aR 63), some (aR 79), some (aI i), some (aI (aStp S (xs (i + 1))).1.1), some (aI (vl (aStp S (xs (i + 1))).1))] [aI (M3 63 0)] GG M3 _ _
  refine s_iload (i := 5) (by decide +kernel) rfl ?_
  have hk := k_step (S := S) (p := xs (i + 1))
  refine s_icmp_eq (off := 5) (tgt := 722) (by decide +kernel) (by decide) (fun c => ?_) (fun c => absurd (by rw [ct]) c)
  have done : WM K fL_law E 739 [some (aX b), some (aR 0), some (aR 63), some (aR 79), some (aI i), some (aI (aStp S (xs (i + 1))).1.1), some (aI (vl (aStp S (xs (i + 1))).1))] [] GG M3 (uc + fL_step.2.2.2.2.1.cells + fM_step.2.2.2.2.1.cells + 0) (us + fL_step.2.2.2.2.1.slots + fM_step.2.2.2.2.1.slots + 0) := by
    refine s_goto (off := 726) (tgt := 1465) (by decide +kernel) (by decide) ?_
    refine s_loc (L' := [some (aX b), some (aR 0), some (aR 63), some (aR 79), some (aI i), none, none]) (ll_s (ll_s (ll_s (ll_s (ll_s (ll_n (ll_n ll_nil))))))) ?_
    have e1 : fL_step.2.2.2.2.1.cells ≤ 5 := by decide
    have e2 : fM_step.2.2.2.2.1.cells = 0 := rfl
    have e3 : fL_step.2.2.2.2.1.slots ≤ 30 := by decide
    have e4 : fM_step.2.2.2.2.1.slots = 0 := rfl
    exact s_wid (by omega) (by omega) (k (aStp S (xs (i + 1))).2 M3 (i_aStp hI _) (rx.fq fq) rm)
  refine s_iload (i := 5) (by decide +kernel) rfl ?_
  refine s_if_ne (off := 15) (tgt := 739) (by decide +kernel) (by decide) (fun _ => done) (fun c2 => ?_)
  rw [wrn (by omega)] at c2
  have h0 : (aStp S (xs (i + 1))).1.1 = 0 := by omega
  refine s_aload_n (i := 3) (by decide +kernel) rfl ?_
  refine s_iconst (n := 0) (by decide +kernel) ?_
  refine s_lald (j := 0) (n := 1) (rs := []) rfl wr_0 (by omega) (by decide +kernel) ?_
  refine s_iload (i := 6) (by decide +kernel) rfl ?_
  refine s_i2l (by decide +kernel) ?_
  refine s_lcmp (by decide +kernel) ?_
  have e7 : M3 79 0 = wr (vl (aStp S (xs (i + 1))).1) := by rw [fq 79 0 (by omega), ow h0]; unfold vl; rw [if_pos h0]
  rw [e7]
  exact s_if_eq (off := 5) (tgt := 739) (by decide +kernel) (by decide) (fun _ => done) (fun c3 => absurd wcmp_s c3)
set_option maxRecDepth 20000 in
theorem w_tick (hst : K.1.stackTraces = false) (hX : XE E b N xs) (hr : ∀ j, R32 (xs j)) (hi : i + 3 ≤ N) (hN : N ≤ 1536) (hI : Inv S) (hRX : RX S M) (hRM : RM S M) (hu : uc + 6 ≤ 601024 ∧ us + 40 ≤ 7293034) (k : LK K E b i uc us) : WM K fL_law E 742 [some (aX b), some (aR 0), some (aR 63), some (aR 79), some (aI i), none, none] [] GG M uc us := by
  refine s_aload_n (i := 1) (by decide +kernel) rfl ?_
  refine s_aloadX_n (i := 0) (by decide +kernel) rfl ?_
  refine s_iload (i := 4) (by decide +kernel) rfl ?_
  refine s_iconst (n := 1) (by decide +kernel) ?_
  refine s_iadd (by decide +kernel) ?_
  refine s_sld (j := i + 1) hX (wrn (n := i + 1) (by omega)) (by omega) (by decide +kernel) ?_
  refine s_aload_n (i := 3) (by decide +kernel) rfl ?_
  refine s_callSH (Fc := fL_tick) (index := 122) (as := [aR 0, aI (xs (i + 1)), aR 79]) (rest := []) rfl (l_tick hst hI hRX (hr _) (Q := fun r G M1 => r = .inl (some (aI (aTck S (xs (i + 1))).1.1)) ∧ G = GG ∧ RX (aTck S (xs (i + 1))).2 M1 ∧ FW M M1 ∧ ((aTck S (xs (i + 1))).1.1 = 0 → M1 79 0 = wr (aTck S (xs (i + 1))).1.2)) (fun M1 r1 f1 o1 => ⟨rfl, rfl, r1, f1, o1⟩)) ⟨g_464, hwd_h (by decide) g_466, g_0, by decide, (show (parseMethodDescriptor fL_tick.1.desc).map (fun d => d.parameters.length) = some 3 from by decide +kernel), by decide, by decide, ?_, ?_⟩ g_465 (by decide) rfl (Nat.le_of_ble_eq_true rfl) (by decide +kernel) (fun r G M1 h => ?_)
  · show uc + fL_tick.2.2.2.2.1.cells ≤ 601024; have : fL_tick.2.2.2.2.1.cells ≤ 5 := by decide
    omega
  · show us + fL_tick.2.2.2.2.1.slots ≤ 7293034; have : fL_tick.2.2.2.2.1.slots ≤ 30 := by decide
    omega
  obtain ⟨rfl, rfl, rx, fw, ow⟩ := h
  show WM K fL_law E 753 [some (aX b), some (aR 0), some (aR 63), some (aR 79), some (aI i), none, none] [aI (aTck S (xs (i + 1))).1.1] GG M1 _ _
  refine s_istore (i := 5) (by decide +kernel) (by decide) ?_
  show WM K fL_law E _ [some (aX b), some (aR 0), some (aR 63), some (aR 79), some (aI i), some (aI (aTck S (xs (i + 1))).1.1), none] [] GG M1 _ _
  refine s_aload_n (i := 2) (by decide +kernel) rfl ?_
  refine s_aloadX_n (i := 0) (by decide +kernel) rfl ?_
  refine s_iload (i := 4) (by decide +kernel) rfl ?_
  refine s_iconst (n := 1) (by decide +kernel) ?_
  refine s_iadd (by decide +kernel) ?_
  refine s_sld (j := i + 1) hX (wrn (n := i + 1) (by omega)) (by omega) (by decide +kernel) ?_
  refine s_callV (Fc := fM_tick) (index := 124) (ci := 5) (as := [aI (xs (i + 1))]) (rest := []) rfl (m_tick hst hI (hRM.fx fw) (hr _) (Q := fun r G M2 => r = .inl (some (aI (vl (aTck S (xs (i + 1))).1))) ∧ G = GG ∧ RM (aTck S (xs (i + 1))).2 M2 ∧ FQ M1 M2 ∧ M2 63 0 = ((aTck S (xs (i + 1))).1.1 : Int)) (fun M2 r2 f2 c2 => ⟨rfl, rfl, r2, f2, c2⟩)) rfl rfl (by decide) rfl ⟨g_749, hwd_c rfl g_752, g_6, by decide, (show (parseMethodDescriptor fM_tick.1.desc).map (fun d => d.parameters.length) = some 1 from by decide +kernel), by decide, by decide, ?_, ?_⟩ g_750 g_751 rfl rfl (Nat.le_of_ble_eq_true rfl) (by decide +kernel) (fun r G M2 h => ?_)
  · show uc + fL_tick.2.2.2.2.1.cells + fM_tick.2.2.2.2.1.cells ≤ 601024; have : fL_tick.2.2.2.2.1.cells ≤ 5 := by decide
    have : fM_tick.2.2.2.2.1.cells = 0 := rfl
    omega
  · show us + fL_tick.2.2.2.2.1.slots + fM_tick.2.2.2.2.1.slots ≤ 7293034; have : fL_tick.2.2.2.2.1.slots ≤ 30 := by decide
    have : fM_tick.2.2.2.2.1.slots = 0 := rfl
    omega
  obtain ⟨rfl, rfl, rm, fq, ct⟩ := h
  show WM K fL_law E 765 [some (aX b), some (aR 0), some (aR 63), some (aR 79), some (aI i), some (aI (aTck S (xs (i + 1))).1.1), none] [aI (vl (aTck S (xs (i + 1))).1)] GG M2 _ _
  refine s_istore (i := 6) (by decide +kernel) (by decide) ?_
  show WM K fL_law E _ [some (aX b), some (aR 0), some (aR 63), some (aR 79), some (aI i), some (aI (aTck S (xs (i + 1))).1.1), some (aI (vl (aTck S (xs (i + 1))).1))] [] GG M2 _ _
  refine s_aload_n (i := 2) (by decide +kernel) rfl ?_
  refine s_callV (Fc := fM_thrown) (index := 92) (ci := 5) (as := []) (rest := []) rfl (EM_thrown hst (BM_thrown_0 (Q := fun r G M3 => r = .inl (some (aI (M2 63 0))) ∧ G = GG ∧ M3 = M2) ⟨rfl, rfl, rfl⟩)) rfl rfl (by decide) rfl ⟨g_639, hl_thr, g_6, by decide, (show (parseMethodDescriptor fM_thrown.1.desc).map (fun d => d.parameters.length) = some 0 from by decide +kernel), by decide, by decide, ?_, ?_⟩ g_640 g_641 rfl rfl (Nat.le_of_ble_eq_true rfl) (by decide +kernel) (fun r G M3 h => ?_)
  · show uc + fL_tick.2.2.2.2.1.cells + fM_tick.2.2.2.2.1.cells + 0 ≤ 601024; have : fL_tick.2.2.2.2.1.cells ≤ 5 := by decide
    have : fM_tick.2.2.2.2.1.cells = 0 := rfl
    omega
  · show us + fL_tick.2.2.2.2.1.slots + fM_tick.2.2.2.2.1.slots + 0 ≤ 7293034; have : fL_tick.2.2.2.2.1.slots ≤ 30 := by decide
    have : fM_tick.2.2.2.2.1.slots = 0 := rfl
    omega
  obtain ⟨rfl, rfl, rfl⟩ := h
  show WM K fL_law E 771 [some (aX b), some (aR 0), some (aR 63), some (aR 79), some (aI i), some (aI (aTck S (xs (i + 1))).1.1), some (aI (vl (aTck S (xs (i + 1))).1))] [aI (M3 63 0)] GG M3 _ _
  refine s_iload (i := 5) (by decide +kernel) rfl ?_
  have hk := k_tick (S := S) (p := xs (i + 1))
  refine s_icmp_eq (off := 5) (tgt := 778) (by decide +kernel) (by decide) (fun c => ?_) (fun c => absurd (by rw [ct]) c)
  have done : WM K fL_law E 795 [some (aX b), some (aR 0), some (aR 63), some (aR 79), some (aI i), some (aI (aTck S (xs (i + 1))).1.1), some (aI (vl (aTck S (xs (i + 1))).1))] [] GG M3 (uc + fL_tick.2.2.2.2.1.cells + fM_tick.2.2.2.2.1.cells + 0) (us + fL_tick.2.2.2.2.1.slots + fM_tick.2.2.2.2.1.slots + 0) := by
    refine s_goto (off := 670) (tgt := 1465) (by decide +kernel) (by decide) ?_
    refine s_loc (L' := [some (aX b), some (aR 0), some (aR 63), some (aR 79), some (aI i), none, none]) (ll_s (ll_s (ll_s (ll_s (ll_s (ll_n (ll_n ll_nil))))))) ?_
    have e1 : fL_tick.2.2.2.2.1.cells ≤ 5 := by decide
    have e2 : fM_tick.2.2.2.2.1.cells = 0 := rfl
    have e3 : fL_tick.2.2.2.2.1.slots ≤ 30 := by decide
    have e4 : fM_tick.2.2.2.2.1.slots = 0 := rfl
    exact s_wid (by omega) (by omega) (k (aTck S (xs (i + 1))).2 M3 (i_aTck hI _) (rx.fq fq) rm)
  refine s_iload (i := 5) (by decide +kernel) rfl ?_
  refine s_if_ne (off := 15) (tgt := 795) (by decide +kernel) (by decide) (fun _ => done) (fun c2 => ?_)
  rw [wrn (by omega)] at c2
  have h0 : (aTck S (xs (i + 1))).1.1 = 0 := by omega
  refine s_aload_n (i := 3) (by decide +kernel) rfl ?_
  refine s_iconst (n := 0) (by decide +kernel) ?_
  refine s_lald (j := 0) (n := 1) (rs := []) rfl wr_0 (by omega) (by decide +kernel) ?_
  refine s_iload (i := 6) (by decide +kernel) rfl ?_
  refine s_i2l (by decide +kernel) ?_
  refine s_lcmp (by decide +kernel) ?_
  have e7 : M3 79 0 = wr (vl (aTck S (xs (i + 1))).1) := by rw [fq 79 0 (by omega), ow h0]; unfold vl; rw [if_pos h0]
  rw [e7]
  exact s_if_eq (off := 5) (tgt := 795) (by decide +kernel) (by decide) (fun _ => done) (fun c3 => absurd wcmp_s c3)
set_option maxRecDepth 20000 in
theorem w_addJob (hst : K.1.stackTraces = false) (hX : XE E b N xs) (hr : ∀ j, R32 (xs j)) (hi : i + 3 ≤ N) (hN : N ≤ 1536) (hI : Inv S) (hRX : RX S M) (hRM : RM S M) (hu : uc + 6 ≤ 601024 ∧ us + 40 ≤ 7293034) (k : LK K E b i uc us) : WM K fL_law E 798 [some (aX b), some (aR 0), some (aR 63), some (aR 79), some (aI i), none, none] [] GG M uc us := by
  refine s_aload_n (i := 1) (by decide +kernel) rfl ?_
  refine s_aloadX_n (i := 0) (by decide +kernel) rfl ?_
  refine s_iload (i := 4) (by decide +kernel) rfl ?_
  refine s_iconst (n := 1) (by decide +kernel) ?_
  refine s_iadd (by decide +kernel) ?_
  refine s_sld (j := i + 1) hX (wrn (n := i + 1) (by omega)) (by omega) (by decide +kernel) ?_
  refine s_aload_n (i := 3) (by decide +kernel) rfl ?_
  refine s_callSH (Fc := fL_addJob) (index := 125) (as := [aR 0, aI (xs (i + 1)), aR 79]) (rest := []) rfl (l_addJob hst hI hRX (hr _) (Q := fun r G M1 => r = .inl (some (aI (aJob S (xs (i + 1))).1.1)) ∧ G = GG ∧ RX (aJob S (xs (i + 1))).2 M1 ∧ FW M M1 ∧ ((aJob S (xs (i + 1))).1.1 = 0 → M1 79 0 = wr (aJob S (xs (i + 1))).1.2)) (fun M1 r1 f1 o1 => ⟨rfl, rfl, r1, f1, o1⟩)) ⟨g_476, hwd_h (by decide) g_478, g_0, by decide, (show (parseMethodDescriptor fL_addJob.1.desc).map (fun d => d.parameters.length) = some 3 from by decide +kernel), by decide, by decide, ?_, ?_⟩ g_477 (by decide) rfl (Nat.le_of_ble_eq_true rfl) (by decide +kernel) (fun r G M1 h => ?_)
  · show uc + fL_addJob.2.2.2.2.1.cells ≤ 601024; have : fL_addJob.2.2.2.2.1.cells ≤ 5 := by decide
    omega
  · show us + fL_addJob.2.2.2.2.1.slots ≤ 7293034; have : fL_addJob.2.2.2.2.1.slots ≤ 30 := by decide
    omega
  obtain ⟨rfl, rfl, rx, fw, ow⟩ := h
  show WM K fL_law E 809 [some (aX b), some (aR 0), some (aR 63), some (aR 79), some (aI i), none, none] [aI (aJob S (xs (i + 1))).1.1] GG M1 _ _
  refine s_istore (i := 5) (by decide +kernel) (by decide) ?_
  show WM K fL_law E _ [some (aX b), some (aR 0), some (aR 63), some (aR 79), some (aI i), some (aI (aJob S (xs (i + 1))).1.1), none] [] GG M1 _ _
  refine s_aload_n (i := 2) (by decide +kernel) rfl ?_
  refine s_aloadX_n (i := 0) (by decide +kernel) rfl ?_
  refine s_iload (i := 4) (by decide +kernel) rfl ?_
  refine s_iconst (n := 1) (by decide +kernel) ?_
  refine s_iadd (by decide +kernel) ?_
  refine s_sld (j := i + 1) hX (wrn (n := i + 1) (by omega)) (by omega) (by decide +kernel) ?_
  refine s_callV (Fc := fM_addJob) (index := 127) (ci := 5) (as := [aI (xs (i + 1))]) (rest := []) rfl (m_addJob hst hI (hRM.fx fw) (hr _) (Q := fun r G M2 => r = .inl (some (aI (vl (aJob S (xs (i + 1))).1))) ∧ G = GG ∧ RM (aJob S (xs (i + 1))).2 M2 ∧ FQ M1 M2 ∧ M2 63 0 = ((aJob S (xs (i + 1))).1.1 : Int)) (fun M2 r2 f2 c2 => ⟨rfl, rfl, r2, f2, c2⟩)) rfl rfl (by decide) rfl ⟨g_753, hwd_c rfl g_756, g_6, by decide, (show (parseMethodDescriptor fM_addJob.1.desc).map (fun d => d.parameters.length) = some 1 from by decide +kernel), by decide, by decide, ?_, ?_⟩ g_754 g_755 rfl rfl (Nat.le_of_ble_eq_true rfl) (by decide +kernel) (fun r G M2 h => ?_)
  · show uc + fL_addJob.2.2.2.2.1.cells + fM_addJob.2.2.2.2.1.cells ≤ 601024; have : fL_addJob.2.2.2.2.1.cells ≤ 5 := by decide
    have : fM_addJob.2.2.2.2.1.cells = 0 := rfl
    omega
  · show us + fL_addJob.2.2.2.2.1.slots + fM_addJob.2.2.2.2.1.slots ≤ 7293034; have : fL_addJob.2.2.2.2.1.slots ≤ 30 := by decide
    have : fM_addJob.2.2.2.2.1.slots = 0 := rfl
    omega
  obtain ⟨rfl, rfl, rm, fq, ct⟩ := h
  show WM K fL_law E 821 [some (aX b), some (aR 0), some (aR 63), some (aR 79), some (aI i), some (aI (aJob S (xs (i + 1))).1.1), none] [aI (vl (aJob S (xs (i + 1))).1)] GG M2 _ _
  refine s_istore (i := 6) (by decide +kernel) (by decide) ?_
  show WM K fL_law E _ [some (aX b), some (aR 0), some (aR 63), some (aR 79), some (aI i), some (aI (aJob S (xs (i + 1))).1.1), some (aI (vl (aJob S (xs (i + 1))).1))] [] GG M2 _ _
  refine s_aload_n (i := 2) (by decide +kernel) rfl ?_
  refine s_callV (Fc := fM_thrown) (index := 92) (ci := 5) (as := []) (rest := []) rfl (EM_thrown hst (BM_thrown_0 (Q := fun r G M3 => r = .inl (some (aI (M2 63 0))) ∧ G = GG ∧ M3 = M2) ⟨rfl, rfl, rfl⟩)) rfl rfl (by decide) rfl ⟨g_639, hl_thr, g_6, by decide, (show (parseMethodDescriptor fM_thrown.1.desc).map (fun d => d.parameters.length) = some 0 from by decide +kernel), by decide, by decide, ?_, ?_⟩ g_640 g_641 rfl rfl (Nat.le_of_ble_eq_true rfl) (by decide +kernel) (fun r G M3 h => ?_)
  · show uc + fL_addJob.2.2.2.2.1.cells + fM_addJob.2.2.2.2.1.cells + 0 ≤ 601024; have : fL_addJob.2.2.2.2.1.cells ≤ 5 := by decide
    have : fM_addJob.2.2.2.2.1.cells = 0 := rfl
    omega
  · show us + fL_addJob.2.2.2.2.1.slots + fM_addJob.2.2.2.2.1.slots + 0 ≤ 7293034; have : fL_addJob.2.2.2.2.1.slots ≤ 30 := by decide
    have : fM_addJob.2.2.2.2.1.slots = 0 := rfl
    omega
  obtain ⟨rfl, rfl, rfl⟩ := h
  show WM K fL_law E 827 [some (aX b), some (aR 0), some (aR 63), some (aR 79), some (aI i), some (aI (aJob S (xs (i + 1))).1.1), some (aI (vl (aJob S (xs (i + 1))).1))] [aI (M3 63 0)] GG M3 _ _
  refine s_iload (i := 5) (by decide +kernel) rfl ?_
  have hk := k_addJob (S := S) (p := xs (i + 1))
  refine s_icmp_eq (off := 5) (tgt := 834) (by decide +kernel) (by decide) (fun c => ?_) (fun c => absurd (by rw [ct]) c)
  have done : WM K fL_law E 851 [some (aX b), some (aR 0), some (aR 63), some (aR 79), some (aI i), some (aI (aJob S (xs (i + 1))).1.1), some (aI (vl (aJob S (xs (i + 1))).1))] [] GG M3 (uc + fL_addJob.2.2.2.2.1.cells + fM_addJob.2.2.2.2.1.cells + 0) (us + fL_addJob.2.2.2.2.1.slots + fM_addJob.2.2.2.2.1.slots + 0) := by
    refine s_goto (off := 614) (tgt := 1465) (by decide +kernel) (by decide) ?_
    refine s_loc (L' := [some (aX b), some (aR 0), some (aR 63), some (aR 79), some (aI i), none, none]) (ll_s (ll_s (ll_s (ll_s (ll_s (ll_n (ll_n ll_nil))))))) ?_
    have e1 : fL_addJob.2.2.2.2.1.cells ≤ 5 := by decide
    have e2 : fM_addJob.2.2.2.2.1.cells = 0 := rfl
    have e3 : fL_addJob.2.2.2.2.1.slots ≤ 30 := by decide
    have e4 : fM_addJob.2.2.2.2.1.slots = 0 := rfl
    exact s_wid (by omega) (by omega) (k (aJob S (xs (i + 1))).2 M3 (i_aJob hI _) (rx.fq fq) rm)
  refine s_iload (i := 5) (by decide +kernel) rfl ?_
  refine s_if_ne (off := 15) (tgt := 851) (by decide +kernel) (by decide) (fun _ => done) (fun c2 => ?_)
  rw [wrn (by omega)] at c2
  have h0 : (aJob S (xs (i + 1))).1.1 = 0 := by omega
  refine s_aload_n (i := 3) (by decide +kernel) rfl ?_
  refine s_iconst (n := 0) (by decide +kernel) ?_
  refine s_lald (j := 0) (n := 1) (rs := []) rfl wr_0 (by omega) (by decide +kernel) ?_
  refine s_iload (i := 6) (by decide +kernel) rfl ?_
  refine s_i2l (by decide +kernel) ?_
  refine s_lcmp (by decide +kernel) ?_
  have e7 : M3 79 0 = wr (vl (aJob S (xs (i + 1))).1) := by rw [fq 79 0 (by omega), ow h0]; unfold vl; rw [if_pos h0]
  rw [e7]
  exact s_if_eq (off := 5) (tgt := 851) (by decide +kernel) (by decide) (fun _ => done) (fun c3 => absurd wcmp_s c3)
set_option maxRecDepth 20000 in
theorem w_jobState (hst : K.1.stackTraces = false) (hX : XE E b N xs) (hr : ∀ j, R32 (xs j)) (hi : i + 3 ≤ N) (hN : N ≤ 1536) (hI : Inv S) (hRX : RX S M) (hRM : RM S M) (hu : uc + 6 ≤ 601024 ∧ us + 40 ≤ 7293034) (k : LK K E b i uc us) : WM K fL_law E 867 [some (aX b), some (aR 0), some (aR 63), some (aR 79), some (aI i), none, none] [] GG M uc us := by
  refine s_aload_n (i := 1) (by decide +kernel) rfl ?_
  refine s_aloadX_n (i := 0) (by decide +kernel) rfl ?_
  refine s_iload (i := 4) (by decide +kernel) rfl ?_
  refine s_iconst (n := 1) (by decide +kernel) ?_
  refine s_iadd (by decide +kernel) ?_
  refine s_sld (j := i + 1) hX (wrn (n := i + 1) (by omega)) (by omega) (by decide +kernel) ?_
  refine s_aload_n (i := 3) (by decide +kernel) rfl ?_
  refine s_callSH (Fc := fL_jobState) (index := 132) (as := [aR 0, aI (xs (i + 1)), aR 79]) (rest := []) rfl (l_jobState hst hI hRX (hr _) (Q := fun r G M1 => r = .inl (some (aI (aJst S (xs (i + 1))).1.1)) ∧ G = GG ∧ RX (aJst S (xs (i + 1))).2 M1 ∧ FW M M1 ∧ ((aJst S (xs (i + 1))).1.1 = 0 → M1 79 0 = wr (aJst S (xs (i + 1))).1.2)) (fun M1 r1 f1 o1 => ⟨rfl, rfl, r1, f1, o1⟩)) ⟨g_484, hwd_h (by decide) g_486, g_0, by decide, (show (parseMethodDescriptor fL_jobState.1.desc).map (fun d => d.parameters.length) = some 3 from by decide +kernel), by decide, by decide, ?_, ?_⟩ g_485 (by decide) rfl (Nat.le_of_ble_eq_true rfl) (by decide +kernel) (fun r G M1 h => ?_)
  · show uc + fL_jobState.2.2.2.2.1.cells ≤ 601024; have : fL_jobState.2.2.2.2.1.cells ≤ 5 := by decide
    omega
  · show us + fL_jobState.2.2.2.2.1.slots ≤ 7293034; have : fL_jobState.2.2.2.2.1.slots ≤ 30 := by decide
    omega
  obtain ⟨rfl, rfl, rx, fw, ow⟩ := h
  show WM K fL_law E 878 [some (aX b), some (aR 0), some (aR 63), some (aR 79), some (aI i), none, none] [aI (aJst S (xs (i + 1))).1.1] GG M1 _ _
  refine s_istore (i := 5) (by decide +kernel) (by decide) ?_
  show WM K fL_law E _ [some (aX b), some (aR 0), some (aR 63), some (aR 79), some (aI i), some (aI (aJst S (xs (i + 1))).1.1), none] [] GG M1 _ _
  refine s_aload_n (i := 2) (by decide +kernel) rfl ?_
  refine s_aloadX_n (i := 0) (by decide +kernel) rfl ?_
  refine s_iload (i := 4) (by decide +kernel) rfl ?_
  refine s_iconst (n := 1) (by decide +kernel) ?_
  refine s_iadd (by decide +kernel) ?_
  refine s_sld (j := i + 1) hX (wrn (n := i + 1) (by omega)) (by omega) (by decide +kernel) ?_
  refine s_callV (Fc := fM_jobState) (index := 134) (ci := 5) (as := [aI (xs (i + 1))]) (rest := []) rfl (m_jobState hst hI (hRM.fx fw) (hr _) (Q := fun r G M2 => r = .inl (some (aI (vl (aJst S (xs (i + 1))).1))) ∧ G = GG ∧ RM (aJst S (xs (i + 1))).2 M2 ∧ FQ M1 M2 ∧ M2 63 0 = ((aJst S (xs (i + 1))).1.1 : Int)) (fun M2 r2 f2 c2 => ⟨rfl, rfl, r2, f2, c2⟩)) rfl rfl (by decide) rfl ⟨g_769, hwd_c rfl g_772, g_6, by decide, (show (parseMethodDescriptor fM_jobState.1.desc).map (fun d => d.parameters.length) = some 1 from by decide +kernel), by decide, by decide, ?_, ?_⟩ g_770 g_771 rfl rfl (Nat.le_of_ble_eq_true rfl) (by decide +kernel) (fun r G M2 h => ?_)
  · show uc + fL_jobState.2.2.2.2.1.cells + fM_jobState.2.2.2.2.1.cells ≤ 601024; have : fL_jobState.2.2.2.2.1.cells ≤ 5 := by decide
    have : fM_jobState.2.2.2.2.1.cells = 0 := rfl
    omega
  · show us + fL_jobState.2.2.2.2.1.slots + fM_jobState.2.2.2.2.1.slots ≤ 7293034; have : fL_jobState.2.2.2.2.1.slots ≤ 30 := by decide
    have : fM_jobState.2.2.2.2.1.slots = 0 := rfl
    omega
  obtain ⟨rfl, rfl, rm, fq, ct⟩ := h
  show WM K fL_law E 890 [some (aX b), some (aR 0), some (aR 63), some (aR 79), some (aI i), some (aI (aJst S (xs (i + 1))).1.1), none] [aI (vl (aJst S (xs (i + 1))).1)] GG M2 _ _
  refine s_istore (i := 6) (by decide +kernel) (by decide) ?_
  show WM K fL_law E _ [some (aX b), some (aR 0), some (aR 63), some (aR 79), some (aI i), some (aI (aJst S (xs (i + 1))).1.1), some (aI (vl (aJst S (xs (i + 1))).1))] [] GG M2 _ _
  refine s_aload_n (i := 2) (by decide +kernel) rfl ?_
  refine s_callV (Fc := fM_thrown) (index := 92) (ci := 5) (as := []) (rest := []) rfl (EM_thrown hst (BM_thrown_0 (Q := fun r G M3 => r = .inl (some (aI (M2 63 0))) ∧ G = GG ∧ M3 = M2) ⟨rfl, rfl, rfl⟩)) rfl rfl (by decide) rfl ⟨g_639, hl_thr, g_6, by decide, (show (parseMethodDescriptor fM_thrown.1.desc).map (fun d => d.parameters.length) = some 0 from by decide +kernel), by decide, by decide, ?_, ?_⟩ g_640 g_641 rfl rfl (Nat.le_of_ble_eq_true rfl) (by decide +kernel) (fun r G M3 h => ?_)
  · show uc + fL_jobState.2.2.2.2.1.cells + fM_jobState.2.2.2.2.1.cells + 0 ≤ 601024; have : fL_jobState.2.2.2.2.1.cells ≤ 5 := by decide
    have : fM_jobState.2.2.2.2.1.cells = 0 := rfl
    omega
  · show us + fL_jobState.2.2.2.2.1.slots + fM_jobState.2.2.2.2.1.slots + 0 ≤ 7293034; have : fL_jobState.2.2.2.2.1.slots ≤ 30 := by decide
    have : fM_jobState.2.2.2.2.1.slots = 0 := rfl
    omega
  obtain ⟨rfl, rfl, rfl⟩ := h
  show WM K fL_law E 896 [some (aX b), some (aR 0), some (aR 63), some (aR 79), some (aI i), some (aI (aJst S (xs (i + 1))).1.1), some (aI (vl (aJst S (xs (i + 1))).1))] [aI (M3 63 0)] GG M3 _ _
  refine s_iload (i := 5) (by decide +kernel) rfl ?_
  have hk := k_jobState (S := S) (p := xs (i + 1))
  refine s_icmp_eq (off := 5) (tgt := 903) (by decide +kernel) (by decide) (fun c => ?_) (fun c => absurd (by rw [ct]) c)
  have done : WM K fL_law E 920 [some (aX b), some (aR 0), some (aR 63), some (aR 79), some (aI i), some (aI (aJst S (xs (i + 1))).1.1), some (aI (vl (aJst S (xs (i + 1))).1))] [] GG M3 (uc + fL_jobState.2.2.2.2.1.cells + fM_jobState.2.2.2.2.1.cells + 0) (us + fL_jobState.2.2.2.2.1.slots + fM_jobState.2.2.2.2.1.slots + 0) := by
    refine s_goto (off := 545) (tgt := 1465) (by decide +kernel) (by decide) ?_
    refine s_loc (L' := [some (aX b), some (aR 0), some (aR 63), some (aR 79), some (aI i), none, none]) (ll_s (ll_s (ll_s (ll_s (ll_s (ll_n (ll_n ll_nil))))))) ?_
    have e1 : fL_jobState.2.2.2.2.1.cells ≤ 5 := by decide
    have e2 : fM_jobState.2.2.2.2.1.cells = 0 := rfl
    have e3 : fL_jobState.2.2.2.2.1.slots ≤ 30 := by decide
    have e4 : fM_jobState.2.2.2.2.1.slots = 0 := rfl
    exact s_wid (by omega) (by omega) (k (aJst S (xs (i + 1))).2 M3 (i_aJst hI _) (rx.fq fq) rm)
  refine s_iload (i := 5) (by decide +kernel) rfl ?_
  refine s_if_ne (off := 15) (tgt := 920) (by decide +kernel) (by decide) (fun _ => done) (fun c2 => ?_)
  rw [wrn (by omega)] at c2
  have h0 : (aJst S (xs (i + 1))).1.1 = 0 := by omega
  refine s_aload_n (i := 3) (by decide +kernel) rfl ?_
  refine s_iconst (n := 0) (by decide +kernel) ?_
  refine s_lald (j := 0) (n := 1) (rs := []) rfl wr_0 (by omega) (by decide +kernel) ?_
  refine s_iload (i := 6) (by decide +kernel) rfl ?_
  refine s_i2l (by decide +kernel) ?_
  refine s_lcmp (by decide +kernel) ?_
  have e7 : M3 79 0 = wr (vl (aJst S (xs (i + 1))).1) := by rw [fq 79 0 (by omega), ow h0]; unfold vl; rw [if_pos h0]
  rw [e7]
  exact s_if_eq (off := 5) (tgt := 920) (by decide +kernel) (by decide) (fun _ => done) (fun c3 => absurd wcmp_s c3)
set_option maxRecDepth 20000 in
theorem w_jobVehicle (hst : K.1.stackTraces = false) (hX : XE E b N xs) (hr : ∀ j, R32 (xs j)) (hi : i + 3 ≤ N) (hN : N ≤ 1536) (hI : Inv S) (hRX : RX S M) (hRM : RM S M) (hu : uc + 6 ≤ 601024 ∧ us + 40 ≤ 7293034) (k : LK K E b i uc us) : WM K fL_law E 923 [some (aX b), some (aR 0), some (aR 63), some (aR 79), some (aI i), none, none] [] GG M uc us := by
  refine s_aload_n (i := 1) (by decide +kernel) rfl ?_
  refine s_aloadX_n (i := 0) (by decide +kernel) rfl ?_
  refine s_iload (i := 4) (by decide +kernel) rfl ?_
  refine s_iconst (n := 1) (by decide +kernel) ?_
  refine s_iadd (by decide +kernel) ?_
  refine s_sld (j := i + 1) hX (wrn (n := i + 1) (by omega)) (by omega) (by decide +kernel) ?_
  refine s_aload_n (i := 3) (by decide +kernel) rfl ?_
  refine s_callSH (Fc := fL_jobVehicle) (index := 135) (as := [aR 0, aI (xs (i + 1)), aR 79]) (rest := []) rfl (l_jobVehicle hst hI hRX (hr _) (Q := fun r G M1 => r = .inl (some (aI (aJvh S (xs (i + 1))).1.1)) ∧ G = GG ∧ RX (aJvh S (xs (i + 1))).2 M1 ∧ FW M M1 ∧ ((aJvh S (xs (i + 1))).1.1 = 0 → M1 79 0 = wr (aJvh S (xs (i + 1))).1.2)) (fun M1 r1 f1 o1 => ⟨rfl, rfl, r1, f1, o1⟩)) ⟨g_496, hwd_h (by decide) g_498, g_0, by decide, (show (parseMethodDescriptor fL_jobVehicle.1.desc).map (fun d => d.parameters.length) = some 3 from by decide +kernel), by decide, by decide, ?_, ?_⟩ g_497 (by decide) rfl (Nat.le_of_ble_eq_true rfl) (by decide +kernel) (fun r G M1 h => ?_)
  · show uc + fL_jobVehicle.2.2.2.2.1.cells ≤ 601024; have : fL_jobVehicle.2.2.2.2.1.cells ≤ 5 := by decide
    omega
  · show us + fL_jobVehicle.2.2.2.2.1.slots ≤ 7293034; have : fL_jobVehicle.2.2.2.2.1.slots ≤ 30 := by decide
    omega
  obtain ⟨rfl, rfl, rx, fw, ow⟩ := h
  show WM K fL_law E 934 [some (aX b), some (aR 0), some (aR 63), some (aR 79), some (aI i), none, none] [aI (aJvh S (xs (i + 1))).1.1] GG M1 _ _
  refine s_istore (i := 5) (by decide +kernel) (by decide) ?_
  show WM K fL_law E _ [some (aX b), some (aR 0), some (aR 63), some (aR 79), some (aI i), some (aI (aJvh S (xs (i + 1))).1.1), none] [] GG M1 _ _
  refine s_aload_n (i := 2) (by decide +kernel) rfl ?_
  refine s_aloadX_n (i := 0) (by decide +kernel) rfl ?_
  refine s_iload (i := 4) (by decide +kernel) rfl ?_
  refine s_iconst (n := 1) (by decide +kernel) ?_
  refine s_iadd (by decide +kernel) ?_
  refine s_sld (j := i + 1) hX (wrn (n := i + 1) (by omega)) (by omega) (by decide +kernel) ?_
  refine s_callV (Fc := fM_jobVehicle) (index := 137) (ci := 5) (as := [aI (xs (i + 1))]) (rest := []) rfl (m_jobVehicle hst hI (hRM.fx fw) (hr _) (Q := fun r G M2 => r = .inl (some (aI (vl (aJvh S (xs (i + 1))).1))) ∧ G = GG ∧ RM (aJvh S (xs (i + 1))).2 M2 ∧ FQ M1 M2 ∧ M2 63 0 = ((aJvh S (xs (i + 1))).1.1 : Int)) (fun M2 r2 f2 c2 => ⟨rfl, rfl, r2, f2, c2⟩)) rfl rfl (by decide) rfl ⟨g_777, hwd_c rfl g_780, g_6, by decide, (show (parseMethodDescriptor fM_jobVehicle.1.desc).map (fun d => d.parameters.length) = some 1 from by decide +kernel), by decide, by decide, ?_, ?_⟩ g_778 g_779 rfl rfl (Nat.le_of_ble_eq_true rfl) (by decide +kernel) (fun r G M2 h => ?_)
  · show uc + fL_jobVehicle.2.2.2.2.1.cells + fM_jobVehicle.2.2.2.2.1.cells ≤ 601024; have : fL_jobVehicle.2.2.2.2.1.cells ≤ 5 := by decide
    have : fM_jobVehicle.2.2.2.2.1.cells = 0 := rfl
    omega
  · show us + fL_jobVehicle.2.2.2.2.1.slots + fM_jobVehicle.2.2.2.2.1.slots ≤ 7293034; have : fL_jobVehicle.2.2.2.2.1.slots ≤ 30 := by decide
    have : fM_jobVehicle.2.2.2.2.1.slots = 0 := rfl
    omega
  obtain ⟨rfl, rfl, rm, fq, ct⟩ := h
  show WM K fL_law E 946 [some (aX b), some (aR 0), some (aR 63), some (aR 79), some (aI i), some (aI (aJvh S (xs (i + 1))).1.1), none] [aI (vl (aJvh S (xs (i + 1))).1)] GG M2 _ _
  refine s_istore (i := 6) (by decide +kernel) (by decide) ?_
  show WM K fL_law E _ [some (aX b), some (aR 0), some (aR 63), some (aR 79), some (aI i), some (aI (aJvh S (xs (i + 1))).1.1), some (aI (vl (aJvh S (xs (i + 1))).1))] [] GG M2 _ _
  refine s_aload_n (i := 2) (by decide +kernel) rfl ?_
  refine s_callV (Fc := fM_thrown) (index := 92) (ci := 5) (as := []) (rest := []) rfl (EM_thrown hst (BM_thrown_0 (Q := fun r G M3 => r = .inl (some (aI (M2 63 0))) ∧ G = GG ∧ M3 = M2) ⟨rfl, rfl, rfl⟩)) rfl rfl (by decide) rfl ⟨g_639, hl_thr, g_6, by decide, (show (parseMethodDescriptor fM_thrown.1.desc).map (fun d => d.parameters.length) = some 0 from by decide +kernel), by decide, by decide, ?_, ?_⟩ g_640 g_641 rfl rfl (Nat.le_of_ble_eq_true rfl) (by decide +kernel) (fun r G M3 h => ?_)
  · show uc + fL_jobVehicle.2.2.2.2.1.cells + fM_jobVehicle.2.2.2.2.1.cells + 0 ≤ 601024; have : fL_jobVehicle.2.2.2.2.1.cells ≤ 5 := by decide
    have : fM_jobVehicle.2.2.2.2.1.cells = 0 := rfl
    omega
  · show us + fL_jobVehicle.2.2.2.2.1.slots + fM_jobVehicle.2.2.2.2.1.slots + 0 ≤ 7293034; have : fL_jobVehicle.2.2.2.2.1.slots ≤ 30 := by decide
    have : fM_jobVehicle.2.2.2.2.1.slots = 0 := rfl
    omega
  obtain ⟨rfl, rfl, rfl⟩ := h
  show WM K fL_law E 952 [some (aX b), some (aR 0), some (aR 63), some (aR 79), some (aI i), some (aI (aJvh S (xs (i + 1))).1.1), some (aI (vl (aJvh S (xs (i + 1))).1))] [aI (M3 63 0)] GG M3 _ _
  refine s_iload (i := 5) (by decide +kernel) rfl ?_
  have hk := k_jobVehicle (S := S) (p := xs (i + 1))
  refine s_icmp_eq (off := 5) (tgt := 959) (by decide +kernel) (by decide) (fun c => ?_) (fun c => absurd (by rw [ct]) c)
  have done : WM K fL_law E 976 [some (aX b), some (aR 0), some (aR 63), some (aR 79), some (aI i), some (aI (aJvh S (xs (i + 1))).1.1), some (aI (vl (aJvh S (xs (i + 1))).1))] [] GG M3 (uc + fL_jobVehicle.2.2.2.2.1.cells + fM_jobVehicle.2.2.2.2.1.cells + 0) (us + fL_jobVehicle.2.2.2.2.1.slots + fM_jobVehicle.2.2.2.2.1.slots + 0) := by
    refine s_goto (off := 489) (tgt := 1465) (by decide +kernel) (by decide) ?_
    refine s_loc (L' := [some (aX b), some (aR 0), some (aR 63), some (aR 79), some (aI i), none, none]) (ll_s (ll_s (ll_s (ll_s (ll_s (ll_n (ll_n ll_nil))))))) ?_
    have e1 : fL_jobVehicle.2.2.2.2.1.cells ≤ 5 := by decide
    have e2 : fM_jobVehicle.2.2.2.2.1.cells = 0 := rfl
    have e3 : fL_jobVehicle.2.2.2.2.1.slots ≤ 30 := by decide
    have e4 : fM_jobVehicle.2.2.2.2.1.slots = 0 := rfl
    exact s_wid (by omega) (by omega) (k (aJvh S (xs (i + 1))).2 M3 (i_aJvh hI _) (rx.fq fq) rm)
  refine s_iload (i := 5) (by decide +kernel) rfl ?_
  refine s_if_ne (off := 15) (tgt := 976) (by decide +kernel) (by decide) (fun _ => done) (fun c2 => ?_)
  rw [wrn (by omega)] at c2
  have h0 : (aJvh S (xs (i + 1))).1.1 = 0 := by omega
  refine s_aload_n (i := 3) (by decide +kernel) rfl ?_
  refine s_iconst (n := 0) (by decide +kernel) ?_
  refine s_lald (j := 0) (n := 1) (rs := []) rfl wr_0 (by omega) (by decide +kernel) ?_
  refine s_iload (i := 6) (by decide +kernel) rfl ?_
  refine s_i2l (by decide +kernel) ?_
  refine s_lcmp (by decide +kernel) ?_
  have e7 : M3 79 0 = wr (vl (aJvh S (xs (i + 1))).1) := by rw [fq 79 0 (by omega), ow h0]; unfold vl; rw [if_pos h0]
  rw [e7]
  exact s_if_eq (off := 5) (tgt := 976) (by decide +kernel) (by decide) (fun _ => done) (fun c3 => absurd wcmp_s c3)
set_option maxRecDepth 20000 in
theorem w_regret (hst : K.1.stackTraces = false) (hX : XE E b N xs) (hr : ∀ j, R32 (xs j)) (hi : i + 3 ≤ N) (hN : N ≤ 1536) (hI : Inv S) (hRX : RX S M) (hRM : RM S M) (hu : uc + 6 ≤ 601024 ∧ us + 40 ≤ 7293034) (k : LK K E b i uc us) : WM K fL_law E 979 [some (aX b), some (aR 0), some (aR 63), some (aR 79), some (aI i), none, none] [] GG M uc us := by
  refine s_aload_n (i := 1) (by decide +kernel) rfl ?_
  refine s_aloadX_n (i := 0) (by decide +kernel) rfl ?_
  refine s_iload (i := 4) (by decide +kernel) rfl ?_
  refine s_iconst (n := 1) (by decide +kernel) ?_
  refine s_iadd (by decide +kernel) ?_
  refine s_sld (j := i + 1) hX (wrn (n := i + 1) (by omega)) (by omega) (by decide +kernel) ?_
  refine s_aload_n (i := 3) (by decide +kernel) rfl ?_
  refine s_callSH (Fc := fL_regret) (index := 138) (as := [aR 0, aI (xs (i + 1)), aR 79]) (rest := []) rfl (l_regret hst hI hRX (hr _) (Q := fun r G M1 => r = .inl (some (aI (aReg S (xs (i + 1))).1.1)) ∧ G = GG ∧ RX (aReg S (xs (i + 1))).2 M1 ∧ FW M M1 ∧ ((aReg S (xs (i + 1))).1.1 = 0 → M1 79 0 = wr (aReg S (xs (i + 1))).1.2)) (fun M1 r1 f1 o1 => ⟨rfl, rfl, r1, f1, o1⟩)) ⟨g_503, hwd_h (by decide) g_505, g_0, by decide, (show (parseMethodDescriptor fL_regret.1.desc).map (fun d => d.parameters.length) = some 3 from by decide +kernel), by decide, by decide, ?_, ?_⟩ g_504 (by decide) rfl (Nat.le_of_ble_eq_true rfl) (by decide +kernel) (fun r G M1 h => ?_)
  · show uc + fL_regret.2.2.2.2.1.cells ≤ 601024; have : fL_regret.2.2.2.2.1.cells ≤ 5 := by decide
    omega
  · show us + fL_regret.2.2.2.2.1.slots ≤ 7293034; have : fL_regret.2.2.2.2.1.slots ≤ 30 := by decide
    omega
  obtain ⟨rfl, rfl, rx, fw, ow⟩ := h
  show WM K fL_law E 990 [some (aX b), some (aR 0), some (aR 63), some (aR 79), some (aI i), none, none] [aI (aReg S (xs (i + 1))).1.1] GG M1 _ _
  refine s_istore (i := 5) (by decide +kernel) (by decide) ?_
  show WM K fL_law E _ [some (aX b), some (aR 0), some (aR 63), some (aR 79), some (aI i), some (aI (aReg S (xs (i + 1))).1.1), none] [] GG M1 _ _
  refine s_aload_n (i := 2) (by decide +kernel) rfl ?_
  refine s_aloadX_n (i := 0) (by decide +kernel) rfl ?_
  refine s_iload (i := 4) (by decide +kernel) rfl ?_
  refine s_iconst (n := 1) (by decide +kernel) ?_
  refine s_iadd (by decide +kernel) ?_
  refine s_sld (j := i + 1) hX (wrn (n := i + 1) (by omega)) (by omega) (by decide +kernel) ?_
  refine s_callV (Fc := fM_regret) (index := 140) (ci := 5) (as := [aI (xs (i + 1))]) (rest := []) rfl (m_regret hst hI (hRM.fx fw) (hr _) (Q := fun r G M2 => r = .inl (some (aI (vl (aReg S (xs (i + 1))).1))) ∧ G = GG ∧ RM (aReg S (xs (i + 1))).2 M2 ∧ FQ M1 M2 ∧ M2 63 0 = ((aReg S (xs (i + 1))).1.1 : Int)) (fun M2 r2 f2 c2 => ⟨rfl, rfl, r2, f2, c2⟩)) rfl rfl (by decide) rfl ⟨g_781, hwd_c rfl g_784, g_6, by decide, (show (parseMethodDescriptor fM_regret.1.desc).map (fun d => d.parameters.length) = some 1 from by decide +kernel), by decide, by decide, ?_, ?_⟩ g_782 g_783 rfl rfl (Nat.le_of_ble_eq_true rfl) (by decide +kernel) (fun r G M2 h => ?_)
  · show uc + fL_regret.2.2.2.2.1.cells + fM_regret.2.2.2.2.1.cells ≤ 601024; have : fL_regret.2.2.2.2.1.cells ≤ 5 := by decide
    have : fM_regret.2.2.2.2.1.cells = 0 := rfl
    omega
  · show us + fL_regret.2.2.2.2.1.slots + fM_regret.2.2.2.2.1.slots ≤ 7293034; have : fL_regret.2.2.2.2.1.slots ≤ 30 := by decide
    have : fM_regret.2.2.2.2.1.slots = 0 := rfl
    omega
  obtain ⟨rfl, rfl, rm, fq, ct⟩ := h
  show WM K fL_law E 1002 [some (aX b), some (aR 0), some (aR 63), some (aR 79), some (aI i), some (aI (aReg S (xs (i + 1))).1.1), none] [aI (vl (aReg S (xs (i + 1))).1)] GG M2 _ _
  refine s_istore (i := 6) (by decide +kernel) (by decide) ?_
  show WM K fL_law E _ [some (aX b), some (aR 0), some (aR 63), some (aR 79), some (aI i), some (aI (aReg S (xs (i + 1))).1.1), some (aI (vl (aReg S (xs (i + 1))).1))] [] GG M2 _ _
  refine s_aload_n (i := 2) (by decide +kernel) rfl ?_
  refine s_callV (Fc := fM_thrown) (index := 92) (ci := 5) (as := []) (rest := []) rfl (EM_thrown hst (BM_thrown_0 (Q := fun r G M3 => r = .inl (some (aI (M2 63 0))) ∧ G = GG ∧ M3 = M2) ⟨rfl, rfl, rfl⟩)) rfl rfl (by decide) rfl ⟨g_639, hl_thr, g_6, by decide, (show (parseMethodDescriptor fM_thrown.1.desc).map (fun d => d.parameters.length) = some 0 from by decide +kernel), by decide, by decide, ?_, ?_⟩ g_640 g_641 rfl rfl (Nat.le_of_ble_eq_true rfl) (by decide +kernel) (fun r G M3 h => ?_)
  · show uc + fL_regret.2.2.2.2.1.cells + fM_regret.2.2.2.2.1.cells + 0 ≤ 601024; have : fL_regret.2.2.2.2.1.cells ≤ 5 := by decide
    have : fM_regret.2.2.2.2.1.cells = 0 := rfl
    omega
  · show us + fL_regret.2.2.2.2.1.slots + fM_regret.2.2.2.2.1.slots + 0 ≤ 7293034; have : fL_regret.2.2.2.2.1.slots ≤ 30 := by decide
    have : fM_regret.2.2.2.2.1.slots = 0 := rfl
    omega
  obtain ⟨rfl, rfl, rfl⟩ := h
  show WM K fL_law E 1008 [some (aX b), some (aR 0), some (aR 63), some (aR 79), some (aI i), some (aI (aReg S (xs (i + 1))).1.1), some (aI (vl (aReg S (xs (i + 1))).1))] [aI (M3 63 0)] GG M3 _ _
  refine s_iload (i := 5) (by decide +kernel) rfl ?_
  have hk := k_regret (S := S) (p := xs (i + 1))
  refine s_icmp_eq (off := 5) (tgt := 1015) (by decide +kernel) (by decide) (fun c => ?_) (fun c => absurd (by rw [ct]) c)
  have done : WM K fL_law E 1032 [some (aX b), some (aR 0), some (aR 63), some (aR 79), some (aI i), some (aI (aReg S (xs (i + 1))).1.1), some (aI (vl (aReg S (xs (i + 1))).1))] [] GG M3 (uc + fL_regret.2.2.2.2.1.cells + fM_regret.2.2.2.2.1.cells + 0) (us + fL_regret.2.2.2.2.1.slots + fM_regret.2.2.2.2.1.slots + 0) := by
    refine s_goto (off := 433) (tgt := 1465) (by decide +kernel) (by decide) ?_
    refine s_loc (L' := [some (aX b), some (aR 0), some (aR 63), some (aR 79), some (aI i), none, none]) (ll_s (ll_s (ll_s (ll_s (ll_s (ll_n (ll_n ll_nil))))))) ?_
    have e1 : fL_regret.2.2.2.2.1.cells ≤ 5 := by decide
    have e2 : fM_regret.2.2.2.2.1.cells = 0 := rfl
    have e3 : fL_regret.2.2.2.2.1.slots ≤ 30 := by decide
    have e4 : fM_regret.2.2.2.2.1.slots = 0 := rfl
    exact s_wid (by omega) (by omega) (k (aReg S (xs (i + 1))).2 M3 (i_aReg hI _) (rx.fq fq) rm)
  refine s_iload (i := 5) (by decide +kernel) rfl ?_
  refine s_if_ne (off := 15) (tgt := 1032) (by decide +kernel) (by decide) (fun _ => done) (fun c2 => ?_)
  rw [wrn (by omega)] at c2
  have h0 : (aReg S (xs (i + 1))).1.1 = 0 := by omega
  refine s_aload_n (i := 3) (by decide +kernel) rfl ?_
  refine s_iconst (n := 0) (by decide +kernel) ?_
  refine s_lald (j := 0) (n := 1) (rs := []) rfl wr_0 (by omega) (by decide +kernel) ?_
  refine s_iload (i := 6) (by decide +kernel) rfl ?_
  refine s_i2l (by decide +kernel) ?_
  refine s_lcmp (by decide +kernel) ?_
  have e7 : M3 79 0 = wr (vl (aReg S (xs (i + 1))).1) := by rw [fq 79 0 (by omega), ow h0]; unfold vl; rw [if_pos h0]
  rw [e7]
  exact s_if_eq (off := 5) (tgt := 1032) (by decide +kernel) (by decide) (fun _ => done) (fun c3 => absurd wcmp_s c3)
set_option maxRecDepth 20000 in
theorem w_zoneOf (hst : K.1.stackTraces = false) (hX : XE E b N xs) (hr : ∀ j, R32 (xs j)) (hi : i + 3 ≤ N) (hN : N ≤ 1536) (hI : Inv S) (hRX : RX S M) (hRM : RM S M) (hu : uc + 6 ≤ 601024 ∧ us + 40 ≤ 7293034) (k : LK K E b i uc us) : WM K fL_law E 1048 [some (aX b), some (aR 0), some (aR 63), some (aR 79), some (aI i), none, none] [] GG M uc us := by
  refine s_aload_n (i := 1) (by decide +kernel) rfl ?_
  refine s_aloadX_n (i := 0) (by decide +kernel) rfl ?_
  refine s_iload (i := 4) (by decide +kernel) rfl ?_
  refine s_iconst (n := 1) (by decide +kernel) ?_
  refine s_iadd (by decide +kernel) ?_
  refine s_sld (j := i + 1) hX (wrn (n := i + 1) (by omega)) (by omega) (by decide +kernel) ?_
  refine s_aload_n (i := 3) (by decide +kernel) rfl ?_
  refine s_callSH (Fc := fL_zoneOf) (index := 145) (as := [aR 0, aI (xs (i + 1)), aR 79]) (rest := []) rfl (l_zoneOf hst hI hRX (hr _) (Q := fun r G M1 => r = .inl (some (aI (aZon S (xs (i + 1))).1.1)) ∧ G = GG ∧ RX (aZon S (xs (i + 1))).2 M1 ∧ FW M M1 ∧ ((aZon S (xs (i + 1))).1.1 = 0 → M1 79 0 = wr (aZon S (xs (i + 1))).1.2)) (fun M1 r1 f1 o1 => ⟨rfl, rfl, r1, f1, o1⟩)) ⟨g_510, hwd_h (by decide) g_512, g_0, by decide, (show (parseMethodDescriptor fL_zoneOf.1.desc).map (fun d => d.parameters.length) = some 3 from by decide +kernel), by decide, by decide, ?_, ?_⟩ g_511 (by decide) rfl (Nat.le_of_ble_eq_true rfl) (by decide +kernel) (fun r G M1 h => ?_)
  · show uc + fL_zoneOf.2.2.2.2.1.cells ≤ 601024; have : fL_zoneOf.2.2.2.2.1.cells ≤ 5 := by decide
    omega
  · show us + fL_zoneOf.2.2.2.2.1.slots ≤ 7293034; have : fL_zoneOf.2.2.2.2.1.slots ≤ 30 := by decide
    omega
  obtain ⟨rfl, rfl, rx, fw, ow⟩ := h
  show WM K fL_law E 1059 [some (aX b), some (aR 0), some (aR 63), some (aR 79), some (aI i), none, none] [aI (aZon S (xs (i + 1))).1.1] GG M1 _ _
  refine s_istore (i := 5) (by decide +kernel) (by decide) ?_
  show WM K fL_law E _ [some (aX b), some (aR 0), some (aR 63), some (aR 79), some (aI i), some (aI (aZon S (xs (i + 1))).1.1), none] [] GG M1 _ _
  refine s_aload_n (i := 2) (by decide +kernel) rfl ?_
  refine s_aloadX_n (i := 0) (by decide +kernel) rfl ?_
  refine s_iload (i := 4) (by decide +kernel) rfl ?_
  refine s_iconst (n := 1) (by decide +kernel) ?_
  refine s_iadd (by decide +kernel) ?_
  refine s_sld (j := i + 1) hX (wrn (n := i + 1) (by omega)) (by omega) (by decide +kernel) ?_
  refine s_callV (Fc := fM_zoneOf) (index := 147) (ci := 5) (as := [aI (xs (i + 1))]) (rest := []) rfl (m_zoneOf hst hI (hRM.fx fw) (hr _) (Q := fun r G M2 => r = .inl (some (aI (vl (aZon S (xs (i + 1))).1))) ∧ G = GG ∧ RM (aZon S (xs (i + 1))).2 M2 ∧ FQ M1 M2 ∧ M2 63 0 = ((aZon S (xs (i + 1))).1.1 : Int)) (fun M2 r2 f2 c2 => ⟨rfl, rfl, r2, f2, c2⟩)) rfl rfl (by decide) rfl ⟨g_789, hwd_c rfl g_792, g_6, by decide, (show (parseMethodDescriptor fM_zoneOf.1.desc).map (fun d => d.parameters.length) = some 1 from by decide +kernel), by decide, by decide, ?_, ?_⟩ g_790 g_791 rfl rfl (Nat.le_of_ble_eq_true rfl) (by decide +kernel) (fun r G M2 h => ?_)
  · show uc + fL_zoneOf.2.2.2.2.1.cells + fM_zoneOf.2.2.2.2.1.cells ≤ 601024; have : fL_zoneOf.2.2.2.2.1.cells ≤ 5 := by decide
    have : fM_zoneOf.2.2.2.2.1.cells = 0 := rfl
    omega
  · show us + fL_zoneOf.2.2.2.2.1.slots + fM_zoneOf.2.2.2.2.1.slots ≤ 7293034; have : fL_zoneOf.2.2.2.2.1.slots ≤ 30 := by decide
    have : fM_zoneOf.2.2.2.2.1.slots = 0 := rfl
    omega
  obtain ⟨rfl, rfl, rm, fq, ct⟩ := h
  show WM K fL_law E 1071 [some (aX b), some (aR 0), some (aR 63), some (aR 79), some (aI i), some (aI (aZon S (xs (i + 1))).1.1), none] [aI (vl (aZon S (xs (i + 1))).1)] GG M2 _ _
  refine s_istore (i := 6) (by decide +kernel) (by decide) ?_
  show WM K fL_law E _ [some (aX b), some (aR 0), some (aR 63), some (aR 79), some (aI i), some (aI (aZon S (xs (i + 1))).1.1), some (aI (vl (aZon S (xs (i + 1))).1))] [] GG M2 _ _
  refine s_aload_n (i := 2) (by decide +kernel) rfl ?_
  refine s_callV (Fc := fM_thrown) (index := 92) (ci := 5) (as := []) (rest := []) rfl (EM_thrown hst (BM_thrown_0 (Q := fun r G M3 => r = .inl (some (aI (M2 63 0))) ∧ G = GG ∧ M3 = M2) ⟨rfl, rfl, rfl⟩)) rfl rfl (by decide) rfl ⟨g_639, hl_thr, g_6, by decide, (show (parseMethodDescriptor fM_thrown.1.desc).map (fun d => d.parameters.length) = some 0 from by decide +kernel), by decide, by decide, ?_, ?_⟩ g_640 g_641 rfl rfl (Nat.le_of_ble_eq_true rfl) (by decide +kernel) (fun r G M3 h => ?_)
  · show uc + fL_zoneOf.2.2.2.2.1.cells + fM_zoneOf.2.2.2.2.1.cells + 0 ≤ 601024; have : fL_zoneOf.2.2.2.2.1.cells ≤ 5 := by decide
    have : fM_zoneOf.2.2.2.2.1.cells = 0 := rfl
    omega
  · show us + fL_zoneOf.2.2.2.2.1.slots + fM_zoneOf.2.2.2.2.1.slots + 0 ≤ 7293034; have : fL_zoneOf.2.2.2.2.1.slots ≤ 30 := by decide
    have : fM_zoneOf.2.2.2.2.1.slots = 0 := rfl
    omega
  obtain ⟨rfl, rfl, rfl⟩ := h
  show WM K fL_law E 1077 [some (aX b), some (aR 0), some (aR 63), some (aR 79), some (aI i), some (aI (aZon S (xs (i + 1))).1.1), some (aI (vl (aZon S (xs (i + 1))).1))] [aI (M3 63 0)] GG M3 _ _
  refine s_iload (i := 5) (by decide +kernel) rfl ?_
  have hk := k_zoneOf (S := S) (p := xs (i + 1))
  refine s_icmp_eq (off := 5) (tgt := 1084) (by decide +kernel) (by decide) (fun c => ?_) (fun c => absurd (by rw [ct]) c)
  have done : WM K fL_law E 1101 [some (aX b), some (aR 0), some (aR 63), some (aR 79), some (aI i), some (aI (aZon S (xs (i + 1))).1.1), some (aI (vl (aZon S (xs (i + 1))).1))] [] GG M3 (uc + fL_zoneOf.2.2.2.2.1.cells + fM_zoneOf.2.2.2.2.1.cells + 0) (us + fL_zoneOf.2.2.2.2.1.slots + fM_zoneOf.2.2.2.2.1.slots + 0) := by
    refine s_goto (off := 364) (tgt := 1465) (by decide +kernel) (by decide) ?_
    refine s_loc (L' := [some (aX b), some (aR 0), some (aR 63), some (aR 79), some (aI i), none, none]) (ll_s (ll_s (ll_s (ll_s (ll_s (ll_n (ll_n ll_nil))))))) ?_
    have e1 : fL_zoneOf.2.2.2.2.1.cells ≤ 5 := by decide
    have e2 : fM_zoneOf.2.2.2.2.1.cells = 0 := rfl
    have e3 : fL_zoneOf.2.2.2.2.1.slots ≤ 30 := by decide
    have e4 : fM_zoneOf.2.2.2.2.1.slots = 0 := rfl
    exact s_wid (by omega) (by omega) (k (aZon S (xs (i + 1))).2 M3 (i_aZon hI _) (rx.fq fq) rm)
  refine s_iload (i := 5) (by decide +kernel) rfl ?_
  refine s_if_ne (off := 15) (tgt := 1101) (by decide +kernel) (by decide) (fun _ => done) (fun c2 => ?_)
  rw [wrn (by omega)] at c2
  have h0 : (aZon S (xs (i + 1))).1.1 = 0 := by omega
  refine s_aload_n (i := 3) (by decide +kernel) rfl ?_
  refine s_iconst (n := 0) (by decide +kernel) ?_
  refine s_lald (j := 0) (n := 1) (rs := []) rfl wr_0 (by omega) (by decide +kernel) ?_
  refine s_iload (i := 6) (by decide +kernel) rfl ?_
  refine s_i2l (by decide +kernel) ?_
  refine s_lcmp (by decide +kernel) ?_
  have e7 : M3 79 0 = wr (vl (aZon S (xs (i + 1))).1) := by rw [fq 79 0 (by omega), ow h0]; unfold vl; rw [if_pos h0]
  rw [e7]
  exact s_if_eq (off := 5) (tgt := 1101) (by decide +kernel) (by decide) (fun _ => done) (fun c3 => absurd wcmp_s c3)
set_option maxRecDepth 20000 in
theorem w_vehicleIn (hst : K.1.stackTraces = false) (hX : XE E b N xs) (hr : ∀ j, R32 (xs j)) (hi : i + 3 ≤ N) (hN : N ≤ 1536) (hI : Inv S) (hRX : RX S M) (hRM : RM S M) (hu : uc + 6 ≤ 601024 ∧ us + 40 ≤ 7293034) (k : LK K E b i uc us) : WM K fL_law E 1104 [some (aX b), some (aR 0), some (aR 63), some (aR 79), some (aI i), none, none] [] GG M uc us := by
  refine s_aload_n (i := 1) (by decide +kernel) rfl ?_
  refine s_aloadX_n (i := 0) (by decide +kernel) rfl ?_
  refine s_iload (i := 4) (by decide +kernel) rfl ?_
  refine s_iconst (n := 1) (by decide +kernel) ?_
  refine s_iadd (by decide +kernel) ?_
  refine s_sld (j := i + 1) hX (wrn (n := i + 1) (by omega)) (by omega) (by decide +kernel) ?_
  refine s_aload_n (i := 3) (by decide +kernel) rfl ?_
  refine s_callSH (Fc := fL_vehicleIn) (index := 148) (as := [aR 0, aI (xs (i + 1)), aR 79]) (rest := []) rfl (l_vehicleIn hst hI hRX (hr _) (Q := fun r G M1 => r = .inl (some (aI (aVin S (xs (i + 1))).1.1)) ∧ G = GG ∧ RX (aVin S (xs (i + 1))).2 M1 ∧ FW M M1 ∧ ((aVin S (xs (i + 1))).1.1 = 0 → M1 79 0 = wr (aVin S (xs (i + 1))).1.2)) (fun M1 r1 f1 o1 => ⟨rfl, rfl, r1, f1, o1⟩)) ⟨g_517, hwd_h (by decide) g_519, g_0, by decide, (show (parseMethodDescriptor fL_vehicleIn.1.desc).map (fun d => d.parameters.length) = some 3 from by decide +kernel), by decide, by decide, ?_, ?_⟩ g_518 (by decide) rfl (Nat.le_of_ble_eq_true rfl) (by decide +kernel) (fun r G M1 h => ?_)
  · show uc + fL_vehicleIn.2.2.2.2.1.cells ≤ 601024; have : fL_vehicleIn.2.2.2.2.1.cells ≤ 5 := by decide
    omega
  · show us + fL_vehicleIn.2.2.2.2.1.slots ≤ 7293034; have : fL_vehicleIn.2.2.2.2.1.slots ≤ 30 := by decide
    omega
  obtain ⟨rfl, rfl, rx, fw, ow⟩ := h
  show WM K fL_law E 1115 [some (aX b), some (aR 0), some (aR 63), some (aR 79), some (aI i), none, none] [aI (aVin S (xs (i + 1))).1.1] GG M1 _ _
  refine s_istore (i := 5) (by decide +kernel) (by decide) ?_
  show WM K fL_law E _ [some (aX b), some (aR 0), some (aR 63), some (aR 79), some (aI i), some (aI (aVin S (xs (i + 1))).1.1), none] [] GG M1 _ _
  refine s_aload_n (i := 2) (by decide +kernel) rfl ?_
  refine s_aloadX_n (i := 0) (by decide +kernel) rfl ?_
  refine s_iload (i := 4) (by decide +kernel) rfl ?_
  refine s_iconst (n := 1) (by decide +kernel) ?_
  refine s_iadd (by decide +kernel) ?_
  refine s_sld (j := i + 1) hX (wrn (n := i + 1) (by omega)) (by omega) (by decide +kernel) ?_
  refine s_callV (Fc := fM_vehicleIn) (index := 150) (ci := 5) (as := [aI (xs (i + 1))]) (rest := []) rfl (m_vehicleIn hst hI (hRM.fx fw) (hr _) (Q := fun r G M2 => r = .inl (some (aI (vl (aVin S (xs (i + 1))).1))) ∧ G = GG ∧ RM (aVin S (xs (i + 1))).2 M2 ∧ FQ M1 M2 ∧ M2 63 0 = ((aVin S (xs (i + 1))).1.1 : Int)) (fun M2 r2 f2 c2 => ⟨rfl, rfl, r2, f2, c2⟩)) rfl rfl (by decide) rfl ⟨g_793, hwd_c rfl g_796, g_6, by decide, (show (parseMethodDescriptor fM_vehicleIn.1.desc).map (fun d => d.parameters.length) = some 1 from by decide +kernel), by decide, by decide, ?_, ?_⟩ g_794 g_795 rfl rfl (Nat.le_of_ble_eq_true rfl) (by decide +kernel) (fun r G M2 h => ?_)
  · show uc + fL_vehicleIn.2.2.2.2.1.cells + fM_vehicleIn.2.2.2.2.1.cells ≤ 601024; have : fL_vehicleIn.2.2.2.2.1.cells ≤ 5 := by decide
    have : fM_vehicleIn.2.2.2.2.1.cells = 0 := rfl
    omega
  · show us + fL_vehicleIn.2.2.2.2.1.slots + fM_vehicleIn.2.2.2.2.1.slots ≤ 7293034; have : fL_vehicleIn.2.2.2.2.1.slots ≤ 30 := by decide
    have : fM_vehicleIn.2.2.2.2.1.slots = 0 := rfl
    omega
  obtain ⟨rfl, rfl, rm, fq, ct⟩ := h
  show WM K fL_law E 1127 [some (aX b), some (aR 0), some (aR 63), some (aR 79), some (aI i), some (aI (aVin S (xs (i + 1))).1.1), none] [aI (vl (aVin S (xs (i + 1))).1)] GG M2 _ _
  refine s_istore (i := 6) (by decide +kernel) (by decide) ?_
  show WM K fL_law E _ [some (aX b), some (aR 0), some (aR 63), some (aR 79), some (aI i), some (aI (aVin S (xs (i + 1))).1.1), some (aI (vl (aVin S (xs (i + 1))).1))] [] GG M2 _ _
  refine s_aload_n (i := 2) (by decide +kernel) rfl ?_
  refine s_callV (Fc := fM_thrown) (index := 92) (ci := 5) (as := []) (rest := []) rfl (EM_thrown hst (BM_thrown_0 (Q := fun r G M3 => r = .inl (some (aI (M2 63 0))) ∧ G = GG ∧ M3 = M2) ⟨rfl, rfl, rfl⟩)) rfl rfl (by decide) rfl ⟨g_639, hl_thr, g_6, by decide, (show (parseMethodDescriptor fM_thrown.1.desc).map (fun d => d.parameters.length) = some 0 from by decide +kernel), by decide, by decide, ?_, ?_⟩ g_640 g_641 rfl rfl (Nat.le_of_ble_eq_true rfl) (by decide +kernel) (fun r G M3 h => ?_)
  · show uc + fL_vehicleIn.2.2.2.2.1.cells + fM_vehicleIn.2.2.2.2.1.cells + 0 ≤ 601024; have : fL_vehicleIn.2.2.2.2.1.cells ≤ 5 := by decide
    have : fM_vehicleIn.2.2.2.2.1.cells = 0 := rfl
    omega
  · show us + fL_vehicleIn.2.2.2.2.1.slots + fM_vehicleIn.2.2.2.2.1.slots + 0 ≤ 7293034; have : fL_vehicleIn.2.2.2.2.1.slots ≤ 30 := by decide
    have : fM_vehicleIn.2.2.2.2.1.slots = 0 := rfl
    omega
  obtain ⟨rfl, rfl, rfl⟩ := h
  show WM K fL_law E 1133 [some (aX b), some (aR 0), some (aR 63), some (aR 79), some (aI i), some (aI (aVin S (xs (i + 1))).1.1), some (aI (vl (aVin S (xs (i + 1))).1))] [aI (M3 63 0)] GG M3 _ _
  refine s_iload (i := 5) (by decide +kernel) rfl ?_
  have hk := k_vehicleIn (S := S) (p := xs (i + 1))
  refine s_icmp_eq (off := 5) (tgt := 1140) (by decide +kernel) (by decide) (fun c => ?_) (fun c => absurd (by rw [ct]) c)
  have done : WM K fL_law E 1157 [some (aX b), some (aR 0), some (aR 63), some (aR 79), some (aI i), some (aI (aVin S (xs (i + 1))).1.1), some (aI (vl (aVin S (xs (i + 1))).1))] [] GG M3 (uc + fL_vehicleIn.2.2.2.2.1.cells + fM_vehicleIn.2.2.2.2.1.cells + 0) (us + fL_vehicleIn.2.2.2.2.1.slots + fM_vehicleIn.2.2.2.2.1.slots + 0) := by
    refine s_goto (off := 308) (tgt := 1465) (by decide +kernel) (by decide) ?_
    refine s_loc (L' := [some (aX b), some (aR 0), some (aR 63), some (aR 79), some (aI i), none, none]) (ll_s (ll_s (ll_s (ll_s (ll_s (ll_n (ll_n ll_nil))))))) ?_
    have e1 : fL_vehicleIn.2.2.2.2.1.cells ≤ 5 := by decide
    have e2 : fM_vehicleIn.2.2.2.2.1.cells = 0 := rfl
    have e3 : fL_vehicleIn.2.2.2.2.1.slots ≤ 30 := by decide
    have e4 : fM_vehicleIn.2.2.2.2.1.slots = 0 := rfl
    exact s_wid (by omega) (by omega) (k (aVin S (xs (i + 1))).2 M3 (i_aVin hI _) (rx.fq fq) rm)
  refine s_iload (i := 5) (by decide +kernel) rfl ?_
  refine s_if_ne (off := 15) (tgt := 1157) (by decide +kernel) (by decide) (fun _ => done) (fun c2 => ?_)
  rw [wrn (by omega)] at c2
  have h0 : (aVin S (xs (i + 1))).1.1 = 0 := by omega
  refine s_aload_n (i := 3) (by decide +kernel) rfl ?_
  refine s_iconst (n := 0) (by decide +kernel) ?_
  refine s_lald (j := 0) (n := 1) (rs := []) rfl wr_0 (by omega) (by decide +kernel) ?_
  refine s_iload (i := 6) (by decide +kernel) rfl ?_
  refine s_i2l (by decide +kernel) ?_
  refine s_lcmp (by decide +kernel) ?_
  have e7 : M3 79 0 = wr (vl (aVin S (xs (i + 1))).1) := by rw [fq 79 0 (by omega), ow h0]; unfold vl; rw [if_pos h0]
  rw [e7]
  exact s_if_eq (off := 5) (tgt := 1157) (by decide +kernel) (by decide) (fun _ => done) (fun c3 => absurd wcmp_s c3)
set_option maxRecDepth 20000 in
theorem w_routeLength (hst : K.1.stackTraces = false) (hX : XE E b N xs) (hr : ∀ j, R32 (xs j)) (hi : i + 3 ≤ N) (hN : N ≤ 1536) (hI : Inv S) (hRX : RX S M) (hRM : RM S M) (hu : uc + 6 ≤ 601024 ∧ us + 40 ≤ 7293034) (k : LK K E b i uc us) : WM K fL_law E 1160 [some (aX b), some (aR 0), some (aR 63), some (aR 79), some (aI i), none, none] [] GG M uc us := by
  refine s_aload_n (i := 1) (by decide +kernel) rfl ?_
  refine s_aloadX_n (i := 0) (by decide +kernel) rfl ?_
  refine s_iload (i := 4) (by decide +kernel) rfl ?_
  refine s_iconst (n := 1) (by decide +kernel) ?_
  refine s_iadd (by decide +kernel) ?_
  refine s_sld (j := i + 1) hX (wrn (n := i + 1) (by omega)) (by omega) (by decide +kernel) ?_
  refine s_aload_n (i := 3) (by decide +kernel) rfl ?_
  refine s_callSH (Fc := fL_routeLength) (index := 151) (as := [aR 0, aI (xs (i + 1)), aR 79]) (rest := []) rfl (l_routeLength hst hI hRX (hr _) (Q := fun r G M1 => r = .inl (some (aI (aRln S (xs (i + 1))).1.1)) ∧ G = GG ∧ RX (aRln S (xs (i + 1))).2 M1 ∧ FW M M1 ∧ ((aRln S (xs (i + 1))).1.1 = 0 → M1 79 0 = wr (aRln S (xs (i + 1))).1.2)) (fun M1 r1 f1 o1 => ⟨rfl, rfl, r1, f1, o1⟩)) ⟨g_524, hwd_h (by decide) g_526, g_0, by decide, (show (parseMethodDescriptor fL_routeLength.1.desc).map (fun d => d.parameters.length) = some 3 from by decide +kernel), by decide, by decide, ?_, ?_⟩ g_525 (by decide) rfl (Nat.le_of_ble_eq_true rfl) (by decide +kernel) (fun r G M1 h => ?_)
  · show uc + fL_routeLength.2.2.2.2.1.cells ≤ 601024; have : fL_routeLength.2.2.2.2.1.cells ≤ 5 := by decide
    omega
  · show us + fL_routeLength.2.2.2.2.1.slots ≤ 7293034; have : fL_routeLength.2.2.2.2.1.slots ≤ 30 := by decide
    omega
  obtain ⟨rfl, rfl, rx, fw, ow⟩ := h
  show WM K fL_law E 1171 [some (aX b), some (aR 0), some (aR 63), some (aR 79), some (aI i), none, none] [aI (aRln S (xs (i + 1))).1.1] GG M1 _ _
  refine s_istore (i := 5) (by decide +kernel) (by decide) ?_
  show WM K fL_law E _ [some (aX b), some (aR 0), some (aR 63), some (aR 79), some (aI i), some (aI (aRln S (xs (i + 1))).1.1), none] [] GG M1 _ _
  refine s_aload_n (i := 2) (by decide +kernel) rfl ?_
  refine s_aloadX_n (i := 0) (by decide +kernel) rfl ?_
  refine s_iload (i := 4) (by decide +kernel) rfl ?_
  refine s_iconst (n := 1) (by decide +kernel) ?_
  refine s_iadd (by decide +kernel) ?_
  refine s_sld (j := i + 1) hX (wrn (n := i + 1) (by omega)) (by omega) (by decide +kernel) ?_
  refine s_callV (Fc := fM_routeLength) (index := 153) (ci := 5) (as := [aI (xs (i + 1))]) (rest := []) rfl (m_routeLength hst hI (hRM.fx fw) (hr _) (Q := fun r G M2 => r = .inl (some (aI (vl (aRln S (xs (i + 1))).1))) ∧ G = GG ∧ RM (aRln S (xs (i + 1))).2 M2 ∧ FQ M1 M2 ∧ M2 63 0 = ((aRln S (xs (i + 1))).1.1 : Int)) (fun M2 r2 f2 c2 => ⟨rfl, rfl, r2, f2, c2⟩)) rfl rfl (by decide) rfl ⟨g_797, hwd_c rfl g_800, g_6, by decide, (show (parseMethodDescriptor fM_routeLength.1.desc).map (fun d => d.parameters.length) = some 1 from by decide +kernel), by decide, by decide, ?_, ?_⟩ g_798 g_799 rfl rfl (Nat.le_of_ble_eq_true rfl) (by decide +kernel) (fun r G M2 h => ?_)
  · show uc + fL_routeLength.2.2.2.2.1.cells + fM_routeLength.2.2.2.2.1.cells ≤ 601024; have : fL_routeLength.2.2.2.2.1.cells ≤ 5 := by decide
    have : fM_routeLength.2.2.2.2.1.cells = 0 := rfl
    omega
  · show us + fL_routeLength.2.2.2.2.1.slots + fM_routeLength.2.2.2.2.1.slots ≤ 7293034; have : fL_routeLength.2.2.2.2.1.slots ≤ 30 := by decide
    have : fM_routeLength.2.2.2.2.1.slots = 0 := rfl
    omega
  obtain ⟨rfl, rfl, rm, fq, ct⟩ := h
  show WM K fL_law E 1183 [some (aX b), some (aR 0), some (aR 63), some (aR 79), some (aI i), some (aI (aRln S (xs (i + 1))).1.1), none] [aI (vl (aRln S (xs (i + 1))).1)] GG M2 _ _
  refine s_istore (i := 6) (by decide +kernel) (by decide) ?_
  show WM K fL_law E _ [some (aX b), some (aR 0), some (aR 63), some (aR 79), some (aI i), some (aI (aRln S (xs (i + 1))).1.1), some (aI (vl (aRln S (xs (i + 1))).1))] [] GG M2 _ _
  refine s_aload_n (i := 2) (by decide +kernel) rfl ?_
  refine s_callV (Fc := fM_thrown) (index := 92) (ci := 5) (as := []) (rest := []) rfl (EM_thrown hst (BM_thrown_0 (Q := fun r G M3 => r = .inl (some (aI (M2 63 0))) ∧ G = GG ∧ M3 = M2) ⟨rfl, rfl, rfl⟩)) rfl rfl (by decide) rfl ⟨g_639, hl_thr, g_6, by decide, (show (parseMethodDescriptor fM_thrown.1.desc).map (fun d => d.parameters.length) = some 0 from by decide +kernel), by decide, by decide, ?_, ?_⟩ g_640 g_641 rfl rfl (Nat.le_of_ble_eq_true rfl) (by decide +kernel) (fun r G M3 h => ?_)
  · show uc + fL_routeLength.2.2.2.2.1.cells + fM_routeLength.2.2.2.2.1.cells + 0 ≤ 601024; have : fL_routeLength.2.2.2.2.1.cells ≤ 5 := by decide
    have : fM_routeLength.2.2.2.2.1.cells = 0 := rfl
    omega
  · show us + fL_routeLength.2.2.2.2.1.slots + fM_routeLength.2.2.2.2.1.slots + 0 ≤ 7293034; have : fL_routeLength.2.2.2.2.1.slots ≤ 30 := by decide
    have : fM_routeLength.2.2.2.2.1.slots = 0 := rfl
    omega
  obtain ⟨rfl, rfl, rfl⟩ := h
  show WM K fL_law E 1189 [some (aX b), some (aR 0), some (aR 63), some (aR 79), some (aI i), some (aI (aRln S (xs (i + 1))).1.1), some (aI (vl (aRln S (xs (i + 1))).1))] [aI (M3 63 0)] GG M3 _ _
  refine s_iload (i := 5) (by decide +kernel) rfl ?_
  have hk := k_routeLength (S := S) (p := xs (i + 1))
  refine s_icmp_eq (off := 5) (tgt := 1196) (by decide +kernel) (by decide) (fun c => ?_) (fun c => absurd (by rw [ct]) c)
  have done : WM K fL_law E 1213 [some (aX b), some (aR 0), some (aR 63), some (aR 79), some (aI i), some (aI (aRln S (xs (i + 1))).1.1), some (aI (vl (aRln S (xs (i + 1))).1))] [] GG M3 (uc + fL_routeLength.2.2.2.2.1.cells + fM_routeLength.2.2.2.2.1.cells + 0) (us + fL_routeLength.2.2.2.2.1.slots + fM_routeLength.2.2.2.2.1.slots + 0) := by
    refine s_goto (off := 252) (tgt := 1465) (by decide +kernel) (by decide) ?_
    refine s_loc (L' := [some (aX b), some (aR 0), some (aR 63), some (aR 79), some (aI i), none, none]) (ll_s (ll_s (ll_s (ll_s (ll_s (ll_n (ll_n ll_nil))))))) ?_
    have e1 : fL_routeLength.2.2.2.2.1.cells ≤ 5 := by decide
    have e2 : fM_routeLength.2.2.2.2.1.cells = 0 := rfl
    have e3 : fL_routeLength.2.2.2.2.1.slots ≤ 30 := by decide
    have e4 : fM_routeLength.2.2.2.2.1.slots = 0 := rfl
    exact s_wid (by omega) (by omega) (k (aRln S (xs (i + 1))).2 M3 (i_aRln hI _) (rx.fq fq) rm)
  refine s_iload (i := 5) (by decide +kernel) rfl ?_
  refine s_if_ne (off := 15) (tgt := 1213) (by decide +kernel) (by decide) (fun _ => done) (fun c2 => ?_)
  rw [wrn (by omega)] at c2
  have h0 : (aRln S (xs (i + 1))).1.1 = 0 := by omega
  refine s_aload_n (i := 3) (by decide +kernel) rfl ?_
  refine s_iconst (n := 0) (by decide +kernel) ?_
  refine s_lald (j := 0) (n := 1) (rs := []) rfl wr_0 (by omega) (by decide +kernel) ?_
  refine s_iload (i := 6) (by decide +kernel) rfl ?_
  refine s_i2l (by decide +kernel) ?_
  refine s_lcmp (by decide +kernel) ?_
  have e7 : M3 79 0 = wr (vl (aRln S (xs (i + 1))).1) := by rw [fq 79 0 (by omega), ow h0]; unfold vl; rw [if_pos h0]
  rw [e7]
  exact s_if_eq (off := 5) (tgt := 1213) (by decide +kernel) (by decide) (fun _ => done) (fun c3 => absurd wcmp_s c3)
set_option maxRecDepth 20000 in
theorem w_routeZone (hst : K.1.stackTraces = false) (hX : XE E b N xs) (hr : ∀ j, R32 (xs j)) (hi : i + 3 ≤ N) (hN : N ≤ 1536) (hI : Inv S) (hRX : RX S M) (hRM : RM S M) (hu : uc + 6 ≤ 601024 ∧ us + 40 ≤ 7293034) (k : LK K E b i uc us) : WM K fL_law E 1216 [some (aX b), some (aR 0), some (aR 63), some (aR 79), some (aI i), none, none] [] GG M uc us := by
  refine s_aload_n (i := 1) (by decide +kernel) rfl ?_
  refine s_aloadX_n (i := 0) (by decide +kernel) rfl ?_
  refine s_iload (i := 4) (by decide +kernel) rfl ?_
  refine s_iconst (n := 1) (by decide +kernel) ?_
  refine s_iadd (by decide +kernel) ?_
  refine s_sld (j := i + 1) hX (wrn (n := i + 1) (by omega)) (by omega) (by decide +kernel) ?_
  refine s_aloadX_n (i := 0) (by decide +kernel) rfl ?_
  refine s_iload (i := 4) (by decide +kernel) rfl ?_
  refine s_iconst (n := 2) (by decide +kernel) ?_
  refine s_iadd (by decide +kernel) ?_
  refine s_sld (j := i + 2) hX (wrn (n := i + 2) (by omega)) (by omega) (by decide +kernel) ?_
  refine s_aload_n (i := 3) (by decide +kernel) rfl ?_
  refine s_callSH (Fc := fL_routeZone) (index := 154) (as := [aR 0, aI (xs (i + 1)), aI (xs (i + 2)), aR 79]) (rest := []) rfl (l_routeZone hst hI hRX (hr _) (hr _) (Q := fun r G M1 => r = .inl (some (aI (aRzn S (xs (i + 1)) (xs (i + 2))).1.1)) ∧ G = GG ∧ RX (aRzn S (xs (i + 1)) (xs (i + 2))).2 M1 ∧ FW M M1 ∧ ((aRzn S (xs (i + 1)) (xs (i + 2))).1.1 = 0 → M1 79 0 = wr (aRzn S (xs (i + 1)) (xs (i + 2))).1.2)) (fun M1 r1 f1 o1 => ⟨rfl, rfl, r1, f1, o1⟩)) ⟨g_531, hwd_h (by decide) g_533, g_0, by decide, (show (parseMethodDescriptor fL_routeZone.1.desc).map (fun d => d.parameters.length) = some 4 from by decide +kernel), by decide, by decide, ?_, ?_⟩ g_532 (by decide) rfl (Nat.le_of_ble_eq_true rfl) (by decide +kernel) (fun r G M1 h => ?_)
  · show uc + fL_routeZone.2.2.2.2.1.cells ≤ 601024; have : fL_routeZone.2.2.2.2.1.cells ≤ 5 := by decide
    omega
  · show us + fL_routeZone.2.2.2.2.1.slots ≤ 7293034; have : fL_routeZone.2.2.2.2.1.slots ≤ 30 := by decide
    omega
  obtain ⟨rfl, rfl, rx, fw, ow⟩ := h
  show WM K fL_law E 1233 [some (aX b), some (aR 0), some (aR 63), some (aR 79), some (aI i), none, none] [aI (aRzn S (xs (i + 1)) (xs (i + 2))).1.1] GG M1 _ _
  refine s_istore (i := 5) (by decide +kernel) (by decide) ?_
  show WM K fL_law E _ [some (aX b), some (aR 0), some (aR 63), some (aR 79), some (aI i), some (aI (aRzn S (xs (i + 1)) (xs (i + 2))).1.1), none] [] GG M1 _ _
  refine s_aload_n (i := 2) (by decide +kernel) rfl ?_
  refine s_aloadX_n (i := 0) (by decide +kernel) rfl ?_
  refine s_iload (i := 4) (by decide +kernel) rfl ?_
  refine s_iconst (n := 1) (by decide +kernel) ?_
  refine s_iadd (by decide +kernel) ?_
  refine s_sld (j := i + 1) hX (wrn (n := i + 1) (by omega)) (by omega) (by decide +kernel) ?_
  refine s_aloadX_n (i := 0) (by decide +kernel) rfl ?_
  refine s_iload (i := 4) (by decide +kernel) rfl ?_
  refine s_iconst (n := 2) (by decide +kernel) ?_
  refine s_iadd (by decide +kernel) ?_
  refine s_sld (j := i + 2) hX (wrn (n := i + 2) (by omega)) (by omega) (by decide +kernel) ?_
  refine s_callV (Fc := fM_routeZone) (index := 156) (ci := 5) (as := [aI (xs (i + 1)), aI (xs (i + 2))]) (rest := []) rfl (m_routeZone hst hI (hRM.fx fw) (hr _) (hr _) (Q := fun r G M2 => r = .inl (some (aI (vl (aRzn S (xs (i + 1)) (xs (i + 2))).1))) ∧ G = GG ∧ RM (aRzn S (xs (i + 1)) (xs (i + 2))).2 M2 ∧ FQ M1 M2 ∧ M2 63 0 = ((aRzn S (xs (i + 1)) (xs (i + 2))).1.1 : Int)) (fun M2 r2 f2 c2 => ⟨rfl, rfl, r2, f2, c2⟩)) rfl rfl (by decide) rfl ⟨g_801, hwd_c rfl g_804, g_6, by decide, (show (parseMethodDescriptor fM_routeZone.1.desc).map (fun d => d.parameters.length) = some 2 from by decide +kernel), by decide, by decide, ?_, ?_⟩ g_802 g_803 rfl rfl (Nat.le_of_ble_eq_true rfl) (by decide +kernel) (fun r G M2 h => ?_)
  · show uc + fL_routeZone.2.2.2.2.1.cells + fM_routeZone.2.2.2.2.1.cells ≤ 601024; have : fL_routeZone.2.2.2.2.1.cells ≤ 5 := by decide
    have : fM_routeZone.2.2.2.2.1.cells = 0 := rfl
    omega
  · show us + fL_routeZone.2.2.2.2.1.slots + fM_routeZone.2.2.2.2.1.slots ≤ 7293034; have : fL_routeZone.2.2.2.2.1.slots ≤ 30 := by decide
    have : fM_routeZone.2.2.2.2.1.slots = 0 := rfl
    omega
  obtain ⟨rfl, rfl, rm, fq, ct⟩ := h
  show WM K fL_law E 1251 [some (aX b), some (aR 0), some (aR 63), some (aR 79), some (aI i), some (aI (aRzn S (xs (i + 1)) (xs (i + 2))).1.1), none] [aI (vl (aRzn S (xs (i + 1)) (xs (i + 2))).1)] GG M2 _ _
  refine s_istore (i := 6) (by decide +kernel) (by decide) ?_
  show WM K fL_law E _ [some (aX b), some (aR 0), some (aR 63), some (aR 79), some (aI i), some (aI (aRzn S (xs (i + 1)) (xs (i + 2))).1.1), some (aI (vl (aRzn S (xs (i + 1)) (xs (i + 2))).1))] [] GG M2 _ _
  refine s_aload_n (i := 2) (by decide +kernel) rfl ?_
  refine s_callV (Fc := fM_thrown) (index := 92) (ci := 5) (as := []) (rest := []) rfl (EM_thrown hst (BM_thrown_0 (Q := fun r G M3 => r = .inl (some (aI (M2 63 0))) ∧ G = GG ∧ M3 = M2) ⟨rfl, rfl, rfl⟩)) rfl rfl (by decide) rfl ⟨g_639, hl_thr, g_6, by decide, (show (parseMethodDescriptor fM_thrown.1.desc).map (fun d => d.parameters.length) = some 0 from by decide +kernel), by decide, by decide, ?_, ?_⟩ g_640 g_641 rfl rfl (Nat.le_of_ble_eq_true rfl) (by decide +kernel) (fun r G M3 h => ?_)
  · show uc + fL_routeZone.2.2.2.2.1.cells + fM_routeZone.2.2.2.2.1.cells + 0 ≤ 601024; have : fL_routeZone.2.2.2.2.1.cells ≤ 5 := by decide
    have : fM_routeZone.2.2.2.2.1.cells = 0 := rfl
    omega
  · show us + fL_routeZone.2.2.2.2.1.slots + fM_routeZone.2.2.2.2.1.slots + 0 ≤ 7293034; have : fL_routeZone.2.2.2.2.1.slots ≤ 30 := by decide
    have : fM_routeZone.2.2.2.2.1.slots = 0 := rfl
    omega
  obtain ⟨rfl, rfl, rfl⟩ := h
  show WM K fL_law E 1257 [some (aX b), some (aR 0), some (aR 63), some (aR 79), some (aI i), some (aI (aRzn S (xs (i + 1)) (xs (i + 2))).1.1), some (aI (vl (aRzn S (xs (i + 1)) (xs (i + 2))).1))] [aI (M3 63 0)] GG M3 _ _
  refine s_iload (i := 5) (by decide +kernel) rfl ?_
  have hk := k_routeZone (S := S) (p := xs (i + 1)) (q := xs (i + 2))
  refine s_icmp_eq (off := 5) (tgt := 1264) (by decide +kernel) (by decide) (fun c => ?_) (fun c => absurd (by rw [ct]) c)
  have done : WM K fL_law E 1281 [some (aX b), some (aR 0), some (aR 63), some (aR 79), some (aI i), some (aI (aRzn S (xs (i + 1)) (xs (i + 2))).1.1), some (aI (vl (aRzn S (xs (i + 1)) (xs (i + 2))).1))] [] GG M3 (uc + fL_routeZone.2.2.2.2.1.cells + fM_routeZone.2.2.2.2.1.cells + 0) (us + fL_routeZone.2.2.2.2.1.slots + fM_routeZone.2.2.2.2.1.slots + 0) := by
    refine s_goto (off := 184) (tgt := 1465) (by decide +kernel) (by decide) ?_
    refine s_loc (L' := [some (aX b), some (aR 0), some (aR 63), some (aR 79), some (aI i), none, none]) (ll_s (ll_s (ll_s (ll_s (ll_s (ll_n (ll_n ll_nil))))))) ?_
    have e1 : fL_routeZone.2.2.2.2.1.cells ≤ 5 := by decide
    have e2 : fM_routeZone.2.2.2.2.1.cells = 0 := rfl
    have e3 : fL_routeZone.2.2.2.2.1.slots ≤ 30 := by decide
    have e4 : fM_routeZone.2.2.2.2.1.slots = 0 := rfl
    exact s_wid (by omega) (by omega) (k (aRzn S (xs (i + 1)) (xs (i + 2))).2 M3 (i_aRzn hI _ _) (rx.fq fq) rm)
  refine s_iload (i := 5) (by decide +kernel) rfl ?_
  refine s_if_ne (off := 15) (tgt := 1281) (by decide +kernel) (by decide) (fun _ => done) (fun c2 => ?_)
  rw [wrn (by omega)] at c2
  have h0 : (aRzn S (xs (i + 1)) (xs (i + 2))).1.1 = 0 := by omega
  refine s_aload_n (i := 3) (by decide +kernel) rfl ?_
  refine s_iconst (n := 0) (by decide +kernel) ?_
  refine s_lald (j := 0) (n := 1) (rs := []) rfl wr_0 (by omega) (by decide +kernel) ?_
  refine s_iload (i := 6) (by decide +kernel) rfl ?_
  refine s_i2l (by decide +kernel) ?_
  refine s_lcmp (by decide +kernel) ?_
  have e7 : M3 79 0 = wr (vl (aRzn S (xs (i + 1)) (xs (i + 2))).1) := by rw [fq 79 0 (by omega), ow h0]; unfold vl; rw [if_pos h0]
  rw [e7]
  exact s_if_eq (off := 5) (tgt := 1281) (by decide +kernel) (by decide) (fun _ => done) (fun c3 => absurd wcmp_s c3)
set_option maxRecDepth 20000 in
theorem w_energy (hst : K.1.stackTraces = false) (hX : XE E b N xs) (hr : ∀ j, R32 (xs j)) (hi : i + 3 ≤ N) (hN : N ≤ 1536) (hI : Inv S) (hRX : RX S M) (hRM : RM S M) (hu : uc + 6 ≤ 601024 ∧ us + 40 ≤ 7293034) (k : LK K E b i uc us) : WM K fL_law E 1284 [some (aX b), some (aR 0), some (aR 63), some (aR 79), some (aI i), none, none] [] GG M uc us := by
  refine s_aload_n (i := 1) (by decide +kernel) rfl ?_
  refine s_aloadX_n (i := 0) (by decide +kernel) rfl ?_
  refine s_iload (i := 4) (by decide +kernel) rfl ?_
  refine s_iconst (n := 1) (by decide +kernel) ?_
  refine s_iadd (by decide +kernel) ?_
  refine s_sld (j := i + 1) hX (wrn (n := i + 1) (by omega)) (by omega) (by decide +kernel) ?_
  refine s_aload_n (i := 3) (by decide +kernel) rfl ?_
  refine s_callSH (Fc := fL_energy) (index := 157) (as := [aR 0, aI (xs (i + 1)), aR 79]) (rest := []) rfl (l_energy hst hI hRX (hr _) (Q := fun r G M1 => r = .inl (some (aI (aEng S (xs (i + 1))).1.1)) ∧ G = GG ∧ RX (aEng S (xs (i + 1))).2 M1 ∧ FW M M1 ∧ ((aEng S (xs (i + 1))).1.1 = 0 → M1 79 0 = wr (aEng S (xs (i + 1))).1.2)) (fun M1 r1 f1 o1 => ⟨rfl, rfl, r1, f1, o1⟩)) ⟨g_539, hwd_h (by decide) g_541, g_0, by decide, (show (parseMethodDescriptor fL_energy.1.desc).map (fun d => d.parameters.length) = some 3 from by decide +kernel), by decide, by decide, ?_, ?_⟩ g_540 (by decide) rfl (Nat.le_of_ble_eq_true rfl) (by decide +kernel) (fun r G M1 h => ?_)
  · show uc + fL_energy.2.2.2.2.1.cells ≤ 601024; have : fL_energy.2.2.2.2.1.cells ≤ 5 := by decide
    omega
  · show us + fL_energy.2.2.2.2.1.slots ≤ 7293034; have : fL_energy.2.2.2.2.1.slots ≤ 30 := by decide
    omega
  obtain ⟨rfl, rfl, rx, fw, ow⟩ := h
  show WM K fL_law E 1295 [some (aX b), some (aR 0), some (aR 63), some (aR 79), some (aI i), none, none] [aI (aEng S (xs (i + 1))).1.1] GG M1 _ _
  refine s_istore (i := 5) (by decide +kernel) (by decide) ?_
  show WM K fL_law E _ [some (aX b), some (aR 0), some (aR 63), some (aR 79), some (aI i), some (aI (aEng S (xs (i + 1))).1.1), none] [] GG M1 _ _
  refine s_aload_n (i := 2) (by decide +kernel) rfl ?_
  refine s_aloadX_n (i := 0) (by decide +kernel) rfl ?_
  refine s_iload (i := 4) (by decide +kernel) rfl ?_
  refine s_iconst (n := 1) (by decide +kernel) ?_
  refine s_iadd (by decide +kernel) ?_
  refine s_sld (j := i + 1) hX (wrn (n := i + 1) (by omega)) (by omega) (by decide +kernel) ?_
  refine s_callV (Fc := fM_energy) (index := 159) (ci := 5) (as := [aI (xs (i + 1))]) (rest := []) rfl (m_energy hst hI (hRM.fx fw) (hr _) (Q := fun r G M2 => r = .inl (some (aI (vl (aEng S (xs (i + 1))).1))) ∧ G = GG ∧ RM (aEng S (xs (i + 1))).2 M2 ∧ FQ M1 M2 ∧ M2 63 0 = ((aEng S (xs (i + 1))).1.1 : Int)) (fun M2 r2 f2 c2 => ⟨rfl, rfl, r2, f2, c2⟩)) rfl rfl (by decide) rfl ⟨g_805, hwd_c rfl g_808, g_6, by decide, (show (parseMethodDescriptor fM_energy.1.desc).map (fun d => d.parameters.length) = some 1 from by decide +kernel), by decide, by decide, ?_, ?_⟩ g_806 g_807 rfl rfl (Nat.le_of_ble_eq_true rfl) (by decide +kernel) (fun r G M2 h => ?_)
  · show uc + fL_energy.2.2.2.2.1.cells + fM_energy.2.2.2.2.1.cells ≤ 601024; have : fL_energy.2.2.2.2.1.cells ≤ 5 := by decide
    have : fM_energy.2.2.2.2.1.cells = 0 := rfl
    omega
  · show us + fL_energy.2.2.2.2.1.slots + fM_energy.2.2.2.2.1.slots ≤ 7293034; have : fL_energy.2.2.2.2.1.slots ≤ 30 := by decide
    have : fM_energy.2.2.2.2.1.slots = 0 := rfl
    omega
  obtain ⟨rfl, rfl, rm, fq, ct⟩ := h
  show WM K fL_law E 1307 [some (aX b), some (aR 0), some (aR 63), some (aR 79), some (aI i), some (aI (aEng S (xs (i + 1))).1.1), none] [aI (vl (aEng S (xs (i + 1))).1)] GG M2 _ _
  refine s_istore (i := 6) (by decide +kernel) (by decide) ?_
  show WM K fL_law E _ [some (aX b), some (aR 0), some (aR 63), some (aR 79), some (aI i), some (aI (aEng S (xs (i + 1))).1.1), some (aI (vl (aEng S (xs (i + 1))).1))] [] GG M2 _ _
  refine s_aload_n (i := 2) (by decide +kernel) rfl ?_
  refine s_callV (Fc := fM_thrown) (index := 92) (ci := 5) (as := []) (rest := []) rfl (EM_thrown hst (BM_thrown_0 (Q := fun r G M3 => r = .inl (some (aI (M2 63 0))) ∧ G = GG ∧ M3 = M2) ⟨rfl, rfl, rfl⟩)) rfl rfl (by decide) rfl ⟨g_639, hl_thr, g_6, by decide, (show (parseMethodDescriptor fM_thrown.1.desc).map (fun d => d.parameters.length) = some 0 from by decide +kernel), by decide, by decide, ?_, ?_⟩ g_640 g_641 rfl rfl (Nat.le_of_ble_eq_true rfl) (by decide +kernel) (fun r G M3 h => ?_)
  · show uc + fL_energy.2.2.2.2.1.cells + fM_energy.2.2.2.2.1.cells + 0 ≤ 601024; have : fL_energy.2.2.2.2.1.cells ≤ 5 := by decide
    have : fM_energy.2.2.2.2.1.cells = 0 := rfl
    omega
  · show us + fL_energy.2.2.2.2.1.slots + fM_energy.2.2.2.2.1.slots + 0 ≤ 7293034; have : fL_energy.2.2.2.2.1.slots ≤ 30 := by decide
    have : fM_energy.2.2.2.2.1.slots = 0 := rfl
    omega
  obtain ⟨rfl, rfl, rfl⟩ := h
  show WM K fL_law E 1313 [some (aX b), some (aR 0), some (aR 63), some (aR 79), some (aI i), some (aI (aEng S (xs (i + 1))).1.1), some (aI (vl (aEng S (xs (i + 1))).1))] [aI (M3 63 0)] GG M3 _ _
  refine s_iload (i := 5) (by decide +kernel) rfl ?_
  have hk := k_energy (S := S) (p := xs (i + 1))
  refine s_icmp_eq (off := 5) (tgt := 1320) (by decide +kernel) (by decide) (fun c => ?_) (fun c => absurd (by rw [ct]) c)
  have done : WM K fL_law E 1337 [some (aX b), some (aR 0), some (aR 63), some (aR 79), some (aI i), some (aI (aEng S (xs (i + 1))).1.1), some (aI (vl (aEng S (xs (i + 1))).1))] [] GG M3 (uc + fL_energy.2.2.2.2.1.cells + fM_energy.2.2.2.2.1.cells + 0) (us + fL_energy.2.2.2.2.1.slots + fM_energy.2.2.2.2.1.slots + 0) := by
    refine s_goto (off := 128) (tgt := 1465) (by decide +kernel) (by decide) ?_
    refine s_loc (L' := [some (aX b), some (aR 0), some (aR 63), some (aR 79), some (aI i), none, none]) (ll_s (ll_s (ll_s (ll_s (ll_s (ll_n (ll_n ll_nil))))))) ?_
    have e1 : fL_energy.2.2.2.2.1.cells ≤ 5 := by decide
    have e2 : fM_energy.2.2.2.2.1.cells = 0 := rfl
    have e3 : fL_energy.2.2.2.2.1.slots ≤ 30 := by decide
    have e4 : fM_energy.2.2.2.2.1.slots = 0 := rfl
    exact s_wid (by omega) (by omega) (k (aEng S (xs (i + 1))).2 M3 (i_aEng hI _) (rx.fq fq) rm)
  refine s_iload (i := 5) (by decide +kernel) rfl ?_
  refine s_if_ne (off := 15) (tgt := 1337) (by decide +kernel) (by decide) (fun _ => done) (fun c2 => ?_)
  rw [wrn (by omega)] at c2
  have h0 : (aEng S (xs (i + 1))).1.1 = 0 := by omega
  refine s_aload_n (i := 3) (by decide +kernel) rfl ?_
  refine s_iconst (n := 0) (by decide +kernel) ?_
  refine s_lald (j := 0) (n := 1) (rs := []) rfl wr_0 (by omega) (by decide +kernel) ?_
  refine s_iload (i := 6) (by decide +kernel) rfl ?_
  refine s_i2l (by decide +kernel) ?_
  refine s_lcmp (by decide +kernel) ?_
  have e7 : M3 79 0 = wr (vl (aEng S (xs (i + 1))).1) := by rw [fq 79 0 (by omega), ow h0]; unfold vl; rw [if_pos h0]
  rw [e7]
  exact s_if_eq (off := 5) (tgt := 1337) (by decide +kernel) (by decide) (fun _ => done) (fun c3 => absurd wcmp_s c3)
set_option maxRecDepth 20000 in
theorem w_waited (hst : K.1.stackTraces = false) (hX : XE E b N xs) (hr : ∀ j, R32 (xs j)) (hi : i + 3 ≤ N) (hN : N ≤ 1536) (hI : Inv S) (hRX : RX S M) (hRM : RM S M) (hu : uc + 6 ≤ 601024 ∧ us + 40 ≤ 7293034) (k : LK K E b i uc us) : WM K fL_law E 1340 [some (aX b), some (aR 0), some (aR 63), some (aR 79), some (aI i), none, none] [] GG M uc us := by
  refine s_aload_n (i := 1) (by decide +kernel) rfl ?_
  refine s_aloadX_n (i := 0) (by decide +kernel) rfl ?_
  refine s_iload (i := 4) (by decide +kernel) rfl ?_
  refine s_iconst (n := 1) (by decide +kernel) ?_
  refine s_iadd (by decide +kernel) ?_
  refine s_sld (j := i + 1) hX (wrn (n := i + 1) (by omega)) (by omega) (by decide +kernel) ?_
  refine s_aload_n (i := 3) (by decide +kernel) rfl ?_
  refine s_callSH (Fc := fL_waited) (index := 160) (as := [aR 0, aI (xs (i + 1)), aR 79]) (rest := []) rfl (l_waited hst hI hRX (hr _) (Q := fun r G M1 => r = .inl (some (aI (aWai S (xs (i + 1))).1.1)) ∧ G = GG ∧ RX (aWai S (xs (i + 1))).2 M1 ∧ FW M M1 ∧ ((aWai S (xs (i + 1))).1.1 = 0 → M1 79 0 = wr (aWai S (xs (i + 1))).1.2)) (fun M1 r1 f1 o1 => ⟨rfl, rfl, r1, f1, o1⟩)) ⟨g_546, hwd_h (by decide) g_548, g_0, by decide, (show (parseMethodDescriptor fL_waited.1.desc).map (fun d => d.parameters.length) = some 3 from by decide +kernel), by decide, by decide, ?_, ?_⟩ g_547 (by decide) rfl (Nat.le_of_ble_eq_true rfl) (by decide +kernel) (fun r G M1 h => ?_)
  · show uc + fL_waited.2.2.2.2.1.cells ≤ 601024; have : fL_waited.2.2.2.2.1.cells ≤ 5 := by decide
    omega
  · show us + fL_waited.2.2.2.2.1.slots ≤ 7293034; have : fL_waited.2.2.2.2.1.slots ≤ 30 := by decide
    omega
  obtain ⟨rfl, rfl, rx, fw, ow⟩ := h
  show WM K fL_law E 1351 [some (aX b), some (aR 0), some (aR 63), some (aR 79), some (aI i), none, none] [aI (aWai S (xs (i + 1))).1.1] GG M1 _ _
  refine s_istore (i := 5) (by decide +kernel) (by decide) ?_
  show WM K fL_law E _ [some (aX b), some (aR 0), some (aR 63), some (aR 79), some (aI i), some (aI (aWai S (xs (i + 1))).1.1), none] [] GG M1 _ _
  refine s_aload_n (i := 2) (by decide +kernel) rfl ?_
  refine s_aloadX_n (i := 0) (by decide +kernel) rfl ?_
  refine s_iload (i := 4) (by decide +kernel) rfl ?_
  refine s_iconst (n := 1) (by decide +kernel) ?_
  refine s_iadd (by decide +kernel) ?_
  refine s_sld (j := i + 1) hX (wrn (n := i + 1) (by omega)) (by omega) (by decide +kernel) ?_
  refine s_callV (Fc := fM_waited) (index := 162) (ci := 5) (as := [aI (xs (i + 1))]) (rest := []) rfl (m_waited hst hI (hRM.fx fw) (hr _) (Q := fun r G M2 => r = .inl (some (aI (vl (aWai S (xs (i + 1))).1))) ∧ G = GG ∧ RM (aWai S (xs (i + 1))).2 M2 ∧ FQ M1 M2 ∧ M2 63 0 = ((aWai S (xs (i + 1))).1.1 : Int)) (fun M2 r2 f2 c2 => ⟨rfl, rfl, r2, f2, c2⟩)) rfl rfl (by decide) rfl ⟨g_809, hwd_c rfl g_812, g_6, by decide, (show (parseMethodDescriptor fM_waited.1.desc).map (fun d => d.parameters.length) = some 1 from by decide +kernel), by decide, by decide, ?_, ?_⟩ g_810 g_811 rfl rfl (Nat.le_of_ble_eq_true rfl) (by decide +kernel) (fun r G M2 h => ?_)
  · show uc + fL_waited.2.2.2.2.1.cells + fM_waited.2.2.2.2.1.cells ≤ 601024; have : fL_waited.2.2.2.2.1.cells ≤ 5 := by decide
    have : fM_waited.2.2.2.2.1.cells = 0 := rfl
    omega
  · show us + fL_waited.2.2.2.2.1.slots + fM_waited.2.2.2.2.1.slots ≤ 7293034; have : fL_waited.2.2.2.2.1.slots ≤ 30 := by decide
    have : fM_waited.2.2.2.2.1.slots = 0 := rfl
    omega
  obtain ⟨rfl, rfl, rm, fq, ct⟩ := h
  show WM K fL_law E 1363 [some (aX b), some (aR 0), some (aR 63), some (aR 79), some (aI i), some (aI (aWai S (xs (i + 1))).1.1), none] [aI (vl (aWai S (xs (i + 1))).1)] GG M2 _ _
  refine s_istore (i := 6) (by decide +kernel) (by decide) ?_
  show WM K fL_law E _ [some (aX b), some (aR 0), some (aR 63), some (aR 79), some (aI i), some (aI (aWai S (xs (i + 1))).1.1), some (aI (vl (aWai S (xs (i + 1))).1))] [] GG M2 _ _
  refine s_aload_n (i := 2) (by decide +kernel) rfl ?_
  refine s_callV (Fc := fM_thrown) (index := 92) (ci := 5) (as := []) (rest := []) rfl (EM_thrown hst (BM_thrown_0 (Q := fun r G M3 => r = .inl (some (aI (M2 63 0))) ∧ G = GG ∧ M3 = M2) ⟨rfl, rfl, rfl⟩)) rfl rfl (by decide) rfl ⟨g_639, hl_thr, g_6, by decide, (show (parseMethodDescriptor fM_thrown.1.desc).map (fun d => d.parameters.length) = some 0 from by decide +kernel), by decide, by decide, ?_, ?_⟩ g_640 g_641 rfl rfl (Nat.le_of_ble_eq_true rfl) (by decide +kernel) (fun r G M3 h => ?_)
  · show uc + fL_waited.2.2.2.2.1.cells + fM_waited.2.2.2.2.1.cells + 0 ≤ 601024; have : fL_waited.2.2.2.2.1.cells ≤ 5 := by decide
    have : fM_waited.2.2.2.2.1.cells = 0 := rfl
    omega
  · show us + fL_waited.2.2.2.2.1.slots + fM_waited.2.2.2.2.1.slots + 0 ≤ 7293034; have : fL_waited.2.2.2.2.1.slots ≤ 30 := by decide
    have : fM_waited.2.2.2.2.1.slots = 0 := rfl
    omega
  obtain ⟨rfl, rfl, rfl⟩ := h
  show WM K fL_law E 1369 [some (aX b), some (aR 0), some (aR 63), some (aR 79), some (aI i), some (aI (aWai S (xs (i + 1))).1.1), some (aI (vl (aWai S (xs (i + 1))).1))] [aI (M3 63 0)] GG M3 _ _
  refine s_iload (i := 5) (by decide +kernel) rfl ?_
  have hk := k_waited (S := S) (p := xs (i + 1))
  refine s_icmp_eq (off := 5) (tgt := 1376) (by decide +kernel) (by decide) (fun c => ?_) (fun c => absurd (by rw [ct]) c)
  have done : WM K fL_law E 1393 [some (aX b), some (aR 0), some (aR 63), some (aR 79), some (aI i), some (aI (aWai S (xs (i + 1))).1.1), some (aI (vl (aWai S (xs (i + 1))).1))] [] GG M3 (uc + fL_waited.2.2.2.2.1.cells + fM_waited.2.2.2.2.1.cells + 0) (us + fL_waited.2.2.2.2.1.slots + fM_waited.2.2.2.2.1.slots + 0) := by
    refine s_goto (off := 72) (tgt := 1465) (by decide +kernel) (by decide) ?_
    refine s_loc (L' := [some (aX b), some (aR 0), some (aR 63), some (aR 79), some (aI i), none, none]) (ll_s (ll_s (ll_s (ll_s (ll_s (ll_n (ll_n ll_nil))))))) ?_
    have e1 : fL_waited.2.2.2.2.1.cells ≤ 5 := by decide
    have e2 : fM_waited.2.2.2.2.1.cells = 0 := rfl
    have e3 : fL_waited.2.2.2.2.1.slots ≤ 30 := by decide
    have e4 : fM_waited.2.2.2.2.1.slots = 0 := rfl
    exact s_wid (by omega) (by omega) (k (aWai S (xs (i + 1))).2 M3 (i_aWai hI _) (rx.fq fq) rm)
  refine s_iload (i := 5) (by decide +kernel) rfl ?_
  refine s_if_ne (off := 15) (tgt := 1393) (by decide +kernel) (by decide) (fun _ => done) (fun c2 => ?_)
  rw [wrn (by omega)] at c2
  have h0 : (aWai S (xs (i + 1))).1.1 = 0 := by omega
  refine s_aload_n (i := 3) (by decide +kernel) rfl ?_
  refine s_iconst (n := 0) (by decide +kernel) ?_
  refine s_lald (j := 0) (n := 1) (rs := []) rfl wr_0 (by omega) (by decide +kernel) ?_
  refine s_iload (i := 6) (by decide +kernel) rfl ?_
  refine s_i2l (by decide +kernel) ?_
  refine s_lcmp (by decide +kernel) ?_
  have e7 : M3 79 0 = wr (vl (aWai S (xs (i + 1))).1) := by rw [fq 79 0 (by omega), ow h0]; unfold vl; rw [if_pos h0]
  rw [e7]
  exact s_if_eq (off := 5) (tgt := 1393) (by decide +kernel) (by decide) (fun _ => done) (fun c3 => absurd wcmp_s c3)
set_option maxRecDepth 20000 in
theorem w_finisher (hst : K.1.stackTraces = false) (hX : XE E b N xs) (hr : ∀ j, R32 (xs j)) (hi : i + 3 ≤ N) (hN : N ≤ 1536) (hI : Inv S) (hRX : RX S M) (hRM : RM S M) (hu : uc + 6 ≤ 601024 ∧ us + 40 ≤ 7293034) (k : LK K E b i uc us) : WM K fL_law E 1409 [some (aX b), some (aR 0), some (aR 63), some (aR 79), some (aI i), none, none] [] GG M uc us := by
  refine s_aload_n (i := 1) (by decide +kernel) rfl ?_
  refine s_aloadX_n (i := 0) (by decide +kernel) rfl ?_
  refine s_iload (i := 4) (by decide +kernel) rfl ?_
  refine s_iconst (n := 1) (by decide +kernel) ?_
  refine s_iadd (by decide +kernel) ?_
  refine s_sld (j := i + 1) hX (wrn (n := i + 1) (by omega)) (by omega) (by decide +kernel) ?_
  refine s_aload_n (i := 3) (by decide +kernel) rfl ?_
  refine s_callSH (Fc := fL_finisher) (index := 167) (as := [aR 0, aI (xs (i + 1)), aR 79]) (rest := []) rfl (l_finisher hst hI hRX (hr _) (Q := fun r G M1 => r = .inl (some (aI (aFin S (xs (i + 1))).1.1)) ∧ G = GG ∧ RX (aFin S (xs (i + 1))).2 M1 ∧ FW M M1 ∧ ((aFin S (xs (i + 1))).1.1 = 0 → M1 79 0 = wr (aFin S (xs (i + 1))).1.2)) (fun M1 r1 f1 o1 => ⟨rfl, rfl, r1, f1, o1⟩)) ⟨g_553, hwd_h (by decide) g_555, g_0, by decide, (show (parseMethodDescriptor fL_finisher.1.desc).map (fun d => d.parameters.length) = some 3 from by decide +kernel), by decide, by decide, ?_, ?_⟩ g_554 (by decide) rfl (Nat.le_of_ble_eq_true rfl) (by decide +kernel) (fun r G M1 h => ?_)
  · show uc + fL_finisher.2.2.2.2.1.cells ≤ 601024; have : fL_finisher.2.2.2.2.1.cells ≤ 5 := by decide
    omega
  · show us + fL_finisher.2.2.2.2.1.slots ≤ 7293034; have : fL_finisher.2.2.2.2.1.slots ≤ 30 := by decide
    omega
  obtain ⟨rfl, rfl, rx, fw, ow⟩ := h
  show WM K fL_law E 1420 [some (aX b), some (aR 0), some (aR 63), some (aR 79), some (aI i), none, none] [aI (aFin S (xs (i + 1))).1.1] GG M1 _ _
  refine s_istore (i := 5) (by decide +kernel) (by decide) ?_
  show WM K fL_law E _ [some (aX b), some (aR 0), some (aR 63), some (aR 79), some (aI i), some (aI (aFin S (xs (i + 1))).1.1), none] [] GG M1 _ _
  refine s_aload_n (i := 2) (by decide +kernel) rfl ?_
  refine s_aloadX_n (i := 0) (by decide +kernel) rfl ?_
  refine s_iload (i := 4) (by decide +kernel) rfl ?_
  refine s_iconst (n := 1) (by decide +kernel) ?_
  refine s_iadd (by decide +kernel) ?_
  refine s_sld (j := i + 1) hX (wrn (n := i + 1) (by omega)) (by omega) (by decide +kernel) ?_
  refine s_callV (Fc := fM_finisher) (index := 169) (ci := 5) (as := [aI (xs (i + 1))]) (rest := []) rfl (m_finisher hst hI (hRM.fx fw) (hr _) (Q := fun r G M2 => r = .inl (some (aI (vl (aFin S (xs (i + 1))).1))) ∧ G = GG ∧ RM (aFin S (xs (i + 1))).2 M2 ∧ FQ M1 M2 ∧ M2 63 0 = ((aFin S (xs (i + 1))).1.1 : Int)) (fun M2 r2 f2 c2 => ⟨rfl, rfl, r2, f2, c2⟩)) rfl rfl (by decide) rfl ⟨g_817, hwd_c rfl g_820, g_6, by decide, (show (parseMethodDescriptor fM_finisher.1.desc).map (fun d => d.parameters.length) = some 1 from by decide +kernel), by decide, by decide, ?_, ?_⟩ g_818 g_819 rfl rfl (Nat.le_of_ble_eq_true rfl) (by decide +kernel) (fun r G M2 h => ?_)
  · show uc + fL_finisher.2.2.2.2.1.cells + fM_finisher.2.2.2.2.1.cells ≤ 601024; have : fL_finisher.2.2.2.2.1.cells ≤ 5 := by decide
    have : fM_finisher.2.2.2.2.1.cells = 0 := rfl
    omega
  · show us + fL_finisher.2.2.2.2.1.slots + fM_finisher.2.2.2.2.1.slots ≤ 7293034; have : fL_finisher.2.2.2.2.1.slots ≤ 30 := by decide
    have : fM_finisher.2.2.2.2.1.slots = 0 := rfl
    omega
  obtain ⟨rfl, rfl, rm, fq, ct⟩ := h
  show WM K fL_law E 1432 [some (aX b), some (aR 0), some (aR 63), some (aR 79), some (aI i), some (aI (aFin S (xs (i + 1))).1.1), none] [aI (vl (aFin S (xs (i + 1))).1)] GG M2 _ _
  refine s_istore (i := 6) (by decide +kernel) (by decide) ?_
  show WM K fL_law E _ [some (aX b), some (aR 0), some (aR 63), some (aR 79), some (aI i), some (aI (aFin S (xs (i + 1))).1.1), some (aI (vl (aFin S (xs (i + 1))).1))] [] GG M2 _ _
  refine s_aload_n (i := 2) (by decide +kernel) rfl ?_
  refine s_callV (Fc := fM_thrown) (index := 92) (ci := 5) (as := []) (rest := []) rfl (EM_thrown hst (BM_thrown_0 (Q := fun r G M3 => r = .inl (some (aI (M2 63 0))) ∧ G = GG ∧ M3 = M2) ⟨rfl, rfl, rfl⟩)) rfl rfl (by decide) rfl ⟨g_639, hl_thr, g_6, by decide, (show (parseMethodDescriptor fM_thrown.1.desc).map (fun d => d.parameters.length) = some 0 from by decide +kernel), by decide, by decide, ?_, ?_⟩ g_640 g_641 rfl rfl (Nat.le_of_ble_eq_true rfl) (by decide +kernel) (fun r G M3 h => ?_)
  · show uc + fL_finisher.2.2.2.2.1.cells + fM_finisher.2.2.2.2.1.cells + 0 ≤ 601024; have : fL_finisher.2.2.2.2.1.cells ≤ 5 := by decide
    have : fM_finisher.2.2.2.2.1.cells = 0 := rfl
    omega
  · show us + fL_finisher.2.2.2.2.1.slots + fM_finisher.2.2.2.2.1.slots + 0 ≤ 7293034; have : fL_finisher.2.2.2.2.1.slots ≤ 30 := by decide
    have : fM_finisher.2.2.2.2.1.slots = 0 := rfl
    omega
  obtain ⟨rfl, rfl, rfl⟩ := h
  show WM K fL_law E 1438 [some (aX b), some (aR 0), some (aR 63), some (aR 79), some (aI i), some (aI (aFin S (xs (i + 1))).1.1), some (aI (vl (aFin S (xs (i + 1))).1))] [aI (M3 63 0)] GG M3 _ _
  refine s_iload (i := 5) (by decide +kernel) rfl ?_
  have hk := k_finisher (S := S) (p := xs (i + 1))
  refine s_icmp_eq (off := 5) (tgt := 1445) (by decide +kernel) (by decide) (fun c => ?_) (fun c => absurd (by rw [ct]) c)
  have done : WM K fL_law E 1462 [some (aX b), some (aR 0), some (aR 63), some (aR 79), some (aI i), some (aI (aFin S (xs (i + 1))).1.1), some (aI (vl (aFin S (xs (i + 1))).1))] [] GG M3 (uc + fL_finisher.2.2.2.2.1.cells + fM_finisher.2.2.2.2.1.cells + 0) (us + fL_finisher.2.2.2.2.1.slots + fM_finisher.2.2.2.2.1.slots + 0) := by
    refine s_goto (off := 3) (tgt := 1465) (by decide +kernel) (by decide) ?_
    refine s_loc (L' := [some (aX b), some (aR 0), some (aR 63), some (aR 79), some (aI i), none, none]) (ll_s (ll_s (ll_s (ll_s (ll_s (ll_n (ll_n ll_nil))))))) ?_
    have e1 : fL_finisher.2.2.2.2.1.cells ≤ 5 := by decide
    have e2 : fM_finisher.2.2.2.2.1.cells = 0 := rfl
    have e3 : fL_finisher.2.2.2.2.1.slots ≤ 30 := by decide
    have e4 : fM_finisher.2.2.2.2.1.slots = 0 := rfl
    exact s_wid (by omega) (by omega) (k (aFin S (xs (i + 1))).2 M3 (i_aFin hI _) (rx.fq fq) rm)
  refine s_iload (i := 5) (by decide +kernel) rfl ?_
  refine s_if_ne (off := 15) (tgt := 1462) (by decide +kernel) (by decide) (fun _ => done) (fun c2 => ?_)
  rw [wrn (by omega)] at c2
  have h0 : (aFin S (xs (i + 1))).1.1 = 0 := by omega
  refine s_aload_n (i := 3) (by decide +kernel) rfl ?_
  refine s_iconst (n := 0) (by decide +kernel) ?_
  refine s_lald (j := 0) (n := 1) (rs := []) rfl wr_0 (by omega) (by decide +kernel) ?_
  refine s_iload (i := 6) (by decide +kernel) rfl ?_
  refine s_i2l (by decide +kernel) ?_
  refine s_lcmp (by decide +kernel) ?_
  have e7 : M3 79 0 = wr (vl (aFin S (xs (i + 1))).1) := by rw [fq 79 0 (by omega), ow h0]; unfold vl; rw [if_pos h0]
  rw [e7]
  exact s_if_eq (off := 5) (tgt := 1462) (by decide +kernel) (by decide) (fun _ => done) (fun c3 => absurd wcmp_s c3)
end LC
