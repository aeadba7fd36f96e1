/-! the law's cases of booleans and those without numbers (printed by gen70.py) -/
theorem b2i_tr {b : Bool} (h : b = true) : b2i b = 1 := by rw [h]; rfl
theorem b2i_fa {b : Bool} (h : b = false) : b2i b = 0 := by rw [h]; rfl
section LD
variable {K : KX} {E : CE} {S : SS} {M : AM} {b N i uc us : Nat} {xs : Nat → Int}
set_option maxRecDepth 20000 in
theorem w_setCharger_c (hst : K.1.stackTraces = false) (hX : XE E b N xs) (hr : ∀ j, R32 (xs j)) (hi : i + 3 ≤ N) (hN : N ≤ 1536) (hI : Inv S) (hRX : RX S M) (hRM : RM S M) (hu : uc + 6 ≤ 601024 ∧ us + 40 ≤ 7293034) (k : LK K E b i uc us) (z : Bool) {M1 : AM} (rx : RX (aCh S (xs (i + 1)) z).2 M1) (fw : FW M M1) (ow : (aCh S (xs (i + 1)) z).1.1 = 0 → M1 79 0 = wr (aCh S (xs (i + 1)) z).1.2) : WM K fL_law E 264 [some (aX b), some (aR 0), some (aR 63), some (aR 79), some (aI i), some (aI (aCh S (xs (i + 1)) z).1.1), none] [aI (b2i z), aI (xs (i + 1)), aR 63] GG M1 (uc + fL_setCharger.2.2.2.2.1.cells) (us + fL_setCharger.2.2.2.2.1.slots) := by
  refine s_callV (Fc := fM_setCharger) (index := 99) (ci := 5) (as := [aI (xs (i + 1)), aI (b2i z)]) (rest := []) rfl (m_setCharger hst (hRM.fx fw) (hr _) (Q := fun r G M2 => r = .inl (some (aI (vl (aCh S (xs (i + 1)) z).1))) ∧ G = GG ∧ RM (aCh S (xs (i + 1)) z).2 M2 ∧ FQ M1 M2 ∧ M2 63 0 = ((aCh S (xs (i + 1)) z).1.1 : Int)) (fun M2 r2 f2 c2 => ⟨rfl, rfl, r2, f2, c2⟩)) rfl rfl (by decide) rfl ⟨g_657, hwd_c rfl g_660, g_6, by decide, (show (parseMethodDescriptor fM_setCharger.1.desc).map (fun d => d.parameters.length) = some 2 from by decide +kernel), by decide, by decide, ?_, ?_⟩ g_658 g_659 rfl rfl (Nat.le_of_ble_eq_true rfl) (by decide +kernel) (fun r G M2 h => ?_)
  · show uc + fL_setCharger.2.2.2.2.1.cells + fM_setCharger.2.2.2.2.1.cells ≤ 601024; have : fL_setCharger.2.2.2.2.1.cells ≤ 5 := by decide
    have : fM_setCharger.2.2.2.2.1.cells = 0 := rfl
    omega
  · show us + fL_setCharger.2.2.2.2.1.slots + fM_setCharger.2.2.2.2.1.slots ≤ 7293034; have : fL_setCharger.2.2.2.2.1.slots ≤ 30 := by decide
    have : fM_setCharger.2.2.2.2.1.slots = 0 := rfl
    omega
  obtain ⟨rfl, rfl, rm, fq, ct⟩ := h
  show WM K fL_law E 267 [some (aX b), some (aR 0), some (aR 63), some (aR 79), some (aI i), some (aI (aCh S (xs (i + 1)) z).1.1), none] [aI (vl (aCh S (xs (i + 1)) z).1)] GG M2 _ _
  refine s_istore (i := 6) (by decide +kernel) (by decide) ?_
  show WM K fL_law E _ [some (aX b), some (aR 0), some (aR 63), some (aR 79), some (aI i), some (aI (aCh S (xs (i + 1)) z).1.1), some (aI (vl (aCh S (xs (i + 1)) z).1))] [] GG M2 _ _
  refine s_aload_n (i := 2) (by decide +kernel) rfl ?_
  refine s_callV (Fc := fM_thrown) (index := 92) (ci := 5) (as := []) (rest := []) rfl (EM_thrown hst (BM_thrown_0 (Q := fun r G M3 => r = .inl (some (aI (M2 63 0))) ∧ G = GG ∧ M3 = M2) ⟨rfl, rfl, rfl⟩)) rfl rfl (by decide) rfl ⟨g_639, hl_thr, g_6, by decide, (show (parseMethodDescriptor fM_thrown.1.desc).map (fun d => d.parameters.length) = some 0 from by decide +kernel), by decide, by decide, ?_, ?_⟩ g_640 g_641 rfl rfl (Nat.le_of_ble_eq_true rfl) (by decide +kernel) (fun r G M3 h => ?_)
  · show uc + fL_setCharger.2.2.2.2.1.cells + fM_setCharger.2.2.2.2.1.cells + 0 ≤ 601024; have : fL_setCharger.2.2.2.2.1.cells ≤ 5 := by decide
    have : fM_setCharger.2.2.2.2.1.cells = 0 := rfl
    omega
  · show us + fL_setCharger.2.2.2.2.1.slots + fM_setCharger.2.2.2.2.1.slots + 0 ≤ 7293034; have : fL_setCharger.2.2.2.2.1.slots ≤ 30 := by decide
    have : fM_setCharger.2.2.2.2.1.slots = 0 := rfl
    omega
  obtain ⟨rfl, rfl, rfl⟩ := h
  show WM K fL_law E 273 [some (aX b), some (aR 0), some (aR 63), some (aR 79), some (aI i), some (aI (aCh S (xs (i + 1)) z).1.1), some (aI (vl (aCh S (xs (i + 1)) z).1))] [aI (M3 63 0)] GG M3 _ _
  refine s_iload (i := 5) (by decide +kernel) rfl ?_
  have hk := k_setCharger (S := S) (p := xs (i + 1)) (b := z)
  refine s_icmp_eq (off := 5) (tgt := 280) (by decide +kernel) (by decide) (fun c => ?_) (fun c => absurd (by rw [ct]) c)
  have done : WM K fL_law E 304 [some (aX b), some (aR 0), some (aR 63), some (aR 79), some (aI i), some (aI (aCh S (xs (i + 1)) z).1.1), some (aI (vl (aCh S (xs (i + 1)) z).1))] [] GG M3 (uc + fL_setCharger.2.2.2.2.1.cells + fM_setCharger.2.2.2.2.1.cells + 0) (us + fL_setCharger.2.2.2.2.1.slots + fM_setCharger.2.2.2.2.1.slots + 0) := by
    refine s_goto (off := 1161) (tgt := 1465) (by decide +kernel) (by decide) ?_
    refine s_loc (L' := [some (aX b), some (aR 0), some (aR 63), some (aR 79), some (aI i), none, none]) (ll_s (ll_s (ll_s (ll_s (ll_s (ll_n (ll_n ll_nil))))))) ?_
    have e1 : fL_setCharger.2.2.2.2.1.cells ≤ 5 := by decide
    have e2 : fM_setCharger.2.2.2.2.1.cells = 0 := rfl
    have e3 : fL_setCharger.2.2.2.2.1.slots ≤ 30 := by decide
    have e4 : fM_setCharger.2.2.2.2.1.slots = 0 := rfl
    exact s_wid (by omega) (by omega) (k (aCh S (xs (i + 1)) z).2 M3 (i_aCh hI _ _) (rx.fq fq) rm)
  refine s_iload (i := 5) (by decide +kernel) rfl ?_
  refine s_if_ne (off := 22) (tgt := 304) (by decide +kernel) (by decide) (fun _ => done) (fun c2 => ?_)
  rw [wrn (by omega)] at c2
  have h0 : (aCh S (xs (i + 1)) z).1.1 = 0 := by omega
  have e7 : M3 79 0 = wr (aCh S (xs (i + 1)) z).1.2 := by rw [fq 79 0 (by omega), ow h0]
  have e8 : vl (aCh S (xs (i + 1)) z).1 = (aCh S (xs (i + 1)) z).1.2 := by unfold vl; rw [if_pos h0]
  refine s_aload_n (i := 3) (by decide +kernel) rfl ?_
  refine s_iconst (n := 0) (by decide +kernel) ?_
  refine s_lald (j := 0) (n := 1) (rs := []) rfl wr_0 (by omega) (by decide +kernel) ?_
  refine s_iload (i := 6) (by decide +kernel) rfl ?_
  rcases kb_setCharger (S := S) (p := xs (i + 1)) (b := z) with q | q
  · rw [q] at e7 e8
    rw [e7]
    refine s_if_eq (off := 7) (tgt := 297) (by decide +kernel) (by decide) (fun _ => ?_) (fun c3 => absurd (by rw [e8]; exact wr_0) c3)
    refine s_lconst (n := 0) (z := 0) (by decide +kernel) (by decide) ?_
    refine s_lcmp (by decide +kernel) ?_
    rw [wr_0]
    exact s_if_eq (off := 5) (tgt := 304) (by decide +kernel) (by decide) (fun _ => done) (fun c3 => absurd wcmp_s c3)
  · rw [q] at e7 e8
    rw [e7]
    refine s_if_eq (off := 7) (tgt := 297) (by decide +kernel) (by decide) (fun c3 => absurd c3 (by rw [e8, wr_1]; decide)) (fun _ => ?_)
    refine s_lconst (n := 1) (z := 1) (by decide +kernel) (by decide) ?_
    refine s_goto (off := 4) (tgt := 298) (by decide +kernel) (by decide) ?_
    refine s_lcmp (by decide +kernel) ?_
    rw [wr_1]
    exact s_if_eq (off := 5) (tgt := 304) (by decide +kernel) (by decide) (fun _ => done) (fun c3 => absurd wcmp_s c3)
set_option maxRecDepth 20000 in
theorem w_setCharger_b (hst : K.1.stackTraces = false) (hX : XE E b N xs) (hr : ∀ j, R32 (xs j)) (hi : i + 3 ≤ N) (hN : N ≤ 1536) (hI : Inv S) (hRX : RX S M) (hRM : RM S M) (hu : uc + 6 ≤ 601024 ∧ us + 40 ≤ 7293034) (k : LK K E b i uc us) (z : Bool) (hz : wr (xs (i + 2)) = 0 ↔ z = false) : WM K fL_law E 237 [some (aX b), some (aR 0), some (aR 63), some (aR 79), some (aI i), none, none] [aI (b2i z), aI (xs (i + 1)), aR 0] GG M uc us := by
  refine s_aload_n (i := 3) (by decide +kernel) rfl ?_
  refine s_callSH (Fc := fL_setCharger) (index := 96) (as := [aR 0, aI (xs (i + 1)), aI (b2i z), aR 79]) (rest := []) rfl (l_setCharger hst hI hRX (hr _) (Q := fun r G M1 => r = .inl (some (aI (aCh S (xs (i + 1)) z).1.1)) ∧ G = GG ∧ RX (aCh S (xs (i + 1)) z).2 M1 ∧ FW M M1 ∧ ((aCh S (xs (i + 1)) z).1.1 = 0 → M1 79 0 = wr (aCh S (xs (i + 1)) z).1.2)) (fun M1 r1 f1 o1 => ⟨rfl, rfl, r1, f1, o1⟩)) ⟨g_341, hwd_h (by decide) g_343, g_0, by decide, (show (parseMethodDescriptor fL_setCharger.1.desc).map (fun d => d.parameters.length) = some 4 from by decide +kernel), by decide, by decide, ?_, ?_⟩ g_342 (by decide) rfl (Nat.le_of_ble_eq_true rfl) (by decide +kernel) (fun r G M1 h => ?_)
  · show uc + fL_setCharger.2.2.2.2.1.cells ≤ 601024; have : fL_setCharger.2.2.2.2.1.cells ≤ 5 := by decide
    omega
  · show us + fL_setCharger.2.2.2.2.1.slots ≤ 7293034; have : fL_setCharger.2.2.2.2.1.slots ≤ 30 := by decide
    omega
  obtain ⟨rfl, rfl, rx, fw, ow⟩ := h
  show WM K fL_law E 241 [some (aX b), some (aR 0), some (aR 63), some (aR 79), some (aI i), none, none] [aI (aCh S (xs (i + 1)) z).1.1] GG M1 _ _
  refine s_istore (i := 5) (by decide +kernel) (by decide) ?_
  show WM K fL_law E _ [some (aX b), some (aR 0), some (aR 63), some (aR 79), some (aI i), some (aI (aCh S (xs (i + 1)) z).1.1), none] [] GG M1 _ _
  refine s_aload_n (i := 2) (by decide +kernel) rfl ?_
  refine s_aloadX_n (i := 0) (by decide +kernel) rfl ?_
  refine s_iload (i := 4) (by decide +kernel) rfl ?_
  refine s_iconst (n := 1) (by decide +kernel) ?_
  refine s_iadd (by decide +kernel) ?_
  refine s_sld (j := i + 1) hX (wrn (n := i + 1) (by omega)) (by omega) (by decide +kernel) ?_
  refine s_aloadX_n (i := 0) (by decide +kernel) rfl ?_
  refine s_iload (i := 4) (by decide +kernel) rfl ?_
  refine s_iconst (n := 2) (by decide +kernel) ?_
  refine s_iadd (by decide +kernel) ?_
  refine s_sld (j := i + 2) hX (wrn (n := i + 2) (by omega)) (by omega) (by decide +kernel) ?_
  have hc := w_setCharger_c hst hX hr hi hN hI hRX hRM hu k z rx fw ow
  refine s_if_eq (off := 7) (tgt := 263) (by decide +kernel) (by decide) (fun c => ?_) (fun c => ?_)
  · rw [b2i_fa (hz.mp c)] at hc
    exact s_iconst (n := 0) (by decide +kernel) hc
  · rw [b2i_tr ((Bool.not_eq_false z).mp (fun q => c (hz.mpr q)))] at hc
    refine s_iconst (n := 1) (by decide +kernel) ?_
    exact s_goto (off := 4) (tgt := 264) (by decide +kernel) (by decide) hc
set_option maxRecDepth 20000 in
theorem w_setCharger (hst : K.1.stackTraces = false) (hX : XE E b N xs) (hr : ∀ j, R32 (xs j)) (hi : i + 3 ≤ N) (hN : N ≤ 1536) (hI : Inv S) (hRX : RX S M) (hRM : RM S M) (hu : uc + 6 ≤ 601024 ∧ us + 40 ≤ 7293034) (k : LK K E b i uc us) : WM K fL_law E 216 [some (aX b), some (aR 0), some (aR 63), some (aR 79), some (aI i), none, none] [] GG M uc us := by
  refine s_aload_n (i := 1) (by decide +kernel) rfl ?_
  refine s_aloadX_n (i := 0) (by decide +kernel) rfl ?_
  refine s_iload (i := 4) (by decide +kernel) rfl ?_
  refine s_iconst (n := 1) (by decide +kernel) ?_
  refine s_iadd (by decide +kernel) ?_
  refine s_sld (j := i + 1) hX (wrn (n := i + 1) (by omega)) (by omega) (by decide +kernel) ?_
  refine s_aloadX_n (i := 0) (by decide +kernel) rfl ?_
  refine s_iload (i := 4) (by decide +kernel) rfl ?_
  refine s_iconst (n := 2) (by decide +kernel) ?_
  refine s_iadd (by decide +kernel) ?_
  refine s_sld (j := i + 2) hX (wrn (n := i + 2) (by omega)) (by omega) (by decide +kernel) ?_
  refine s_if_eq (off := 7) (tgt := 236) (by decide +kernel) (by decide) (fun c => ?_) (fun c => ?_)
  · exact s_iconst (n := 0) (by decide +kernel) (w_setCharger_b hst hX hr hi hN hI hRX hRM hu k false ⟨fun _ => rfl, fun _ => c⟩)
  · refine s_iconst (n := 1) (by decide +kernel) ?_
    exact s_goto (off := 4) (tgt := 237) (by decide +kernel) (by decide) (w_setCharger_b hst hX hr hi hN hI hRX hRM hu k true ⟨fun q => absurd q c, fun q => (by cases q)⟩)
set_option maxRecDepth 20000 in
theorem w_canStep (hst : K.1.stackTraces = false) (hX : XE E b N xs) (hr : ∀ j, R32 (xs j)) (hi : i + 3 ≤ N) (hN : N ≤ 1536) (hI : Inv S) (hRX : RX S M) (hRM : RM S M) (hu : uc + 6 ≤ 601024 ∧ us + 40 ≤ 7293034) (k : LK K E b i uc us) : WM K fL_law E 623 [some (aX b), some (aR 0), some (aR 63), some (aR 79), some (aI i), none, none] [] GG M uc us := by
  refine s_aload_n (i := 1) (by decide +kernel) rfl ?_
  refine s_aloadX_n (i := 0) (by decide +kernel) rfl ?_
  refine s_iload (i := 4) (by decide +kernel) rfl ?_
  refine s_iconst (n := 1) (by decide +kernel) ?_
  refine s_iadd (by decide +kernel) ?_
  refine s_sld (j := i + 1) hX (wrn (n := i + 1) (by omega)) (by omega) (by decide +kernel) ?_
  refine s_aload_n (i := 3) (by decide +kernel) rfl ?_
  refine s_callSH (Fc := fL_canStep) (index := 116) (as := [aR 0, aI (xs (i + 1)), aR 79]) (rest := []) rfl (l_canStep hst hI hRX (hr _) (Q := fun r G M1 => r = .inl (some (aI (aMay S (xs (i + 1))).1.1)) ∧ G = GG ∧ RX (aMay S (xs (i + 1))).2 M1 ∧ FW M M1 ∧ ((aMay S (xs (i + 1))).1.1 = 0 → M1 79 0 = wr (aMay S (xs (i + 1))).1.2)) (fun M1 r1 f1 o1 => ⟨rfl, rfl, r1, f1, o1⟩)) ⟨g_432, hwd_h (by decide) g_434, g_0, by decide, (show (parseMethodDescriptor fL_canStep.1.desc).map (fun d => d.parameters.length) = some 3 from by decide +kernel), by decide, by decide, ?_, ?_⟩ g_433 (by decide) rfl (Nat.le_of_ble_eq_true rfl) (by decide +kernel) (fun r G M1 h => ?_)
  · show uc + fL_canStep.2.2.2.2.1.cells ≤ 601024; have : fL_canStep.2.2.2.2.1.cells ≤ 5 := by decide
    omega
  · show us + fL_canStep.2.2.2.2.1.slots ≤ 7293034; have : fL_canStep.2.2.2.2.1.slots ≤ 30 := by decide
    omega
  obtain ⟨rfl, rfl, rx, fw, ow⟩ := h
  show WM K fL_law E 634 [some (aX b), some (aR 0), some (aR 63), some (aR 79), some (aI i), none, none] [aI (aMay S (xs (i + 1))).1.1] GG M1 _ _
  refine s_istore (i := 5) (by decide +kernel) (by decide) ?_
  show WM K fL_law E _ [some (aX b), some (aR 0), some (aR 63), some (aR 79), some (aI i), some (aI (aMay S (xs (i + 1))).1.1), none] [] GG M1 _ _
  refine s_aload_n (i := 2) (by decide +kernel) rfl ?_
  refine s_aloadX_n (i := 0) (by decide +kernel) rfl ?_
  refine s_iload (i := 4) (by decide +kernel) rfl ?_
  refine s_iconst (n := 1) (by decide +kernel) ?_
  refine s_iadd (by decide +kernel) ?_
  refine s_sld (j := i + 1) hX (wrn (n := i + 1) (by omega)) (by omega) (by decide +kernel) ?_
  refine s_callV (Fc := fM_canStep) (index := 118) (ci := 5) (as := [aI (xs (i + 1))]) (rest := []) rfl (m_canStep hst hI (hRM.fx fw) (hr _) (Q := fun r G M2 => r = .inl (some (aI (vl (aMay S (xs (i + 1))).1))) ∧ G = GG ∧ RM (aMay S (xs (i + 1))).2 M2 ∧ FQ M1 M2 ∧ M2 63 0 = ((aMay S (xs (i + 1))).1.1 : Int)) (fun M2 r2 f2 c2 => ⟨rfl, rfl, r2, f2, c2⟩)) rfl rfl (by decide) rfl ⟨g_725, hwd_c rfl g_728, g_6, by decide, (show (parseMethodDescriptor fM_canStep.1.desc).map (fun d => d.parameters.length) = some 1 from by decide +kernel), by decide, by decide, ?_, ?_⟩ g_726 g_727 rfl rfl (Nat.le_of_ble_eq_true rfl) (by decide +kernel) (fun r G M2 h => ?_)
  · show uc + fL_canStep.2.2.2.2.1.cells + fM_canStep.2.2.2.2.1.cells ≤ 601024; have : fL_canStep.2.2.2.2.1.cells ≤ 5 := by decide
    have : fM_canStep.2.2.2.2.1.cells = 0 := rfl
    omega
  · show us + fL_canStep.2.2.2.2.1.slots + fM_canStep.2.2.2.2.1.slots ≤ 7293034; have : fL_canStep.2.2.2.2.1.slots ≤ 30 := by decide
    have : fM_canStep.2.2.2.2.1.slots = 0 := rfl
    omega
  obtain ⟨rfl, rfl, rm, fq, ct⟩ := h
  show WM K fL_law E 646 [some (aX b), some (aR 0), some (aR 63), some (aR 79), some (aI i), some (aI (aMay S (xs (i + 1))).1.1), none] [aI (vl (aMay S (xs (i + 1))).1)] GG M2 _ _
  refine s_istore (i := 6) (by decide +kernel) (by decide) ?_
  show WM K fL_law E _ [some (aX b), some (aR 0), some (aR 63), some (aR 79), some (aI i), some (aI (aMay S (xs (i + 1))).1.1), some (aI (vl (aMay S (xs (i + 1))).1))] [] GG M2 _ _
  refine s_aload_n (i := 2) (by decide +kernel) rfl ?_
  refine s_callV (Fc := fM_thrown) (index := 92) (ci := 5) (as := []) (rest := []) rfl (EM_thrown hst (BM_thrown_0 (Q := fun r G M3 => r = .inl (some (aI (M2 63 0))) ∧ G = GG ∧ M3 = M2) ⟨rfl, rfl, rfl⟩)) rfl rfl (by decide) rfl ⟨g_639, hl_thr, g_6, by decide, (show (parseMethodDescriptor fM_thrown.1.desc).map (fun d => d.parameters.length) = some 0 from by decide +kernel), by decide, by decide, ?_, ?_⟩ g_640 g_641 rfl rfl (Nat.le_of_ble_eq_true rfl) (by decide +kernel) (fun r G M3 h => ?_)
  · show uc + fL_canStep.2.2.2.2.1.cells + fM_canStep.2.2.2.2.1.cells + 0 ≤ 601024; have : fL_canStep.2.2.2.2.1.cells ≤ 5 := by decide
    have : fM_canStep.2.2.2.2.1.cells = 0 := rfl
    omega
  · show us + fL_canStep.2.2.2.2.1.slots + fM_canStep.2.2.2.2.1.slots + 0 ≤ 7293034; have : fL_canStep.2.2.2.2.1.slots ≤ 30 := by decide
    have : fM_canStep.2.2.2.2.1.slots = 0 := rfl
    omega
  obtain ⟨rfl, rfl, rfl⟩ := h
  show WM K fL_law E 652 [some (aX b), some (aR 0), some (aR 63), some (aR 79), some (aI i), some (aI (aMay S (xs (i + 1))).1.1), some (aI (vl (aMay S (xs (i + 1))).1))] [aI (M3 63 0)] GG M3 _ _
  refine s_iload (i := 5) (by decide +kernel) rfl ?_
  have hk := k_canStep (S := S) (p := xs (i + 1))
  refine s_icmp_eq (off := 5) (tgt := 659) (by decide +kernel) (by decide) (fun c => ?_) (fun c => absurd (by rw [ct]) c)
  have done : WM K fL_law E 683 [some (aX b), some (aR 0), some (aR 63), some (aR 79), some (aI i), some (aI (aMay S (xs (i + 1))).1.1), some (aI (vl (aMay S (xs (i + 1))).1))] [] GG M3 (uc + fL_canStep.2.2.2.2.1.cells + fM_canStep.2.2.2.2.1.cells + 0) (us + fL_canStep.2.2.2.2.1.slots + fM_canStep.2.2.2.2.1.slots + 0) := by
    refine s_goto (off := 782) (tgt := 1465) (by decide +kernel) (by decide) ?_
    refine s_loc (L' := [some (aX b), some (aR 0), some (aR 63), some (aR 79), some (aI i), none, none]) (ll_s (ll_s (ll_s (ll_s (ll_s (ll_n (ll_n ll_nil))))))) ?_
    have e1 : fL_canStep.2.2.2.2.1.cells ≤ 5 := by decide
    have e2 : fM_canStep.2.2.2.2.1.cells = 0 := rfl
    have e3 : fL_canStep.2.2.2.2.1.slots ≤ 30 := by decide
    have e4 : fM_canStep.2.2.2.2.1.slots = 0 := rfl
    exact s_wid (by omega) (by omega) (k (aMay S (xs (i + 1))).2 M3 (i_aMay hI _) (rx.fq fq) rm)
  refine s_iload (i := 5) (by decide +kernel) rfl ?_
  refine s_if_ne (off := 22) (tgt := 683) (by decide +kernel) (by decide) (fun _ => done) (fun c2 => ?_)
  rw [wrn (by omega)] at c2
  have h0 : (aMay S (xs (i + 1))).1.1 = 0 := by omega
  have e7 : M3 79 0 = wr (aMay S (xs (i + 1))).1.2 := by rw [fq 79 0 (by omega), ow h0]
  have e8 : vl (aMay S (xs (i + 1))).1 = (aMay S (xs (i + 1))).1.2 := by unfold vl; rw [if_pos h0]
  refine s_aload_n (i := 3) (by decide +kernel) rfl ?_
  refine s_iconst (n := 0) (by decide +kernel) ?_
  refine s_lald (j := 0) (n := 1) (rs := []) rfl wr_0 (by omega) (by decide +kernel) ?_
  refine s_iload (i := 6) (by decide +kernel) rfl ?_
  rcases kb_canStep (S := S) (p := xs (i + 1)) with q | q
  · rw [q] at e7 e8
    rw [e7]
    refine s_if_eq (off := 7) (tgt := 676) (by decide +kernel) (by decide) (fun _ => ?_) (fun c3 => absurd (by rw [e8]; exact wr_0) c3)
    refine s_lconst (n := 0) (z := 0) (by decide +kernel) (by decide) ?_
    refine s_lcmp (by decide +kernel) ?_
    rw [wr_0]
    exact s_if_eq (off := 5) (tgt := 683) (by decide +kernel) (by decide) (fun _ => done) (fun c3 => absurd wcmp_s c3)
  · rw [q] at e7 e8
    rw [e7]
    refine s_if_eq (off := 7) (tgt := 676) (by decide +kernel) (by decide) (fun c3 => absurd c3 (by rw [e8, wr_1]; decide)) (fun _ => ?_)
    refine s_lconst (n := 1) (z := 1) (by decide +kernel) (by decide) ?_
    refine s_goto (off := 4) (tgt := 677) (by decide +kernel) (by decide) ?_
    refine s_lcmp (by decide +kernel) ?_
    rw [wr_1]
    exact s_if_eq (off := 5) (tgt := 683) (by decide +kernel) (by decide) (fun _ => done) (fun c3 => absurd wcmp_s c3)
set_option maxRecDepth 20000 in
theorem w_dispatch (hst : K.1.stackTraces = false) (hX : XE E b N xs) (hr : ∀ j, R32 (xs j)) (hi : i + 3 ≤ N) (hN : N ≤ 1536) (hI : Inv S) (hRX : RX S M) (hRM : RM S M) (hu : uc + 6 ≤ 601024 ∧ us + 40 ≤ 7293034) (k : LK K E b i uc us) : WM K fL_law E 854 [some (aX b), some (aR 0), some (aR 63), some (aR 79), some (aI i), none, none] [] GG M uc us := by
  refine s_aload_n (i := 1) (by decide +kernel) rfl ?_
  refine s_callV (Fc := fZ_dispatch) (index := 128) (ci := 4) (as := []) (rest := []) rfl (x_dispatch hst hI hRX (Q := fun r G M1 => r = .inl (some (aI (aDsp S).1.2)) ∧ G = GG ∧ RX (aDsp S).2 M1 ∧ FX M M1) (fun M1 r1 f1 => ⟨rfl, rfl, r1, f1⟩)) rfl rfl (by decide) rfl ⟨g_146, hwd_c rfl g_149, g_1, by decide, (show (parseMethodDescriptor fZ_dispatch.1.desc).map (fun d => d.parameters.length) = some 0 from by decide +kernel), by decide, by decide, ?_, ?_⟩ g_147 g_148 rfl rfl (Nat.le_of_ble_eq_true rfl) (by decide +kernel) (fun r G M1 h => ?_)
  · show uc + fZ_dispatch.2.2.2.2.1.cells ≤ 601024; have : fZ_dispatch.2.2.2.2.1.cells = 0 := rfl
    omega
  · show us + fZ_dispatch.2.2.2.2.1.slots ≤ 7293034; have : fZ_dispatch.2.2.2.2.1.slots = 0 := rfl
    omega
  obtain ⟨rfl, rfl, rx, fx⟩ := h
  show WM K fL_law E 858 [some (aX b), some (aR 0), some (aR 63), some (aR 79), some (aI i), none, none] [aI (aDsp S).1.2] GG M1 _ _
  refine s_aload_n (i := 2) (by decide +kernel) rfl ?_
  refine s_callV (Fc := fM_dispatch) (index := 131) (ci := 5) (as := []) (rest := [aI (aDsp S).1.2]) rfl (m_dispatch hst hI (hRM.fx (fun c j hc _ => fx c j hc)) (Q := fun r G M2 => r = .inl (some (aI (vl (aDsp S).1))) ∧ G = GG ∧ RM (aDsp S).2 M2 ∧ FQ M1 M2) (fun M2 r2 f2 _ => ⟨rfl, rfl, r2, f2⟩)) rfl rfl (by decide) rfl ⟨g_757, hwd_c rfl g_760, g_6, by decide, (show (parseMethodDescriptor fM_dispatch.1.desc).map (fun d => d.parameters.length) = some 0 from by decide +kernel), by decide, by decide, ?_, ?_⟩ g_758 g_759 rfl rfl (Nat.le_of_ble_eq_true rfl) (by decide +kernel) (fun r G M2 h => ?_)
  · show uc + fZ_dispatch.2.2.2.2.1.cells + fM_dispatch.2.2.2.2.1.cells ≤ 601024; have : fZ_dispatch.2.2.2.2.1.cells = 0 := rfl
    have : fM_dispatch.2.2.2.2.1.cells = 0 := rfl
    omega
  · show us + fZ_dispatch.2.2.2.2.1.slots + fM_dispatch.2.2.2.2.1.slots ≤ 7293034; have : fZ_dispatch.2.2.2.2.1.slots = 0 := rfl
    have : fM_dispatch.2.2.2.2.1.slots = 0 := rfl
    omega
  obtain ⟨rfl, rfl, rm, fq⟩ := h
  have h0 : (aDsp S).1.1 = 0 := by unfold aDsp; (repeat' split) <;> rfl
  have e7 : vl (aDsp S).1 = (aDsp S).1.2 := by unfold vl; rw [if_pos h0]
  show WM K fL_law E 862 [some (aX b), some (aR 0), some (aR 63), some (aR 79), some (aI i), none, none] [aI (vl (aDsp S).1), aI (aDsp S).1.2] GG M2 _ _
  rw [e7]
  refine s_icmp_eq (off := 603) (tgt := 1465) (by decide +kernel) (by decide) (fun _ => ?_) (fun c => absurd rfl c)
  have e1 : fZ_dispatch.2.2.2.2.1.cells = 0 := rfl
  have e2 : fM_dispatch.2.2.2.2.1.cells = 0 := rfl
  have e3 : fZ_dispatch.2.2.2.2.1.slots = 0 := rfl
  have e4 : fM_dispatch.2.2.2.2.1.slots = 0 := rfl
  exact s_wid (by omega) (by omega) (k (aDsp S).2 M2 (i_aDsp hI) (rx.fq fq) rm)
set_option maxRecDepth 20000 in
theorem w_vehicles (hst : K.1.stackTraces = false) (hX : XE E b N xs) (hr : ∀ j, R32 (xs j)) (hi : i + 3 ≤ N) (hN : N ≤ 1536) (hI : Inv S) (hRX : RX S M) (hRM : RM S M) (hu : uc + 6 ≤ 601024 ∧ us + 40 ≤ 7293034) (k : LK K E b i uc us) : WM K fL_law E 1035 [some (aX b), some (aR 0), some (aR 63), some (aR 79), some (aI i), none, none] [] GG M uc us := by
  refine s_aload_n (i := 1) (by decide +kernel) rfl ?_
  refine s_callV (Fc := fZ_vehicles) (index := 141) (ci := 4) (as := []) (rest := []) rfl (x_vehicles hst hRX (Q := fun r G M1 => r = .inl (some (aI (aVhs S).1.2)) ∧ G = GG ∧ RX (aVhs S).2 M1 ∧ FX M M1) (fun M1 r1 f1 => ⟨rfl, rfl, r1, f1⟩)) rfl rfl (by decide) rfl ⟨g_231, hwd_c rfl g_234, g_1, by decide, (show (parseMethodDescriptor fZ_vehicles.1.desc).map (fun d => d.parameters.length) = some 0 from by decide +kernel), by decide, by decide, ?_, ?_⟩ g_232 g_233 rfl rfl (Nat.le_of_ble_eq_true rfl) (by decide +kernel) (fun r G M1 h => ?_)
  · show uc + fZ_vehicles.2.2.2.2.1.cells ≤ 601024; have : fZ_vehicles.2.2.2.2.1.cells = 0 := rfl
    omega
  · show us + fZ_vehicles.2.2.2.2.1.slots ≤ 7293034; have : fZ_vehicles.2.2.2.2.1.slots = 0 := rfl
    omega
  obtain ⟨rfl, rfl, rx, fx⟩ := h
  show WM K fL_law E 1039 [some (aX b), some (aR 0), some (aR 63), some (aR 79), some (aI i), none, none] [aI (aVhs S).1.2] GG M1 _ _
  refine s_aload_n (i := 2) (by decide +kernel) rfl ?_
  refine s_callV (Fc := fM_vehicles) (index := 144) (ci := 5) (as := []) (rest := [aI (aVhs S).1.2]) rfl (m_vehicles hst (hRM.fx (fun c j hc _ => fx c j hc)) (Q := fun r G M2 => r = .inl (some (aI (vl (aVhs S).1))) ∧ G = GG ∧ RM (aVhs S).2 M2 ∧ FQ M1 M2) (fun M2 r2 f2 _ => ⟨rfl, rfl, r2, f2⟩)) rfl rfl (by decide) rfl ⟨g_785, hwd_c rfl g_788, g_6, by decide, (show (parseMethodDescriptor fM_vehicles.1.desc).map (fun d => d.parameters.length) = some 0 from by decide +kernel), by decide, by decide, ?_, ?_⟩ g_786 g_787 rfl rfl (Nat.le_of_ble_eq_true rfl) (by decide +kernel) (fun r G M2 h => ?_)
  · show uc + fZ_vehicles.2.2.2.2.1.cells + fM_vehicles.2.2.2.2.1.cells ≤ 601024; have : fZ_vehicles.2.2.2.2.1.cells = 0 := rfl
    have : fM_vehicles.2.2.2.2.1.cells = 0 := rfl
    omega
  · show us + fZ_vehicles.2.2.2.2.1.slots + fM_vehicles.2.2.2.2.1.slots ≤ 7293034; have : fZ_vehicles.2.2.2.2.1.slots = 0 := rfl
    have : fM_vehicles.2.2.2.2.1.slots = 0 := rfl
    omega
  obtain ⟨rfl, rfl, rm, fq⟩ := h
  have h0 : (aVhs S).1.1 = 0 := by unfold aVhs; (repeat' split) <;> rfl
  have e7 : vl (aVhs S).1 = (aVhs S).1.2 := by unfold vl; rw [if_pos h0]
  show WM K fL_law E 1043 [some (aX b), some (aR 0), some (aR 63), some (aR 79), some (aI i), none, none] [aI (vl (aVhs S).1), aI (aVhs S).1.2] GG M2 _ _
  rw [e7]
  refine s_icmp_eq (off := 422) (tgt := 1465) (by decide +kernel) (by decide) (fun _ => ?_) (fun c => absurd rfl c)
  have e1 : fZ_vehicles.2.2.2.2.1.cells = 0 := rfl
  have e2 : fM_vehicles.2.2.2.2.1.cells = 0 := rfl
  have e3 : fZ_vehicles.2.2.2.2.1.slots = 0 := rfl
  have e4 : fM_vehicles.2.2.2.2.1.slots = 0 := rfl
  exact s_wid (by omega) (by omega) (k (aVhs S).2 M2 (show Inv _ from hI) (rx.fq fq) rm)
set_option maxRecDepth 20000 in
theorem w_orders (hst : K.1.stackTraces = false) (hX : XE E b N xs) (hr : ∀ j, R32 (xs j)) (hi : i + 3 ≤ N) (hN : N ≤ 1536) (hI : Inv S) (hRX : RX S M) (hRM : RM S M) (hu : uc + 6 ≤ 601024 ∧ us + 40 ≤ 7293034) (k : LK K E b i uc us) : WM K fL_law E 1396 [some (aX b), some (aR 0), some (aR 63), some (aR 79), some (aI i), none, none] [] GG M uc us := by
  refine s_aload_n (i := 1) (by decide +kernel) rfl ?_
  refine s_callV (Fc := fZ_orders) (index := 163) (ci := 4) (as := []) (rest := []) rfl (x_orders hst hI hRX (Q := fun r G M1 => r = .inl (some (aI (aOrd S).1.2)) ∧ G = GG ∧ RX (aOrd S).2 M1 ∧ FX M M1) (fun M1 r1 f1 => ⟨rfl, rfl, r1, f1⟩)) rfl rfl (by decide) rfl ⟨g_235, hwd_c rfl g_238, g_1, by decide, (show (parseMethodDescriptor fZ_orders.1.desc).map (fun d => d.parameters.length) = some 0 from by decide +kernel), by decide, by decide, ?_, ?_⟩ g_236 g_237 rfl rfl (Nat.le_of_ble_eq_true rfl) (by decide +kernel) (fun r G M1 h => ?_)
  · show uc + fZ_orders.2.2.2.2.1.cells ≤ 601024; have : fZ_orders.2.2.2.2.1.cells = 0 := rfl
    omega
  · show us + fZ_orders.2.2.2.2.1.slots ≤ 7293034; have : fZ_orders.2.2.2.2.1.slots = 0 := rfl
    omega
  obtain ⟨rfl, rfl, rx, fx⟩ := h
  show WM K fL_law E 1400 [some (aX b), some (aR 0), some (aR 63), some (aR 79), some (aI i), none, none] [aI (aOrd S).1.2] GG M1 _ _
  refine s_aload_n (i := 2) (by decide +kernel) rfl ?_
  refine s_callV (Fc := fM_orders) (index := 166) (ci := 5) (as := []) (rest := [aI (aOrd S).1.2]) rfl (m_orders hst hI (hRM.fx (fun c j hc _ => fx c j hc)) (Q := fun r G M2 => r = .inl (some (aI (vl (aOrd S).1))) ∧ G = GG ∧ RM (aOrd S).2 M2 ∧ FQ M1 M2) (fun M2 r2 f2 _ => ⟨rfl, rfl, r2, f2⟩)) rfl rfl (by decide) rfl ⟨g_813, hwd_c rfl g_816, g_6, by decide, (show (parseMethodDescriptor fM_orders.1.desc).map (fun d => d.parameters.length) = some 0 from by decide +kernel), by decide, by decide, ?_, ?_⟩ g_814 g_815 rfl rfl (Nat.le_of_ble_eq_true rfl) (by decide +kernel) (fun r G M2 h => ?_)
  · show uc + fZ_orders.2.2.2.2.1.cells + fM_orders.2.2.2.2.1.cells ≤ 601024; have : fZ_orders.2.2.2.2.1.cells = 0 := rfl
    have : fM_orders.2.2.2.2.1.cells = 0 := rfl
    omega
  · show us + fZ_orders.2.2.2.2.1.slots + fM_orders.2.2.2.2.1.slots ≤ 7293034; have : fZ_orders.2.2.2.2.1.slots = 0 := rfl
    have : fM_orders.2.2.2.2.1.slots = 0 := rfl
    omega
  obtain ⟨rfl, rfl, rm, fq⟩ := h
  have h0 : (aOrd S).1.1 = 0 := by unfold aOrd; (repeat' split) <;> rfl
  have e7 : vl (aOrd S).1 = (aOrd S).1.2 := by unfold vl; rw [if_pos h0]
  show WM K fL_law E 1404 [some (aX b), some (aR 0), some (aR 63), some (aR 79), some (aI i), none, none] [aI (vl (aOrd S).1), aI (aOrd S).1.2] GG M2 _ _
  rw [e7]
  refine s_icmp_eq (off := 61) (tgt := 1465) (by decide +kernel) (by decide) (fun _ => ?_) (fun c => absurd rfl c)
  have e1 : fZ_orders.2.2.2.2.1.cells = 0 := rfl
  have e2 : fM_orders.2.2.2.2.1.cells = 0 := rfl
  have e3 : fZ_orders.2.2.2.2.1.slots = 0 := rfl
  have e4 : fM_orders.2.2.2.2.1.slots = 0 := rfl
  exact s_wid (by omega) (by omega) (k (aOrd S).2 M2 (show Inv _ from hI) (rx.fq fq) rm)
end LD
