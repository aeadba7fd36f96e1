/-! the law's cases (printed by gen69.py) -/
theorem s_wid {K : KX} {F : Fn} {E : CE} {pc : Nat} {L : List (Option AV)} {st : List AV} {G : AG} {M : AM} {uc us uc' us' : Nat} (h : uc ≤ uc') (h2 : us ≤ us') (k : WM K F E pc L st G M uc' us') : WM K F E pc L st G M uc us := by
  intro _ p e R s m args below meth c A n0 ad0 al Qe hE C ad H locs ls g1 g2 hP hD hS h3
  exact W.widen h h2 (k () hE C ad H locs ls g1 g2 hP hD hS h3)
theorem wcmp_s {x : Int} : wr (wcmp x x) = 0 := by
  have : wcmp x x = 0 := by unfold wcmp lg_cmp; simp
  rw [this]; exact wr_0
theorem hl_thr : hwd fM_thrown ∈ gw := hwd_c rfl g_642
section LC
variable {K : KX} {E : CE} {S : SS} {M : AM} {b N i uc us : Nat} {xs : Nat → Int}
/-- what goes on behind a case -/
def LK (K : KX) (E : CE) (b i uc us : Nat) : Prop := ∀ (S' : SS) (M' : AM), Inv S' → RX S' M' → RM S' M' → WM K fL_law E 1465 [some (aX b), some (aR 0), some (aR 63), some (aR 79), some (aI i), none, none] [] GG M' (uc + 6) (us + 40)
set_option maxRecDepth 20000 in
theorem w_addLane (hst : K.1.stackTraces = false) (hX : XE E b N xs) (hr : ∀ j, R32 (xs j)) (hi : i + 3 ≤ N) (hN : N ≤ 1536) (hI : Inv S) (hRX : RX S M) (hRM : RM S M) (hu : uc + 6 ≤ 601024 ∧ us + 40 ≤ 7293034) (k : LK K E b i uc us) : WM K fL_law E 148 [some (aX b), some (aR 0), some (aR 63), some (aR 79), some (aI i), none, none] [] GG M uc us := by
  refine s_aload_n (i := 1) (by decide +kernel) rfl ?_
  refine s_aloadX_n (i := 0) (by decide +kernel) rfl ?_
  refine s_iload (i := 4) (by decide +kernel) rfl ?_
  refine s_iconst (n := 1) (by decide +kernel) ?_
  refine s_iadd (by decide +kernel) ?_
  refine s_sld (j := i + 1) hX (wrn (n := i + 1) (by omega)) (by omega) (by decide +kernel) ?_
  refine s_aloadX_n (i := 0) (by decide +kernel) rfl ?_
  refine s_iload (i := 4) (by decide +kernel) rfl ?_
  refine s_iconst (n := 2) (by decide +kernel) ?_
  refine s_iadd (by decide +kernel) ?_
  refine s_sld (j := i + 2) hX (wrn (n := i + 2) (by omega)) (by omega) (by decide +kernel) ?_
  refine s_aload_n (i := 3) (by decide +kernel) rfl ?_
  refine s_callSH (Fc := fL_addLane) (index := 86) (as := [aR 0, aI (xs (i + 1)), aI (xs (i + 2)), aR 79]) (rest := []) rfl (l_addLane hst hI hRX (hr _) (hr _) (Q := fun r G M1 => r = .inl (some (aI (aLane S (xs (i + 1)) (xs (i + 2))).1.1)) ∧ G = GG ∧ RX (aLane S (xs (i + 1)) (xs (i + 2))).2 M1 ∧ FW M M1 ∧ ((aLane S (xs (i + 1)) (xs (i + 2))).1.1 = 0 → M1 79 0 = wr (aLane S (xs (i + 1)) (xs (i + 2))).1.2)) (fun M1 r1 f1 o1 => ⟨rfl, rfl, r1, f1, o1⟩)) ⟨g_239, hwd_h (by decide) g_241, g_0, by decide, (show (parseMethodDescriptor fL_addLane.1.desc).map (fun d => d.parameters.length) = some 4 from by decide +kernel), by decide, by decide, ?_, ?_⟩ g_240 (by decide) rfl (Nat.le_of_ble_eq_true rfl) (by decide +kernel) (fun r G M1 h => ?_)
  · show uc + fL_addLane.2.2.2.2.1.cells ≤ 601024; have : fL_addLane.2.2.2.2.1.cells ≤ 5 := by decide
    omega
  · show us + fL_addLane.2.2.2.2.1.slots ≤ 7293034; have : fL_addLane.2.2.2.2.1.slots ≤ 30 := by decide
    omega
  obtain ⟨rfl, rfl, rx, fw, ow⟩ := h
  show WM K fL_law E 165 [some (aX b), some (aR 0), some (aR 63), some (aR 79), some (aI i), none, none] [aI (aLane S (xs (i + 1)) (xs (i + 2))).1.1] GG M1 _ _
  refine s_istore (i := 5) (by decide +kernel) (by decide) ?_
  show WM K fL_law E _ [some (aX b), some (aR 0), some (aR 63), some (aR 79), some (aI i), some (aI (aLane S (xs (i + 1)) (xs (i + 2))).1.1), none] [] GG M1 _ _
  refine s_aload_n (i := 2) (by decide +kernel) rfl ?_
  refine s_aloadX_n (i := 0) (by decide +kernel) rfl ?_
  refine s_iload (i := 4) (by decide +kernel) rfl ?_
  refine s_iconst (n := 1) (by decide +kernel) ?_
  refine s_iadd (by decide +kernel) ?_
  refine s_sld (j := i + 1) hX (wrn (n := i + 1) (by omega)) (by omega) (by decide +kernel) ?_
  refine s_aloadX_n (i := 0) (by decide +kernel) rfl ?_
  refine s_iload (i := 4) (by decide +kernel) rfl ?_
  refine s_iconst (n := 2) (by decide +kernel) ?_
  refine s_iadd (by decide +kernel) ?_
  refine s_sld (j := i + 2) hX (wrn (n := i + 2) (by omega)) (by omega) (by decide +kernel) ?_
  refine s_callV (Fc := fM_addLane) (index := 91) (ci := 5) (as := [aI (xs (i + 1)), aI (xs (i + 2))]) (rest := []) rfl (m_addLane hst hI (hRM.fx fw) (hr _) (hr _) (Q := fun r G M2 => r = .inl (some (aI (vl (aLane S (xs (i + 1)) (xs (i + 2))).1))) ∧ G = GG ∧ RM (aLane S (xs (i + 1)) (xs (i + 2))).2 M2 ∧ FQ M1 M2 ∧ M2 63 0 = ((aLane S (xs (i + 1)) (xs (i + 2))).1.1 : Int)) (fun M2 r2 f2 c2 => ⟨rfl, rfl, r2, f2, c2⟩)) rfl rfl (by decide) rfl ⟨g_643, hwd_c rfl g_646, g_6, by decide, (show (parseMethodDescriptor fM_addLane.1.desc).map (fun d => d.parameters.length) = some 2 from by decide +kernel), by decide, by decide, ?_, ?_⟩ g_644 g_645 rfl rfl (Nat.le_of_ble_eq_true rfl) (by decide +kernel) (fun r G M2 h => ?_)
  · show uc + fL_addLane.2.2.2.2.1.cells + fM_addLane.2.2.2.2.1.cells ≤ 601024; have : fL_addLane.2.2.2.2.1.cells ≤ 5 := by decide
    have : fM_addLane.2.2.2.2.1.cells = 0 := rfl
    omega
  · show us + fL_addLane.2.2.2.2.1.slots + fM_addLane.2.2.2.2.1.slots ≤ 7293034; have : fL_addLane.2.2.2.2.1.slots ≤ 30 := by decide
    have : fM_addLane.2.2.2.2.1.slots = 0 := rfl
    omega
  obtain ⟨rfl, rfl, rm, fq, ct⟩ := h
  show WM K fL_law E 183 [some (aX b), some (aR 0), some (aR 63), some (aR 79), some (aI i), some (aI (aLane S (xs (i + 1)) (xs (i + 2))).1.1), none] [aI (vl (aLane S (xs (i + 1)) (xs (i + 2))).1)] GG M2 _ _
  refine s_istore (i := 6) (by decide +kernel) (by decide) ?_
  show WM K fL_law E _ [some (aX b), some (aR 0), some (aR 63), some (aR 79), some (aI i), some (aI (aLane S (xs (i + 1)) (xs (i + 2))).1.1), some (aI (vl (aLane S (xs (i + 1)) (xs (i + 2))).1))] [] GG M2 _ _
  refine s_aload_n (i := 2) (by decide +kernel) rfl ?_
  refine s_callV (Fc := fM_thrown) (index := 92) (ci := 5) (as := []) (rest := []) rfl (EM_thrown hst (BM_thrown_0 (Q := fun r G M3 => r = .inl (some (aI (M2 63 0))) ∧ G = GG ∧ M3 = M2) ⟨rfl, rfl, rfl⟩)) rfl rfl (by decide) rfl ⟨g_639, hl_thr, g_6, by decide, (show (parseMethodDescriptor fM_thrown.1.desc).map (fun d => d.parameters.length) = some 0 from by decide +kernel), by decide, by decide, ?_, ?_⟩ g_640 g_641 rfl rfl (Nat.le_of_ble_eq_true rfl) (by decide +kernel) (fun r G M3 h => ?_)
  · show uc + fL_addLane.2.2.2.2.1.cells + fM_addLane.2.2.2.2.1.cells + 0 ≤ 601024; have : fL_addLane.2.2.2.2.1.cells ≤ 5 := by decide
    have : fM_addLane.2.2.2.2.1.cells = 0 := rfl
    omega
  · show us + fL_addLane.2.2.2.2.1.slots + fM_addLane.2.2.2.2.1.slots + 0 ≤ 7293034; have : fL_addLane.2.2.2.2.1.slots ≤ 30 := by decide
    have : fM_addLane.2.2.2.2.1.slots = 0 := rfl
    omega
  obtain ⟨rfl, rfl, rfl⟩ := h
  show WM K fL_law E 189 [some (aX b), some (aR 0), some (aR 63), some (aR 79), some (aI i), some (aI (aLane S (xs (i + 1)) (xs (i + 2))).1.1), some (aI (vl (aLane S (xs (i + 1)) (xs (i + 2))).1))] [aI (M3 63 0)] GG M3 _ _
  refine s_iload (i := 5) (by decide +kernel) rfl ?_
  have hk := k_addLane (S := S) (p := xs (i + 1)) (q := xs (i + 2))
  refine s_icmp_eq (off := 5) (tgt := 196) (by decide +kernel) (by decide) (fun c => ?_) (fun c => absurd (by rw [ct]) c)
  have done : WM K fL_law E 213 [some (aX b), some (aR 0), some (aR 63), some (aR 79), some (aI i), some (aI (aLane S (xs (i + 1)) (xs (i + 2))).1.1), some (aI (vl (aLane S (xs (i + 1)) (xs (i + 2))).1))] [] GG M3 (uc + fL_addLane.2.2.2.2.1.cells + fM_addLane.2.2.2.2.1.cells + 0) (us + fL_addLane.2.2.2.2.1.slots + fM_addLane.2.2.2.2.1.slots + 0) := by
    refine s_goto (off := 1252) (tgt := 1465) (by decide +kernel) (by decide) ?_
    refine s_loc (L' := [some (aX b), some (aR 0), some (aR 63), some (aR 79), some (aI i), none, none]) (ll_s (ll_s (ll_s (ll_s (ll_s (ll_n (ll_n ll_nil))))))) ?_
    have e1 : fL_addLane.2.2.2.2.1.cells ≤ 5 := by decide
    have e2 : fM_addLane.2.2.2.2.1.cells = 0 := rfl
    have e3 : fL_addLane.2.2.2.2.1.slots ≤ 30 := by decide
    have e4 : fM_addLane.2.2.2.2.1.slots = 0 := rfl
    exact s_wid (by omega) (by omega) (k (aLane S (xs (i + 1)) (xs (i + 2))).2 M3 (i_aLane hI _ _) (rx.fq fq) rm)
  refine s_iload (i := 5) (by decide +kernel) rfl ?_
  refine s_if_ne (off := 15) (tgt := 213) (by decide +kernel) (by decide) (fun _ => done) (fun c2 => ?_)
  rw [wrn (by omega)] at c2
  have h0 : (aLane S (xs (i + 1)) (xs (i + 2))).1.1 = 0 := by omega
  refine s_aload_n (i := 3) (by decide +kernel) rfl ?_
  refine s_iconst (n := 0) (by decide +kernel) ?_
  refine s_lald (j := 0) (n := 1) (rs := []) rfl wr_0 (by omega) (by decide +kernel) ?_
  refine s_iload (i := 6) (by decide +kernel) rfl ?_
  refine s_i2l (by decide +kernel) ?_
  refine s_lcmp (by decide +kernel) ?_
  have e7 : M3 79 0 = wr (vl (aLane S (xs (i + 1)) (xs (i + 2))).1) := by rw [fq 79 0 (by omega), ow h0]; unfold vl; rw [if_pos h0]
  rw [e7]
  exact s_if_eq (off := 5) (tgt := 213) (by decide +kernel) (by decide) (fun _ => done) (fun c3 => absurd wcmp_s c3)
end LC
