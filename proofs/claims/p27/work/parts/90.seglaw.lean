/-! the law, segment by segment (printed by genlaw.py) -/
set_option maxRecDepth 20000 in
theorem BL_law_21 {K : KX} {E : CE} {b N : Nat} {xs : Nat → Int} (hX : XE E b N xs) {M : AM} (x3 x4 : Int) {uc us : Nat} (hu : uc + 54 ≤ 619158) (hw : us + 324 ≤ 7243709)
    (h : (wr 90 ≤ wr x4 → WM K fL_law E 151 [some (aX b), some (aR 0), some (aR 63), some (aI x3), some (aI 0), none, none] [] GG M uc us) ∧ (¬ wr 90 ≤ wr x4 → MetS K b N xs fL_cell [aX b, aI x4] GG M (cI GG (fun b5 M4 => MetA K fL_act [aR 0, aI b5] GG M4 (cI GG (fun b9 M8 => (wr b9 = wr ((-99999)) → WM K fL_law E 62 [some (aX b), some (aR 0), some (aR 63), some (aI x3), some (aI x4), some (aI b5), some (aI b9)] [] GG M8 (uc + 27) (us + 162)) ∧ (¬ wr b9 = wr ((-99999)) → MetA K fL_act [aR 63, aI b5] GG M8 (cI GG (fun b16 M15 => (wr b16 = wr b9 → WM K fL_law E 62 [some (aX b), some (aR 0), some (aR 63), some (aI x3), some (aI x4), some (aI b5), some (aI b9)] [] GG M15 (uc + 54) (us + 324)) ∧ (¬ wr b16 = wr b9 → WM K fL_law E 70 [some (aX b), some (aR 0), some (aR 63), some (aI x3), some (aI x4), some (aI b5), some (aI b9)] [] GG M15 (uc + 54) (us + 324))) noX))) noX)) noX))) :
    WM K fL_law E 21 [some (aX b), some (aR 0), some (aR 63), some (aI x3), some (aI x4), none, none] [] GG M uc us := by
  refine s_iload (i := 4) (by decide +kernel) rfl ?_
  refine s_bipush (n := 90) (by decide +kernel) (by decide +kernel) ?_
  refine s_icmp_ge (off := 123) (tgt := 148) (by decide +kernel) (by decide) (fun c1 => ?_) (fun c1 => ?_)
  · have h2 := h.1 c1
    refine s_iconst (n := 0) (by decide +kernel) ?_
    refine s_istore (i := 4) (by decide +kernel) (by decide) ?_
    exact h2
  · have h3 := h.2 c1
    refine s_aloadX_n (i := 0) (by decide +kernel) rfl ?_
    refine s_iload (i := 4) (by decide +kernel) rfl ?_
    refine s_callSS (Fc := fL_cell) (index := 114) (as := [aX b, aI x4]) (rest := []) hX rfl h3 ⟨g_296, hL_cell, g_0, by decide, (show (parseMethodDescriptor fL_cell.1.desc).map (fun d => d.parameters.length) = some 2 from by decide +kernel), by decide, by decide, (show uc ≤ 619158 by omega), (show us ≤ 7243709 by omega)⟩ g_297 rfl rfl (Nat.le_of_ble_eq_true rfl) (by decide +kernel) (q_cI (fun b5 M4 h6 => ?_) (fun _ _ q => q.elim))
    refine s_istore (i := 5) (by decide +kernel) (by decide) ?_
    refine s_aload_n (i := 1) (by decide +kernel) rfl ?_
    refine s_iload (i := 5) (by decide +kernel) rfl ?_
    refine s_callS (Fc := fL_act) (index := 118) (as := [aR 0, aI b5]) (rest := []) rfl h6 ⟨g_303, hL_act, g_0, by decide, (show (parseMethodDescriptor fL_act.1.desc).map (fun d => d.parameters.length) = some 2 from by decide +kernel), by decide, by decide, (show uc + 27 ≤ 619158 by omega), (show us + 162 ≤ 7243709 by omega)⟩ g_304 rfl rfl (Nat.le_of_ble_eq_true rfl) (by decide +kernel) (q_cI (fun b9 M8 h10 => ?_) (fun _ _ q => q.elim))
    refine s_istore (i := 6) (by decide +kernel) (by decide) ?_
    refine s_iload (i := 6) (by decide +kernel) rfl ?_
    refine s_ldc (index := 16) (v := -99999) (z := -99999) (by decide +kernel) g_356 (by decide) ?_
    refine s_icmp_eq (off := 14) (tgt := 62) (by decide +kernel) (by decide) (fun c12 => ?_) (fun c12 => ?_)
    · have h13 := h10.1 c12
      exact h13
    · have h14 := h10.2 c12
      refine s_aload_n (i := 2) (by decide +kernel) rfl ?_
      refine s_iload (i := 5) (by decide +kernel) rfl ?_
      refine s_callS (Fc := fL_act) (index := 118) (as := [aR 63, aI b5]) (rest := []) rfl h14 ⟨g_303, hL_act, g_0, by decide, (show (parseMethodDescriptor fL_act.1.desc).map (fun d => d.parameters.length) = some 2 from by decide +kernel), by decide, by decide, (show uc + 27 + 27 ≤ 619158 by omega), (show us + 162 + 162 ≤ 7243709 by omega)⟩ g_304 rfl rfl (Nat.le_of_ble_eq_true rfl) (by decide +kernel) (q_cI (fun b16 M15 h17 => ?_) (fun _ _ q => q.elim))
      refine s_iload (i := 6) (by decide +kernel) rfl ?_
      refine s_icmp_ne (off := 11) (tgt := 70) (by decide +kernel) (by decide) (fun c19 => ?_) (fun c19 => ?_)
      · have h20 := h17.2 c19
        exact h20
      · have h21 := h17.1 c19
        exact h21

set_option maxRecDepth 20000 in
theorem BL_law_62 {K : KX} {E : CE} {b : Nat} {M : AM} (x3 x4 x5 x6 : Int) {uc us : Nat} (hu : uc + 60 ≤ 619158) (hw : us + 400 ≤ 7243709)
    (h : MetA K fL_areAlike [aR 0, aR 63] GG M (cI GG (fun b2 M1 => (wr b2 = 0 → WM K fL_law E 70 [some (aX b), some (aR 0), some (aR 63), some (aI x3), some (aI x4), some (aI x5), some (aI x6)] [] GG M1 (uc + 60) (us + 400)) ∧ (¬ wr b2 = 0 → (wr x6 = wr ((-99999)) → WM K fL_law E 96 [some (aX b), some (aR 0), some (aR 63), some (aI x3), some (aI x4), some (aI x5), some (aI x6)] [aI x3] GG M1 (uc + 60) (us + 400)) ∧ (¬ wr x6 = wr ((-99999)) → MetA K fL_low [aI x5, aI 20] GG M1 (cI GG (fun b11 M10 => (wr b11 = wr 16 → WM K fL_law E 97 [some (aX b), some (aR 0), some (aR 63), some (aI x3), some (aI x4), some (aI x5), some (aI x6)] [aI 1, aI x3] GG M10 (uc + 60) (us + 400)) ∧ (¬ wr b11 = wr 16 → WM K fL_law E 96 [some (aX b), some (aR 0), some (aR 63), some (aI x3), some (aI x4), some (aI x5), some (aI x6)] [aI x3] GG M10 (uc + 60) (us + 400))) noX)))) noX)) :
    WM K fL_law E 62 [some (aX b), some (aR 0), some (aR 63), some (aI x3), some (aI x4), some (aI x5), some (aI x6)] [] GG M uc us := by
  refine s_aload_n (i := 1) (by decide +kernel) rfl ?_
  refine s_aload_n (i := 2) (by decide +kernel) rfl ?_
  refine s_callS (Fc := fL_areAlike) (index := 121) (as := [aR 0, aR 63]) (rest := []) rfl h ⟨g_489, hL_areAlike, g_0, by decide, (show (parseMethodDescriptor fL_areAlike.1.desc).map (fun d => d.parameters.length) = some 2 from by decide +kernel), by decide, by decide, (show uc + 60 ≤ 619158 by omega), (show us + 400 ≤ 7243709 by omega)⟩ g_490 rfl rfl (Nat.le_of_ble_eq_true rfl) (by decide +kernel) (q_cI (fun b2 M1 h3 => ?_) (fun _ _ q => q.elim))
  refine s_if_ne (off := 5) (tgt := 72) (by decide +kernel) (by decide) (fun c5 => ?_) (fun c5 => ?_)
  · have h6 := h3.2 c5
    refine s_iload_n (i := 3) (by decide +kernel) rfl ?_
    refine s_iload (i := 6) (by decide +kernel) rfl ?_
    refine s_ldc (index := 16) (v := -99999) (z := -99999) (by decide +kernel) g_356 (by decide) ?_
    refine s_icmp_eq (off := 19) (tgt := 96) (by decide +kernel) (by decide) (fun c7 => ?_) (fun c7 => ?_)
    · have h8 := h6.1 c7
      exact h8
    · have h9 := h6.2 c7
      refine s_iload (i := 5) (by decide +kernel) rfl ?_
      refine s_bipush (n := 20) (by decide +kernel) (by decide +kernel) ?_
      refine s_callS (Fc := fL_low) (index := 50) (as := [aI x5, aI 20]) (rest := [aI x3]) rfl h9 ⟨g_299, hL_low, g_0, by decide, (show (parseMethodDescriptor fL_low.1.desc).map (fun d => d.parameters.length) = some 2 from by decide +kernel), by decide, by decide, (show uc + 60 ≤ 619158 by omega), (show us + 400 ≤ 7243709 by omega)⟩ g_300 rfl rfl (Nat.le_of_ble_eq_true rfl) (by decide +kernel) (q_cI (fun b11 M10 h12 => ?_) (fun _ _ q => q.elim))
      refine s_bipush (n := 16) (by decide +kernel) (by decide +kernel) ?_
      refine s_icmp_ne (off := 7) (tgt := 96) (by decide +kernel) (by decide) (fun c14 => ?_) (fun c14 => ?_)
      · have h15 := h12.2 c14
        exact h15
      · have h16 := h12.1 c14
        refine s_iconst (n := 1) (by decide +kernel) ?_
        refine s_goto (off := 4) (tgt := 97) (by decide +kernel) (by decide) ?_
        exact h16
  · have h17 := h3.1 c5
    exact h17

set_option maxRecDepth 20000 in
theorem BL_law_70 {K : KX} {E : CE} {b : Nat} {M : AM} (x3 x4 x5 x6 : Int) {uc us : Nat} (hu : uc + 0 ≤ 619158) (hw : us + 0 ≤ 7243709)
    (h : WM K fL_law E 71 [some (aX b), some (aR 0), some (aR 63), some (aI x3), some (aI x4), some (aI x5), some (aI x6)] [aI 0] GG M uc us) :
    WM K fL_law E 70 [some (aX b), some (aR 0), some (aR 63), some (aI x3), some (aI x4), some (aI x5), some (aI x6)] [] GG M uc us := by
  refine s_iconst (n := 0) (by decide +kernel) ?_
  exact h

set_option maxRecDepth 20000 in
theorem BL_law_96 {K : KX} {E : CE} {b : Nat} {M : AM} (x3 x4 x5 x6 y0 : Int) {uc us : Nat} (hu : uc + 0 ≤ 619158) (hw : us + 0 ≤ 7243709)
    (h : WM K fL_law E 97 [some (aX b), some (aR 0), some (aR 63), some (aI x3), some (aI x4), some (aI x5), some (aI x6)] [aI 0, aI y0] GG M uc us) :
    WM K fL_law E 96 [some (aX b), some (aR 0), some (aR 63), some (aI x3), some (aI x4), some (aI x5), some (aI x6)] [aI y0] GG M uc us := by
  refine s_iconst (n := 0) (by decide +kernel) ?_
  exact h

set_option maxRecDepth 20000 in
theorem BL_law_97 {K : KX} {E : CE} {b : Nat} {M : AM} (x3 x4 x5 x6 y0 y1 : Int) {uc us : Nat} (hu : uc + 1000 ≤ 619158) (hw : us + 6000 ≤ 7243709)
    (h : (¬ wr 4 = 0) ∧ ((wr (x4 - (wdv x4 4) * 4) = wr 3 → MetA K fL_areVehiclesSo [aR 0] GG M (cI GG (fun b6 M5 => (wr b6 = 0 → WM K fL_law E 140 [some (aX b), some (aR 0), some (aR 63), some (aI (y1 + y0)), some (aI x4), some (aI x5), some (aI x6)] [] GG M5 (uc + 1000) (us + 6000)) ∧ (¬ wr b6 = 0 → WM K fL_law E 114 [some (aX b), some (aR 0), some (aR 63), some (aI (y1 + y0)), some (aI x4), some (aI x5), some (aI x6)] [] GG M5 (uc + 1000) (us + 6000))) noX)) ∧ (¬ wr (x4 - (wdv x4 4) * 4) = wr 3 → WM K fL_law E 114 [some (aX b), some (aR 0), some (aR 63), some (aI (y1 + y0)), some (aI x4), some (aI x5), some (aI x6)] [] GG M uc us))) :
    WM K fL_law E 97 [some (aX b), some (aR 0), some (aR 63), some (aI x3), some (aI x4), some (aI x5), some (aI x6)] [aI y0, aI y1] GG M uc us := by
  refine s_iadd (by decide +kernel) ?_
  refine s_istore_n (i := 3) (by decide +kernel) (by decide) ?_
  refine s_iload (i := 4) (by decide +kernel) rfl ?_
  refine s_iconst (n := 4) (by decide +kernel) ?_
  refine s_irem (by decide +kernel) h.1 ?_
  have h1 := h.2
  refine s_iconst (n := 3) (by decide +kernel) ?_
  refine s_icmp_ne (off := 10) (tgt := 114) (by decide +kernel) (by decide) (fun c2 => ?_) (fun c2 => ?_)
  · have h3 := h1.2 c2
    exact h3
  · have h4 := h1.1 c2
    refine s_aload_n (i := 1) (by decide +kernel) rfl ?_
    refine s_callS (Fc := fL_areVehiclesSo) (index := 125) (as := [aR 0]) (rest := []) rfl h4 ⟨g_516, hL_areVehiclesSo, g_0, by decide, (show (parseMethodDescriptor fL_areVehiclesSo.1.desc).map (fun d => d.parameters.length) = some 1 from by decide +kernel), by decide, by decide, (show uc + 1000 ≤ 619158 by omega), (show us + 6000 ≤ 7243709 by omega)⟩ g_517 rfl rfl (Nat.le_of_ble_eq_true rfl) (by decide +kernel) (q_cI (fun b6 M5 h7 => ?_) (fun _ _ q => q.elim))
    refine s_if_eq (off := 29) (tgt := 140) (by decide +kernel) (by decide) (fun c9 => ?_) (fun c9 => ?_)
    · have h10 := h7.1 c9
      exact h10
    · have h11 := h7.2 c9
      exact h11

set_option maxRecDepth 20000 in
theorem BL_law_114 {K : KX} {E : CE} {b : Nat} {M : AM} (x3 x4 x5 x6 : Int) {uc us : Nat} (hu : uc + 1060 ≤ 619158) (hw : us + 6400 ≤ 7243709)
    (h : (¬ wr 30 = 0) ∧ ((wr (x4 - (wdv x4 30) * 30) = wr 29 → MetA K fL_isRunSo [aR 0, aR 63] GG M (cI GG (fun b6 M5 => (wr b6 = 0 → WM K fL_law E 140 [some (aX b), some (aR 0), some (aR 63), some (aI x3), some (aI x4), some (aI x5), some (aI x6)] [] GG M5 (uc + 1000) (us + 6000)) ∧ (¬ wr b6 = 0 → MetA K fL_areAlike [aR 0, aR 63] GG M5 (cI GG (fun b13 M12 => (wr b13 = 0 → WM K fL_law E 140 [some (aX b), some (aR 0), some (aR 63), some (aI x3), some (aI x4), some (aI x5), some (aI x6)] [] GG M12 (uc + 1060) (us + 6400)) ∧ (¬ wr b13 = 0 → WM K fL_law E 142 [some (aX b), some (aR 0), some (aR 63), some (aI x3), some (aI x4), some (aI x5), some (aI x6)] [] GG M12 (uc + 1060) (us + 6400))) noX))) noX)) ∧ (¬ wr (x4 - (wdv x4 30) * 30) = wr 29 → WM K fL_law E 142 [some (aX b), some (aR 0), some (aR 63), some (aI x3), some (aI x4), some (aI x5), some (aI x6)] [] GG M uc us))) :
    WM K fL_law E 114 [some (aX b), some (aR 0), some (aR 63), some (aI x3), some (aI x4), some (aI x5), some (aI x6)] [] GG M uc us := by
  refine s_iload (i := 4) (by decide +kernel) rfl ?_
  refine s_bipush (n := 30) (by decide +kernel) (by decide +kernel) ?_
  refine s_irem (by decide +kernel) h.1 ?_
  have h1 := h.2
  refine s_bipush (n := 29) (by decide +kernel) (by decide +kernel) ?_
  refine s_icmp_ne (off := 21) (tgt := 142) (by decide +kernel) (by decide) (fun c2 => ?_) (fun c2 => ?_)
  · have h3 := h1.2 c2
    exact h3
  · have h4 := h1.1 c2
    refine s_aload_n (i := 1) (by decide +kernel) rfl ?_
    refine s_aload_n (i := 2) (by decide +kernel) rfl ?_
    refine s_callS (Fc := fL_isRunSo) (index := 129) (as := [aR 0, aR 63]) (rest := []) rfl h4 ⟨g_554, hL_isRunSo, g_0, by decide, (show (parseMethodDescriptor fL_isRunSo.1.desc).map (fun d => d.parameters.length) = some 2 from by decide +kernel), by decide, by decide, (show uc + 1000 ≤ 619158 by omega), (show us + 6000 ≤ 7243709 by omega)⟩ g_555 rfl rfl (Nat.le_of_ble_eq_true rfl) (by decide +kernel) (q_cI (fun b6 M5 h7 => ?_) (fun _ _ q => q.elim))
    refine s_if_eq (off := 11) (tgt := 140) (by decide +kernel) (by decide) (fun c9 => ?_) (fun c9 => ?_)
    · have h10 := h7.1 c9
      exact h10
    · have h11 := h7.2 c9
      refine s_aload_n (i := 1) (by decide +kernel) rfl ?_
      refine s_aload_n (i := 2) (by decide +kernel) rfl ?_
      refine s_callS (Fc := fL_areAlike) (index := 121) (as := [aR 0, aR 63]) (rest := []) rfl h11 ⟨g_489, hL_areAlike, g_0, by decide, (show (parseMethodDescriptor fL_areAlike.1.desc).map (fun d => d.parameters.length) = some 2 from by decide +kernel), by decide, by decide, (show uc + 1000 + 60 ≤ 619158 by omega), (show us + 6000 + 400 ≤ 7243709 by omega)⟩ g_490 rfl rfl (Nat.le_of_ble_eq_true rfl) (by decide +kernel) (q_cI (fun b13 M12 h14 => ?_) (fun _ _ q => q.elim))
      refine s_if_ne (off := 5) (tgt := 142) (by decide +kernel) (by decide) (fun c16 => ?_) (fun c16 => ?_)
      · have h17 := h14.2 c16
        exact h17
      · have h18 := h14.1 c16
        exact h18

set_option maxRecDepth 20000 in
theorem BL_law_140 {K : KX} {E : CE} {b : Nat} {M : AM} (x3 x4 x5 x6 : Int) {uc us : Nat} (hu : uc + 0 ≤ 619158) (hw : us + 0 ≤ 7243709)
    (h : WM K fL_law E 141 [some (aX b), some (aR 0), some (aR 63), some (aI x3), some (aI x4), some (aI x5), some (aI x6)] [aI 0] GG M uc us) :
    WM K fL_law E 140 [some (aX b), some (aR 0), some (aR 63), some (aI x3), some (aI x4), some (aI x5), some (aI x6)] [] GG M uc us := by
  refine s_iconst (n := 0) (by decide +kernel) ?_
  exact h

set_option maxRecDepth 20000 in
theorem BL_law_142 {K : KX} {E : CE} {b : Nat} {M : AM} (x3 x4 x5 x6 : Int) {uc us : Nat} (hu : uc + 0 ≤ 619158) (hw : us + 0 ≤ 7243709)
    (h : WM K fL_law E 21 [some (aX b), some (aR 0), some (aR 63), some (aI x3), some (aI (x4 + 1)), none, none] [] GG M uc us) :
    WM K fL_law E 142 [some (aX b), some (aR 0), some (aR 63), some (aI x3), some (aI x4), some (aI x5), some (aI x6)] [] GG M uc us := by
  refine s_iinc (i := 4) (n := 1) (by decide +kernel) rfl (by decide) ?_
  refine s_goto (off := -124) (tgt := 21) (by decide +kernel) (by decide) ?_
  exact s_loc (L' := [some (aX b), some (aR 0), some (aR 63), some (aI x3), some (aI (x4 + 1)), none, none]) (ll_s (ll_s (ll_s (ll_s (ll_s (ll_n (ll_n ll_nil))))))) h

set_option maxRecDepth 20000 in
theorem BL_law_151 {K : KX} {E : CE} {b : Nat} {M : AM} (x3 x4 : Int) {uc us : Nat} (hu : uc + 3 ≤ 619158) (hw : us + 18 ≤ 7243709)
    (h : (wr x3 ≤ wr x4 → WM K fL_law E 262 [some (aX b), some (aR 0), some (aR 63), some (aI x3), some (aI x4), none, none] [aI 1] GG M uc us) ∧ (¬ wr x3 ≤ wr x4 → MetA K fZ_jobState [aR 0, aI x4] GG M (cI GG (fun b5 M4 => MetA K fZ_jobState [aR 63, aI x4] GG M4 (cI GG (fun b9 M8 => (wr b5 = wr b9 → MetA K fZ_jobVehicle [aR 0, aI x4] GG M8 (cI GG (fun b16 M15 => (wr b16 = wr ((-1)) → WM K fL_law E 191 [some (aX b), some (aR 0), some (aR 63), some (aI x3), some (aI x4), some (aI b5), none] [aI 1] GG M15 (uc + 3) (us + 18)) ∧ (¬ wr b16 = wr ((-1)) → WM K fL_law E 191 [some (aX b), some (aR 0), some (aR 63), some (aI x3), some (aI x4), some (aI b5), none] [aI 0] GG M15 (uc + 3) (us + 18))) noX)) ∧ (¬ wr b5 = wr b9 → WM K fL_law E 245 [some (aX b), some (aR 0), some (aR 63), some (aI x3), some (aI x4), some (aI b5), none] [] GG M8 (uc + 2) (us + 12))) noX)) noX))) :
    WM K fL_law E 151 [some (aX b), some (aR 0), some (aR 63), some (aI x3), some (aI x4), none, none] [] GG M uc us := by
  refine s_iload (i := 4) (by decide +kernel) rfl ?_
  refine s_iload_n (i := 3) (by decide +kernel) rfl ?_
  refine s_icmp_ge (off := 107) (tgt := 261) (by decide +kernel) (by decide) (fun c1 => ?_) (fun c1 => ?_)
  · have h2 := h.1 c1
    refine s_iconst (n := 1) (by decide +kernel) ?_
    exact h2
  · have h3 := h.2 c1
    refine s_aload_n (i := 1) (by decide +kernel) rfl ?_
    refine s_iload (i := 4) (by decide +kernel) rfl ?_
    refine s_callV (Fc := fZ_jobState) (index := 132) (ci := 4) (as := [aI x4]) (rest := []) rfl h3 rfl rfl (by decide) rfl ⟨g_145, hZ_jobState, g_1, by decide, (show (parseMethodDescriptor fZ_jobState.1.desc).map (fun d => d.parameters.length) = some 1 from by decide +kernel), by decide, by decide, (show uc + 1 ≤ 619158 by omega), (show us + 6 ≤ 7243709 by omega)⟩ g_146 g_147 rfl rfl (Nat.le_of_ble_eq_true rfl) (by decide +kernel) (q_cI (fun b5 M4 h6 => ?_) (fun _ _ q => q.elim))
    refine s_istore (i := 5) (by decide +kernel) (by decide) ?_
    refine s_iload (i := 5) (by decide +kernel) rfl ?_
    refine s_aload_n (i := 2) (by decide +kernel) rfl ?_
    refine s_iload (i := 4) (by decide +kernel) rfl ?_
    refine s_callV (Fc := fZ_jobState) (index := 132) (ci := 4) (as := [aI x4]) (rest := [aI b5]) rfl h6 rfl rfl (by decide) rfl ⟨g_145, hZ_jobState, g_1, by decide, (show (parseMethodDescriptor fZ_jobState.1.desc).map (fun d => d.parameters.length) = some 1 from by decide +kernel), by decide, by decide, (show uc + 1 + 1 ≤ 619158 by omega), (show us + 6 + 6 ≤ 7243709 by omega)⟩ g_146 g_147 rfl rfl (Nat.le_of_ble_eq_true rfl) (by decide +kernel) (q_cI (fun b9 M8 h10 => ?_) (fun _ _ q => q.elim))
    refine s_icmp_ne (off := 72) (tgt := 245) (by decide +kernel) (by decide) (fun c12 => ?_) (fun c12 => ?_)
    · have h13 := h10.2 c12
      exact h13
    · have h14 := h10.1 c12
      refine s_aload_n (i := 1) (by decide +kernel) rfl ?_
      refine s_iload (i := 4) (by decide +kernel) rfl ?_
      refine s_callV (Fc := fZ_jobVehicle) (index := 135) (ci := 4) (as := [aI x4]) (rest := []) rfl h14 rfl rfl (by decide) rfl ⟨g_221, hZ_jobVehicle, g_1, by decide, (show (parseMethodDescriptor fZ_jobVehicle.1.desc).map (fun d => d.parameters.length) = some 1 from by decide +kernel), by decide, by decide, (show uc + 2 + 1 ≤ 619158 by omega), (show us + 12 + 6 ≤ 7243709 by omega)⟩ g_222 g_223 rfl rfl (Nat.le_of_ble_eq_true rfl) (by decide +kernel) (q_cI (fun b16 M15 h17 => ?_) (fun _ _ q => q.elim))
      refine s_iconst (n := -1) (by decide +kernel) ?_
      refine s_icmp_ne (off := 7) (tgt := 190) (by decide +kernel) (by decide) (fun c19 => ?_) (fun c19 => ?_)
      · have h20 := h17.2 c19
        refine s_iconst (n := 0) (by decide +kernel) ?_
        exact h20
      · have h21 := h17.1 c19
        refine s_iconst (n := 1) (by decide +kernel) ?_
        refine s_goto (off := 4) (tgt := 191) (by decide +kernel) (by decide) ?_
        exact h21

set_option maxRecDepth 20000 in
theorem BL_law_191 {K : KX} {E : CE} {b : Nat} {M : AM} (x3 x4 x5 y0 : Int) {uc us : Nat} (hu : uc + 0 ≤ 619158) (hw : us + 0 ≤ 7243709)
    (h : (wr x5 = 0 → WM K fL_law E 201 [some (aX b), some (aR 0), some (aR 63), some (aI x3), some (aI x4), some (aI x5), none] [aI 1, aI y0] GG M uc us) ∧ (¬ wr x5 = 0 → WM K fL_law E 201 [some (aX b), some (aR 0), some (aR 63), some (aI x3), some (aI x4), some (aI x5), none] [aI 0, aI y0] GG M uc us)) :
    WM K fL_law E 191 [some (aX b), some (aR 0), some (aR 63), some (aI x3), some (aI x4), some (aI x5), none] [aI y0] GG M uc us := by
  refine s_iload (i := 5) (by decide +kernel) rfl ?_
  refine s_if_ne (off := 7) (tgt := 200) (by decide +kernel) (by decide) (fun c1 => ?_) (fun c1 => ?_)
  · have h2 := h.2 c1
    refine s_iconst (n := 0) (by decide +kernel) ?_
    exact h2
  · have h3 := h.1 c1
    refine s_iconst (n := 1) (by decide +kernel) ?_
    refine s_goto (off := 4) (tgt := 201) (by decide +kernel) (by decide) ?_
    exact h3

set_option maxRecDepth 20000 in
theorem BL_law_201 {K : KX} {E : CE} {b : Nat} {M : AM} (x3 x4 x5 y0 y1 : Int) {uc us : Nat} (hu : uc + 1 ≤ 619158) (hw : us + 6 ≤ 7243709)
    (h : (wr y1 = wr y0 → MetA K fZ_regret [aR 0, aI x4] GG M (cI GG (fun b5 M4 => (wr b5 = wr ((-1)) → WM K fL_law E 219 [some (aX b), some (aR 0), some (aR 63), some (aI x3), some (aI x4), some (aI x5), none] [] GG M4 (uc + 1) (us + 6)) ∧ (¬ wr b5 = wr ((-1)) → (wr x5 = 0 → WM K fL_law E 219 [some (aX b), some (aR 0), some (aR 63), some (aI x3), some (aI x4), some (aI x5), none] [] GG M4 (uc + 1) (us + 6)) ∧ (¬ wr x5 = 0 → WM K fL_law E 245 [some (aX b), some (aR 0), some (aR 63), some (aI x3), some (aI x4), some (aI x5), none] [] GG M4 (uc + 1) (us + 6)))) noX)) ∧ (¬ wr y1 = wr y0 → WM K fL_law E 245 [some (aX b), some (aR 0), some (aR 63), some (aI x3), some (aI x4), some (aI x5), none] [] GG M uc us)) :
    WM K fL_law E 201 [some (aX b), some (aR 0), some (aR 63), some (aI x3), some (aI x4), some (aI x5), none] [aI y0, aI y1] GG M uc us := by
  refine s_icmp_ne (off := 44) (tgt := 245) (by decide +kernel) (by decide) (fun c1 => ?_) (fun c1 => ?_)
  · have h2 := h.2 c1
    exact h2
  · have h3 := h.1 c1
    refine s_aload_n (i := 1) (by decide +kernel) rfl ?_
    refine s_iload (i := 4) (by decide +kernel) rfl ?_
    refine s_callV (Fc := fZ_regret) (index := 138) (ci := 4) (as := [aI x4]) (rest := []) rfl h3 rfl rfl (by decide) rfl ⟨g_225, hZ_regret, g_1, by decide, (show (parseMethodDescriptor fZ_regret.1.desc).map (fun d => d.parameters.length) = some 1 from by decide +kernel), by decide, by decide, (show uc + 1 ≤ 619158 by omega), (show us + 6 ≤ 7243709 by omega)⟩ g_226 g_227 rfl rfl (Nat.le_of_ble_eq_true rfl) (by decide +kernel) (q_cI (fun b5 M4 h6 => ?_) (fun _ _ q => q.elim))
    refine s_iconst (n := -1) (by decide +kernel) ?_
    refine s_icmp_eq (off := 8) (tgt := 219) (by decide +kernel) (by decide) (fun c8 => ?_) (fun c8 => ?_)
    · have h9 := h6.1 c8
      exact h9
    · have h10 := h6.2 c8
      refine s_iload (i := 5) (by decide +kernel) rfl ?_
      refine s_if_ne (off := 29) (tgt := 245) (by decide +kernel) (by decide) (fun c11 => ?_) (fun c11 => ?_)
      · have h12 := h10.2 c11
        exact h12
      · have h13 := h10.1 c11
        exact h13

set_option maxRecDepth 20000 in
theorem BL_law_219 {K : KX} {E : CE} {b : Nat} {M : AM} (x3 x4 x5 : Int) {uc us : Nat} (hu : uc + 2 ≤ 619158) (hw : us + 12 ≤ 7243709)
    (h : MetA K fZ_regret [aR 0, aI x4] GG M (cI GG (fun b2 M1 => (wr b2 < wr ((-1)) → WM K fL_law E 245 [some (aX b), some (aR 0), some (aR 63), some (aI x3), some (aI x4), some (aI x5), none] [] GG M1 (uc + 1) (us + 6)) ∧ (¬ wr b2 < wr ((-1)) → MetA K fZ_regret [aR 0, aI x4] GG M1 (cI GG (fun b9 M8 => (wr 1000 < wr b9 → WM K fL_law E 245 [some (aX b), some (aR 0), some (aR 63), some (aI x3), some (aI x4), some (aI x5), none] [] GG M8 (uc + 2) (us + 12)) ∧ (¬ wr 1000 < wr b9 → WM K fL_law E 246 [some (aX b), some (aR 0), some (aR 63), some (aI x3), some (aI x4), some (aI x5), none] [aI 1] GG M8 (uc + 2) (us + 12))) noX))) noX)) :
    WM K fL_law E 219 [some (aX b), some (aR 0), some (aR 63), some (aI x3), some (aI x4), some (aI x5), none] [] GG M uc us := by
  refine s_aload_n (i := 1) (by decide +kernel) rfl ?_
  refine s_iload (i := 4) (by decide +kernel) rfl ?_
  refine s_callV (Fc := fZ_regret) (index := 138) (ci := 4) (as := [aI x4]) (rest := []) rfl h rfl rfl (by decide) rfl ⟨g_225, hZ_regret, g_1, by decide, (show (parseMethodDescriptor fZ_regret.1.desc).map (fun d => d.parameters.length) = some 1 from by decide +kernel), by decide, by decide, (show uc + 1 ≤ 619158 by omega), (show us + 6 ≤ 7243709 by omega)⟩ g_226 g_227 rfl rfl (Nat.le_of_ble_eq_true rfl) (by decide +kernel) (q_cI (fun b2 M1 h3 => ?_) (fun _ _ q => q.elim))
  refine s_iconst (n := -1) (by decide +kernel) ?_
  refine s_icmp_lt (off := 19) (tgt := 245) (by decide +kernel) (by decide) (fun c5 => ?_) (fun c5 => ?_)
  · have h6 := h3.1 c5
    exact h6
  · have h7 := h3.2 c5
    refine s_aload_n (i := 1) (by decide +kernel) rfl ?_
    refine s_iload (i := 4) (by decide +kernel) rfl ?_
    refine s_callV (Fc := fZ_regret) (index := 138) (ci := 4) (as := [aI x4]) (rest := []) rfl h7 rfl rfl (by decide) rfl ⟨g_225, hZ_regret, g_1, by decide, (show (parseMethodDescriptor fZ_regret.1.desc).map (fun d => d.parameters.length) = some 1 from by decide +kernel), by decide, by decide, (show uc + 1 + 1 ≤ 619158 by omega), (show us + 6 + 6 ≤ 7243709 by omega)⟩ g_226 g_227 rfl rfl (Nat.le_of_ble_eq_true rfl) (by decide +kernel) (q_cI (fun b9 M8 h10 => ?_) (fun _ _ q => q.elim))
    refine s_sipush (n := 1000) (by decide +kernel) (by decide +kernel) ?_
    refine s_icmp_gt (off := 7) (tgt := 245) (by decide +kernel) (by decide) (fun c12 => ?_) (fun c12 => ?_)
    · have h13 := h10.1 c12
      exact h13
    · have h14 := h10.2 c12
      refine s_iconst (n := 1) (by decide +kernel) ?_
      refine s_goto (off := 4) (tgt := 246) (by decide +kernel) (by decide) ?_
      exact h14

set_option maxRecDepth 20000 in
theorem BL_law_245 {K : KX} {E : CE} {b : Nat} {M : AM} (x3 x4 x5 : Int) {uc us : Nat} (hu : uc + 0 ≤ 619158) (hw : us + 0 ≤ 7243709)
    (h : WM K fL_law E 246 [some (aX b), some (aR 0), some (aR 63), some (aI x3), some (aI x4), some (aI x5), none] [aI 0] GG M uc us) :
    WM K fL_law E 245 [some (aX b), some (aR 0), some (aR 63), some (aI x3), some (aI x4), some (aI x5), none] [] GG M uc us := by
  refine s_iconst (n := 0) (by decide +kernel) ?_
  exact h

set_option maxRecDepth 20000 in
theorem BL_law_246 {K : KX} {E : CE} {b : Nat} {M : AM} (x3 x4 x5 y0 : Int) {uc us : Nat} (hu : uc + 0 ≤ 619158) (hw : us + 0 ≤ 7243709)
    (h : (wr y0 = 0 → WM K fL_law E 254 [some (aX b), some (aR 0), some (aR 63), some (aI x3), some (aI x4), some (aI x5), some (aI y0)] [aI 0] GG M uc us) ∧ (¬ wr y0 = 0 → WM K fL_law E 151 [some (aX b), some (aR 0), some (aR 63), some (aI x3), some (aI (x4 + 1)), none, none] [] GG M uc us)) :
    WM K fL_law E 246 [some (aX b), some (aR 0), some (aR 63), some (aI x3), some (aI x4), some (aI x5), none] [aI y0] GG M uc us := by
  refine s_istore (i := 6) (by decide +kernel) (by decide) ?_
  refine s_iload (i := 6) (by decide +kernel) rfl ?_
  refine s_if_ne (off := 5) (tgt := 255) (by decide +kernel) (by decide) (fun c1 => ?_) (fun c1 => ?_)
  · have h2 := h.2 c1
    refine s_iinc (i := 4) (n := 1) (by decide +kernel) rfl (by decide) ?_
    refine s_goto (off := -107) (tgt := 151) (by decide +kernel) (by decide) ?_
    exact s_loc (L' := [some (aX b), some (aR 0), some (aR 63), some (aI x3), some (aI (x4 + 1)), none, none]) (ll_s (ll_s (ll_s (ll_s (ll_s (ll_n (ll_n ll_nil))))))) h2
  · have h3 := h.1 c1
    refine s_iconst (n := 0) (by decide +kernel) ?_
    exact h3

