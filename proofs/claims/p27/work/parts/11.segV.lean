set_option maxRecDepth 20000 in
theorem BV_isIdle_0 {K : KX} {Q : Res → AG → AM → Prop} {M : AM} (v : Nat) (hv : v < 6)
    (h : (wr (M (30 + 2 * v) 1) < wr (M (30 + 2 * v) 2) → Q (.inl (some (aI 0))) GG M) ∧ (¬ wr (M (30 + 2 * v) 1) < wr (M (30 + 2 * v) 2) → Q (.inl (some (aI 1))) GG M)) :
    WM K fV_isIdle (EM K fV_isIdle 126 Q) 0 [some (aR (30 + 2 * v))] [] GG M 0 0 := by
  refine s_aload_n (i := 0) (by decide +kernel) rfl ?_
  refine s_getI (ci := 3) (k := 1) (index := 19) ck3 (gg_veh _ hv) (by decide) rfl (by decide +kernel) g_78 ?_
  refine s_aload_n (i := 0) (by decide +kernel) rfl ?_
  refine s_getI (ci := 3) (k := 2) (index := 22) ck3 (gg_veh _ hv) (by decide) rfl (by decide +kernel) g_80 ?_
  refine s_icmp_lt (off := 7) (tgt := 15) (by decide +kernel) (by decide) (fun c1 => ?_) (fun c1 => ?_)
  · have h2 := h.1 c1
    refine s_iconst (n := 0) (by decide +kernel) ?_
    exact s_zret (Or.inl rfl) rfl (by decide +kernel) (by decide) (by decide) h2
  · have h3 := h.2 c1
    refine s_iconst (n := 1) (by decide +kernel) ?_
    refine s_goto (off := 4) (tgt := 16) (by decide +kernel) (by decide) ?_
    exact s_zret (Or.inr rfl) rfl (by decide +kernel) (by decide) (by decide) h3

set_option maxRecDepth 20000 in
theorem BV_zonesLeft_0 {K : KX} {Q : Res → AG → AM → Prop} {M : AM} (v : Nat) (hv : v < 6)
    (h : Q (.inl (some (aI ((M (30 + 2 * v) 2) - (M (30 + 2 * v) 1))))) GG M) :
    WM K fV_zonesLeft (EM K fV_zonesLeft 126 Q) 0 [some (aR (30 + 2 * v))] [] GG M 0 0 := by
  refine s_aload_n (i := 0) (by decide +kernel) rfl ?_
  refine s_getI (ci := 3) (k := 2) (index := 22) ck3 (gg_veh _ hv) (by decide) rfl (by decide +kernel) g_80 ?_
  refine s_aload_n (i := 0) (by decide +kernel) rfl ?_
  refine s_getI (ci := 3) (k := 1) (index := 19) ck3 (gg_veh _ hv) (by decide) rfl (by decide +kernel) g_78 ?_
  refine s_isub (by decide +kernel) ?_
  exact s_iret rfl (by decide +kernel) (by decide) (by decide) h

set_option maxRecDepth 20000 in
theorem BV_nextZone_0 {K : KX} {Q : Res → AG → AM → Prop} {M : AM} (v : Nat) (hv : v < 6)
    (h : (wr (M (30 + 2 * v) 2) ≤ wr (M (30 + 2 * v) 1) → Q (.inl (some (aI (M (30 + 2 * v) 4)))) GG M) ∧ (¬ wr (M (30 + 2 * v) 2) ≤ wr (M (30 + 2 * v) 1) → ∃ j4 : Nat, wr (M (30 + 2 * v) 1) = (j4 : Int) ∧ j4 < 20 ∧ (Q (.inl (some (aI (M (31 + 2 * v) j4)))) GG M))) :
    WM K fV_nextZone (EM K fV_nextZone 126 Q) 0 [some (aR (30 + 2 * v))] [] GG M 0 0 := by
  refine s_aload_n (i := 0) (by decide +kernel) rfl ?_
  refine s_getI (ci := 3) (k := 1) (index := 19) ck3 (gg_veh _ hv) (by decide) rfl (by decide +kernel) g_78 ?_
  refine s_aload_n (i := 0) (by decide +kernel) rfl ?_
  refine s_getI (ci := 3) (k := 2) (index := 22) ck3 (gg_veh _ hv) (by decide) rfl (by decide +kernel) g_80 ?_
  refine s_icmp_ge (off := 15) (tgt := 23) (by decide +kernel) (by decide) (fun c1 => ?_) (fun c1 => ?_)
  · have h2 := h.1 c1
    refine s_aload_n (i := 0) (by decide +kernel) rfl ?_
    refine s_getI (ci := 3) (k := 4) (index := 25) ck3 (gg_veh _ hv) (by decide) rfl (by decide +kernel) g_83 ?_
    exact s_iret rfl (by decide +kernel) (by decide) (by decide) h2
  · have h3 := h.2 c1
    refine s_aload_n (i := 0) (by decide +kernel) rfl ?_
    refine s_getR (ci := 3) (k := 0) (index := 9) (r2 := (31 + 2 * v)) ck3 (gg_veh _ hv) (rsVeh_0 _) (by decide) rfl (by decide +kernel) g_76 ?_
    refine s_aload_n (i := 0) (by decide +kernel) rfl ?_
    refine s_getI (ci := 3) (k := 1) (index := 19) ck3 (gg_veh _ hv) (by decide) rfl (by decide +kernel) g_78 ?_
    obtain ⟨j4, e5, e6, h7⟩ := h3
    refine s_iald (j := j4) (gg_vrow _ hv) e5 e6 (by decide +kernel) ?_
    refine s_goto (off := 7) (tgt := 27) (by decide +kernel) (by decide) ?_
    exact s_iret rfl (by decide +kernel) (by decide) (by decide) h7

set_option maxRecDepth 20000 in
theorem BV_lastZone_0 {K : KX} {Q : Res → AG → AM → Prop} {M : AM} (v : Nat) (hv : v < 6)
    (h : (wr (M (30 + 2 * v) 2) ≤ wr (M (30 + 2 * v) 1) → Q (.inl (some (aI (M (30 + 2 * v) 4)))) GG M) ∧ (¬ wr (M (30 + 2 * v) 2) ≤ wr (M (30 + 2 * v) 1) → ∃ j4 : Nat, wr ((M (30 + 2 * v) 2) - 1) = (j4 : Int) ∧ j4 < 20 ∧ (Q (.inl (some (aI (M (31 + 2 * v) j4)))) GG M))) :
    WM K fV_lastZone (EM K fV_lastZone 126 Q) 0 [some (aR (30 + 2 * v))] [] GG M 0 0 := by
  refine s_aload_n (i := 0) (by decide +kernel) rfl ?_
  refine s_getI (ci := 3) (k := 1) (index := 19) ck3 (gg_veh _ hv) (by decide) rfl (by decide +kernel) g_78 ?_
  refine s_aload_n (i := 0) (by decide +kernel) rfl ?_
  refine s_getI (ci := 3) (k := 2) (index := 22) ck3 (gg_veh _ hv) (by decide) rfl (by decide +kernel) g_80 ?_
  refine s_icmp_ge (off := 17) (tgt := 25) (by decide +kernel) (by decide) (fun c1 => ?_) (fun c1 => ?_)
  · have h2 := h.1 c1
    refine s_aload_n (i := 0) (by decide +kernel) rfl ?_
    refine s_getI (ci := 3) (k := 4) (index := 25) ck3 (gg_veh _ hv) (by decide) rfl (by decide +kernel) g_83 ?_
    exact s_iret rfl (by decide +kernel) (by decide) (by decide) h2
  · have h3 := h.2 c1
    refine s_aload_n (i := 0) (by decide +kernel) rfl ?_
    refine s_getR (ci := 3) (k := 0) (index := 9) (r2 := (31 + 2 * v)) ck3 (gg_veh _ hv) (rsVeh_0 _) (by decide) rfl (by decide +kernel) g_76 ?_
    refine s_aload_n (i := 0) (by decide +kernel) rfl ?_
    refine s_getI (ci := 3) (k := 2) (index := 22) ck3 (gg_veh _ hv) (by decide) rfl (by decide +kernel) g_80 ?_
    refine s_iconst (n := 1) (by decide +kernel) ?_
    refine s_isub (by decide +kernel) ?_
    obtain ⟨j4, e5, e6, h7⟩ := h3
    refine s_iald (j := j4) (gg_vrow _ hv) e5 e6 (by decide +kernel) ?_
    refine s_goto (off := 7) (tgt := 29) (by decide +kernel) (by decide) ?_
    exact s_iret rfl (by decide +kernel) (by decide) (by decide) h7

set_option maxRecDepth 20000 in
theorem BV_takeWay_0 {K : KX} {Q : Res → AG → AM → Prop} {M : AM} (p2 : Int) (v : Nat) (hv : v < 6)
    (h : ∃ j1 : Nat, wr (M (30 + 2 * v) 4) = (j1 : Int) ∧ j1 < 20 ∧ (∃ j5 : Nat, wr p2 = (j5 : Int) ∧ j5 < 20 ∧ (WM K fV_takeWay (EM K fV_takeWay 126 Q) 31 [some (aR (30 + 2 * v)), some (aR 1), some (aI p2), some (aI (mn (M (3 + j1) j5) 20)), some (aI (M (30 + 2 * v) 4)), some (aI 0)] [] GG (um M (30 + 2 * v) 3 0) 0 0))) :
    WM K fV_takeWay (EM K fV_takeWay 126 Q) 0 [some (aR (30 + 2 * v)), some (aR 1), some (aI p2), none, none, none] [] GG M 0 0 := by
  refine s_aload_n (i := 1) (by decide +kernel) rfl ?_
  refine s_getR (ci := 1) (k := 0) (index := 28) (r2 := 2) ck1 rfl rfl (by decide) rfl (by decide +kernel) g_32 ?_
  refine s_aload_n (i := 0) (by decide +kernel) rfl ?_
  refine s_getI (ci := 3) (k := 4) (index := 25) ck3 (gg_veh _ hv) (by decide) rfl (by decide +kernel) g_83 ?_
  obtain ⟨j1, e2, e3, h4⟩ := h
  refine s_aaldI (r2 := (3 + j1)) (j := j1) rfl e2 e3 (rg_at e3) (by decide +kernel) ?_
  refine s_iload_n (i := 2) (by decide +kernel) rfl ?_
  obtain ⟨j5, e6, e7, h8⟩ := h4
  refine s_iald (j := j5) (gg_row _ e3) e6 e7 (by decide +kernel) ?_
  refine s_bipush (n := 20) (by decide +kernel) (by decide +kernel) ?_
  refine s_min (index := 34) (by decide +kernel) gm_linkV (Nat.le_of_ble_eq_true rfl) (by decide) ?_
  refine s_istore_n (i := 3) (by decide +kernel) (by decide) ?_
  refine s_aload_n (i := 0) (by decide +kernel) rfl ?_
  refine s_getI (ci := 3) (k := 4) (index := 25) ck3 (gg_veh _ hv) (by decide) rfl (by decide +kernel) g_83 ?_
  refine s_istore (i := 4) (by decide +kernel) (by decide) ?_
  refine s_aload_n (i := 0) (by decide +kernel) rfl ?_
  refine s_iconst (n := 0) (by decide +kernel) ?_
  refine s_putI (ci := 3) (k := 3) (index := 40) ck3 (gg_veh _ hv) (by decide) rfl rfl rfl (by decide +kernel) g_81 ?_
  refine s_iconst (n := 0) (by decide +kernel) ?_
  refine s_istore (i := 5) (by decide +kernel) (by decide) ?_
  exact h8

set_option maxRecDepth 20000 in
theorem BV_takeWay_31 {K : KX} {Q : Res → AG → AM → Prop} {M : AM} (x2 x3 x4 x5 : Int) (v : Nat) (hv : v < 6)
    (h : (wr x3 ≤ wr x5 → Q (.inl none) GG (um (um M (30 + 2 * v) 1 0) (30 + 2 * v) 2 x3)) ∧ (¬ wr x3 ≤ wr x5 → MetA K fP_nextOnWay [aR 1, aI x4, aI x2] GG M (cI GG (fun b5 M4 => ∃ j8 : Nat, wr x5 = (j8 : Int) ∧ j8 < 20 ∧ (WM K fV_takeWay (EM K fV_takeWay 126 Q) 31 [some (aR (30 + 2 * v)), some (aR 1), some (aI x2), some (aI x3), some (aI b5), some (aI (x5 + 1))] [] GG (um (um M4 (31 + 2 * v) j8 b5) (30 + 2 * v) 3 (wio ((um M4 (31 + 2 * v) j8 b5) (30 + 2 * v) 3) (wsl 1 b5))) 0 0)) noX))) :
    WM K fV_takeWay (EM K fV_takeWay 126 Q) 31 [some (aR (30 + 2 * v)), some (aR 1), some (aI x2), some (aI x3), some (aI x4), some (aI x5)] [] GG M 0 0 := by
  refine s_iload (i := 5) (by decide +kernel) rfl ?_
  refine s_iload_n (i := 3) (by decide +kernel) rfl ?_
  refine s_icmp_ge (off := 40) (tgt := 74) (by decide +kernel) (by decide) (fun c1 => ?_) (fun c1 => ?_)
  · have h2 := h.1 c1
    refine s_aload_n (i := 0) (by decide +kernel) rfl ?_
    refine s_iconst (n := 0) (by decide +kernel) ?_
    refine s_putI (ci := 3) (k := 1) (index := 19) ck3 (gg_veh _ hv) (by decide) rfl rfl rfl (by decide +kernel) g_78 ?_
    refine s_aload_n (i := 0) (by decide +kernel) rfl ?_
    refine s_iload_n (i := 3) (by decide +kernel) rfl ?_
    refine s_putI (ci := 3) (k := 2) (index := 22) ck3 (gg_veh _ hv) (by decide) rfl rfl rfl (by decide +kernel) g_80 ?_
    exact s_vret rfl (by decide +kernel) (by decide) (by decide) h2
  · have h3 := h.2 c1
    refine s_aload_n (i := 1) (by decide +kernel) rfl ?_
    refine s_iload (i := 4) (by decide +kernel) rfl ?_
    refine s_iload_n (i := 2) (by decide +kernel) rfl ?_
    refine s_callV (Fc := fP_nextOnWay) (index := 43) (ci := 1) (as := [aI x4, aI x2]) (rest := []) rfl h3 rfl rfl (by decide) rfl ⟨g_402, hP_nextOnWay, g_2, by decide, (show (parseMethodDescriptor fP_nextOnWay.1.desc).map (fun d => d.parameters.length) = some 2 from by decide +kernel), by decide, by decide, (by decide), (by decide)⟩ g_257 g_258 rfl rfl (Nat.le_of_ble_eq_true rfl) (by decide +kernel) (q_cI (fun b5 M4 h6 => ?_) (fun _ _ q => q.elim))
    refine s_istore (i := 4) (by decide +kernel) (by decide) ?_
    refine s_aload_n (i := 0) (by decide +kernel) rfl ?_
    refine s_getR (ci := 3) (k := 0) (index := 9) (r2 := (31 + 2 * v)) ck3 (gg_veh _ hv) (rsVeh_0 _) (by decide) rfl (by decide +kernel) g_76 ?_
    refine s_iload (i := 5) (by decide +kernel) rfl ?_
    refine s_iload (i := 4) (by decide +kernel) rfl ?_
    obtain ⟨j8, e9, e10, h11⟩ := h6
    refine s_iast (j := j8) (gg_vrow _ hv) e9 e10 (by decide +kernel) ?_
    refine s_aload_n (i := 0) (by decide +kernel) rfl ?_
    refine s_dupR (by decide +kernel) ?_
    refine s_getI (ci := 3) (k := 3) (index := 40) ck3 (gg_veh _ hv) (by decide) rfl (by decide +kernel) g_81 ?_
    refine s_iconst (n := 1) (by decide +kernel) ?_
    refine s_iload (i := 4) (by decide +kernel) rfl ?_
    refine s_ishl (by decide +kernel) ?_
    refine s_ior (by decide +kernel) ?_
    refine s_putI (ci := 3) (k := 3) (index := 40) ck3 (gg_veh _ hv) (by decide) rfl rfl rfl (by decide +kernel) g_81 ?_
    refine s_iinc (i := 5) (n := 1) (by decide +kernel) rfl (by decide) ?_
    refine s_goto (off := -40) (tgt := 31) (by decide +kernel) (by decide) ?_
    exact h11

set_option maxRecDepth 20000 in
theorem BV_dropRoute_0 {K : KX} {Q : Res → AG → AM → Prop} {M : AM} (v : Nat) (hv : v < 6)
    (h : Q (.inl none) GG (um (um (um M (30 + 2 * v) 1 0) (30 + 2 * v) 2 0) (30 + 2 * v) 3 0)) :
    WM K fV_dropRoute (EM K fV_dropRoute 126 Q) 0 [some (aR (30 + 2 * v))] [] GG M 0 0 := by
  refine s_aload_n (i := 0) (by decide +kernel) rfl ?_
  refine s_iconst (n := 0) (by decide +kernel) ?_
  refine s_putI (ci := 3) (k := 1) (index := 19) ck3 (gg_veh _ hv) (by decide) rfl rfl rfl (by decide +kernel) g_78 ?_
  refine s_aload_n (i := 0) (by decide +kernel) rfl ?_
  refine s_iconst (n := 0) (by decide +kernel) ?_
  refine s_putI (ci := 3) (k := 2) (index := 22) ck3 (gg_veh _ hv) (by decide) rfl rfl rfl (by decide +kernel) g_80 ?_
  refine s_aload_n (i := 0) (by decide +kernel) rfl ?_
  refine s_iconst (n := 0) (by decide +kernel) ?_
  refine s_putI (ci := 3) (k := 3) (index := 40) ck3 (gg_veh _ hv) (by decide) rfl rfl rfl (by decide +kernel) g_81 ?_
  exact s_vret rfl (by decide +kernel) (by decide) (by decide) h

set_option maxRecDepth 20000 in
theorem BV_advance_0 {K : KX} {Q : Res → AG → AM → Prop} {M : AM} (v : Nat) (hv : v < 6)
    (h : MetA K fV_nextZone [aR (30 + 2 * v)] GG M (cI GG (fun b2 M1 => Q (.inl none) GG (um (um (um (um M1 (30 + 2 * v) 4 b2) (30 + 2 * v) 3 (wia ((um M1 (30 + 2 * v) 4 b2) (30 + 2 * v) 3) (wix (wsl 1 ((um M1 (30 + 2 * v) 4 b2) (30 + 2 * v) 4)) ((-1))))) (30 + 2 * v) 1 (((um (um M1 (30 + 2 * v) 4 b2) (30 + 2 * v) 3 (wia ((um M1 (30 + 2 * v) 4 b2) (30 + 2 * v) 3) (wix (wsl 1 ((um M1 (30 + 2 * v) 4 b2) (30 + 2 * v) 4)) ((-1))))) (30 + 2 * v) 1) + 1)) (30 + 2 * v) 5 (((um (um (um M1 (30 + 2 * v) 4 b2) (30 + 2 * v) 3 (wia ((um M1 (30 + 2 * v) 4 b2) (30 + 2 * v) 3) (wix (wsl 1 ((um M1 (30 + 2 * v) 4 b2) (30 + 2 * v) 4)) ((-1))))) (30 + 2 * v) 1 (((um (um M1 (30 + 2 * v) 4 b2) (30 + 2 * v) 3 (wia ((um M1 (30 + 2 * v) 4 b2) (30 + 2 * v) 3) (wix (wsl 1 ((um M1 (30 + 2 * v) 4 b2) (30 + 2 * v) 4)) ((-1))))) (30 + 2 * v) 1) + 1)) (30 + 2 * v) 5) - 1))) noX)) :
    WM K fV_advance (EM K fV_advance 126 Q) 0 [some (aR (30 + 2 * v))] [] GG M 0 0 := by
  refine s_aload_n (i := 0) (by decide +kernel) rfl ?_
  refine s_aload_n (i := 0) (by decide +kernel) rfl ?_
  refine s_callV (Fc := fV_nextZone) (index := 46) (ci := 3) (as := []) (rest := [aR (30 + 2 * v)]) rfl h (gg_veh _ hv) rfl (by decide) rfl ⟨g_456, hV_nextZone, g_4, by decide, (show (parseMethodDescriptor fV_nextZone.1.desc).map (fun d => d.parameters.length) = some 0 from by decide +kernel), by decide, by decide, (by decide), (by decide)⟩ g_444 g_445 rfl rfl (Nat.le_of_ble_eq_true rfl) (by decide +kernel) (q_cI (fun b2 M1 h3 => ?_) (fun _ _ q => q.elim))
  refine s_putI (ci := 3) (k := 4) (index := 25) ck3 (gg_veh _ hv) (by decide) rfl rfl rfl (by decide +kernel) g_83 ?_
  refine s_aload_n (i := 0) (by decide +kernel) rfl ?_
  refine s_dupR (by decide +kernel) ?_
  refine s_getI (ci := 3) (k := 3) (index := 40) ck3 (gg_veh _ hv) (by decide) rfl (by decide +kernel) g_81 ?_
  refine s_iconst (n := 1) (by decide +kernel) ?_
  refine s_aload_n (i := 0) (by decide +kernel) rfl ?_
  refine s_getI (ci := 3) (k := 4) (index := 25) ck3 (gg_veh _ hv) (by decide) rfl (by decide +kernel) g_83 ?_
  refine s_ishl (by decide +kernel) ?_
  refine s_iconst (n := -1) (by decide +kernel) ?_
  refine s_ixor (by decide +kernel) ?_
  refine s_iand (by decide +kernel) ?_
  refine s_putI (ci := 3) (k := 3) (index := 40) ck3 (gg_veh _ hv) (by decide) rfl rfl rfl (by decide +kernel) g_81 ?_
  refine s_aload_n (i := 0) (by decide +kernel) rfl ?_
  refine s_dupR (by decide +kernel) ?_
  refine s_getI (ci := 3) (k := 1) (index := 19) ck3 (gg_veh _ hv) (by decide) rfl (by decide +kernel) g_78 ?_
  refine s_iconst (n := 1) (by decide +kernel) ?_
  refine s_iadd (by decide +kernel) ?_
  refine s_putI (ci := 3) (k := 1) (index := 19) ck3 (gg_veh _ hv) (by decide) rfl rfl rfl (by decide +kernel) g_78 ?_
  refine s_aload_n (i := 0) (by decide +kernel) rfl ?_
  refine s_dupR (by decide +kernel) ?_
  refine s_getI (ci := 3) (k := 5) (index := 50) ck3 (gg_veh _ hv) (by decide) rfl (by decide +kernel) g_86 ?_
  refine s_iconst (n := 1) (by decide +kernel) ?_
  refine s_isub (by decide +kernel) ?_
  refine s_putI (ci := 3) (k := 5) (index := 50) ck3 (gg_veh _ hv) (by decide) rfl rfl rfl (by decide +kernel) g_86 ?_
  exact s_vret rfl (by decide +kernel) (by decide) (by decide) h3

