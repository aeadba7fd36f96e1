set_option maxRecDepth 20000 in
theorem BT_clear_0 {K : KX} {Q : Res → AG → AM → Prop} {M : AM} 
    (h : WM K fT_clear (EM K fT_clear 126 Q) 7 [some (aR 24), some (aI 0)] [] GG (um M 24 4 0) 0 0) :
    WM K fT_clear (EM K fT_clear 126 Q) 0 [some (aR 24), none] [] GG M 0 0 := by
  refine s_aload_n (i := 0) (by decide +kernel) rfl ?_
  refine s_iconst (n := 0) (by decide +kernel) ?_
  refine s_putI (ci := 2) (k := 4) (index := 24) ck2 rfl (by decide) rfl rfl rfl (by decide +kernel) g_56 ?_
  refine s_iconst (n := 0) (by decide +kernel) ?_
  refine s_istore_n (i := 1) (by decide +kernel) (by decide) ?_
  exact h

set_option maxRecDepth 20000 in
theorem BT_clear_7 {K : KX} {Q : Res → AG → AM → Prop} {M : AM} (x1 : Int)
    (h : (wr 6 ≤ wr x1 → Q (.inl none) GG M) ∧ (¬ wr 6 ≤ wr x1 → ∃ j4 : Nat, wr x1 = (j4 : Int) ∧ j4 < 6 ∧ (∃ j8 : Nat, wr x1 = (j8 : Int) ∧ j8 < 6 ∧ (∃ j12 : Nat, wr x1 = (j12 : Int) ∧ j12 < 6 ∧ (WM K fT_clear (EM K fT_clear 126 Q) 7 [some (aR 24), some (aI (x1 + 1))] [] GG (um (um (um M 25 j4 0) 26 j8 0) 27 j12 0) 0 0))))) :
    WM K fT_clear (EM K fT_clear 126 Q) 7 [some (aR 24), some (aI x1)] [] GG M 0 0 := by
  refine s_iload_n (i := 1) (by decide +kernel) rfl ?_
  refine s_bipush (n := 6) (by decide +kernel) (by decide +kernel) ?_
  refine s_icmp_ge (off := 30) (tgt := 40) (by decide +kernel) (by decide) (fun c1 => ?_) (fun c1 => ?_)
  · have h2 := h.1 c1
    exact s_vret rfl (by decide +kernel) (by decide) (by decide) h2
  · have h3 := h.2 c1
    refine s_aload_n (i := 0) (by decide +kernel) rfl ?_
    refine s_getR (ci := 2) (k := 0) (index := 9) (r2 := 25) ck2 rfl rfl (by decide) rfl (by decide +kernel) g_52 ?_
    refine s_iload_n (i := 1) (by decide +kernel) rfl ?_
    refine s_iconst (n := 0) (by decide +kernel) ?_
    obtain ⟨j4, e5, e6, h7⟩ := h3
    refine s_iast (j := j4) rfl e5 e6 (by decide +kernel) ?_
    refine s_aload_n (i := 0) (by decide +kernel) rfl ?_
    refine s_getR (ci := 2) (k := 1) (index := 15) (r2 := 26) ck2 rfl rfl (by decide) rfl (by decide +kernel) g_53 ?_
    refine s_iload_n (i := 1) (by decide +kernel) rfl ?_
    refine s_iconst (n := 0) (by decide +kernel) ?_
    obtain ⟨j8, e9, e10, h11⟩ := h7
    refine s_iast (j := j8) rfl e9 e10 (by decide +kernel) ?_
    refine s_aload_n (i := 0) (by decide +kernel) rfl ?_
    refine s_getR (ci := 2) (k := 2) (index := 18) (r2 := 27) ck2 rfl rfl (by decide) rfl (by decide +kernel) g_54 ?_
    refine s_iload_n (i := 1) (by decide +kernel) rfl ?_
    refine s_iconst (n := 0) (by decide +kernel) ?_
    obtain ⟨j12, e13, e14, h15⟩ := h11
    refine s_iast (j := j12) rfl e13 e14 (by decide +kernel) ?_
    refine s_iinc (i := 1) (n := 1) (by decide +kernel) rfl (by decide) ?_
    refine s_goto (off := -30) (tgt := 7) (by decide +kernel) (by decide) ?_
    exact h15

set_option maxRecDepth 20000 in
theorem BT_put_0 {K : KX} {Q : Res → AG → AM → Prop} {M : AM} (p1 p2 p3 p4 : Int)
    (h : ∃ j1 : Nat, wr p1 = (j1 : Int) ∧ j1 < 6 ∧ (∃ j5 : Nat, wr p1 = (j5 : Int) ∧ j5 < 6 ∧ (∃ j9 : Nat, wr p1 = (j9 : Int) ∧ j9 < 6 ∧ ((wr p3 = 0 → Q (.inl none) GG (um (um (um (um M 25 j1 (wsl 1 p2)) 26 j5 (wsl 1 p4)) 27 j9 p3) 24 4 (wia ((um (um (um M 25 j1 (wsl 1 p2)) 26 j5 (wsl 1 p4)) 27 j9 p3) 24 4) (wix (wsl 1 p1) ((-1)))))) ∧ (¬ wr p3 = 0 → Q (.inl none) GG (um (um (um (um M 25 j1 (wsl 1 p2)) 26 j5 (wsl 1 p4)) 27 j9 p3) 24 4 (wio ((um (um (um M 25 j1 (wsl 1 p2)) 26 j5 (wsl 1 p4)) 27 j9 p3) 24 4) (wsl 1 p1)))))))) :
    WM K fT_put (EM K fT_put 126 Q) 0 [some (aR 24), some (aI p1), some (aI p2), some (aI p3), some (aI p4), none] [] GG M 0 0 := by
  refine s_aload_n (i := 0) (by decide +kernel) rfl ?_
  refine s_getR (ci := 2) (k := 0) (index := 9) (r2 := 25) ck2 rfl rfl (by decide) rfl (by decide +kernel) g_52 ?_
  refine s_iload_n (i := 1) (by decide +kernel) rfl ?_
  refine s_iconst (n := 1) (by decide +kernel) ?_
  refine s_iload_n (i := 2) (by decide +kernel) rfl ?_
  refine s_ishl (by decide +kernel) ?_
  obtain ⟨j1, e2, e3, h4⟩ := h
  refine s_iast (j := j1) rfl e2 e3 (by decide +kernel) ?_
  refine s_aload_n (i := 0) (by decide +kernel) rfl ?_
  refine s_getR (ci := 2) (k := 1) (index := 15) (r2 := 26) ck2 rfl rfl (by decide) rfl (by decide +kernel) g_53 ?_
  refine s_iload_n (i := 1) (by decide +kernel) rfl ?_
  refine s_iconst (n := 1) (by decide +kernel) ?_
  refine s_iload (i := 4) (by decide +kernel) rfl ?_
  refine s_ishl (by decide +kernel) ?_
  obtain ⟨j5, e6, e7, h8⟩ := h4
  refine s_iast (j := j5) rfl e6 e7 (by decide +kernel) ?_
  refine s_aload_n (i := 0) (by decide +kernel) rfl ?_
  refine s_getR (ci := 2) (k := 2) (index := 18) (r2 := 27) ck2 rfl rfl (by decide) rfl (by decide +kernel) g_54 ?_
  refine s_iload_n (i := 1) (by decide +kernel) rfl ?_
  refine s_iload_n (i := 3) (by decide +kernel) rfl ?_
  obtain ⟨j9, e10, e11, h12⟩ := h8
  refine s_iast (j := j9) rfl e10 e11 (by decide +kernel) ?_
  refine s_iconst (n := 1) (by decide +kernel) ?_
  refine s_iload_n (i := 1) (by decide +kernel) rfl ?_
  refine s_ishl (by decide +kernel) ?_
  refine s_istore (i := 5) (by decide +kernel) (by decide) ?_
  refine s_aload_n (i := 0) (by decide +kernel) rfl ?_
  refine s_iload_n (i := 3) (by decide +kernel) rfl ?_
  refine s_if_ne (off := 15) (tgt := 48) (by decide +kernel) (by decide) (fun c13 => ?_) (fun c13 => ?_)
  · have h14 := h12.2 c13
    refine s_aload_n (i := 0) (by decide +kernel) rfl ?_
    refine s_getI (ci := 2) (k := 4) (index := 24) ck2 rfl (by decide) rfl (by decide +kernel) g_56 ?_
    refine s_iload (i := 5) (by decide +kernel) rfl ?_
    refine s_ior (by decide +kernel) ?_
    refine s_putI (ci := 2) (k := 4) (index := 24) ck2 rfl (by decide) rfl rfl rfl (by decide +kernel) g_56 ?_
    exact s_vret rfl (by decide +kernel) (by decide) (by decide) h14
  · have h15 := h12.1 c13
    refine s_aload_n (i := 0) (by decide +kernel) rfl ?_
    refine s_getI (ci := 2) (k := 4) (index := 24) ck2 rfl (by decide) rfl (by decide +kernel) g_56 ?_
    refine s_iload (i := 5) (by decide +kernel) rfl ?_
    refine s_iconst (n := -1) (by decide +kernel) ?_
    refine s_ixor (by decide +kernel) ?_
    refine s_iand (by decide +kernel) ?_
    refine s_goto (off := 10) (tgt := 55) (by decide +kernel) (by decide) ?_
    refine s_putI (ci := 2) (k := 4) (index := 24) ck2 rfl (by decide) rfl rfl rfl (by decide +kernel) g_56 ?_
    exact s_vret rfl (by decide +kernel) (by decide) (by decide) h15

set_option maxRecDepth 20000 in
theorem BT_countOrders_0 {K : KX} {Q : Res → AG → AM → Prop} {M : AM} 
    (h : ∃ j1 : Nat, wr (M 24 4) = (j1 : Int) ∧ j1 < 64 ∧ (WM K fT_countOrders (EM K fT_countOrders 126 Q) 17 [some (aR 24), some (aI (((um M 28 j1 1) 24 4) - 1))] [] GG (um M 28 j1 1) 0 0)) :
    WM K fT_countOrders (EM K fT_countOrders 126 Q) 0 [some (aR 24), none] [] GG M 0 0 := by
  refine s_aload_n (i := 0) (by decide +kernel) rfl ?_
  refine s_getR (ci := 2) (k := 3) (index := 21) (r2 := 28) ck2 rfl rfl (by decide) rfl (by decide +kernel) g_55 ?_
  refine s_aload_n (i := 0) (by decide +kernel) rfl ?_
  refine s_getI (ci := 2) (k := 4) (index := 24) ck2 rfl (by decide) rfl (by decide +kernel) g_56 ?_
  refine s_iconst (n := 1) (by decide +kernel) ?_
  obtain ⟨j1, e2, e3, h4⟩ := h
  refine s_iast (j := j1) rfl e2 e3 (by decide +kernel) ?_
  refine s_aload_n (i := 0) (by decide +kernel) rfl ?_
  refine s_getI (ci := 2) (k := 4) (index := 24) ck2 rfl (by decide) rfl (by decide +kernel) g_56 ?_
  refine s_iconst (n := 1) (by decide +kernel) ?_
  refine s_isub (by decide +kernel) ?_
  refine s_istore_n (i := 1) (by decide +kernel) (by decide) ?_
  exact h4

set_option maxRecDepth 20000 in
theorem BT_countOrders_17 {K : KX} {Q : Res → AG → AM → Prop} {M : AM} (x1 : Int)
    (h : (wr x1 < 0 → ∃ j3 : Nat, wr 0 = (j3 : Int) ∧ j3 < 64 ∧ (Q (.inl (some (aI (M 28 j3)))) GG M)) ∧ (¬ wr x1 < 0 → (wr (wia x1 (wix (M 24 4) ((-1)))) = 0 → MetA K fT_runnersBehind [aR 24, aI x1] GG M (cI GG (fun b12 M11 => MetA K fT_sumBehind [aR 24, aI x1, aI b12] GG M11 (cI GG (fun b16 M15 => ∃ j19 : Nat, wr x1 = (j19 : Int) ∧ j19 < 64 ∧ (WM K fT_countOrders (EM K fT_countOrders 126 Q) 17 [some (aR 24), some (aI (x1 + (-1)))] [] GG (um M15 28 j19 b16) 0 0)) noX)) noX)) ∧ (¬ wr (wia x1 (wix (M 24 4) ((-1)))) = 0 → WM K fT_countOrders (EM K fT_countOrders 126 Q) 17 [some (aR 24), some (aI (x1 + (-1)))] [] GG M 0 0))) :
    WM K fT_countOrders (EM K fT_countOrders 126 Q) 17 [some (aR 24), some (aI x1)] [] GG M 0 0 := by
  refine s_iload_n (i := 1) (by decide +kernel) rfl ?_
  refine s_if_lt (off := 36) (tgt := 54) (by decide +kernel) (by decide) (fun c1 => ?_) (fun c1 => ?_)
  · have h2 := h.1 c1
    refine s_aload_n (i := 0) (by decide +kernel) rfl ?_
    refine s_getR (ci := 2) (k := 3) (index := 21) (r2 := 28) ck2 rfl rfl (by decide) rfl (by decide +kernel) g_55 ?_
    refine s_iconst (n := 0) (by decide +kernel) ?_
    obtain ⟨j3, e4, e5, h6⟩ := h2
    refine s_iald (j := j3) rfl e4 e5 (by decide +kernel) ?_
    exact s_iret rfl (by decide +kernel) (by decide) (by decide) h6
  · have h7 := h.2 c1
    refine s_iload_n (i := 1) (by decide +kernel) rfl ?_
    refine s_aload_n (i := 0) (by decide +kernel) rfl ?_
    refine s_getI (ci := 2) (k := 4) (index := 24) ck2 rfl (by decide) rfl (by decide +kernel) g_56 ?_
    refine s_iconst (n := -1) (by decide +kernel) ?_
    refine s_ixor (by decide +kernel) ?_
    refine s_iand (by decide +kernel) ?_
    refine s_if_ne (off := 19) (tgt := 48) (by decide +kernel) (by decide) (fun c8 => ?_) (fun c8 => ?_)
    · have h9 := h7.2 c8
      refine s_iinc (i := 1) (n := -1) (by decide +kernel) rfl (by decide) ?_
      refine s_goto (off := -34) (tgt := 17) (by decide +kernel) (by decide) ?_
      exact h9
    · have h10 := h7.1 c8
      refine s_aload_n (i := 0) (by decide +kernel) rfl ?_
      refine s_getR (ci := 2) (k := 3) (index := 21) (r2 := 28) ck2 rfl rfl (by decide) rfl (by decide +kernel) g_55 ?_
      refine s_iload_n (i := 1) (by decide +kernel) rfl ?_
      refine s_aload_n (i := 0) (by decide +kernel) rfl ?_
      refine s_iload_n (i := 1) (by decide +kernel) rfl ?_
      refine s_aload_n (i := 0) (by decide +kernel) rfl ?_
      refine s_iload_n (i := 1) (by decide +kernel) rfl ?_
      refine s_callV (Fc := fT_runnersBehind) (index := 28) (ci := 2) (as := [aI x1]) (rest := [aI x1, aR 24, aI x1, aR 28]) rfl h10 rfl rfl (by decide) rfl ⟨g_288, hT_runnersBehind, g_3, by decide, (show (parseMethodDescriptor fT_runnersBehind.1.desc).map (fun d => d.parameters.length) = some 1 from by decide +kernel), by decide, by decide, (by decide), (by decide)⟩ g_290 gp_6 rfl rfl (Nat.le_of_ble_eq_true rfl) (by decide +kernel) (q_cI (fun b12 M11 h13 => ?_) (fun _ _ q => q.elim))
      refine s_callV (Fc := fT_sumBehind) (index := 32) (ci := 2) (as := [aI x1, aI b12]) (rest := [aI x1, aR 28]) rfl h13 rfl rfl (by decide) rfl ⟨g_292, hT_sumBehind, g_3, by decide, (show (parseMethodDescriptor fT_sumBehind.1.desc).map (fun d => d.parameters.length) = some 2 from by decide +kernel), by decide, by decide, (by decide), (by decide)⟩ g_294 gp_7 rfl rfl (Nat.le_of_ble_eq_true rfl) (by decide +kernel) (q_cI (fun b16 M15 h17 => ?_) (fun _ _ q => q.elim))
      obtain ⟨j19, e20, e21, h22⟩ := h17
      refine s_iast (j := j19) rfl e20 e21 (by decide +kernel) ?_
      refine s_iinc (i := 1) (n := -1) (by decide +kernel) rfl (by decide) ?_
      refine s_goto (off := -34) (tgt := 17) (by decide +kernel) (by decide) ?_
      exact h22

set_option maxRecDepth 20000 in
theorem BT_sumBehind_0 {K : KX} {Q : Res → AG → AM → Prop} {M : AM} (p1 p2 : Int)
    (h : WM K fT_sumBehind (EM K fT_sumBehind 126 Q) 5 [some (aR 24), some (aI p1), some (aI p2), some (aI 0), some (aI 0), none] [] GG M 0 0) :
    WM K fT_sumBehind (EM K fT_sumBehind 126 Q) 0 [some (aR 24), some (aI p1), some (aI p2), none, none, none] [] GG M 0 0 := by
  refine s_iconst (n := 0) (by decide +kernel) ?_
  refine s_istore_n (i := 3) (by decide +kernel) (by decide) ?_
  refine s_iconst (n := 0) (by decide +kernel) ?_
  refine s_istore (i := 4) (by decide +kernel) (by decide) ?_
  exact h

set_option maxRecDepth 20000 in
theorem BT_sumBehind_5 {K : KX} {Q : Res → AG → AM → Prop} {M : AM} (x1 x2 x3 x4 : Int)
    (h : (wr 6 ≤ wr x4 → Q (.inl (some (aI x3))) GG M) ∧ (¬ wr 6 ≤ wr x4 → (wr (wia x2 (wsl 1 x4)) = 0 → WM K fT_sumBehind (EM K fT_sumBehind 126 Q) 5 [some (aR 24), some (aI x1), some (aI x2), some (aI x3), some (aI (x4 + 1)), none] [] GG M 0 0) ∧ (¬ wr (wia x2 (wsl 1 x4)) = 0 → ∃ j7 : Nat, wr (wio x1 (wsl 1 x4)) = (j7 : Int) ∧ j7 < 64 ∧ (WM K fT_sumBehind (EM K fT_sumBehind 126 Q) 5 [some (aR 24), some (aI x1), some (aI x2), some (aI (x3 + (M 28 j7))), some (aI (x4 + 1)), none] [] GG M 0 0)))) :
    WM K fT_sumBehind (EM K fT_sumBehind 126 Q) 5 [some (aR 24), some (aI x1), some (aI x2), some (aI x3), some (aI x4), none] [] GG M 0 0 := by
  refine s_iload (i := 4) (by decide +kernel) rfl ?_
  refine s_bipush (n := 6) (by decide +kernel) (by decide +kernel) ?_
  refine s_icmp_ge (off := 34) (tgt := 43) (by decide +kernel) (by decide) (fun c1 => ?_) (fun c1 => ?_)
  · have h2 := h.1 c1
    refine s_iload_n (i := 3) (by decide +kernel) rfl ?_
    exact s_iret rfl (by decide +kernel) (by decide) (by decide) h2
  · have h3 := h.2 c1
    refine s_iconst (n := 1) (by decide +kernel) ?_
    refine s_iload (i := 4) (by decide +kernel) rfl ?_
    refine s_ishl (by decide +kernel) ?_
    refine s_istore (i := 5) (by decide +kernel) (by decide) ?_
    refine s_iload_n (i := 2) (by decide +kernel) rfl ?_
    refine s_iload (i := 5) (by decide +kernel) rfl ?_
    refine s_iand (by decide +kernel) ?_
    refine s_if_eq (off := 15) (tgt := 37) (by decide +kernel) (by decide) (fun c4 => ?_) (fun c4 => ?_)
    · have h5 := h3.1 c4
      refine s_iinc (i := 4) (n := 1) (by decide +kernel) rfl (by decide) ?_
      refine s_goto (off := -35) (tgt := 5) (by decide +kernel) (by decide) ?_
      exact s_loc (L' := [some (aR 24), some (aI x1), some (aI x2), some (aI x3), some (aI (x4 + 1)), none]) (ll_s (ll_s (ll_s (ll_s (ll_s (ll_n ll_nil)))))) h5
    · have h6 := h3.2 c4
      refine s_iload_n (i := 3) (by decide +kernel) rfl ?_
      refine s_aload_n (i := 0) (by decide +kernel) rfl ?_
      refine s_getR (ci := 2) (k := 3) (index := 21) (r2 := 28) ck2 rfl rfl (by decide) rfl (by decide +kernel) g_55 ?_
      refine s_iload_n (i := 1) (by decide +kernel) rfl ?_
      refine s_iload (i := 5) (by decide +kernel) rfl ?_
      refine s_ior (by decide +kernel) ?_
      obtain ⟨j7, e8, e9, h10⟩ := h6
      refine s_iald (j := j7) rfl e8 e9 (by decide +kernel) ?_
      refine s_iadd (by decide +kernel) ?_
      refine s_istore_n (i := 3) (by decide +kernel) (by decide) ?_
      refine s_iinc (i := 4) (n := 1) (by decide +kernel) rfl (by decide) ?_
      refine s_goto (off := -35) (tgt := 5) (by decide +kernel) (by decide) ?_
      exact s_loc (L' := [some (aR 24), some (aI x1), some (aI x2), some (aI (x3 + (M 28 j7))), some (aI (x4 + 1)), none]) (ll_s (ll_s (ll_s (ll_s (ll_s (ll_n ll_nil)))))) h10

set_option maxRecDepth 20000 in
theorem BT_runnersBehind_0 {K : KX} {Q : Res → AG → AM → Prop} {M : AM} (p1 : Int)
    (h : WM K fT_runnersBehind (EM K fT_runnersBehind 126 Q) 4 [some (aR 24), some (aI p1), some (aI 0), some (aI 0), none] [] GG M 0 0) :
    WM K fT_runnersBehind (EM K fT_runnersBehind 126 Q) 0 [some (aR 24), some (aI p1), none, none, none] [] GG M 0 0 := by
  refine s_iconst (n := 0) (by decide +kernel) ?_
  refine s_istore_n (i := 2) (by decide +kernel) (by decide) ?_
  refine s_iconst (n := 0) (by decide +kernel) ?_
  refine s_istore_n (i := 3) (by decide +kernel) (by decide) ?_
  exact h

set_option maxRecDepth 20000 in
theorem BT_runnersBehind_4 {K : KX} {Q : Res → AG → AM → Prop} {M : AM} (x1 x2 x3 : Int)
    (h : (wr 6 ≤ wr x3 → WM K fT_runnersBehind (EM K fT_runnersBehind 126 Q) 47 [some (aR 24), some (aI x1), some (aI x2), some (aI 0), some (aI 0)] [] GG M 0 0) ∧ (¬ wr 6 ≤ wr x3 → (wr (wia x1 (wsl 1 x3)) = 0 → ∃ j11 : Nat, wr x3 = (j11 : Int) ∧ j11 < 6 ∧ (WM K fT_runnersBehind (EM K fT_runnersBehind 126 Q) 4 [some (aR 24), some (aI x1), some (aI (wio x2 (M 25 j11))), some (aI (x3 + 1)), none] [] GG M 0 0)) ∧ (¬ wr (wia x1 (wsl 1 x3)) = 0 → ∃ j6 : Nat, wr x3 = (j6 : Int) ∧ j6 < 6 ∧ (WM K fT_runnersBehind (EM K fT_runnersBehind 126 Q) 4 [some (aR 24), some (aI x1), some (aI (wio x2 (M 26 j6))), some (aI (x3 + 1)), none] [] GG M 0 0)))) :
    WM K fT_runnersBehind (EM K fT_runnersBehind 126 Q) 4 [some (aR 24), some (aI x1), some (aI x2), some (aI x3), none] [] GG M 0 0 := by
  refine s_iload_n (i := 3) (by decide +kernel) rfl ?_
  refine s_bipush (n := 6) (by decide +kernel) (by decide +kernel) ?_
  refine s_icmp_ge (off := 35) (tgt := 42) (by decide +kernel) (by decide) (fun c1 => ?_) (fun c1 => ?_)
  · have h2 := h.1 c1
    refine s_iconst (n := 0) (by decide +kernel) ?_
    refine s_istore_n (i := 3) (by decide +kernel) (by decide) ?_
    refine s_iconst (n := 0) (by decide +kernel) ?_
    refine s_istore (i := 4) (by decide +kernel) (by decide) ?_
    exact h2
  · have h3 := h.2 c1
    refine s_iload_n (i := 2) (by decide +kernel) rfl ?_
    refine s_iload_n (i := 1) (by decide +kernel) rfl ?_
    refine s_iconst (n := 1) (by decide +kernel) ?_
    refine s_iload_n (i := 3) (by decide +kernel) rfl ?_
    refine s_ishl (by decide +kernel) ?_
    refine s_iand (by decide +kernel) ?_
    refine s_if_ne (off := 12) (tgt := 28) (by decide +kernel) (by decide) (fun c4 => ?_) (fun c4 => ?_)
    · have h5 := h3.2 c4
      refine s_aload_n (i := 0) (by decide +kernel) rfl ?_
      refine s_getR (ci := 2) (k := 1) (index := 15) (r2 := 26) ck2 rfl rfl (by decide) rfl (by decide +kernel) g_53 ?_
      refine s_iload_n (i := 3) (by decide +kernel) rfl ?_
      obtain ⟨j6, e7, e8, h9⟩ := h5
      refine s_iald (j := j6) rfl e7 e8 (by decide +kernel) ?_
      refine s_ior (by decide +kernel) ?_
      refine s_istore_n (i := 2) (by decide +kernel) (by decide) ?_
      refine s_iinc (i := 3) (n := 1) (by decide +kernel) rfl (by decide) ?_
      refine s_goto (off := -35) (tgt := 4) (by decide +kernel) (by decide) ?_
      exact h9
    · have h10 := h3.1 c4
      refine s_aload_n (i := 0) (by decide +kernel) rfl ?_
      refine s_getR (ci := 2) (k := 0) (index := 9) (r2 := 25) ck2 rfl rfl (by decide) rfl (by decide +kernel) g_52 ?_
      refine s_iload_n (i := 3) (by decide +kernel) rfl ?_
      obtain ⟨j11, e12, e13, h14⟩ := h10
      refine s_iald (j := j11) rfl e12 e13 (by decide +kernel) ?_
      refine s_goto (off := 9) (tgt := 34) (by decide +kernel) (by decide) ?_
      refine s_ior (by decide +kernel) ?_
      refine s_istore_n (i := 2) (by decide +kernel) (by decide) ?_
      refine s_iinc (i := 3) (n := 1) (by decide +kernel) rfl (by decide) ?_
      refine s_goto (off := -35) (tgt := 4) (by decide +kernel) (by decide) ?_
      exact h14

set_option maxRecDepth 20000 in
theorem BT_runnersBehind_47 {K : KX} {Q : Res → AG → AM → Prop} {M : AM} (x1 x2 x3 x4 : Int)
    (h : (wr 6 ≤ wr x4 → Q (.inl (some (aI (wia (wia x3 (M 24 4)) (wix x1 ((-1))))))) GG M) ∧ (¬ wr 6 ≤ wr x4 → ∃ j4 : Nat, wr x4 = (j4 : Int) ∧ j4 < 6 ∧ ((wr (wia (M 27 j4) x2) = 0 → WM K fT_runnersBehind (EM K fT_runnersBehind 126 Q) 47 [some (aR 24), some (aI x1), some (aI x2), some (aI (wio x3 (wsl 1 x4))), some (aI (x4 + 1))] [] GG M 0 0) ∧ (¬ wr (wia (M 27 j4) x2) = 0 → WM K fT_runnersBehind (EM K fT_runnersBehind 126 Q) 47 [some (aR 24), some (aI x1), some (aI x2), some (aI x3), some (aI (x4 + 1))] [] GG M 0 0)))) :
    WM K fT_runnersBehind (EM K fT_runnersBehind 126 Q) 47 [some (aR 24), some (aI x1), some (aI x2), some (aI x3), some (aI x4)] [] GG M 0 0 := by
  refine s_iload (i := 4) (by decide +kernel) rfl ?_
  refine s_bipush (n := 6) (by decide +kernel) (by decide +kernel) ?_
  refine s_icmp_ge (off := 28) (tgt := 79) (by decide +kernel) (by decide) (fun c1 => ?_) (fun c1 => ?_)
  · have h2 := h.1 c1
    refine s_iload_n (i := 3) (by decide +kernel) rfl ?_
    refine s_aload_n (i := 0) (by decide +kernel) rfl ?_
    refine s_getI (ci := 2) (k := 4) (index := 24) ck2 rfl (by decide) rfl (by decide +kernel) g_56 ?_
    refine s_iand (by decide +kernel) ?_
    refine s_iload_n (i := 1) (by decide +kernel) rfl ?_
    refine s_iconst (n := -1) (by decide +kernel) ?_
    refine s_ixor (by decide +kernel) ?_
    refine s_iand (by decide +kernel) ?_
    exact s_iret rfl (by decide +kernel) (by decide) (by decide) h2
  · have h3 := h.2 c1
    refine s_aload_n (i := 0) (by decide +kernel) rfl ?_
    refine s_getR (ci := 2) (k := 2) (index := 18) (r2 := 27) ck2 rfl rfl (by decide) rfl (by decide +kernel) g_54 ?_
    refine s_iload (i := 4) (by decide +kernel) rfl ?_
    obtain ⟨j4, e5, e6, h7⟩ := h3
    refine s_iald (j := j4) rfl e5 e6 (by decide +kernel) ?_
    refine s_iload_n (i := 2) (by decide +kernel) rfl ?_
    refine s_iand (by decide +kernel) ?_
    refine s_if_ne (off := 10) (tgt := 73) (by decide +kernel) (by decide) (fun c8 => ?_) (fun c8 => ?_)
    · have h9 := h7.2 c8
      refine s_iinc (i := 4) (n := 1) (by decide +kernel) rfl (by decide) ?_
      refine s_goto (off := -29) (tgt := 47) (by decide +kernel) (by decide) ?_
      exact h9
    · have h10 := h7.1 c8
      refine s_iload_n (i := 3) (by decide +kernel) rfl ?_
      refine s_iconst (n := 1) (by decide +kernel) ?_
      refine s_iload (i := 4) (by decide +kernel) rfl ?_
      refine s_ishl (by decide +kernel) ?_
      refine s_ior (by decide +kernel) ?_
      refine s_istore_n (i := 3) (by decide +kernel) (by decide) ?_
      refine s_iinc (i := 4) (n := 1) (by decide +kernel) rfl (by decide) ?_
      refine s_goto (off := -29) (tgt := 47) (by decide +kernel) (by decide) ?_
      exact h10

set_option maxRecDepth 20000 in
theorem BT_runnerInFirstOrder_0 {K : KX} {Q : Res → AG → AM → Prop} {M : AM} (p1 : Int)
    (h : WM K fT_runnerInFirstOrder (EM K fT_runnerInFirstOrder 126 Q) 7 [some (aR 24), some (aI p1), some (aI 0), some (aI (-1)), some (aI 0)] [] GG M 0 0) :
    WM K fT_runnerInFirstOrder (EM K fT_runnerInFirstOrder 126 Q) 0 [some (aR 24), some (aI p1), none, none, none] [] GG M 0 0 := by
  refine s_iconst (n := 0) (by decide +kernel) ?_
  refine s_istore_n (i := 2) (by decide +kernel) (by decide) ?_
  refine s_iconst (n := -1) (by decide +kernel) ?_
  refine s_istore_n (i := 3) (by decide +kernel) (by decide) ?_
  refine s_iconst (n := 0) (by decide +kernel) ?_
  refine s_istore (i := 4) (by decide +kernel) (by decide) ?_
  exact h

set_option maxRecDepth 20000 in
theorem BT_runnerInFirstOrder_7 {K : KX} {Q : Res → AG → AM → Prop} {M : AM} (x1 x2 x3 x4 : Int)
    (h : (wr x1 < wr x4 → Q (.inl (some (aI x3))) GG M) ∧ (¬ wr x1 < wr x4 → MetA K fT_firstToRun [aR 24, aI x2] GG M (cI GG (fun b5 M4 => (wr b5 = wr ((-1)) → Q (.inl (some (aI (-1)))) GG M4) ∧ (¬ wr b5 = wr ((-1)) → WM K fT_runnerInFirstOrder (EM K fT_runnerInFirstOrder 126 Q) 7 [some (aR 24), some (aI x1), some (aI (wio x2 (wsl 1 b5))), some (aI b5), some (aI (x4 + 1))] [] GG M4 0 0)) noX))) :
    WM K fT_runnerInFirstOrder (EM K fT_runnerInFirstOrder 126 Q) 7 [some (aR 24), some (aI x1), some (aI x2), some (aI x3), some (aI x4)] [] GG M 0 0 := by
  refine s_iload (i := 4) (by decide +kernel) rfl ?_
  refine s_iload_n (i := 1) (by decide +kernel) rfl ?_
  refine s_icmp_gt (off := 28) (tgt := 38) (by decide +kernel) (by decide) (fun c1 => ?_) (fun c1 => ?_)
  · have h2 := h.1 c1
    refine s_iload_n (i := 3) (by decide +kernel) rfl ?_
    exact s_iret rfl (by decide +kernel) (by decide) (by decide) h2
  · have h3 := h.2 c1
    refine s_aload_n (i := 0) (by decide +kernel) rfl ?_
    refine s_iload_n (i := 2) (by decide +kernel) rfl ?_
    refine s_callV (Fc := fT_firstToRun) (index := 36) (ci := 2) (as := [aI x2]) (rest := []) rfl h3 rfl rfl (by decide) rfl ⟨g_550, hT_firstToRun, g_3, by decide, (show (parseMethodDescriptor fT_firstToRun.1.desc).map (fun d => d.parameters.length) = some 1 from by decide +kernel), by decide, by decide, (by decide), (by decide)⟩ g_552 gp_17 rfl rfl (Nat.le_of_ble_eq_true rfl) (by decide +kernel) (q_cI (fun b5 M4 h6 => ?_) (fun _ _ q => q.elim))
    refine s_istore_n (i := 3) (by decide +kernel) (by decide) ?_
    refine s_iload_n (i := 3) (by decide +kernel) rfl ?_
    refine s_iconst (n := -1) (by decide +kernel) ?_
    refine s_icmp_ne (off := 5) (tgt := 26) (by decide +kernel) (by decide) (fun c8 => ?_) (fun c8 => ?_)
    · have h9 := h6.2 c8
      refine s_iload_n (i := 2) (by decide +kernel) rfl ?_
      refine s_iconst (n := 1) (by decide +kernel) ?_
      refine s_iload_n (i := 3) (by decide +kernel) rfl ?_
      refine s_ishl (by decide +kernel) ?_
      refine s_ior (by decide +kernel) ?_
      refine s_istore_n (i := 2) (by decide +kernel) (by decide) ?_
      refine s_iinc (i := 4) (n := 1) (by decide +kernel) rfl (by decide) ?_
      refine s_goto (off := -28) (tgt := 7) (by decide +kernel) (by decide) ?_
      exact h9
    · have h10 := h6.1 c8
      refine s_iconst (n := -1) (by decide +kernel) ?_
      exact s_iret rfl (by decide +kernel) (by decide) (by decide) h10

set_option maxRecDepth 20000 in
theorem BT_firstToRun_0 {K : KX} {Q : Res → AG → AM → Prop} {M : AM} (p1 : Int)
    (h : MetA K fT_runnersBehind [aR 24, aI p1] GG M (cI GG (fun b2 M1 => WM K fT_firstToRun (EM K fT_firstToRun 126 Q) 8 [some (aR 24), some (aI p1), some (aI b2), some (aI 0), none] [] GG M1 0 0) noX)) :
    WM K fT_firstToRun (EM K fT_firstToRun 126 Q) 0 [some (aR 24), some (aI p1), none, none, none] [] GG M 0 0 := by
  refine s_aload_n (i := 0) (by decide +kernel) rfl ?_
  refine s_iload_n (i := 1) (by decide +kernel) rfl ?_
  refine s_callV (Fc := fT_runnersBehind) (index := 28) (ci := 2) (as := [aI p1]) (rest := []) rfl h rfl rfl (by decide) rfl ⟨g_288, hT_runnersBehind, g_3, by decide, (show (parseMethodDescriptor fT_runnersBehind.1.desc).map (fun d => d.parameters.length) = some 1 from by decide +kernel), by decide, by decide, (by decide), (by decide)⟩ g_290 gp_6 rfl rfl (Nat.le_of_ble_eq_true rfl) (by decide +kernel) (q_cI (fun b2 M1 h3 => ?_) (fun _ _ q => q.elim))
  refine s_istore_n (i := 2) (by decide +kernel) (by decide) ?_
  refine s_iconst (n := 0) (by decide +kernel) ?_
  refine s_istore_n (i := 3) (by decide +kernel) (by decide) ?_
  exact h3

set_option maxRecDepth 20000 in
theorem BT_firstToRun_8 {K : KX} {Q : Res → AG → AM → Prop} {M : AM} (x1 x2 x3 : Int)
    (h : (wr 6 ≤ wr x3 → Q (.inl (some (aI (-1)))) GG M) ∧ (¬ wr 6 ≤ wr x3 → (wr (wia x2 (wsl 1 x3)) = 0 → WM K fT_firstToRun (EM K fT_firstToRun 126 Q) 8 [some (aR 24), some (aI x1), some (aI x2), some (aI (x3 + 1)), none] [] GG M 0 0) ∧ (¬ wr (wia x2 (wsl 1 x3)) = 0 → ∃ j7 : Nat, wr (wio x1 (wsl 1 x3)) = (j7 : Int) ∧ j7 < 64 ∧ ((wr (M 28 j7) ≤ 0 → WM K fT_firstToRun (EM K fT_firstToRun 126 Q) 8 [some (aR 24), some (aI x1), some (aI x2), some (aI (x3 + 1)), none] [] GG M 0 0) ∧ (¬ wr (M 28 j7) ≤ 0 → Q (.inl (some (aI x3))) GG M))))) :
    WM K fT_firstToRun (EM K fT_firstToRun 126 Q) 8 [some (aR 24), some (aI x1), some (aI x2), some (aI x3), none] [] GG M 0 0 := by
  refine s_iload_n (i := 3) (by decide +kernel) rfl ?_
  refine s_bipush (n := 6) (by decide +kernel) (by decide +kernel) ?_
  refine s_icmp_ge (off := 35) (tgt := 46) (by decide +kernel) (by decide) (fun c1 => ?_) (fun c1 => ?_)
  · have h2 := h.1 c1
    refine s_iconst (n := -1) (by decide +kernel) ?_
    exact s_iret rfl (by decide +kernel) (by decide) (by decide) h2
  · have h3 := h.2 c1
    refine s_iconst (n := 1) (by decide +kernel) ?_
    refine s_iload_n (i := 3) (by decide +kernel) rfl ?_
    refine s_ishl (by decide +kernel) ?_
    refine s_istore (i := 4) (by decide +kernel) (by decide) ?_
    refine s_iload_n (i := 2) (by decide +kernel) rfl ?_
    refine s_iload (i := 4) (by decide +kernel) rfl ?_
    refine s_iand (by decide +kernel) ?_
    refine s_if_eq (off := 17) (tgt := 40) (by decide +kernel) (by decide) (fun c4 => ?_) (fun c4 => ?_)
    · have h5 := h3.1 c4
      refine s_iinc (i := 3) (n := 1) (by decide +kernel) rfl (by decide) ?_
      refine s_goto (off := -35) (tgt := 8) (by decide +kernel) (by decide) ?_
      exact s_loc (L' := [some (aR 24), some (aI x1), some (aI x2), some (aI (x3 + 1)), none]) (ll_s (ll_s (ll_s (ll_s (ll_n ll_nil))))) h5
    · have h6 := h3.2 c4
      refine s_aload_n (i := 0) (by decide +kernel) rfl ?_
      refine s_getR (ci := 2) (k := 3) (index := 21) (r2 := 28) ck2 rfl rfl (by decide) rfl (by decide +kernel) g_55 ?_
      refine s_iload_n (i := 1) (by decide +kernel) rfl ?_
      refine s_iload (i := 4) (by decide +kernel) rfl ?_
      refine s_ior (by decide +kernel) ?_
      obtain ⟨j7, e8, e9, h10⟩ := h6
      refine s_iald (j := j7) rfl e8 e9 (by decide +kernel) ?_
      refine s_if_le (off := 5) (tgt := 40) (by decide +kernel) (by decide) (fun c11 => ?_) (fun c11 => ?_)
      · have h12 := h10.1 c11
        refine s_iinc (i := 3) (n := 1) (by decide +kernel) rfl (by decide) ?_
        refine s_goto (off := -35) (tgt := 8) (by decide +kernel) (by decide) ?_
        exact s_loc (L' := [some (aR 24), some (aI x1), some (aI x2), some (aI (x3 + 1)), none]) (ll_s (ll_s (ll_s (ll_s (ll_n ll_nil))))) h12
      · have h13 := h10.2 c11
        refine s_iload_n (i := 3) (by decide +kernel) rfl ?_
        exact s_iret rfl (by decide +kernel) (by decide) (by decide) h13

