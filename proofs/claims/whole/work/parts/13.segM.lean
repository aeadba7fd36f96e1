set_option maxRecDepth 20000 in
theorem BM_thrown_0 {K : KX} {Q : Res → AG → AM → Prop} {M : AM} 
    (h : Q (.inl (some (aI (M 63 0)))) GG M) :
    WM K fM_thrown (EM K fM_thrown 80 Q) 0 [some (aR 63)] [] GG M 0 0 := by
  refine s_aload_n (i := 0) (by decide +kernel) rfl ?_
  refine s_getI (ci := 5) (k := 0) (index := 56) ck5 rfl (by decide) rfl (by decide +kernel) g_581 ?_
  exact s_iret rfl (by decide +kernel) (by decide) (by decide) h

set_option maxRecDepth 20000 in
theorem BM_goesWell_0 {K : KX} {Q : Res → AG → AM → Prop} {M : AM} (p1 : Int)
    (h : (wr p1 = 0 → Q (.inl (some (aI 1))) GG (um M 63 0 p1)) ∧ (¬ wr p1 = 0 → Q (.inl (some (aI 0))) GG (um M 63 0 p1))) :
    WM K fM_goesWell (EM K fM_goesWell 80 Q) 0 [some (aR 63), some (aI p1)] [] GG M 0 0 := by
  refine s_aload_n (i := 0) (by decide +kernel) rfl ?_
  refine s_iload_n (i := 1) (by decide +kernel) rfl ?_
  refine s_putI (ci := 5) (k := 0) (index := 56) ck5 rfl (by decide) rfl rfl rfl (by decide +kernel) g_581 ?_
  refine s_iload_n (i := 1) (by decide +kernel) rfl ?_
  refine s_if_ne (off := 7) (tgt := 13) (by decide +kernel) (by decide) (fun c1 => ?_) (fun c1 => ?_)
  · have h2 := h.2 c1
    refine s_iconst (n := 0) (by decide +kernel) ?_
    exact s_zret (Or.inl rfl) rfl (by decide +kernel) (by decide) (by decide) h2
  · have h3 := h.1 c1
    refine s_iconst (n := 1) (by decide +kernel) ?_
    refine s_goto (off := 4) (tgt := 14) (by decide +kernel) (by decide) ?_
    exact s_zret (Or.inr rfl) rfl (by decide +kernel) (by decide) (by decide) h3

set_option maxRecDepth 20000 in
theorem BM_in_0 {K : KX} {Q : Res → AG → AM → Prop} {M : AM} (p1 p2 p3 : Int)
    (h : (wr p1 < wr p2 → Q (.inl (some (aI 0))) GG M) ∧ (¬ wr p1 < wr p2 → (wr p3 < wr p1 → Q (.inl (some (aI 0))) GG M) ∧ (¬ wr p3 < wr p1 → Q (.inl (some (aI 1))) GG M))) :
    WM K fM_in (EM K fM_in 80 Q) 0 [some (aI p1), some (aI p2), some (aI p3)] [] GG M 0 0 := by
  refine s_iload_n (i := 0) (by decide +kernel) rfl ?_
  refine s_iload_n (i := 1) (by decide +kernel) rfl ?_
  refine s_icmp_lt (off := 12) (tgt := 14) (by decide +kernel) (by decide) (fun c1 => ?_) (fun c1 => ?_)
  · have h2 := h.1 c1
    refine s_iconst (n := 0) (by decide +kernel) ?_
    exact s_zret (Or.inl rfl) rfl (by decide +kernel) (by decide) (by decide) h2
  · have h3 := h.2 c1
    refine s_iload_n (i := 0) (by decide +kernel) rfl ?_
    refine s_iload_n (i := 2) (by decide +kernel) rfl ?_
    refine s_icmp_gt (off := 7) (tgt := 14) (by decide +kernel) (by decide) (fun c4 => ?_) (fun c4 => ?_)
    · have h5 := h3.1 c4
      refine s_iconst (n := 0) (by decide +kernel) ?_
      exact s_zret (Or.inl rfl) rfl (by decide +kernel) (by decide) (by decide) h5
    · have h6 := h3.2 c4
      refine s_iconst (n := 1) (by decide +kernel) ?_
      refine s_goto (off := 4) (tgt := 15) (by decide +kernel) (by decide) ?_
      exact s_zret (Or.inr rfl) rfl (by decide +kernel) (by decide) (by decide) h6

set_option maxRecDepth 20000 in
theorem BM_isZone_0 {K : KX} {Q : Res → AG → AM → Prop} {M : AM} (p1 : Int)
    (h : MetA K fM_in [aI p1, aI 0, aI 19] GG M (cI GG (fun b2 M1 => ((b2 : Int) = 0 ∨ (b2 : Int) = 1) ∧ Q (.inl (some (aI b2))) GG M1) noX)) :
    WM K fM_isZone (EM K fM_isZone 80 Q) 0 [some (aI p1)] [] GG M 0 0 := by
  refine s_iload_n (i := 0) (by decide +kernel) rfl ?_
  refine s_iconst (n := 0) (by decide +kernel) ?_
  refine s_bipush (n := 19) (by decide +kernel) (by decide +kernel) ?_
  refine s_callS (Fc := fM_in) (index := 60) (as := [aI p1, aI 0, aI 19]) (rest := []) rfl h ⟨g_650, hM_in, g_6, by decide, (show (parseMethodDescriptor fM_in.1.desc).map (fun d => d.parameters.length) = some 3 from by decide +kernel), by decide, by decide, by decide, by decide⟩ g_651 rfl rfl (Nat.le_of_ble_eq_true rfl) (by decide +kernel) (q_cI (fun b2 M1 h3 => ?_) (fun _ _ q => q.elim))
  exact s_zret h3.1 rfl (by decide +kernel) (by decide) (by decide) h3.2

set_option maxRecDepth 20000 in
theorem BM_isVehicle_0 {K : KX} {Q : Res → AG → AM → Prop} {M : AM} (p1 : Int)
    (h : MetA K fM_in [aI p1, aI 0, aI ((M 63 5) - 1)] GG M (cI GG (fun b2 M1 => ((b2 : Int) = 0 ∨ (b2 : Int) = 1) ∧ Q (.inl (some (aI b2))) GG M1) noX)) :
    WM K fM_isVehicle (EM K fM_isVehicle 80 Q) 0 [some (aR 63), some (aI p1)] [] GG M 0 0 := by
  refine s_iload_n (i := 1) (by decide +kernel) rfl ?_
  refine s_iconst (n := 0) (by decide +kernel) ?_
  refine s_aload_n (i := 0) (by decide +kernel) rfl ?_
  refine s_getI (ci := 5) (k := 5) (index := 64) ck5 rfl (by decide) rfl (by decide +kernel) g_586 ?_
  refine s_iconst (n := 1) (by decide +kernel) ?_
  refine s_isub (by decide +kernel) ?_
  refine s_callS (Fc := fM_in) (index := 60) (as := [aI p1, aI 0, aI ((M 63 5) - 1)]) (rest := []) rfl h ⟨g_650, hM_in, g_6, by decide, (show (parseMethodDescriptor fM_in.1.desc).map (fun d => d.parameters.length) = some 3 from by decide +kernel), by decide, by decide, by decide, by decide⟩ g_651 rfl rfl (Nat.le_of_ble_eq_true rfl) (by decide +kernel) (q_cI (fun b2 M1 h3 => ?_) (fun _ _ q => q.elim))
  exact s_zret h3.1 rfl (by decide +kernel) (by decide) (by decide) h3.2

set_option maxRecDepth 20000 in
theorem BM_isJob_0 {K : KX} {Q : Res → AG → AM → Prop} {M : AM} (p1 : Int)
    (h : MetA K fM_in [aI p1, aI 0, aI ((M 63 12) - 1)] GG M (cI GG (fun b2 M1 => ((b2 : Int) = 0 ∨ (b2 : Int) = 1) ∧ Q (.inl (some (aI b2))) GG M1) noX)) :
    WM K fM_isJob (EM K fM_isJob 80 Q) 0 [some (aR 63), some (aI p1)] [] GG M 0 0 := by
  refine s_iload_n (i := 1) (by decide +kernel) rfl ?_
  refine s_iconst (n := 0) (by decide +kernel) ?_
  refine s_aload_n (i := 0) (by decide +kernel) rfl ?_
  refine s_getI (ci := 5) (k := 12) (index := 67) ck5 rfl (by decide) rfl (by decide +kernel) g_593 ?_
  refine s_iconst (n := 1) (by decide +kernel) ?_
  refine s_isub (by decide +kernel) ?_
  refine s_callS (Fc := fM_in) (index := 60) (as := [aI p1, aI 0, aI ((M 63 12) - 1)]) (rest := []) rfl h ⟨g_650, hM_in, g_6, by decide, (show (parseMethodDescriptor fM_in.1.desc).map (fun d => d.parameters.length) = some 3 from by decide +kernel), by decide, by decide, by decide, by decide⟩ g_651 rfl rfl (Nat.le_of_ble_eq_true rfl) (by decide +kernel) (q_cI (fun b2 M1 h3 => ?_) (fun _ _ q => q.elim))
  exact s_zret h3.1 rfl (by decide +kernel) (by decide) (by decide) h3.2

set_option maxRecDepth 20000 in
theorem BM_addLane_0 {K : KX} {Q : Res → AG → AM → Prop} {M : AM} (p1 p2 : Int)
    (h : MetA K fM_isZone [aI p1] GG M (cI GG (fun b2 M1 => (wr b2 = 0 → WM K fM_addLane (EM K fM_addLane 80 Q) 23 [some (aR 63), some (aI p1), some (aI p2), none] [] GG M1 0 0) ∧ (¬ wr b2 = 0 → MetA K fM_isZone [aI p2] GG M1 (cI GG (fun b9 M8 => (wr b9 = 0 → WM K fM_addLane (EM K fM_addLane 80 Q) 23 [some (aR 63), some (aI p1), some (aI p2), none] [] GG M8 0 0) ∧ (¬ wr b9 = 0 → (wr p1 = wr p2 → WM K fM_addLane (EM K fM_addLane 80 Q) 23 [some (aR 63), some (aI p1), some (aI p2), none] [] GG M8 0 0) ∧ (¬ wr p1 = wr p2 → WM K fM_addLane (EM K fM_addLane 80 Q) 24 [some (aR 63), some (aI p1), some (aI p2), none] [aI 1] GG M8 0 0))) noX))) noX)) :
    WM K fM_addLane (EM K fM_addLane 80 Q) 0 [some (aR 63), some (aI p1), some (aI p2), none] [] GG M 0 0 := by
  refine s_iload_n (i := 1) (by decide +kernel) rfl ?_
  refine s_callS (Fc := fM_isZone) (index := 70) (as := [aI p1]) (rest := []) rfl h ⟨g_647, hM_isZone, g_6, by decide, (show (parseMethodDescriptor fM_isZone.1.desc).map (fun d => d.parameters.length) = some 1 from by decide +kernel), by decide, by decide, by decide, by decide⟩ g_648 rfl rfl (Nat.le_of_ble_eq_true rfl) (by decide +kernel) (q_cI (fun b2 M1 h3 => ?_) (fun _ _ q => q.elim))
  refine s_if_eq (off := 19) (tgt := 23) (by decide +kernel) (by decide) (fun c5 => ?_) (fun c5 => ?_)
  · have h6 := h3.1 c5
    exact h6
  · have h7 := h3.2 c5
    refine s_iload_n (i := 2) (by decide +kernel) rfl ?_
    refine s_callS (Fc := fM_isZone) (index := 70) (as := [aI p2]) (rest := []) rfl h7 ⟨g_647, hM_isZone, g_6, by decide, (show (parseMethodDescriptor fM_isZone.1.desc).map (fun d => d.parameters.length) = some 1 from by decide +kernel), by decide, by decide, by decide, by decide⟩ g_648 rfl rfl (Nat.le_of_ble_eq_true rfl) (by decide +kernel) (q_cI (fun b9 M8 h10 => ?_) (fun _ _ q => q.elim))
    refine s_if_eq (off := 12) (tgt := 23) (by decide +kernel) (by decide) (fun c12 => ?_) (fun c12 => ?_)
    · have h13 := h10.1 c12
      exact h13
    · have h14 := h10.2 c12
      refine s_iload_n (i := 1) (by decide +kernel) rfl ?_
      refine s_iload_n (i := 2) (by decide +kernel) rfl ?_
      refine s_icmp_eq (off := 7) (tgt := 23) (by decide +kernel) (by decide) (fun c15 => ?_) (fun c15 => ?_)
      · have h16 := h14.1 c15
        exact h16
      · have h17 := h14.2 c15
        refine s_iconst (n := 1) (by decide +kernel) ?_
        refine s_goto (off := 4) (tgt := 24) (by decide +kernel) (by decide) ?_
        exact h17

set_option maxRecDepth 20000 in
theorem BM_addLane_23 {K : KX} {Q : Res → AG → AM → Prop} {M : AM} (x1 x2 : Int)
    (h : WM K fM_addLane (EM K fM_addLane 80 Q) 24 [some (aR 63), some (aI x1), some (aI x2), none] [aI 0] GG M 0 0) :
    WM K fM_addLane (EM K fM_addLane 80 Q) 23 [some (aR 63), some (aI x1), some (aI x2), none] [] GG M 0 0 := by
  refine s_iconst (n := 0) (by decide +kernel) ?_
  exact h

set_option maxRecDepth 20000 in
theorem BM_addLane_24 {K : KX} {Q : Res → AG → AM → Prop} {M : AM} (x1 x2 y0 : Int)
    (h : (wr y0 = 0 → WM K fM_addLane (EM K fM_addLane 80 Q) 53 [some (aR 63), some (aI x1), some (aI x2), some (aI y0)] [aI 1, aR 63] GG M 0 0) ∧ (¬ wr y0 = 0 → ∃ j3 : Nat, wr ((20 * x1) + x2) = (j3 : Int) ∧ j3 < 400 ∧ ((wr (M 64 j3) = 0 → WM K fM_addLane (EM K fM_addLane 80 Q) 53 [some (aR 63), some (aI x1), some (aI x2), some (aI y0)] [aI 0, aR 63] GG M 0 0) ∧ (¬ wr (M 64 j3) = 0 → WM K fM_addLane (EM K fM_addLane 80 Q) 53 [some (aR 63), some (aI x1), some (aI x2), some (aI y0)] [aI 2, aR 63] GG M 0 0)))) :
    WM K fM_addLane (EM K fM_addLane 80 Q) 24 [some (aR 63), some (aI x1), some (aI x2), none] [aI y0] GG M 0 0 := by
  refine s_istore_n (i := 3) (by decide +kernel) (by decide) ?_
  refine s_aload_n (i := 0) (by decide +kernel) rfl ?_
  refine s_iload_n (i := 3) (by decide +kernel) rfl ?_
  refine s_if_ne (off := 7) (tgt := 34) (by decide +kernel) (by decide) (fun c1 => ?_) (fun c1 => ?_)
  · have h2 := h.2 c1
    refine s_aload_n (i := 0) (by decide +kernel) rfl ?_
    refine s_getR (ci := 5) (k := 1) (index := 7) (r2 := 64) ck5 rfl rfl (by decide) rfl (by decide +kernel) g_582 ?_
    refine s_bipush (n := 20) (by decide +kernel) (by decide +kernel) ?_
    refine s_iload_n (i := 1) (by decide +kernel) rfl ?_
    refine s_imul (by decide +kernel) ?_
    refine s_iload_n (i := 2) (by decide +kernel) rfl ?_
    refine s_iadd (by decide +kernel) ?_
    obtain ⟨j3, e4, e5, h6⟩ := h2
    refine s_zald (j := j3) rfl e4 e5 (by decide +kernel) ?_
    refine s_if_eq (off := 7) (tgt := 52) (by decide +kernel) (by decide) (fun c7 => ?_) (fun c7 => ?_)
    · have h8 := h6.1 c7
      refine s_iconst (n := 0) (by decide +kernel) ?_
      exact h8
    · have h9 := h6.2 c7
      refine s_iconst (n := 2) (by decide +kernel) ?_
      refine s_goto (off := 4) (tgt := 53) (by decide +kernel) (by decide) ?_
      exact h9
  · have h10 := h.1 c1
    refine s_iconst (n := 1) (by decide +kernel) ?_
    refine s_goto (off := 22) (tgt := 53) (by decide +kernel) (by decide) ?_
    exact h10

set_option maxRecDepth 20000 in
theorem BM_addLane_53 {K : KX} {Q : Res → AG → AM → Prop} {M : AM} (x1 x2 x3 y0 : Int)
    (h : MetA K fM_goesWell [aR 63, aI y0] GG M (cI GG (fun b2 M1 => (wr b2 = 0 → Q (.inl (some (aI 0))) GG M1) ∧ (¬ wr b2 = 0 → ∃ j7 : Nat, wr ((20 * x1) + x2) = (j7 : Int) ∧ j7 < 400 ∧ ((1 : Int) = 0 ∨ (1 : Int) = 1) ∧ (∃ j12 : Nat, wr ((20 * x2) + x1) = (j12 : Int) ∧ j12 < 400 ∧ ((1 : Int) = 0 ∨ (1 : Int) = 1) ∧ (Q (.inl (some (aI ((um (um (um M1 64 j7 1) 64 j12 1) 63 2 (((um (um M1 64 j7 1) 64 j12 1) 63 2) + 1)) 63 2)))) GG (um (um (um M1 64 j7 1) 64 j12 1) 63 2 (((um (um M1 64 j7 1) 64 j12 1) 63 2) + 1)))))) noX)) :
    WM K fM_addLane (EM K fM_addLane 80 Q) 53 [some (aR 63), some (aI x1), some (aI x2), some (aI x3)] [aI y0, aR 63] GG M 0 0 := by
  refine s_callV (Fc := fM_goesWell) (index := 74) (ci := 5) (as := [aI y0]) (rest := []) rfl h rfl rfl (by decide) rfl ⟨g_653, hM_goesWell, g_6, by decide, (show (parseMethodDescriptor fM_goesWell.1.desc).map (fun d => d.parameters.length) = some 1 from by decide +kernel), by decide, by decide, by decide, by decide⟩ g_655 gp_18 rfl rfl (Nat.le_of_ble_eq_true rfl) (by decide +kernel) (q_cI (fun b2 M1 h3 => ?_) (fun _ _ q => q.elim))
  refine s_if_ne (off := 5) (tgt := 61) (by decide +kernel) (by decide) (fun c5 => ?_) (fun c5 => ?_)
  · have h6 := h3.2 c5
    refine s_aload_n (i := 0) (by decide +kernel) rfl ?_
    refine s_getR (ci := 5) (k := 1) (index := 7) (r2 := 64) ck5 rfl rfl (by decide) rfl (by decide +kernel) g_582 ?_
    refine s_bipush (n := 20) (by decide +kernel) (by decide +kernel) ?_
    refine s_iload_n (i := 1) (by decide +kernel) rfl ?_
    refine s_imul (by decide +kernel) ?_
    refine s_iload_n (i := 2) (by decide +kernel) rfl ?_
    refine s_iadd (by decide +kernel) ?_
    refine s_iconst (n := 1) (by decide +kernel) ?_
    obtain ⟨j7, e8, e9, e11, h10⟩ := h6
    refine s_zast (j := j7) rfl e8 e9 e11 (by decide +kernel) ?_
    refine s_aload_n (i := 0) (by decide +kernel) rfl ?_
    refine s_getR (ci := 5) (k := 1) (index := 7) (r2 := 64) ck5 rfl rfl (by decide) rfl (by decide +kernel) g_582 ?_
    refine s_bipush (n := 20) (by decide +kernel) (by decide +kernel) ?_
    refine s_iload_n (i := 2) (by decide +kernel) rfl ?_
    refine s_imul (by decide +kernel) ?_
    refine s_iload_n (i := 1) (by decide +kernel) rfl ?_
    refine s_iadd (by decide +kernel) ?_
    refine s_iconst (n := 1) (by decide +kernel) ?_
    obtain ⟨j12, e13, e14, e16, h15⟩ := h10
    refine s_zast (j := j12) rfl e13 e14 e16 (by decide +kernel) ?_
    refine s_aload_n (i := 0) (by decide +kernel) rfl ?_
    refine s_dupR (by decide +kernel) ?_
    refine s_getI (ci := 5) (k := 2) (index := 77) ck5 rfl (by decide) rfl (by decide +kernel) g_583 ?_
    refine s_iconst (n := 1) (by decide +kernel) ?_
    refine s_iadd (by decide +kernel) ?_
    refine s_putI (ci := 5) (k := 2) (index := 77) ck5 rfl (by decide) rfl rfl rfl (by decide +kernel) g_583 ?_
    refine s_aload_n (i := 0) (by decide +kernel) rfl ?_
    refine s_getI (ci := 5) (k := 2) (index := 77) ck5 rfl (by decide) rfl (by decide +kernel) g_583 ?_
    exact s_iret rfl (by decide +kernel) (by decide) (by decide) h15
  · have h17 := h3.1 c5
    refine s_iconst (n := 0) (by decide +kernel) ?_
    exact s_iret rfl (by decide +kernel) (by decide) (by decide) h17

set_option maxRecDepth 20000 in
theorem BM_setCharger_0 {K : KX} {Q : Res → AG → AM → Prop} {M : AM} (p1 p2 : Int)
    (h : MetA K fM_isZone [aI p1] GG M (cI GG (fun b2 M1 => (wr b2 = 0 → MetA K fM_goesWell [aR 63, aI 1] GG M1 (cI GG (fun b8 M7 => (wr b8 = 0 → Q (.inl (some (aI 0))) GG M7) ∧ (¬ wr b8 = 0 → ∃ j13 : Nat, wr p1 = (j13 : Int) ∧ j13 < 20 ∧ (∃ j17 : Nat, wr p1 = (j17 : Int) ∧ j17 < 20 ∧ ((p2 : Int) = 0 ∨ (p2 : Int) = 1) ∧ (((M7 65 j13 : Int) = 0 ∨ (M7 65 j13 : Int) = 1) ∧ Q (.inl (some (aI (M7 65 j13)))) GG (um M7 65 j17 p2))))) noX)) ∧ (¬ wr b2 = 0 → MetA K fM_goesWell [aR 63, aI 0] GG M1 (cI GG (fun b25 M24 => (wr b25 = 0 → Q (.inl (some (aI 0))) GG M24) ∧ (¬ wr b25 = 0 → ∃ j30 : Nat, wr p1 = (j30 : Int) ∧ j30 < 20 ∧ (∃ j34 : Nat, wr p1 = (j34 : Int) ∧ j34 < 20 ∧ ((p2 : Int) = 0 ∨ (p2 : Int) = 1) ∧ (((M24 65 j30 : Int) = 0 ∨ (M24 65 j30 : Int) = 1) ∧ Q (.inl (some (aI (M24 65 j30)))) GG (um M24 65 j34 p2))))) noX))) noX)) :
    WM K fM_setCharger (EM K fM_setCharger 80 Q) 0 [some (aR 63), some (aI p1), some (aI p2), none] [] GG M 0 0 := by
  refine s_aload_n (i := 0) (by decide +kernel) rfl ?_
  refine s_iload_n (i := 1) (by decide +kernel) rfl ?_
  refine s_callS (Fc := fM_isZone) (index := 70) (as := [aI p1]) (rest := [aR 63]) rfl h ⟨g_647, hM_isZone, g_6, by decide, (show (parseMethodDescriptor fM_isZone.1.desc).map (fun d => d.parameters.length) = some 1 from by decide +kernel), by decide, by decide, by decide, by decide⟩ g_648 rfl rfl (Nat.le_of_ble_eq_true rfl) (by decide +kernel) (q_cI (fun b2 M1 h3 => ?_) (fun _ _ q => q.elim))
  refine s_if_eq (off := 7) (tgt := 12) (by decide +kernel) (by decide) (fun c5 => ?_) (fun c5 => ?_)
  · have h6 := h3.1 c5
    refine s_iconst (n := 1) (by decide +kernel) ?_
    refine s_callV (Fc := fM_goesWell) (index := 74) (ci := 5) (as := [aI 1]) (rest := []) rfl h6 rfl rfl (by decide) rfl ⟨g_653, hM_goesWell, g_6, by decide, (show (parseMethodDescriptor fM_goesWell.1.desc).map (fun d => d.parameters.length) = some 1 from by decide +kernel), by decide, by decide, by decide, by decide⟩ g_655 gp_18 rfl rfl (Nat.le_of_ble_eq_true rfl) (by decide +kernel) (q_cI (fun b8 M7 h9 => ?_) (fun _ _ q => q.elim))
    refine s_if_ne (off := 5) (tgt := 21) (by decide +kernel) (by decide) (fun c11 => ?_) (fun c11 => ?_)
    · have h12 := h9.2 c11
      refine s_aload_n (i := 0) (by decide +kernel) rfl ?_
      refine s_getR (ci := 5) (k := 3) (index := 13) (r2 := 65) ck5 rfl rfl (by decide) rfl (by decide +kernel) g_584 ?_
      refine s_iload_n (i := 1) (by decide +kernel) rfl ?_
      obtain ⟨j13, e14, e15, h16⟩ := h12
      refine s_zald (j := j13) rfl e14 e15 (by decide +kernel) ?_
      refine s_istore_n (i := 3) (by decide +kernel) (by decide) ?_
      refine s_aload_n (i := 0) (by decide +kernel) rfl ?_
      refine s_getR (ci := 5) (k := 3) (index := 13) (r2 := 65) ck5 rfl rfl (by decide) rfl (by decide +kernel) g_584 ?_
      refine s_iload_n (i := 1) (by decide +kernel) rfl ?_
      refine s_iload_n (i := 2) (by decide +kernel) rfl ?_
      obtain ⟨j17, e18, e19, e21, h20⟩ := h16
      refine s_zast (j := j17) rfl e18 e19 e21 (by decide +kernel) ?_
      refine s_iload_n (i := 3) (by decide +kernel) rfl ?_
      exact s_zret h20.1 rfl (by decide +kernel) (by decide) (by decide) h20.2
    · have h22 := h9.1 c11
      refine s_iconst (n := 0) (by decide +kernel) ?_
      exact s_zret (Or.inl rfl) rfl (by decide +kernel) (by decide) (by decide) h22
  · have h23 := h3.2 c5
    refine s_iconst (n := 0) (by decide +kernel) ?_
    refine s_goto (off := 4) (tgt := 13) (by decide +kernel) (by decide) ?_
    refine s_callV (Fc := fM_goesWell) (index := 74) (ci := 5) (as := [aI 0]) (rest := []) rfl h23 rfl rfl (by decide) rfl ⟨g_653, hM_goesWell, g_6, by decide, (show (parseMethodDescriptor fM_goesWell.1.desc).map (fun d => d.parameters.length) = some 1 from by decide +kernel), by decide, by decide, by decide, by decide⟩ g_655 gp_18 rfl rfl (Nat.le_of_ble_eq_true rfl) (by decide +kernel) (q_cI (fun b25 M24 h26 => ?_) (fun _ _ q => q.elim))
    refine s_if_ne (off := 5) (tgt := 21) (by decide +kernel) (by decide) (fun c28 => ?_) (fun c28 => ?_)
    · have h29 := h26.2 c28
      refine s_aload_n (i := 0) (by decide +kernel) rfl ?_
      refine s_getR (ci := 5) (k := 3) (index := 13) (r2 := 65) ck5 rfl rfl (by decide) rfl (by decide +kernel) g_584 ?_
      refine s_iload_n (i := 1) (by decide +kernel) rfl ?_
      obtain ⟨j30, e31, e32, h33⟩ := h29
      refine s_zald (j := j30) rfl e31 e32 (by decide +kernel) ?_
      refine s_istore_n (i := 3) (by decide +kernel) (by decide) ?_
      refine s_aload_n (i := 0) (by decide +kernel) rfl ?_
      refine s_getR (ci := 5) (k := 3) (index := 13) (r2 := 65) ck5 rfl rfl (by decide) rfl (by decide +kernel) g_584 ?_
      refine s_iload_n (i := 1) (by decide +kernel) rfl ?_
      refine s_iload_n (i := 2) (by decide +kernel) rfl ?_
      obtain ⟨j34, e35, e36, e38, h37⟩ := h33
      refine s_zast (j := j34) rfl e35 e36 e38 (by decide +kernel) ?_
      refine s_iload_n (i := 3) (by decide +kernel) rfl ?_
      exact s_zret h37.1 rfl (by decide +kernel) (by decide) (by decide) h37.2
    · have h39 := h26.1 c28
      refine s_iconst (n := 0) (by decide +kernel) ?_
      exact s_zret (Or.inl rfl) rfl (by decide +kernel) (by decide) (by decide) h39

set_option maxRecDepth 20000 in
theorem BM_measure_0 {K : KX} {Q : Res → AG → AM → Prop} {M : AM} (p1 : Int)
    (h : WM K fM_measure (EM K fM_measure 80 Q) 2 [some (aR 63), some (aI p1), some (aI 0), none] [] GG M 0 0) :
    WM K fM_measure (EM K fM_measure 80 Q) 0 [some (aR 63), some (aI p1), none, none] [] GG M 0 0 := by
  refine s_iconst (n := 0) (by decide +kernel) ?_
  refine s_istore_n (i := 2) (by decide +kernel) (by decide) ?_
  exact h

set_option maxRecDepth 20000 in
theorem BM_measure_2 {K : KX} {Q : Res → AG → AM → Prop} {M : AM} (x1 x2 : Int)
    (h : (wr 20 ≤ wr x2 → WM K fM_measure (EM K fM_measure 80 Q) 32 [some (aR 63), some (aI x1), some (aI 0), none] [] GG M 0 0) ∧ (¬ wr 20 ≤ wr x2 → (wr x2 = wr x1 → ∃ j11 : Nat, wr x2 = (j11 : Int) ∧ j11 < 20 ∧ (WM K fM_measure (EM K fM_measure 80 Q) 2 [some (aR 63), some (aI x1), some (aI (x2 + 1)), none] [] GG (um M 66 j11 0) 0 0)) ∧ (¬ wr x2 = wr x1 → ∃ j6 : Nat, wr x2 = (j6 : Int) ∧ j6 < 20 ∧ (WM K fM_measure (EM K fM_measure 80 Q) 2 [some (aR 63), some (aI x1), some (aI (x2 + 1)), none] [] GG (um M 66 j6 ((-1))) 0 0)))) :
    WM K fM_measure (EM K fM_measure 80 Q) 2 [some (aR 63), some (aI x1), some (aI x2), none] [] GG M 0 0 := by
  refine s_iload_n (i := 2) (by decide +kernel) rfl ?_
  refine s_bipush (n := 20) (by decide +kernel) (by decide +kernel) ?_
  refine s_icmp_ge (off := 25) (tgt := 30) (by decide +kernel) (by decide) (fun c1 => ?_) (fun c1 => ?_)
  · have h2 := h.1 c1
    refine s_iconst (n := 0) (by decide +kernel) ?_
    refine s_istore_n (i := 2) (by decide +kernel) (by decide) ?_
    exact h2
  · have h3 := h.2 c1
    refine s_aload_n (i := 0) (by decide +kernel) rfl ?_
    refine s_getR (ci := 5) (k := 4) (index := 16) (r2 := 66) ck5 rfl rfl (by decide) rfl (by decide +kernel) g_585 ?_
    refine s_iload_n (i := 2) (by decide +kernel) rfl ?_
    refine s_iload_n (i := 2) (by decide +kernel) rfl ?_
    refine s_iload_n (i := 1) (by decide +kernel) rfl ?_
    refine s_icmp_ne (off := 7) (tgt := 22) (by decide +kernel) (by decide) (fun c4 => ?_) (fun c4 => ?_)
    · have h5 := h3.2 c4
      refine s_iconst (n := -1) (by decide +kernel) ?_
      obtain ⟨j6, e7, e8, h9⟩ := h5
      refine s_iast (j := j6) rfl e7 e8 (by decide +kernel) ?_
      refine s_iinc (i := 2) (n := 1) (by decide +kernel) rfl (by decide) ?_
      refine s_goto (off := -25) (tgt := 2) (by decide +kernel) (by decide) ?_
      exact h9
    · have h10 := h3.1 c4
      refine s_iconst (n := 0) (by decide +kernel) ?_
      refine s_goto (off := 4) (tgt := 23) (by decide +kernel) (by decide) ?_
      obtain ⟨j11, e12, e13, h14⟩ := h10
      refine s_iast (j := j11) rfl e12 e13 (by decide +kernel) ?_
      refine s_iinc (i := 2) (n := 1) (by decide +kernel) rfl (by decide) ?_
      refine s_goto (off := -25) (tgt := 2) (by decide +kernel) (by decide) ?_
      exact h14

set_option maxRecDepth 20000 in
theorem BM_measure_32 {K : KX} {Q : Res → AG → AM → Prop} {M : AM} (x1 x2 : Int)
    (h : (wr 20 ≤ wr x2 → Q (.inl none) GG M) ∧ (¬ wr 20 ≤ wr x2 → WM K fM_measure (EM K fM_measure 80 Q) 40 [some (aR 63), some (aI x1), some (aI x2), some (aI 0)] [] GG M 0 0)) :
    WM K fM_measure (EM K fM_measure 80 Q) 32 [some (aR 63), some (aI x1), some (aI x2), none] [] GG M 0 0 := by
  refine s_iload_n (i := 2) (by decide +kernel) rfl ?_
  refine s_bipush (n := 20) (by decide +kernel) (by decide +kernel) ?_
  refine s_icmp_ge (off := 71) (tgt := 106) (by decide +kernel) (by decide) (fun c1 => ?_) (fun c1 => ?_)
  · have h2 := h.1 c1
    exact s_vret rfl (by decide +kernel) (by decide) (by decide) h2
  · have h3 := h.2 c1
    refine s_iconst (n := 0) (by decide +kernel) ?_
    refine s_istore_n (i := 3) (by decide +kernel) (by decide) ?_
    exact h3

set_option maxRecDepth 20000 in
theorem BM_measure_40 {K : KX} {Q : Res → AG → AM → Prop} {M : AM} (x1 x2 x3 : Int)
    (h : (wr 400 ≤ wr x3 → WM K fM_measure (EM K fM_measure 80 Q) 32 [some (aR 63), some (aI x1), some (aI (x2 + 1)), none] [] GG M 0 0) ∧ (¬ wr 400 ≤ wr x3 → ∃ j4 : Nat, wr x3 = (j4 : Int) ∧ j4 < 400 ∧ ((wr (M 64 j4) = 0 → WM K fM_measure (EM K fM_measure 80 Q) 40 [some (aR 63), some (aI x1), some (aI x2), some (aI (x3 + 1))] [] GG M 0 0) ∧ (¬ wr (M 64 j4) = 0 → (¬ wr 20 = 0) ∧ (∃ j12 : Nat, wr (wdv x3 20) = (j12 : Int) ∧ j12 < 20 ∧ ((wr (M 66 j12) = wr x2 → (¬ wr 20 = 0) ∧ (∃ j20 : Nat, wr (x3 - (wdv x3 20) * 20) = (j20 : Int) ∧ j20 < 20 ∧ ((wr (M 66 j20) = wr ((-1)) → (¬ wr 20 = 0) ∧ (∃ j28 : Nat, wr (x3 - (wdv x3 20) * 20) = (j28 : Int) ∧ j28 < 20 ∧ (WM K fM_measure (EM K fM_measure 80 Q) 40 [some (aR 63), some (aI x1), some (aI x2), some (aI (x3 + 1))] [] GG (um M 66 j28 (x2 + 1)) 0 0))) ∧ (¬ wr (M 66 j20) = wr ((-1)) → WM K fM_measure (EM K fM_measure 80 Q) 40 [some (aR 63), some (aI x1), some (aI x2), some (aI (x3 + 1))] [] GG M 0 0)))) ∧ (¬ wr (M 66 j12) = wr x2 → WM K fM_measure (EM K fM_measure 80 Q) 40 [some (aR 63), some (aI x1), some (aI x2), some (aI (x3 + 1))] [] GG M 0 0))))))) :
    WM K fM_measure (EM K fM_measure 80 Q) 40 [some (aR 63), some (aI x1), some (aI x2), some (aI x3)] [] GG M 0 0 := by
  refine s_iload_n (i := 3) (by decide +kernel) rfl ?_
  refine s_sipush (n := 400) (by decide +kernel) (by decide +kernel) ?_
  refine s_icmp_ge (off := 56) (tgt := 100) (by decide +kernel) (by decide) (fun c1 => ?_) (fun c1 => ?_)
  · have h2 := h.1 c1
    refine s_iinc (i := 2) (n := 1) (by decide +kernel) rfl (by decide) ?_
    refine s_goto (off := -71) (tgt := 32) (by decide +kernel) (by decide) ?_
    exact s_loc (L' := [some (aR 63), some (aI x1), some (aI (x2 + 1)), none]) (ll_s (ll_s (ll_s (ll_n ll_nil)))) h2
  · have h3 := h.2 c1
    refine s_aload_n (i := 0) (by decide +kernel) rfl ?_
    refine s_getR (ci := 5) (k := 1) (index := 7) (r2 := 64) ck5 rfl rfl (by decide) rfl (by decide +kernel) g_582 ?_
    refine s_iload_n (i := 3) (by decide +kernel) rfl ?_
    obtain ⟨j4, e5, e6, h7⟩ := h3
    refine s_zald (j := j4) rfl e5 e6 (by decide +kernel) ?_
    refine s_if_eq (off := 41) (tgt := 94) (by decide +kernel) (by decide) (fun c8 => ?_) (fun c8 => ?_)
    · have h9 := h7.1 c8
      refine s_iinc (i := 3) (n := 1) (by decide +kernel) rfl (by decide) ?_
      refine s_goto (off := -57) (tgt := 40) (by decide +kernel) (by decide) ?_
      exact h9
    · have h10 := h7.2 c8
      refine s_aload_n (i := 0) (by decide +kernel) rfl ?_
      refine s_getR (ci := 5) (k := 4) (index := 16) (r2 := 66) ck5 rfl rfl (by decide) rfl (by decide +kernel) g_585 ?_
      refine s_iload_n (i := 3) (by decide +kernel) rfl ?_
      refine s_bipush (n := 20) (by decide +kernel) (by decide +kernel) ?_
      refine s_idiv (by decide +kernel) h10.1 ?_
      have h11 := h10.2
      obtain ⟨j12, e13, e14, h15⟩ := h11
      refine s_iald (j := j12) rfl e13 e14 (by decide +kernel) ?_
      refine s_iload_n (i := 2) (by decide +kernel) rfl ?_
      refine s_icmp_ne (off := 28) (tgt := 94) (by decide +kernel) (by decide) (fun c16 => ?_) (fun c16 => ?_)
      · have h17 := h15.2 c16
        refine s_iinc (i := 3) (n := 1) (by decide +kernel) rfl (by decide) ?_
        refine s_goto (off := -57) (tgt := 40) (by decide +kernel) (by decide) ?_
        exact h17
      · have h18 := h15.1 c16
        refine s_aload_n (i := 0) (by decide +kernel) rfl ?_
        refine s_getR (ci := 5) (k := 4) (index := 16) (r2 := 66) ck5 rfl rfl (by decide) rfl (by decide +kernel) g_585 ?_
        refine s_iload_n (i := 3) (by decide +kernel) rfl ?_
        refine s_bipush (n := 20) (by decide +kernel) (by decide +kernel) ?_
        refine s_irem (by decide +kernel) h18.1 ?_
        have h19 := h18.2
        obtain ⟨j20, e21, e22, h23⟩ := h19
        refine s_iald (j := j20) rfl e21 e22 (by decide +kernel) ?_
        refine s_iconst (n := -1) (by decide +kernel) ?_
        refine s_icmp_ne (off := 15) (tgt := 94) (by decide +kernel) (by decide) (fun c24 => ?_) (fun c24 => ?_)
        · have h25 := h23.2 c24
          refine s_iinc (i := 3) (n := 1) (by decide +kernel) rfl (by decide) ?_
          refine s_goto (off := -57) (tgt := 40) (by decide +kernel) (by decide) ?_
          exact h25
        · have h26 := h23.1 c24
          refine s_aload_n (i := 0) (by decide +kernel) rfl ?_
          refine s_getR (ci := 5) (k := 4) (index := 16) (r2 := 66) ck5 rfl rfl (by decide) rfl (by decide +kernel) g_585 ?_
          refine s_iload_n (i := 3) (by decide +kernel) rfl ?_
          refine s_bipush (n := 20) (by decide +kernel) (by decide +kernel) ?_
          refine s_irem (by decide +kernel) h26.1 ?_
          have h27 := h26.2
          refine s_iload_n (i := 2) (by decide +kernel) rfl ?_
          refine s_iconst (n := 1) (by decide +kernel) ?_
          refine s_iadd (by decide +kernel) ?_
          obtain ⟨j28, e29, e30, h31⟩ := h27
          refine s_iast (j := j28) rfl e29 e30 (by decide +kernel) ?_
          refine s_iinc (i := 3) (n := 1) (by decide +kernel) rfl (by decide) ?_
          refine s_goto (off := -57) (tgt := 40) (by decide +kernel) (by decide) ?_
          exact h31

set_option maxRecDepth 20000 in
theorem BM_distance_0 {K : KX} {Q : Res → AG → AM → Prop} {M : AM} (p1 p2 : Int)
    (h : MetA K fM_isZone [aI p1] GG M (cI GG (fun b2 M1 => (wr b2 = 0 → MetA K fM_goesWell [aR 63, aI 1] GG M1 (cI GG (fun b8 M7 => (wr b8 = 0 → Q (.inl (some (aI 0))) GG M7) ∧ (¬ wr b8 = 0 → MetA K fM_measure [aR 63, aI p2] GG M7 (cV GG (fun M13 => ∃ j17 : Nat, wr p1 = (j17 : Int) ∧ j17 < 20 ∧ (Q (.inl (some (aI (M13 66 j17)))) GG M13)) noX))) noX)) ∧ (¬ wr b2 = 0 → MetA K fM_isZone [aI p2] GG M1 (cI GG (fun b24 M23 => (wr b24 = 0 → MetA K fM_goesWell [aR 63, aI 1] GG M23 (cI GG (fun b30 M29 => (wr b30 = 0 → Q (.inl (some (aI 0))) GG M29) ∧ (¬ wr b30 = 0 → MetA K fM_measure [aR 63, aI p2] GG M29 (cV GG (fun M35 => ∃ j39 : Nat, wr p1 = (j39 : Int) ∧ j39 < 20 ∧ (Q (.inl (some (aI (M35 66 j39)))) GG M35)) noX))) noX)) ∧ (¬ wr b24 = 0 → MetA K fM_goesWell [aR 63, aI 0] GG M23 (cI GG (fun b46 M45 => (wr b46 = 0 → Q (.inl (some (aI 0))) GG M45) ∧ (¬ wr b46 = 0 → MetA K fM_measure [aR 63, aI p2] GG M45 (cV GG (fun M51 => ∃ j55 : Nat, wr p1 = (j55 : Int) ∧ j55 < 20 ∧ (Q (.inl (some (aI (M51 66 j55)))) GG M51)) noX))) noX))) noX))) noX)) :
    WM K fM_distance (EM K fM_distance 80 Q) 0 [some (aR 63), some (aI p1), some (aI p2)] [] GG M 0 0 := by
  refine s_aload_n (i := 0) (by decide +kernel) rfl ?_
  refine s_iload_n (i := 1) (by decide +kernel) rfl ?_
  refine s_callS (Fc := fM_isZone) (index := 70) (as := [aI p1]) (rest := [aR 63]) rfl h ⟨g_647, hM_isZone, g_6, by decide, (show (parseMethodDescriptor fM_isZone.1.desc).map (fun d => d.parameters.length) = some 1 from by decide +kernel), by decide, by decide, by decide, by decide⟩ g_648 rfl rfl (Nat.le_of_ble_eq_true rfl) (by decide +kernel) (q_cI (fun b2 M1 h3 => ?_) (fun _ _ q => q.elim))
  refine s_if_eq (off := 14) (tgt := 19) (by decide +kernel) (by decide) (fun c5 => ?_) (fun c5 => ?_)
  · have h6 := h3.1 c5
    refine s_iconst (n := 1) (by decide +kernel) ?_
    refine s_callV (Fc := fM_goesWell) (index := 74) (ci := 5) (as := [aI 1]) (rest := []) rfl h6 rfl rfl (by decide) rfl ⟨g_653, hM_goesWell, g_6, by decide, (show (parseMethodDescriptor fM_goesWell.1.desc).map (fun d => d.parameters.length) = some 1 from by decide +kernel), by decide, by decide, by decide, by decide⟩ g_655 gp_18 rfl rfl (Nat.le_of_ble_eq_true rfl) (by decide +kernel) (q_cI (fun b8 M7 h9 => ?_) (fun _ _ q => q.elim))
    refine s_if_ne (off := 5) (tgt := 28) (by decide +kernel) (by decide) (fun c11 => ?_) (fun c11 => ?_)
    · have h12 := h9.2 c11
      refine s_aload_n (i := 0) (by decide +kernel) rfl ?_
      refine s_iload_n (i := 2) (by decide +kernel) rfl ?_
      refine s_callV (Fc := fM_measure) (index := 80) (ci := 5) (as := [aI p2]) (rest := []) rfl h12 rfl rfl (by decide) rfl ⟨g_665, hM_measure, g_6, by decide, (show (parseMethodDescriptor fM_measure.1.desc).map (fun d => d.parameters.length) = some 1 from by decide +kernel), by decide, by decide, by decide, by decide⟩ g_667 gp_19 rfl rfl (Nat.le_of_ble_eq_true rfl) (by decide +kernel) (q_cV (fun M13 h15 => ?_) (fun _ _ q => q.elim))
      refine s_aload_n (i := 0) (by decide +kernel) rfl ?_
      refine s_getR (ci := 5) (k := 4) (index := 16) (r2 := 66) ck5 rfl rfl (by decide) rfl (by decide +kernel) g_585 ?_
      refine s_iload_n (i := 1) (by decide +kernel) rfl ?_
      obtain ⟨j17, e18, e19, h20⟩ := h15
      refine s_iald (j := j17) rfl e18 e19 (by decide +kernel) ?_
      exact s_iret rfl (by decide +kernel) (by decide) (by decide) h20
    · have h21 := h9.1 c11
      refine s_iconst (n := 0) (by decide +kernel) ?_
      exact s_iret rfl (by decide +kernel) (by decide) (by decide) h21
  · have h22 := h3.2 c5
    refine s_iload_n (i := 2) (by decide +kernel) rfl ?_
    refine s_callS (Fc := fM_isZone) (index := 70) (as := [aI p2]) (rest := [aR 63]) rfl h22 ⟨g_647, hM_isZone, g_6, by decide, (show (parseMethodDescriptor fM_isZone.1.desc).map (fun d => d.parameters.length) = some 1 from by decide +kernel), by decide, by decide, by decide, by decide⟩ g_648 rfl rfl (Nat.le_of_ble_eq_true rfl) (by decide +kernel) (q_cI (fun b24 M23 h25 => ?_) (fun _ _ q => q.elim))
    refine s_if_eq (off := 7) (tgt := 19) (by decide +kernel) (by decide) (fun c27 => ?_) (fun c27 => ?_)
    · have h28 := h25.1 c27
      refine s_iconst (n := 1) (by decide +kernel) ?_
      refine s_callV (Fc := fM_goesWell) (index := 74) (ci := 5) (as := [aI 1]) (rest := []) rfl h28 rfl rfl (by decide) rfl ⟨g_653, hM_goesWell, g_6, by decide, (show (parseMethodDescriptor fM_goesWell.1.desc).map (fun d => d.parameters.length) = some 1 from by decide +kernel), by decide, by decide, by decide, by decide⟩ g_655 gp_18 rfl rfl (Nat.le_of_ble_eq_true rfl) (by decide +kernel) (q_cI (fun b30 M29 h31 => ?_) (fun _ _ q => q.elim))
      refine s_if_ne (off := 5) (tgt := 28) (by decide +kernel) (by decide) (fun c33 => ?_) (fun c33 => ?_)
      · have h34 := h31.2 c33
        refine s_aload_n (i := 0) (by decide +kernel) rfl ?_
        refine s_iload_n (i := 2) (by decide +kernel) rfl ?_
        refine s_callV (Fc := fM_measure) (index := 80) (ci := 5) (as := [aI p2]) (rest := []) rfl h34 rfl rfl (by decide) rfl ⟨g_665, hM_measure, g_6, by decide, (show (parseMethodDescriptor fM_measure.1.desc).map (fun d => d.parameters.length) = some 1 from by decide +kernel), by decide, by decide, by decide, by decide⟩ g_667 gp_19 rfl rfl (Nat.le_of_ble_eq_true rfl) (by decide +kernel) (q_cV (fun M35 h37 => ?_) (fun _ _ q => q.elim))
        refine s_aload_n (i := 0) (by decide +kernel) rfl ?_
        refine s_getR (ci := 5) (k := 4) (index := 16) (r2 := 66) ck5 rfl rfl (by decide) rfl (by decide +kernel) g_585 ?_
        refine s_iload_n (i := 1) (by decide +kernel) rfl ?_
        obtain ⟨j39, e40, e41, h42⟩ := h37
        refine s_iald (j := j39) rfl e40 e41 (by decide +kernel) ?_
        exact s_iret rfl (by decide +kernel) (by decide) (by decide) h42
      · have h43 := h31.1 c33
        refine s_iconst (n := 0) (by decide +kernel) ?_
        exact s_iret rfl (by decide +kernel) (by decide) (by decide) h43
    · have h44 := h25.2 c27
      refine s_iconst (n := 0) (by decide +kernel) ?_
      refine s_goto (off := 4) (tgt := 20) (by decide +kernel) (by decide) ?_
      refine s_callV (Fc := fM_goesWell) (index := 74) (ci := 5) (as := [aI 0]) (rest := []) rfl h44 rfl rfl (by decide) rfl ⟨g_653, hM_goesWell, g_6, by decide, (show (parseMethodDescriptor fM_goesWell.1.desc).map (fun d => d.parameters.length) = some 1 from by decide +kernel), by decide, by decide, by decide, by decide⟩ g_655 gp_18 rfl rfl (Nat.le_of_ble_eq_true rfl) (by decide +kernel) (q_cI (fun b46 M45 h47 => ?_) (fun _ _ q => q.elim))
      refine s_if_ne (off := 5) (tgt := 28) (by decide +kernel) (by decide) (fun c49 => ?_) (fun c49 => ?_)
      · have h50 := h47.2 c49
        refine s_aload_n (i := 0) (by decide +kernel) rfl ?_
        refine s_iload_n (i := 2) (by decide +kernel) rfl ?_
        refine s_callV (Fc := fM_measure) (index := 80) (ci := 5) (as := [aI p2]) (rest := []) rfl h50 rfl rfl (by decide) rfl ⟨g_665, hM_measure, g_6, by decide, (show (parseMethodDescriptor fM_measure.1.desc).map (fun d => d.parameters.length) = some 1 from by decide +kernel), by decide, by decide, by decide, by decide⟩ g_667 gp_19 rfl rfl (Nat.le_of_ble_eq_true rfl) (by decide +kernel) (q_cV (fun M51 h53 => ?_) (fun _ _ q => q.elim))
        refine s_aload_n (i := 0) (by decide +kernel) rfl ?_
        refine s_getR (ci := 5) (k := 4) (index := 16) (r2 := 66) ck5 rfl rfl (by decide) rfl (by decide +kernel) g_585 ?_
        refine s_iload_n (i := 1) (by decide +kernel) rfl ?_
        obtain ⟨j55, e56, e57, h58⟩ := h53
        refine s_iald (j := j55) rfl e56 e57 (by decide +kernel) ?_
        exact s_iret rfl (by decide +kernel) (by decide) (by decide) h58
      · have h59 := h47.1 c49
        refine s_iconst (n := 0) (by decide +kernel) ?_
        exact s_iret rfl (by decide +kernel) (by decide) (by decide) h59

set_option maxRecDepth 20000 in
theorem BM_toCharger_0 {K : KX} {Q : Res → AG → AM → Prop} {M : AM} (p1 : Int)
    (h : MetA K fM_measure [aR 63, aI p1] GG M (cV GG (fun M1 => WM K fM_toCharger (EM K fM_toCharger 80 Q) 9 [some (aR 63), some (aI p1), some (aI (-1)), some (aI 0), none] [] GG M1 0 0) noX)) :
    WM K fM_toCharger (EM K fM_toCharger 80 Q) 0 [some (aR 63), some (aI p1), none, none, none] [] GG M 0 0 := by
  refine s_aload_n (i := 0) (by decide +kernel) rfl ?_
  refine s_iload_n (i := 1) (by decide +kernel) rfl ?_
  refine s_callV (Fc := fM_measure) (index := 80) (ci := 5) (as := [aI p1]) (rest := []) rfl h rfl rfl (by decide) rfl ⟨g_665, hM_measure, g_6, by decide, (show (parseMethodDescriptor fM_measure.1.desc).map (fun d => d.parameters.length) = some 1 from by decide +kernel), by decide, by decide, by decide, by decide⟩ g_667 gp_19 rfl rfl (Nat.le_of_ble_eq_true rfl) (by decide +kernel) (q_cV (fun M1 h3 => ?_) (fun _ _ q => q.elim))
  refine s_iconst (n := -1) (by decide +kernel) ?_
  refine s_istore_n (i := 2) (by decide +kernel) (by decide) ?_
  refine s_iconst (n := 0) (by decide +kernel) ?_
  refine s_istore_n (i := 3) (by decide +kernel) (by decide) ?_
  exact h3

set_option maxRecDepth 20000 in
theorem BM_toCharger_9 {K : KX} {Q : Res → AG → AM → Prop} {M : AM} (x1 x2 x3 : Int)
    (h : (wr 20 ≤ wr x3 → (wr x2 = wr ((-1)) → WM K fM_toCharger (EM K fM_toCharger 80 Q) 88 [some (aR 63), some (aI x1), some (aI x2), some (aI x3), none] [aI 0] GG M 0 0) ∧ (¬ wr x2 = wr ((-1)) → WM K fM_toCharger (EM K fM_toCharger 80 Q) 88 [some (aR 63), some (aI x1), some (aI x2), some (aI x3), none] [aI x2] GG M 0 0)) ∧ (¬ wr 20 ≤ wr x3 → ∃ j7 : Nat, wr x3 = (j7 : Int) ∧ j7 < 20 ∧ ((wr (M 65 j7) = 0 → WM K fM_toCharger (EM K fM_toCharger 80 Q) 38 [some (aR 63), some (aI x1), some (aI x2), some (aI x3), none] [] GG M 0 0) ∧ (¬ wr (M 65 j7) = 0 → ∃ j14 : Nat, wr x3 = (j14 : Int) ∧ j14 < 20 ∧ ((wr (M 66 j14) = wr ((-1)) → WM K fM_toCharger (EM K fM_toCharger 80 Q) 38 [some (aR 63), some (aI x1), some (aI x2), some (aI x3), none] [] GG M 0 0) ∧ (¬ wr (M 66 j14) = wr ((-1)) → WM K fM_toCharger (EM K fM_toCharger 80 Q) 39 [some (aR 63), some (aI x1), some (aI x2), some (aI x3), none] [aI 1] GG M 0 0)))))) :
    WM K fM_toCharger (EM K fM_toCharger 80 Q) 9 [some (aR 63), some (aI x1), some (aI x2), some (aI x3), none] [] GG M 0 0 := by
  refine s_iload_n (i := 3) (by decide +kernel) rfl ?_
  refine s_bipush (n := 20) (by decide +kernel) (by decide +kernel) ?_
  refine s_icmp_ge (off := 66) (tgt := 78) (by decide +kernel) (by decide) (fun c1 => ?_) (fun c1 => ?_)
  · have h2 := h.1 c1
    refine s_iload_n (i := 2) (by decide +kernel) rfl ?_
    refine s_iconst (n := -1) (by decide +kernel) ?_
    refine s_icmp_ne (off := 7) (tgt := 87) (by decide +kernel) (by decide) (fun c3 => ?_) (fun c3 => ?_)
    · have h4 := h2.2 c3
      refine s_iload_n (i := 2) (by decide +kernel) rfl ?_
      exact h4
    · have h5 := h2.1 c3
      refine s_iconst (n := 0) (by decide +kernel) ?_
      refine s_goto (off := 4) (tgt := 88) (by decide +kernel) (by decide) ?_
      exact h5
  · have h6 := h.2 c1
    refine s_aload_n (i := 0) (by decide +kernel) rfl ?_
    refine s_getR (ci := 5) (k := 3) (index := 13) (r2 := 65) ck5 rfl rfl (by decide) rfl (by decide +kernel) g_584 ?_
    refine s_iload_n (i := 3) (by decide +kernel) rfl ?_
    obtain ⟨j7, e8, e9, h10⟩ := h6
    refine s_zald (j := j7) rfl e8 e9 (by decide +kernel) ?_
    refine s_if_eq (off := 17) (tgt := 38) (by decide +kernel) (by decide) (fun c11 => ?_) (fun c11 => ?_)
    · have h12 := h10.1 c11
      exact h12
    · have h13 := h10.2 c11
      refine s_aload_n (i := 0) (by decide +kernel) rfl ?_
      refine s_getR (ci := 5) (k := 4) (index := 16) (r2 := 66) ck5 rfl rfl (by decide) rfl (by decide +kernel) g_585 ?_
      refine s_iload_n (i := 3) (by decide +kernel) rfl ?_
      obtain ⟨j14, e15, e16, h17⟩ := h13
      refine s_iald (j := j14) rfl e15 e16 (by decide +kernel) ?_
      refine s_iconst (n := -1) (by decide +kernel) ?_
      refine s_icmp_eq (off := 7) (tgt := 38) (by decide +kernel) (by decide) (fun c18 => ?_) (fun c18 => ?_)
      · have h19 := h17.1 c18
        exact h19
      · have h20 := h17.2 c18
        refine s_iconst (n := 1) (by decide +kernel) ?_
        refine s_goto (off := 4) (tgt := 39) (by decide +kernel) (by decide) ?_
        exact h20

set_option maxRecDepth 20000 in
theorem BM_toCharger_38 {K : KX} {Q : Res → AG → AM → Prop} {M : AM} (x1 x2 x3 : Int)
    (h : WM K fM_toCharger (EM K fM_toCharger 80 Q) 39 [some (aR 63), some (aI x1), some (aI x2), some (aI x3), none] [aI 0] GG M 0 0) :
    WM K fM_toCharger (EM K fM_toCharger 80 Q) 38 [some (aR 63), some (aI x1), some (aI x2), some (aI x3), none] [] GG M 0 0 := by
  refine s_iconst (n := 0) (by decide +kernel) ?_
  exact h

set_option maxRecDepth 20000 in
theorem BM_toCharger_39 {K : KX} {Q : Res → AG → AM → Prop} {M : AM} (x1 x2 x3 y0 : Int)
    (h : (wr y0 = 0 → WM K fM_toCharger (EM K fM_toCharger 80 Q) 70 [some (aR 63), some (aI x1), some (aI x2), some (aI x3), some (aI y0)] [] GG M 0 0) ∧ (¬ wr y0 = 0 → (wr x2 = wr ((-1)) → WM K fM_toCharger (EM K fM_toCharger 80 Q) 61 [some (aR 63), some (aI x1), some (aI x2), some (aI x3), some (aI y0)] [] GG M 0 0) ∧ (¬ wr x2 = wr ((-1)) → ∃ j7 : Nat, wr x3 = (j7 : Int) ∧ j7 < 20 ∧ ((wr x2 ≤ wr (M 66 j7) → WM K fM_toCharger (EM K fM_toCharger 80 Q) 70 [some (aR 63), some (aI x1), some (aI x2), some (aI x3), some (aI y0)] [] GG M 0 0) ∧ (¬ wr x2 ≤ wr (M 66 j7) → WM K fM_toCharger (EM K fM_toCharger 80 Q) 61 [some (aR 63), some (aI x1), some (aI x2), some (aI x3), some (aI y0)] [] GG M 0 0))))) :
    WM K fM_toCharger (EM K fM_toCharger 80 Q) 39 [some (aR 63), some (aI x1), some (aI x2), some (aI x3), none] [aI y0] GG M 0 0 := by
  refine s_istore (i := 4) (by decide +kernel) (by decide) ?_
  refine s_iload (i := 4) (by decide +kernel) rfl ?_
  refine s_if_eq (off := 27) (tgt := 70) (by decide +kernel) (by decide) (fun c1 => ?_) (fun c1 => ?_)
  · have h2 := h.1 c1
    exact h2
  · have h3 := h.2 c1
    refine s_iload_n (i := 2) (by decide +kernel) rfl ?_
    refine s_iconst (n := -1) (by decide +kernel) ?_
    refine s_icmp_eq (off := 13) (tgt := 61) (by decide +kernel) (by decide) (fun c4 => ?_) (fun c4 => ?_)
    · have h5 := h3.1 c4
      exact h5
    · have h6 := h3.2 c4
      refine s_aload_n (i := 0) (by decide +kernel) rfl ?_
      refine s_getR (ci := 5) (k := 4) (index := 16) (r2 := 66) ck5 rfl rfl (by decide) rfl (by decide +kernel) g_585 ?_
      refine s_iload_n (i := 3) (by decide +kernel) rfl ?_
      obtain ⟨j7, e8, e9, h10⟩ := h6
      refine s_iald (j := j7) rfl e8 e9 (by decide +kernel) ?_
      refine s_iload_n (i := 2) (by decide +kernel) rfl ?_
      refine s_icmp_ge (off := 12) (tgt := 70) (by decide +kernel) (by decide) (fun c11 => ?_) (fun c11 => ?_)
      · have h12 := h10.1 c11
        exact h12
      · have h13 := h10.2 c11
        exact h13

set_option maxRecDepth 20000 in
theorem BM_toCharger_61 {K : KX} {Q : Res → AG → AM → Prop} {M : AM} (x1 x2 x3 x4 : Int)
    (h : ∃ j1 : Nat, wr x3 = (j1 : Int) ∧ j1 < 20 ∧ (WM K fM_toCharger (EM K fM_toCharger 80 Q) 71 [some (aR 63), some (aI x1), some (aI x2), some (aI x3), some (aI x4)] [aI (M 66 j1)] GG M 0 0)) :
    WM K fM_toCharger (EM K fM_toCharger 80 Q) 61 [some (aR 63), some (aI x1), some (aI x2), some (aI x3), some (aI x4)] [] GG M 0 0 := by
  refine s_aload_n (i := 0) (by decide +kernel) rfl ?_
  refine s_getR (ci := 5) (k := 4) (index := 16) (r2 := 66) ck5 rfl rfl (by decide) rfl (by decide +kernel) g_585 ?_
  refine s_iload_n (i := 3) (by decide +kernel) rfl ?_
  obtain ⟨j1, e2, e3, h4⟩ := h
  refine s_iald (j := j1) rfl e2 e3 (by decide +kernel) ?_
  refine s_goto (off := 4) (tgt := 71) (by decide +kernel) (by decide) ?_
  exact h4

set_option maxRecDepth 20000 in
theorem BM_toCharger_70 {K : KX} {Q : Res → AG → AM → Prop} {M : AM} (x1 x2 x3 x4 : Int)
    (h : WM K fM_toCharger (EM K fM_toCharger 80 Q) 71 [some (aR 63), some (aI x1), some (aI x2), some (aI x3), some (aI x4)] [aI x2] GG M 0 0) :
    WM K fM_toCharger (EM K fM_toCharger 80 Q) 70 [some (aR 63), some (aI x1), some (aI x2), some (aI x3), some (aI x4)] [] GG M 0 0 := by
  refine s_iload_n (i := 2) (by decide +kernel) rfl ?_
  exact h

set_option maxRecDepth 20000 in
theorem BM_toCharger_71 {K : KX} {Q : Res → AG → AM → Prop} {M : AM} (x1 x2 x3 x4 y0 : Int)
    (h : WM K fM_toCharger (EM K fM_toCharger 80 Q) 9 [some (aR 63), some (aI x1), some (aI y0), some (aI (x3 + 1)), none] [] GG M 0 0) :
    WM K fM_toCharger (EM K fM_toCharger 80 Q) 71 [some (aR 63), some (aI x1), some (aI x2), some (aI x3), some (aI x4)] [aI y0] GG M 0 0 := by
  refine s_istore_n (i := 2) (by decide +kernel) (by decide) ?_
  refine s_iinc (i := 3) (n := 1) (by decide +kernel) rfl (by decide) ?_
  refine s_goto (off := -66) (tgt := 9) (by decide +kernel) (by decide) ?_
  exact s_loc (L' := [some (aR 63), some (aI x1), some (aI y0), some (aI (x3 + 1)), none]) (ll_s (ll_s (ll_s (ll_s (ll_n ll_nil))))) h

set_option maxRecDepth 20000 in
theorem BM_toCharger_88 {K : KX} {Q : Res → AG → AM → Prop} {M : AM} (x1 x2 x3 y0 : Int)
    (h : Q (.inl (some (aI y0))) GG M) :
    WM K fM_toCharger (EM K fM_toCharger 80 Q) 88 [some (aR 63), some (aI x1), some (aI x2), some (aI x3), none] [aI y0] GG M 0 0 := by
  exact s_iret rfl (by decide +kernel) (by decide) (by decide) h

set_option maxRecDepth 20000 in
theorem BM_countBusy_0 {K : KX} {Q : Res → AG → AM → Prop} {M : AM} 
    (h : WM K fM_countBusy (EM K fM_countBusy 80 Q) 4 [some (aR 63), some (aI 0), some (aI 0)] [] GG M 0 0) :
    WM K fM_countBusy (EM K fM_countBusy 80 Q) 0 [some (aR 63), none, none] [] GG M 0 0 := by
  refine s_iconst (n := 0) (by decide +kernel) ?_
  refine s_istore_n (i := 1) (by decide +kernel) (by decide) ?_
  refine s_iconst (n := 0) (by decide +kernel) ?_
  refine s_istore_n (i := 2) (by decide +kernel) (by decide) ?_
  exact h

set_option maxRecDepth 20000 in
theorem BM_countBusy_4 {K : KX} {Q : Res → AG → AM → Prop} {M : AM} (x1 x2 : Int)
    (h : (wr (M 63 5) ≤ wr x2 → Q (.inl (some (aI x1))) GG M) ∧ (¬ wr (M 63 5) ≤ wr x2 → ∃ j4 : Nat, wr x2 = (j4 : Int) ∧ j4 < 6 ∧ ((wr (M 69 j4) ≤ 0 → WM K fM_countBusy (EM K fM_countBusy 80 Q) 4 [some (aR 63), some (aI (wio x1 0)), some (aI (x2 + 1))] [] GG M 0 0) ∧ (¬ wr (M 69 j4) ≤ 0 → WM K fM_countBusy (EM K fM_countBusy 80 Q) 4 [some (aR 63), some (aI (wio x1 (wsl 1 x2))), some (aI (x2 + 1))] [] GG M 0 0)))) :
    WM K fM_countBusy (EM K fM_countBusy 80 Q) 4 [some (aR 63), some (aI x1), some (aI x2)] [] GG M 0 0 := by
  refine s_iload_n (i := 2) (by decide +kernel) rfl ?_
  refine s_aload_n (i := 0) (by decide +kernel) rfl ?_
  refine s_getI (ci := 5) (k := 5) (index := 64) ck5 rfl (by decide) rfl (by decide +kernel) g_586 ?_
  refine s_icmp_ge (off := 28) (tgt := 37) (by decide +kernel) (by decide) (fun c1 => ?_) (fun c1 => ?_)
  · have h2 := h.1 c1
    refine s_iload_n (i := 1) (by decide +kernel) rfl ?_
    exact s_iret rfl (by decide +kernel) (by decide) (by decide) h2
  · have h3 := h.2 c1
    refine s_iload_n (i := 1) (by decide +kernel) rfl ?_
    refine s_aload_n (i := 0) (by decide +kernel) rfl ?_
    refine s_getR (ci := 5) (k := 8) (index := 26) (r2 := 69) ck5 rfl rfl (by decide) rfl (by decide +kernel) g_589 ?_
    refine s_iload_n (i := 2) (by decide +kernel) rfl ?_
    obtain ⟨j4, e5, e6, h7⟩ := h3
    refine s_iald (j := j4) rfl e5 e6 (by decide +kernel) ?_
    refine s_if_le (off := 9) (tgt := 28) (by decide +kernel) (by decide) (fun c8 => ?_) (fun c8 => ?_)
    · have h9 := h7.1 c8
      refine s_iconst (n := 0) (by decide +kernel) ?_
      refine s_ior (by decide +kernel) ?_
      refine s_istore_n (i := 1) (by decide +kernel) (by decide) ?_
      refine s_iinc (i := 2) (n := 1) (by decide +kernel) rfl (by decide) ?_
      refine s_goto (off := -30) (tgt := 4) (by decide +kernel) (by decide) ?_
      exact h9
    · have h10 := h7.2 c8
      refine s_iconst (n := 1) (by decide +kernel) ?_
      refine s_iload_n (i := 2) (by decide +kernel) rfl ?_
      refine s_ishl (by decide +kernel) ?_
      refine s_goto (off := 4) (tgt := 29) (by decide +kernel) (by decide) ?_
      refine s_ior (by decide +kernel) ?_
      refine s_istore_n (i := 1) (by decide +kernel) (by decide) ?_
      refine s_iinc (i := 2) (n := 1) (by decide +kernel) rfl (by decide) ?_
      refine s_goto (off := -30) (tgt := 4) (by decide +kernel) (by decide) ?_
      exact h10

set_option maxRecDepth 20000 in
theorem BM_place_0 {K : KX} {Q : Res → AG → AM → Prop} {M : AM} (p1 p2 : Int)
    (h : (wr (wia (wsr p2 p1) 1) = wr 1 → (wr 1 = 0 → ∃ j21 : Nat, wr p1 = (j21 : Int) ∧ j21 < 6 ∧ (Q (.inl (some (aI (M 67 j21)))) GG M)) ∧ (¬ wr 1 = 0 → ∃ j26 : Nat, wr p1 = (j26 : Int) ∧ j26 < 6 ∧ (∃ j30 : Nat, wr (((20 * p1) + (M 69 j26)) - 1) = (j30 : Int) ∧ j30 < 120 ∧ (Q (.inl (some (aI (M 70 j30)))) GG M)))) ∧ (¬ wr (wia (wsr p2 p1) 1) = wr 1 → (wr 0 = 0 → ∃ j5 : Nat, wr p1 = (j5 : Int) ∧ j5 < 6 ∧ (Q (.inl (some (aI (M 67 j5)))) GG M)) ∧ (¬ wr 0 = 0 → ∃ j10 : Nat, wr p1 = (j10 : Int) ∧ j10 < 6 ∧ (∃ j14 : Nat, wr (((20 * p1) + (M 69 j10)) - 1) = (j14 : Int) ∧ j14 < 120 ∧ (Q (.inl (some (aI (M 70 j14)))) GG M))))) :
    WM K fM_place (EM K fM_place 80 Q) 0 [some (aR 63), some (aI p1), some (aI p2), none] [] GG M 0 0 := by
  refine s_iload_n (i := 2) (by decide +kernel) rfl ?_
  refine s_iload_n (i := 1) (by decide +kernel) rfl ?_
  refine s_ishr (by decide +kernel) ?_
  refine s_iconst (n := 1) (by decide +kernel) ?_
  refine s_iand (by decide +kernel) ?_
  refine s_iconst (n := 1) (by decide +kernel) ?_
  refine s_icmp_ne (off := 7) (tgt := 13) (by decide +kernel) (by decide) (fun c1 => ?_) (fun c1 => ?_)
  · have h2 := h.2 c1
    refine s_iconst (n := 0) (by decide +kernel) ?_
    refine s_istore_n (i := 3) (by decide +kernel) (by decide) ?_
    refine s_iload_n (i := 3) (by decide +kernel) rfl ?_
    refine s_if_eq (off := 24) (tgt := 40) (by decide +kernel) (by decide) (fun c3 => ?_) (fun c3 => ?_)
    · have h4 := h2.1 c3
      refine s_aload_n (i := 0) (by decide +kernel) rfl ?_
      refine s_getR (ci := 5) (k := 6) (index := 20) (r2 := 67) ck5 rfl rfl (by decide) rfl (by decide +kernel) g_587 ?_
      refine s_iload_n (i := 1) (by decide +kernel) rfl ?_
      obtain ⟨j5, e6, e7, h8⟩ := h4
      refine s_iald (j := j5) rfl e6 e7 (by decide +kernel) ?_
      exact s_iret rfl (by decide +kernel) (by decide) (by decide) h8
    · have h9 := h2.2 c3
      refine s_aload_n (i := 0) (by decide +kernel) rfl ?_
      refine s_getR (ci := 5) (k := 9) (index := 29) (r2 := 70) ck5 rfl rfl (by decide) rfl (by decide +kernel) g_590 ?_
      refine s_bipush (n := 20) (by decide +kernel) (by decide +kernel) ?_
      refine s_iload_n (i := 1) (by decide +kernel) rfl ?_
      refine s_imul (by decide +kernel) ?_
      refine s_aload_n (i := 0) (by decide +kernel) rfl ?_
      refine s_getR (ci := 5) (k := 8) (index := 26) (r2 := 69) ck5 rfl rfl (by decide) rfl (by decide +kernel) g_589 ?_
      refine s_iload_n (i := 1) (by decide +kernel) rfl ?_
      obtain ⟨j10, e11, e12, h13⟩ := h9
      refine s_iald (j := j10) rfl e11 e12 (by decide +kernel) ?_
      refine s_iadd (by decide +kernel) ?_
      refine s_iconst (n := 1) (by decide +kernel) ?_
      refine s_isub (by decide +kernel) ?_
      obtain ⟨j14, e15, e16, h17⟩ := h13
      refine s_iald (j := j14) rfl e15 e16 (by decide +kernel) ?_
      refine s_goto (off := 9) (tgt := 46) (by decide +kernel) (by decide) ?_
      exact s_iret rfl (by decide +kernel) (by decide) (by decide) h17
  · have h18 := h.1 c1
    refine s_iconst (n := 1) (by decide +kernel) ?_
    refine s_goto (off := 4) (tgt := 14) (by decide +kernel) (by decide) ?_
    refine s_istore_n (i := 3) (by decide +kernel) (by decide) ?_
    refine s_iload_n (i := 3) (by decide +kernel) rfl ?_
    refine s_if_eq (off := 24) (tgt := 40) (by decide +kernel) (by decide) (fun c19 => ?_) (fun c19 => ?_)
    · have h20 := h18.1 c19
      refine s_aload_n (i := 0) (by decide +kernel) rfl ?_
      refine s_getR (ci := 5) (k := 6) (index := 20) (r2 := 67) ck5 rfl rfl (by decide) rfl (by decide +kernel) g_587 ?_
      refine s_iload_n (i := 1) (by decide +kernel) rfl ?_
      obtain ⟨j21, e22, e23, h24⟩ := h20
      refine s_iald (j := j21) rfl e22 e23 (by decide +kernel) ?_
      exact s_iret rfl (by decide +kernel) (by decide) (by decide) h24
    · have h25 := h18.2 c19
      refine s_aload_n (i := 0) (by decide +kernel) rfl ?_
      refine s_getR (ci := 5) (k := 9) (index := 29) (r2 := 70) ck5 rfl rfl (by decide) rfl (by decide +kernel) g_590 ?_
      refine s_bipush (n := 20) (by decide +kernel) (by decide +kernel) ?_
      refine s_iload_n (i := 1) (by decide +kernel) rfl ?_
      refine s_imul (by decide +kernel) ?_
      refine s_aload_n (i := 0) (by decide +kernel) rfl ?_
      refine s_getR (ci := 5) (k := 8) (index := 26) (r2 := 69) ck5 rfl rfl (by decide) rfl (by decide +kernel) g_589 ?_
      refine s_iload_n (i := 1) (by decide +kernel) rfl ?_
      obtain ⟨j26, e27, e28, h29⟩ := h25
      refine s_iald (j := j26) rfl e27 e28 (by decide +kernel) ?_
      refine s_iadd (by decide +kernel) ?_
      refine s_iconst (n := 1) (by decide +kernel) ?_
      refine s_isub (by decide +kernel) ?_
      obtain ⟨j30, e31, e32, h33⟩ := h29
      refine s_iald (j := j30) rfl e31 e32 (by decide +kernel) ?_
      refine s_goto (off := 9) (tgt := 46) (by decide +kernel) (by decide) ?_
      exact s_iret rfl (by decide +kernel) (by decide) (by decide) h33

set_option maxRecDepth 20000 in
theorem BM_canRun_0 {K : KX} {Q : Res → AG → AM → Prop} {M : AM} (p1 p2 : Int)
    (h : WM K fM_canRun (EM K fM_canRun 80 Q) 5 [some (aR 63), some (aI p1), some (aI p2), some (aI 1), some (aI 0), none] [] GG M 0 0) :
    WM K fM_canRun (EM K fM_canRun 80 Q) 0 [some (aR 63), some (aI p1), some (aI p2), none, none, none] [] GG M 0 0 := by
  refine s_iconst (n := 1) (by decide +kernel) ?_
  refine s_istore_n (i := 3) (by decide +kernel) (by decide) ?_
  refine s_iconst (n := 0) (by decide +kernel) ?_
  refine s_istore (i := 4) (by decide +kernel) (by decide) ?_
  exact h

set_option maxRecDepth 20000 in
theorem BM_canRun_5 {K : KX} {Q : Res → AG → AM → Prop} {M : AM} (x1 x2 x3 x4 : Int)
    (h : ∃ j1 : Nat, wr x1 = (j1 : Int) ∧ j1 < 6 ∧ ((wr (M 69 j1) ≤ wr x4 → ((x3 : Int) = 0 ∨ (x3 : Int) = 1) ∧ Q (.inl (some (aI x3))) GG M) ∧ (¬ wr (M 69 j1) ≤ wr x4 → WM K fM_canRun (EM K fM_canRun 80 Q) 19 [some (aR 63), some (aI x1), some (aI x2), some (aI x3), some (aI x4), some (aI 0)] [] GG M 0 0))) :
    WM K fM_canRun (EM K fM_canRun 80 Q) 5 [some (aR 63), some (aI x1), some (aI x2), some (aI x3), some (aI x4), none] [] GG M 0 0 := by
  refine s_iload (i := 4) (by decide +kernel) rfl ?_
  refine s_aload_n (i := 0) (by decide +kernel) rfl ?_
  refine s_getR (ci := 5) (k := 8) (index := 26) (r2 := 69) ck5 rfl rfl (by decide) rfl (by decide +kernel) g_589 ?_
  refine s_iload_n (i := 1) (by decide +kernel) rfl ?_
  obtain ⟨j1, e2, e3, h4⟩ := h
  refine s_iald (j := j1) rfl e2 e3 (by decide +kernel) ?_
  refine s_icmp_ge (off := 65) (tgt := 78) (by decide +kernel) (by decide) (fun c5 => ?_) (fun c5 => ?_)
  · have h6 := h4.1 c5
    refine s_iload_n (i := 3) (by decide +kernel) rfl ?_
    exact s_zret h6.1 rfl (by decide +kernel) (by decide) (by decide) h6.2
  · have h7 := h4.2 c5
    refine s_iconst (n := 0) (by decide +kernel) ?_
    refine s_istore (i := 5) (by decide +kernel) (by decide) ?_
    exact h7

set_option maxRecDepth 20000 in
theorem BM_canRun_19 {K : KX} {Q : Res → AG → AM → Prop} {M : AM} (x1 x2 x3 x4 x5 : Int)
    (h : (wr (M 63 5) ≤ wr x5 → WM K fM_canRun (EM K fM_canRun 80 Q) 5 [some (aR 63), some (aI x1), some (aI x2), some (aI x3), some (aI (x4 + 1)), none] [] GG M 0 0) ∧ (¬ wr (M 63 5) ≤ wr x5 → (wr x3 = 0 → WM K fM_canRun (EM K fM_canRun 80 Q) 19 [some (aR 63), some (aI x1), some (aI x2), some (aI 0), some (aI x4), some (aI (x5 + 1))] [] GG M 0 0) ∧ (¬ wr x3 = 0 → (wr x5 = wr x1 → WM K fM_canRun (EM K fM_canRun 80 Q) 19 [some (aR 63), some (aI x1), some (aI x2), some (aI 1), some (aI x4), some (aI (x5 + 1))] [] GG M 0 0) ∧ (¬ wr x5 = wr x1 → MetA K fM_place [aR 63, aI x5, aI x2] GG M (cI GG (fun b11 M10 => ∃ j14 : Nat, wr ((20 * x1) + x4) = (j14 : Int) ∧ j14 < 120 ∧ ((wr b11 = wr (M10 70 j14) → WM K fM_canRun (EM K fM_canRun 80 Q) 19 [some (aR 63), some (aI x1), some (aI x2), some (aI 0), some (aI x4), some (aI (x5 + 1))] [] GG M10 0 0) ∧ (¬ wr b11 = wr (M10 70 j14) → WM K fM_canRun (EM K fM_canRun 80 Q) 19 [some (aR 63), some (aI x1), some (aI x2), some (aI 1), some (aI x4), some (aI (x5 + 1))] [] GG M10 0 0))) noX))))) :
    WM K fM_canRun (EM K fM_canRun 80 Q) 19 [some (aR 63), some (aI x1), some (aI x2), some (aI x3), some (aI x4), some (aI x5)] [] GG M 0 0 := by
  refine s_iload (i := 5) (by decide +kernel) rfl ?_
  refine s_aload_n (i := 0) (by decide +kernel) rfl ?_
  refine s_getI (ci := 5) (k := 5) (index := 64) ck5 rfl (by decide) rfl (by decide +kernel) g_586 ?_
  refine s_icmp_ge (off := 47) (tgt := 72) (by decide +kernel) (by decide) (fun c1 => ?_) (fun c1 => ?_)
  · have h2 := h.1 c1
    refine s_iinc (i := 4) (n := 1) (by decide +kernel) rfl (by decide) ?_
    refine s_goto (off := -70) (tgt := 5) (by decide +kernel) (by decide) ?_
    exact s_loc (L' := [some (aR 63), some (aI x1), some (aI x2), some (aI x3), some (aI (x4 + 1)), none]) (ll_s (ll_s (ll_s (ll_s (ll_s (ll_n ll_nil)))))) h2
  · have h3 := h.2 c1
    refine s_iload_n (i := 3) (by decide +kernel) rfl ?_
    refine s_if_eq (off := 35) (tgt := 64) (by decide +kernel) (by decide) (fun c4 => ?_) (fun c4 => ?_)
    · have h5 := h3.1 c4
      refine s_iconst (n := 0) (by decide +kernel) ?_
      refine s_istore_n (i := 3) (by decide +kernel) (by decide) ?_
      refine s_iinc (i := 5) (n := 1) (by decide +kernel) rfl (by decide) ?_
      refine s_goto (off := -50) (tgt := 19) (by decide +kernel) (by decide) ?_
      exact h5
    · have h6 := h3.2 c4
      refine s_iload (i := 5) (by decide +kernel) rfl ?_
      refine s_iload_n (i := 1) (by decide +kernel) rfl ?_
      refine s_icmp_eq (off := 25) (tgt := 60) (by decide +kernel) (by decide) (fun c7 => ?_) (fun c7 => ?_)
      · have h8 := h6.1 c7
        refine s_iconst (n := 1) (by decide +kernel) ?_
        refine s_goto (off := 4) (tgt := 65) (by decide +kernel) (by decide) ?_
        refine s_istore_n (i := 3) (by decide +kernel) (by decide) ?_
        refine s_iinc (i := 5) (n := 1) (by decide +kernel) rfl (by decide) ?_
        refine s_goto (off := -50) (tgt := 19) (by decide +kernel) (by decide) ?_
        exact h8
      · have h9 := h6.2 c7
        refine s_aload_n (i := 0) (by decide +kernel) rfl ?_
        refine s_iload (i := 5) (by decide +kernel) rfl ?_
        refine s_iload_n (i := 2) (by decide +kernel) rfl ?_
        refine s_callV (Fc := fM_place) (index := 84) (ci := 5) (as := [aI x5, aI x2]) (rest := []) rfl h9 rfl rfl (by decide) rfl ⟨g_689, hM_place, g_6, by decide, (show (parseMethodDescriptor fM_place.1.desc).map (fun d => d.parameters.length) = some 2 from by decide +kernel), by decide, by decide, by decide, by decide⟩ g_691 gp_24 rfl rfl (Nat.le_of_ble_eq_true rfl) (by decide +kernel) (q_cI (fun b11 M10 h12 => ?_) (fun _ _ q => q.elim))
        refine s_aload_n (i := 0) (by decide +kernel) rfl ?_
        refine s_getR (ci := 5) (k := 9) (index := 29) (r2 := 70) ck5 rfl rfl (by decide) rfl (by decide +kernel) g_590 ?_
        refine s_bipush (n := 20) (by decide +kernel) (by decide +kernel) ?_
        refine s_iload_n (i := 1) (by decide +kernel) rfl ?_
        refine s_imul (by decide +kernel) ?_
        refine s_iload (i := 4) (by decide +kernel) rfl ?_
        refine s_iadd (by decide +kernel) ?_
        obtain ⟨j14, e15, e16, h17⟩ := h12
        refine s_iald (j := j14) rfl e15 e16 (by decide +kernel) ?_
        refine s_icmp_eq (off := 7) (tgt := 64) (by decide +kernel) (by decide) (fun c18 => ?_) (fun c18 => ?_)
        · have h19 := h17.1 c18
          refine s_iconst (n := 0) (by decide +kernel) ?_
          refine s_istore_n (i := 3) (by decide +kernel) (by decide) ?_
          refine s_iinc (i := 5) (n := 1) (by decide +kernel) rfl (by decide) ?_
          refine s_goto (off := -50) (tgt := 19) (by decide +kernel) (by decide) ?_
          exact h19
        · have h20 := h17.2 c18
          refine s_iconst (n := 1) (by decide +kernel) ?_
          refine s_goto (off := 4) (tgt := 65) (by decide +kernel) (by decide) ?_
          refine s_istore_n (i := 3) (by decide +kernel) (by decide) ?_
          refine s_iinc (i := 5) (n := 1) (by decide +kernel) rfl (by decide) ?_
          refine s_goto (off := -50) (tgt := 19) (by decide +kernel) (by decide) ?_
          exact h20

set_option maxRecDepth 20000 in
theorem BM_isSafe_0 {K : KX} {Q : Res → AG → AM → Prop} {M : AM} 
    (h : MetA K fM_countBusy [aR 63] GG M (cI GG (fun b2 M1 => WM K fM_isSafe (EM K fM_isSafe 80 Q) 7 [some (aR 63), some (aI b2), some (aI 0), none, none] [] GG M1 0 0) noX)) :
    WM K fM_isSafe (EM K fM_isSafe 80 Q) 0 [some (aR 63), none, none, none, none] [] GG M 0 0 := by
  refine s_aload_n (i := 0) (by decide +kernel) rfl ?_
  refine s_callV (Fc := fM_countBusy) (index := 88) (ci := 5) (as := []) (rest := []) rfl h rfl rfl (by decide) rfl ⟨g_681, hM_countBusy, g_6, by decide, (show (parseMethodDescriptor fM_countBusy.1.desc).map (fun d => d.parameters.length) = some 0 from by decide +kernel), by decide, by decide, by decide, by decide⟩ g_683 gp_22 rfl rfl (Nat.le_of_ble_eq_true rfl) (by decide +kernel) (q_cI (fun b2 M1 h3 => ?_) (fun _ _ q => q.elim))
  refine s_istore_n (i := 1) (by decide +kernel) (by decide) ?_
  refine s_iconst (n := 0) (by decide +kernel) ?_
  refine s_istore_n (i := 2) (by decide +kernel) (by decide) ?_
  exact h3

set_option maxRecDepth 20000 in
theorem BM_isSafe_7 {K : KX} {Q : Res → AG → AM → Prop} {M : AM} (x1 x2 : Int)
    (h : (wr 64 ≤ wr x2 → WM K fM_isSafe (EM K fM_isSafe 80 Q) 52 [some (aR 63), some (aI x1), some (aI 0), none, none] [] GG M 0 0) ∧ (¬ wr 64 ≤ wr x2 → (wr x2 = 0 → WM K fM_isSafe (EM K fM_isSafe 80 Q) 27 [some (aR 63), some (aI x1), some (aI x2), none, none] [aI 1, aI x2, aR 76] GG M 0 0) ∧ (¬ wr x2 = 0 → WM K fM_isSafe (EM K fM_isSafe 80 Q) 27 [some (aR 63), some (aI x1), some (aI x2), none, none] [aI 0, aI x2, aR 76] GG M 0 0))) :
    WM K fM_isSafe (EM K fM_isSafe 80 Q) 7 [some (aR 63), some (aI x1), some (aI x2), none, none] [] GG M 0 0 := by
  refine s_iload_n (i := 2) (by decide +kernel) rfl ?_
  refine s_bipush (n := 64) (by decide +kernel) (by decide +kernel) ?_
  refine s_icmp_ge (off := 40) (tgt := 50) (by decide +kernel) (by decide) (fun c1 => ?_) (fun c1 => ?_)
  · have h2 := h.1 c1
    refine s_iconst (n := 0) (by decide +kernel) ?_
    refine s_istore_n (i := 2) (by decide +kernel) (by decide) ?_
    exact h2
  · have h3 := h.2 c1
    refine s_aload_n (i := 0) (by decide +kernel) rfl ?_
    refine s_getR (ci := 5) (k := 16) (index := 47) (r2 := 76) ck5 rfl rfl (by decide) rfl (by decide +kernel) g_597 ?_
    refine s_iload_n (i := 2) (by decide +kernel) rfl ?_
    refine s_iload_n (i := 2) (by decide +kernel) rfl ?_
    refine s_if_ne (off := 7) (tgt := 26) (by decide +kernel) (by decide) (fun c4 => ?_) (fun c4 => ?_)
    · have h5 := h3.2 c4
      refine s_iconst (n := 0) (by decide +kernel) ?_
      exact h5
    · have h6 := h3.1 c4
      refine s_iconst (n := 1) (by decide +kernel) ?_
      refine s_goto (off := 4) (tgt := 27) (by decide +kernel) (by decide) ?_
      exact h6

set_option maxRecDepth 20000 in
theorem BM_isSafe_27 {K : KX} {Q : Res → AG → AM → Prop} {M : AM} (x1 x2 y0 y1 : Int)
    (h : ∃ j1 : Nat, wr y1 = (j1 : Int) ∧ j1 < 64 ∧ ((wr x2 = wr x1 → WM K fM_isSafe (EM K fM_isSafe 80 Q) 43 [some (aR 63), some (aI x1), some (aI x2), none, none] [aI 1, aI x2, aR 77] GG (um M 76 j1 y0) 0 0) ∧ (¬ wr x2 = wr x1 → WM K fM_isSafe (EM K fM_isSafe 80 Q) 43 [some (aR 63), some (aI x1), some (aI x2), none, none] [aI 0, aI x2, aR 77] GG (um M 76 j1 y0) 0 0))) :
    WM K fM_isSafe (EM K fM_isSafe 80 Q) 27 [some (aR 63), some (aI x1), some (aI x2), none, none] [aI y0, aI y1, aR 76] GG M 0 0 := by
  obtain ⟨j1, e2, e3, h4⟩ := h
  refine s_iast (j := j1) rfl e2 e3 (by decide +kernel) ?_
  refine s_aload_n (i := 0) (by decide +kernel) rfl ?_
  refine s_getR (ci := 5) (k := 17) (index := 50) (r2 := 77) ck5 rfl rfl (by decide) rfl (by decide +kernel) g_598 ?_
  refine s_iload_n (i := 2) (by decide +kernel) rfl ?_
  refine s_iload_n (i := 2) (by decide +kernel) rfl ?_
  refine s_iload_n (i := 1) (by decide +kernel) rfl ?_
  refine s_icmp_ne (off := 7) (tgt := 42) (by decide +kernel) (by decide) (fun c5 => ?_) (fun c5 => ?_)
  · have h6 := h4.2 c5
    refine s_iconst (n := 0) (by decide +kernel) ?_
    exact h6
  · have h7 := h4.1 c5
    refine s_iconst (n := 1) (by decide +kernel) ?_
    refine s_goto (off := 4) (tgt := 43) (by decide +kernel) (by decide) ?_
    exact h7

set_option maxRecDepth 20000 in
theorem BM_isSafe_43 {K : KX} {Q : Res → AG → AM → Prop} {M : AM} (x1 x2 y0 y1 : Int)
    (h : ∃ j1 : Nat, wr y1 = (j1 : Int) ∧ j1 < 64 ∧ ((y0 : Int) = 0 ∨ (y0 : Int) = 1) ∧ (WM K fM_isSafe (EM K fM_isSafe 80 Q) 7 [some (aR 63), some (aI x1), some (aI (x2 + 1)), none, none] [] GG (um M 77 j1 y0) 0 0)) :
    WM K fM_isSafe (EM K fM_isSafe 80 Q) 43 [some (aR 63), some (aI x1), some (aI x2), none, none] [aI y0, aI y1, aR 77] GG M 0 0 := by
  obtain ⟨j1, e2, e3, e5, h4⟩ := h
  refine s_zast (j := j1) rfl e2 e3 e5 (by decide +kernel) ?_
  refine s_iinc (i := 2) (n := 1) (by decide +kernel) rfl (by decide) ?_
  refine s_goto (off := -40) (tgt := 7) (by decide +kernel) (by decide) ?_
  exact h4

set_option maxRecDepth 20000 in
theorem BM_isSafe_52 {K : KX} {Q : Res → AG → AM → Prop} {M : AM} (x1 x2 : Int)
    (h : (wr 64 ≤ wr x2 → ∃ j3 : Nat, wr x1 = (j3 : Int) ∧ j3 < 64 ∧ ((wr (M 76 j3) ≤ 0 → WM K fM_isSafe (EM K fM_isSafe 80 Q) 160 [some (aR 63), some (aI x1), some (aI x2), none, none] [aI 0] GG M 0 0) ∧ (¬ wr (M 76 j3) ≤ 0 → WM K fM_isSafe (EM K fM_isSafe 80 Q) 160 [some (aR 63), some (aI x1), some (aI x2), none, none] [aI 1] GG M 0 0))) ∧ (¬ wr 64 ≤ wr x2 → WM K fM_isSafe (EM K fM_isSafe 80 Q) 60 [some (aR 63), some (aI x1), some (aI x2), some (aI 0), none] [] GG M 0 0)) :
    WM K fM_isSafe (EM K fM_isSafe 80 Q) 52 [some (aR 63), some (aI x1), some (aI x2), none, none] [] GG M 0 0 := by
  refine s_iload_n (i := 2) (by decide +kernel) rfl ?_
  refine s_bipush (n := 64) (by decide +kernel) (by decide +kernel) ?_
  refine s_icmp_ge (off := 91) (tgt := 146) (by decide +kernel) (by decide) (fun c1 => ?_) (fun c1 => ?_)
  · have h2 := h.1 c1
    refine s_aload_n (i := 0) (by decide +kernel) rfl ?_
    refine s_getR (ci := 5) (k := 16) (index := 47) (r2 := 76) ck5 rfl rfl (by decide) rfl (by decide +kernel) g_597 ?_
    refine s_iload_n (i := 1) (by decide +kernel) rfl ?_
    obtain ⟨j3, e4, e5, h6⟩ := h2
    refine s_iald (j := j3) rfl e4 e5 (by decide +kernel) ?_
    refine s_if_le (off := 7) (tgt := 159) (by decide +kernel) (by decide) (fun c7 => ?_) (fun c7 => ?_)
    · have h8 := h6.1 c7
      refine s_iconst (n := 0) (by decide +kernel) ?_
      exact h8
    · have h9 := h6.2 c7
      refine s_iconst (n := 1) (by decide +kernel) ?_
      refine s_goto (off := 4) (tgt := 160) (by decide +kernel) (by decide) ?_
      exact h9
  · have h10 := h.2 c1
    refine s_iconst (n := 0) (by decide +kernel) ?_
    refine s_istore_n (i := 3) (by decide +kernel) (by decide) ?_
    exact h10

set_option maxRecDepth 20000 in
theorem BM_isSafe_60 {K : KX} {Q : Res → AG → AM → Prop} {M : AM} (x1 x2 x3 : Int)
    (h : (wr (M 63 5) ≤ wr x3 → WM K fM_isSafe (EM K fM_isSafe 80 Q) 140 [some (aR 63), some (aI x1), some (aI x2), some (aI x3), none] [] GG M 0 0) ∧ (¬ wr (M 63 5) ≤ wr x3 → ∃ j4 : Nat, wr x2 = (j4 : Int) ∧ j4 < 64 ∧ ((wr (M 76 j4) ≤ 0 → WM K fM_isSafe (EM K fM_isSafe 80 Q) 140 [some (aR 63), some (aI x1), some (aI x2), some (aI x3), none] [] GG M 0 0) ∧ (¬ wr (M 76 j4) ≤ 0 → (wr (wia (wsr x1 x3) 1) = wr 1 → (wr (wia (wsr x2 x3) 1) = 0 → WM K fM_isSafe (EM K fM_isSafe 80 Q) 99 [some (aR 63), some (aI x1), some (aI x2), some (aI x3), none] [aI 1] GG M 0 0) ∧ (¬ wr (wia (wsr x2 x3) 1) = 0 → WM K fM_isSafe (EM K fM_isSafe 80 Q) 98 [some (aR 63), some (aI x1), some (aI x2), some (aI x3), none] [] GG M 0 0)) ∧ (¬ wr (wia (wsr x1 x3) 1) = wr 1 → WM K fM_isSafe (EM K fM_isSafe 80 Q) 98 [some (aR 63), some (aI x1), some (aI x2), some (aI x3), none] [] GG M 0 0))))) :
    WM K fM_isSafe (EM K fM_isSafe 80 Q) 60 [some (aR 63), some (aI x1), some (aI x2), some (aI x3), none] [] GG M 0 0 := by
  refine s_iload_n (i := 3) (by decide +kernel) rfl ?_
  refine s_aload_n (i := 0) (by decide +kernel) rfl ?_
  refine s_getI (ci := 5) (k := 5) (index := 64) ck5 rfl (by decide) rfl (by decide +kernel) g_586 ?_
  refine s_icmp_ge (off := 75) (tgt := 140) (by decide +kernel) (by decide) (fun c1 => ?_) (fun c1 => ?_)
  · have h2 := h.1 c1
    exact h2
  · have h3 := h.2 c1
    refine s_aload_n (i := 0) (by decide +kernel) rfl ?_
    refine s_getR (ci := 5) (k := 16) (index := 47) (r2 := 76) ck5 rfl rfl (by decide) rfl (by decide +kernel) g_597 ?_
    refine s_iload_n (i := 2) (by decide +kernel) rfl ?_
    obtain ⟨j4, e5, e6, h7⟩ := h3
    refine s_iald (j := j4) rfl e5 e6 (by decide +kernel) ?_
    refine s_if_le (off := 66) (tgt := 140) (by decide +kernel) (by decide) (fun c8 => ?_) (fun c8 => ?_)
    · have h9 := h7.1 c8
      exact h9
    · have h10 := h7.2 c8
      refine s_iload_n (i := 1) (by decide +kernel) rfl ?_
      refine s_iload_n (i := 3) (by decide +kernel) rfl ?_
      refine s_ishr (by decide +kernel) ?_
      refine s_iconst (n := 1) (by decide +kernel) ?_
      refine s_iand (by decide +kernel) ?_
      refine s_iconst (n := 1) (by decide +kernel) ?_
      refine s_icmp_ne (off := 15) (tgt := 98) (by decide +kernel) (by decide) (fun c11 => ?_) (fun c11 => ?_)
      · have h12 := h10.2 c11
        exact h12
      · have h13 := h10.1 c11
        refine s_iload_n (i := 2) (by decide +kernel) rfl ?_
        refine s_iload_n (i := 3) (by decide +kernel) rfl ?_
        refine s_ishr (by decide +kernel) ?_
        refine s_iconst (n := 1) (by decide +kernel) ?_
        refine s_iand (by decide +kernel) ?_
        refine s_if_ne (off := 7) (tgt := 98) (by decide +kernel) (by decide) (fun c14 => ?_) (fun c14 => ?_)
        · have h15 := h13.2 c14
          exact h15
        · have h16 := h13.1 c14
          refine s_iconst (n := 1) (by decide +kernel) ?_
          refine s_goto (off := 4) (tgt := 99) (by decide +kernel) (by decide) ?_
          exact h16

set_option maxRecDepth 20000 in
theorem BM_isSafe_98 {K : KX} {Q : Res → AG → AM → Prop} {M : AM} (x1 x2 x3 : Int)
    (h : WM K fM_isSafe (EM K fM_isSafe 80 Q) 99 [some (aR 63), some (aI x1), some (aI x2), some (aI x3), none] [aI 0] GG M 0 0) :
    WM K fM_isSafe (EM K fM_isSafe 80 Q) 98 [some (aR 63), some (aI x1), some (aI x2), some (aI x3), none] [] GG M 0 0 := by
  refine s_iconst (n := 0) (by decide +kernel) ?_
  exact h

set_option maxRecDepth 20000 in
theorem BM_isSafe_99 {K : KX} {Q : Res → AG → AM → Prop} {M : AM} (x1 x2 x3 y0 : Int)
    (h : (wr y0 = 0 → WM K fM_isSafe (EM K fM_isSafe 80 Q) 134 [some (aR 63), some (aI x1), some (aI x2), some (aI x3), some (aI y0)] [] GG M 0 0) ∧ (¬ wr y0 = 0 → MetA K fM_canRun [aR 63, aI x3, aI x2] GG M (cI GG (fun b5 M4 => (wr b5 = 0 → WM K fM_isSafe (EM K fM_isSafe 80 Q) 134 [some (aR 63), some (aI x1), some (aI x2), some (aI x3), some (aI y0)] [] GG M4 0 0) ∧ (¬ wr b5 = 0 → ∃ j11 : Nat, wr (wio x2 (wsl 1 x3)) = (j11 : Int) ∧ j11 < 64 ∧ (∃ j15 : Nat, wr x2 = (j15 : Int) ∧ j15 < 64 ∧ (∃ j19 : Nat, wr (wio x2 (wsl 1 x3)) = (j19 : Int) ∧ j19 < 64 ∧ (WM K fM_isSafe (EM K fM_isSafe 80 Q) 134 [some (aR 63), some (aI x1), some (aI x2), some (aI x3), some (aI y0)] [] GG (um M4 76 j19 ((M4 76 j11) + (M4 76 j15))) 0 0))))) noX))) :
    WM K fM_isSafe (EM K fM_isSafe 80 Q) 99 [some (aR 63), some (aI x1), some (aI x2), some (aI x3), none] [aI y0] GG M 0 0 := by
  refine s_istore (i := 4) (by decide +kernel) (by decide) ?_
  refine s_iload (i := 4) (by decide +kernel) rfl ?_
  refine s_if_eq (off := 31) (tgt := 134) (by decide +kernel) (by decide) (fun c1 => ?_) (fun c1 => ?_)
  · have h2 := h.1 c1
    exact h2
  · have h3 := h.2 c1
    refine s_aload_n (i := 0) (by decide +kernel) rfl ?_
    refine s_iload_n (i := 3) (by decide +kernel) rfl ?_
    refine s_iload_n (i := 2) (by decide +kernel) rfl ?_
    refine s_callV (Fc := fM_canRun) (index := 92) (ci := 5) (as := [aI x3, aI x2]) (rest := []) rfl h3 rfl rfl (by decide) rfl ⟨g_685, hM_canRun, g_6, by decide, (show (parseMethodDescriptor fM_canRun.1.desc).map (fun d => d.parameters.length) = some 2 from by decide +kernel), by decide, by decide, by decide, by decide⟩ g_687 gp_23 rfl rfl (Nat.le_of_ble_eq_true rfl) (by decide +kernel) (q_cI (fun b5 M4 h6 => ?_) (fun _ _ q => q.elim))
    refine s_if_eq (off := 22) (tgt := 134) (by decide +kernel) (by decide) (fun c8 => ?_) (fun c8 => ?_)
    · have h9 := h6.1 c8
      exact h9
    · have h10 := h6.2 c8
      refine s_aload_n (i := 0) (by decide +kernel) rfl ?_
      refine s_getR (ci := 5) (k := 16) (index := 47) (r2 := 76) ck5 rfl rfl (by decide) rfl (by decide +kernel) g_597 ?_
      refine s_iload_n (i := 2) (by decide +kernel) rfl ?_
      refine s_iconst (n := 1) (by decide +kernel) ?_
      refine s_iload_n (i := 3) (by decide +kernel) rfl ?_
      refine s_ishl (by decide +kernel) ?_
      refine s_ior (by decide +kernel) ?_
      refine s_dup2 (by decide +kernel) ?_
      obtain ⟨j11, e12, e13, h14⟩ := h10
      refine s_iald (j := j11) rfl e12 e13 (by decide +kernel) ?_
      refine s_aload_n (i := 0) (by decide +kernel) rfl ?_
      refine s_getR (ci := 5) (k := 16) (index := 47) (r2 := 76) ck5 rfl rfl (by decide) rfl (by decide +kernel) g_597 ?_
      refine s_iload_n (i := 2) (by decide +kernel) rfl ?_
      obtain ⟨j15, e16, e17, h18⟩ := h14
      refine s_iald (j := j15) rfl e16 e17 (by decide +kernel) ?_
      refine s_iadd (by decide +kernel) ?_
      obtain ⟨j19, e20, e21, h22⟩ := h18
      refine s_iast (j := j19) rfl e20 e21 (by decide +kernel) ?_
      exact h22

set_option maxRecDepth 20000 in
theorem BM_isSafe_134 {K : KX} {Q : Res → AG → AM → Prop} {M : AM} (x1 x2 x3 x4 : Int)
    (h : WM K fM_isSafe (EM K fM_isSafe 80 Q) 60 [some (aR 63), some (aI x1), some (aI x2), some (aI (x3 + 1)), none] [] GG M 0 0) :
    WM K fM_isSafe (EM K fM_isSafe 80 Q) 134 [some (aR 63), some (aI x1), some (aI x2), some (aI x3), some (aI x4)] [] GG M 0 0 := by
  refine s_iinc (i := 3) (n := 1) (by decide +kernel) rfl (by decide) ?_
  refine s_goto (off := -77) (tgt := 60) (by decide +kernel) (by decide) ?_
  exact s_loc (L' := [some (aR 63), some (aI x1), some (aI x2), some (aI (x3 + 1)), none]) (ll_s (ll_s (ll_s (ll_s (ll_n ll_nil))))) h

set_option maxRecDepth 20000 in
theorem BM_isSafe_140 {K : KX} {Q : Res → AG → AM → Prop} {M : AM} (x1 x2 x3 : Int)
    (h : WM K fM_isSafe (EM K fM_isSafe 80 Q) 52 [some (aR 63), some (aI x1), some (aI (x2 + 1)), none, none] [] GG M 0 0) :
    WM K fM_isSafe (EM K fM_isSafe 80 Q) 140 [some (aR 63), some (aI x1), some (aI x2), some (aI x3), none] [] GG M 0 0 := by
  refine s_iinc (i := 2) (n := 1) (by decide +kernel) rfl (by decide) ?_
  refine s_goto (off := -91) (tgt := 52) (by decide +kernel) (by decide) ?_
  exact s_loc (L' := [some (aR 63), some (aI x1), some (aI (x2 + 1)), none, none]) (ll_s (ll_s (ll_s (ll_n (ll_s ll_nil))))) h

set_option maxRecDepth 20000 in
theorem BM_isSafe_160 {K : KX} {Q : Res → AG → AM → Prop} {M : AM} (x1 x2 y0 : Int)
    (h : ((y0 : Int) = 0 ∨ (y0 : Int) = 1) ∧ Q (.inl (some (aI y0))) GG M) :
    WM K fM_isSafe (EM K fM_isSafe 80 Q) 160 [some (aR 63), some (aI x1), some (aI x2), none, none] [aI y0] GG M 0 0 := by
  exact s_zret h.1 rfl (by decide +kernel) (by decide) (by decide) h.2

set_option maxRecDepth 20000 in
theorem BM_find_0 {K : KX} {Q : Res → AG → AM → Prop} {M : AM} (p1 : Int)
    (h : WM K fM_find (EM K fM_find 80 Q) 2 [some (aR 63), some (aI p1), some (aI 0)] [] GG M 0 0) :
    WM K fM_find (EM K fM_find 80 Q) 0 [some (aR 63), some (aI p1), none] [] GG M 0 0 := by
  refine s_iconst (n := 0) (by decide +kernel) ?_
  refine s_istore_n (i := 2) (by decide +kernel) (by decide) ?_
  exact h

set_option maxRecDepth 20000 in
theorem BM_find_2 {K : KX} {Q : Res → AG → AM → Prop} {M : AM} (x1 x2 : Int)
    (h : (wr (M 63 5) ≤ wr x2 → Q (.inl (some (aI (-1)))) GG M) ∧ (¬ wr (M 63 5) ≤ wr x2 → ∃ j4 : Nat, wr x2 = (j4 : Int) ∧ j4 < 6 ∧ ((wr (M 67 j4) = wr x1 → Q (.inl (some (aI x2))) GG M) ∧ (¬ wr (M 67 j4) = wr x1 → WM K fM_find (EM K fM_find 80 Q) 2 [some (aR 63), some (aI x1), some (aI (x2 + 1))] [] GG M 0 0)))) :
    WM K fM_find (EM K fM_find 80 Q) 2 [some (aR 63), some (aI x1), some (aI x2)] [] GG M 0 0 := by
  refine s_iload_n (i := 2) (by decide +kernel) rfl ?_
  refine s_aload_n (i := 0) (by decide +kernel) rfl ?_
  refine s_getI (ci := 5) (k := 5) (index := 64) ck5 rfl (by decide) rfl (by decide +kernel) g_586 ?_
  refine s_icmp_ge (off := 21) (tgt := 28) (by decide +kernel) (by decide) (fun c1 => ?_) (fun c1 => ?_)
  · have h2 := h.1 c1
    refine s_iconst (n := -1) (by decide +kernel) ?_
    exact s_iret rfl (by decide +kernel) (by decide) (by decide) h2
  · have h3 := h.2 c1
    refine s_aload_n (i := 0) (by decide +kernel) rfl ?_
    refine s_getR (ci := 5) (k := 6) (index := 20) (r2 := 67) ck5 rfl rfl (by decide) rfl (by decide +kernel) g_587 ?_
    refine s_iload_n (i := 2) (by decide +kernel) rfl ?_
    obtain ⟨j4, e5, e6, h7⟩ := h3
    refine s_iald (j := j4) rfl e5 e6 (by decide +kernel) ?_
    refine s_iload_n (i := 1) (by decide +kernel) rfl ?_
    refine s_icmp_ne (off := 5) (tgt := 22) (by decide +kernel) (by decide) (fun c8 => ?_) (fun c8 => ?_)
    · have h9 := h7.2 c8
      refine s_iinc (i := 2) (n := 1) (by decide +kernel) rfl (by decide) ?_
      refine s_goto (off := -23) (tgt := 2) (by decide +kernel) (by decide) ?_
      exact h9
    · have h10 := h7.1 c8
      refine s_iload_n (i := 2) (by decide +kernel) rfl ?_
      exact s_iret rfl (by decide +kernel) (by decide) (by decide) h10

set_option maxRecDepth 20000 in
theorem BM_addVehicle_0 {K : KX} {Q : Res → AG → AM → Prop} {M : AM} (p1 p2 : Int)
    (h : MetA K fM_isZone [aI p1] GG M (cI GG (fun b2 M1 => (wr b2 = 0 → WM K fM_addVehicle (EM K fM_addVehicle 80 Q) 21 [some (aR 63), some (aI p1), some (aI p2), none, none] [] GG M1 0 0) ∧ (¬ wr b2 = 0 → MetA K fM_in [aI p2, aI 0, aI 60] GG M1 (cI GG (fun b9 M8 => (wr b9 = 0 → WM K fM_addVehicle (EM K fM_addVehicle 80 Q) 21 [some (aR 63), some (aI p1), some (aI p2), none, none] [] GG M8 0 0) ∧ (¬ wr b9 = 0 → WM K fM_addVehicle (EM K fM_addVehicle 80 Q) 22 [some (aR 63), some (aI p1), some (aI p2), none, none] [aI 1] GG M8 0 0)) noX))) noX)) :
    WM K fM_addVehicle (EM K fM_addVehicle 80 Q) 0 [some (aR 63), some (aI p1), some (aI p2), none, none] [] GG M 0 0 := by
  refine s_iload_n (i := 1) (by decide +kernel) rfl ?_
  refine s_callS (Fc := fM_isZone) (index := 70) (as := [aI p1]) (rest := []) rfl h ⟨g_647, hM_isZone, g_6, by decide, (show (parseMethodDescriptor fM_isZone.1.desc).map (fun d => d.parameters.length) = some 1 from by decide +kernel), by decide, by decide, by decide, by decide⟩ g_648 rfl rfl (Nat.le_of_ble_eq_true rfl) (by decide +kernel) (q_cI (fun b2 M1 h3 => ?_) (fun _ _ q => q.elim))
  refine s_if_eq (off := 17) (tgt := 21) (by decide +kernel) (by decide) (fun c5 => ?_) (fun c5 => ?_)
  · have h6 := h3.1 c5
    exact h6
  · have h7 := h3.2 c5
    refine s_iload_n (i := 2) (by decide +kernel) rfl ?_
    refine s_iconst (n := 0) (by decide +kernel) ?_
    refine s_bipush (n := 60) (by decide +kernel) (by decide +kernel) ?_
    refine s_callS (Fc := fM_in) (index := 60) (as := [aI p2, aI 0, aI 60]) (rest := []) rfl h7 ⟨g_650, hM_in, g_6, by decide, (show (parseMethodDescriptor fM_in.1.desc).map (fun d => d.parameters.length) = some 3 from by decide +kernel), by decide, by decide, by decide, by decide⟩ g_651 rfl rfl (Nat.le_of_ble_eq_true rfl) (by decide +kernel) (q_cI (fun b9 M8 h10 => ?_) (fun _ _ q => q.elim))
    refine s_if_eq (off := 7) (tgt := 21) (by decide +kernel) (by decide) (fun c12 => ?_) (fun c12 => ?_)
    · have h13 := h10.1 c12
      exact h13
    · have h14 := h10.2 c12
      refine s_iconst (n := 1) (by decide +kernel) ?_
      refine s_goto (off := 4) (tgt := 22) (by decide +kernel) (by decide) ?_
      exact h14

set_option maxRecDepth 20000 in
theorem BM_addVehicle_21 {K : KX} {Q : Res → AG → AM → Prop} {M : AM} (x1 x2 : Int)
    (h : WM K fM_addVehicle (EM K fM_addVehicle 80 Q) 22 [some (aR 63), some (aI x1), some (aI x2), none, none] [aI 0] GG M 0 0) :
    WM K fM_addVehicle (EM K fM_addVehicle 80 Q) 21 [some (aR 63), some (aI x1), some (aI x2), none, none] [] GG M 0 0 := by
  refine s_iconst (n := 0) (by decide +kernel) ?_
  exact h

set_option maxRecDepth 20000 in
theorem BM_addVehicle_22 {K : KX} {Q : Res → AG → AM → Prop} {M : AM} (x1 x2 y0 : Int)
    (h : (wr y0 = 0 → WM K fM_addVehicle (EM K fM_addVehicle 80 Q) 49 [some (aR 63), some (aI x1), some (aI x2), some (aI y0), none] [] GG M 0 0) ∧ (¬ wr y0 = 0 → (wr 6 ≤ wr (M 63 5) → WM K fM_addVehicle (EM K fM_addVehicle 80 Q) 49 [some (aR 63), some (aI x1), some (aI x2), some (aI y0), none] [] GG M 0 0) ∧ (¬ wr 6 ≤ wr (M 63 5) → MetA K fM_find [aR 63, aI x1] GG M (cI GG (fun b8 M7 => (wr b8 = wr ((-1)) → WM K fM_addVehicle (EM K fM_addVehicle 80 Q) 50 [some (aR 63), some (aI x1), some (aI x2), some (aI y0), none] [aI 1] GG M7 0 0) ∧ (¬ wr b8 = wr ((-1)) → WM K fM_addVehicle (EM K fM_addVehicle 80 Q) 49 [some (aR 63), some (aI x1), some (aI x2), some (aI y0), none] [] GG M7 0 0)) noX)))) :
    WM K fM_addVehicle (EM K fM_addVehicle 80 Q) 22 [some (aR 63), some (aI x1), some (aI x2), none, none] [aI y0] GG M 0 0 := by
  refine s_istore_n (i := 3) (by decide +kernel) (by decide) ?_
  refine s_iload_n (i := 3) (by decide +kernel) rfl ?_
  refine s_if_eq (off := 25) (tgt := 49) (by decide +kernel) (by decide) (fun c1 => ?_) (fun c1 => ?_)
  · have h2 := h.1 c1
    exact h2
  · have h3 := h.2 c1
    refine s_aload_n (i := 0) (by decide +kernel) rfl ?_
    refine s_getI (ci := 5) (k := 5) (index := 64) ck5 rfl (by decide) rfl (by decide +kernel) g_586 ?_
    refine s_bipush (n := 6) (by decide +kernel) (by decide +kernel) ?_
    refine s_icmp_ge (off := 16) (tgt := 49) (by decide +kernel) (by decide) (fun c4 => ?_) (fun c4 => ?_)
    · have h5 := h3.1 c4
      exact h5
    · have h6 := h3.2 c4
      refine s_aload_n (i := 0) (by decide +kernel) rfl ?_
      refine s_iload_n (i := 1) (by decide +kernel) rfl ?_
      refine s_callV (Fc := fM_find) (index := 96) (ci := 5) (as := [aI x1]) (rest := []) rfl h6 rfl rfl (by decide) rfl ⟨g_673, hM_find, g_6, by decide, (show (parseMethodDescriptor fM_find.1.desc).map (fun d => d.parameters.length) = some 1 from by decide +kernel), by decide, by decide, by decide, by decide⟩ g_675 gp_20 rfl rfl (Nat.le_of_ble_eq_true rfl) (by decide +kernel) (q_cI (fun b8 M7 h9 => ?_) (fun _ _ q => q.elim))
      refine s_iconst (n := -1) (by decide +kernel) ?_
      refine s_icmp_ne (off := 7) (tgt := 49) (by decide +kernel) (by decide) (fun c11 => ?_) (fun c11 => ?_)
      · have h12 := h9.2 c11
        exact h12
      · have h13 := h9.1 c11
        refine s_iconst (n := 1) (by decide +kernel) ?_
        refine s_goto (off := 4) (tgt := 50) (by decide +kernel) (by decide) ?_
        exact h13

set_option maxRecDepth 20000 in
theorem BM_addVehicle_49 {K : KX} {Q : Res → AG → AM → Prop} {M : AM} (x1 x2 x3 : Int)
    (h : WM K fM_addVehicle (EM K fM_addVehicle 80 Q) 50 [some (aR 63), some (aI x1), some (aI x2), some (aI x3), none] [aI 0] GG M 0 0) :
    WM K fM_addVehicle (EM K fM_addVehicle 80 Q) 49 [some (aR 63), some (aI x1), some (aI x2), some (aI x3), none] [] GG M 0 0 := by
  refine s_iconst (n := 0) (by decide +kernel) ?_
  exact h

set_option maxRecDepth 20000 in
theorem BM_addVehicle_50 {K : KX} {Q : Res → AG → AM → Prop} {M : AM} (x1 x2 x3 y0 : Int)
    (h : (wr y0 = 0 → WM K fM_addVehicle (EM K fM_addVehicle 80 Q) 103 [some (aR 63), some (aI x1), some (aI x2), some (aI x3), some (aI y0)] [] GG M 0 0) ∧ (¬ wr y0 = 0 → ∃ j4 : Nat, wr (M 63 5) = (j4 : Int) ∧ j4 < 6 ∧ (∃ j8 : Nat, wr ((um M 67 j4 x1) 63 5) = (j8 : Int) ∧ j8 < 6 ∧ (MetA K fM_isSafe [aR 63] GG (um (um (um M 67 j4 x1) 69 j8 0) 63 5 (((um (um M 67 j4 x1) 69 j8 0) 63 5) + 1)) (cI GG (fun b13 M12 => WM K fM_addVehicle (EM K fM_addVehicle 80 Q) 103 [some (aR 63), some (aI x1), some (aI x2), some (aI x3), some (aI b13)] [] GG (um M12 63 5 ((M12 63 5) - 1)) 0 0) noX))))) :
    WM K fM_addVehicle (EM K fM_addVehicle 80 Q) 50 [some (aR 63), some (aI x1), some (aI x2), some (aI x3), none] [aI y0] GG M 0 0 := by
  refine s_istore (i := 4) (by decide +kernel) (by decide) ?_
  refine s_iload (i := 4) (by decide +kernel) rfl ?_
  refine s_if_eq (off := 49) (tgt := 103) (by decide +kernel) (by decide) (fun c1 => ?_) (fun c1 => ?_)
  · have h2 := h.1 c1
    exact h2
  · have h3 := h.2 c1
    refine s_aload_n (i := 0) (by decide +kernel) rfl ?_
    refine s_getR (ci := 5) (k := 6) (index := 20) (r2 := 67) ck5 rfl rfl (by decide) rfl (by decide +kernel) g_587 ?_
    refine s_aload_n (i := 0) (by decide +kernel) rfl ?_
    refine s_getI (ci := 5) (k := 5) (index := 64) ck5 rfl (by decide) rfl (by decide +kernel) g_586 ?_
    refine s_iload_n (i := 1) (by decide +kernel) rfl ?_
    obtain ⟨j4, e5, e6, h7⟩ := h3
    refine s_iast (j := j4) rfl e5 e6 (by decide +kernel) ?_
    refine s_aload_n (i := 0) (by decide +kernel) rfl ?_
    refine s_getR (ci := 5) (k := 8) (index := 26) (r2 := 69) ck5 rfl rfl (by decide) rfl (by decide +kernel) g_589 ?_
    refine s_aload_n (i := 0) (by decide +kernel) rfl ?_
    refine s_getI (ci := 5) (k := 5) (index := 64) ck5 rfl (by decide) rfl (by decide +kernel) g_586 ?_
    refine s_iconst (n := 0) (by decide +kernel) ?_
    obtain ⟨j8, e9, e10, h11⟩ := h7
    refine s_iast (j := j8) rfl e9 e10 (by decide +kernel) ?_
    refine s_aload_n (i := 0) (by decide +kernel) rfl ?_
    refine s_dupR (by decide +kernel) ?_
    refine s_getI (ci := 5) (k := 5) (index := 64) ck5 rfl (by decide) rfl (by decide +kernel) g_586 ?_
    refine s_iconst (n := 1) (by decide +kernel) ?_
    refine s_iadd (by decide +kernel) ?_
    refine s_putI (ci := 5) (k := 5) (index := 64) ck5 rfl (by decide) rfl rfl rfl (by decide +kernel) g_586 ?_
    refine s_aload_n (i := 0) (by decide +kernel) rfl ?_
    refine s_callV (Fc := fM_isSafe) (index := 100) (ci := 5) (as := []) (rest := []) rfl h11 rfl rfl (by decide) rfl ⟨g_677, hM_isSafe, g_6, by decide, (show (parseMethodDescriptor fM_isSafe.1.desc).map (fun d => d.parameters.length) = some 0 from by decide +kernel), by decide, by decide, by decide, by decide⟩ g_679 gp_21 rfl rfl (Nat.le_of_ble_eq_true rfl) (by decide +kernel) (q_cI (fun b13 M12 h14 => ?_) (fun _ _ q => q.elim))
    refine s_istore (i := 4) (by decide +kernel) (by decide) ?_
    refine s_aload_n (i := 0) (by decide +kernel) rfl ?_
    refine s_dupR (by decide +kernel) ?_
    refine s_getI (ci := 5) (k := 5) (index := 64) ck5 rfl (by decide) rfl (by decide +kernel) g_586 ?_
    refine s_iconst (n := 1) (by decide +kernel) ?_
    refine s_isub (by decide +kernel) ?_
    refine s_putI (ci := 5) (k := 5) (index := 64) ck5 rfl (by decide) rfl rfl rfl (by decide +kernel) g_586 ?_
    exact h14

set_option maxRecDepth 20000 in
theorem BM_addVehicle_103 {K : KX} {Q : Res → AG → AM → Prop} {M : AM} (x1 x2 x3 x4 : Int)
    (h : (wr x3 = 0 → WM K fM_addVehicle (EM K fM_addVehicle 80 Q) 122 [some (aR 63), some (aI x1), some (aI x2), some (aI x3), some (aI x4)] [aI 1, aR 63] GG M 0 0) ∧ (¬ wr x3 = 0 → (wr x4 = 0 → WM K fM_addVehicle (EM K fM_addVehicle 80 Q) 122 [some (aR 63), some (aI x1), some (aI x2), some (aI x3), some (aI x4)] [aI 2, aR 63] GG M 0 0) ∧ (¬ wr x4 = 0 → WM K fM_addVehicle (EM K fM_addVehicle 80 Q) 122 [some (aR 63), some (aI x1), some (aI x2), some (aI x3), some (aI x4)] [aI 0, aR 63] GG M 0 0))) :
    WM K fM_addVehicle (EM K fM_addVehicle 80 Q) 103 [some (aR 63), some (aI x1), some (aI x2), some (aI x3), some (aI x4)] [] GG M 0 0 := by
  refine s_aload_n (i := 0) (by decide +kernel) rfl ?_
  refine s_iload_n (i := 3) (by decide +kernel) rfl ?_
  refine s_if_ne (off := 7) (tgt := 112) (by decide +kernel) (by decide) (fun c1 => ?_) (fun c1 => ?_)
  · have h2 := h.2 c1
    refine s_iload (i := 4) (by decide +kernel) rfl ?_
    refine s_if_eq (off := 7) (tgt := 121) (by decide +kernel) (by decide) (fun c3 => ?_) (fun c3 => ?_)
    · have h4 := h2.1 c3
      refine s_iconst (n := 2) (by decide +kernel) ?_
      exact h4
    · have h5 := h2.2 c3
      refine s_iconst (n := 0) (by decide +kernel) ?_
      refine s_goto (off := 4) (tgt := 122) (by decide +kernel) (by decide) ?_
      exact h5
  · have h6 := h.1 c1
    refine s_iconst (n := 1) (by decide +kernel) ?_
    refine s_goto (off := 13) (tgt := 122) (by decide +kernel) (by decide) ?_
    exact h6

set_option maxRecDepth 20000 in
theorem BM_addVehicle_122 {K : KX} {Q : Res → AG → AM → Prop} {M : AM} (x1 x2 x3 x4 y0 : Int)
    (h : MetA K fM_goesWell [aR 63, aI y0] GG M (cI GG (fun b2 M1 => (wr b2 = 0 → Q (.inl (some (aI 0))) GG M1) ∧ (¬ wr b2 = 0 → ∃ j7 : Nat, wr (M1 63 5) = (j7 : Int) ∧ j7 < 6 ∧ (∃ j11 : Nat, wr ((um M1 68 j7 x2) 63 5) = (j11 : Int) ∧ j11 < 6 ∧ (Q (.inl (some (aI (((um (um (um M1 68 j7 x2) 71 j11 0) 63 5 (((um (um M1 68 j7 x2) 71 j11 0) 63 5) + 1)) 63 5) - 1)))) GG (um (um (um M1 68 j7 x2) 71 j11 0) 63 5 (((um (um M1 68 j7 x2) 71 j11 0) 63 5) + 1)))))) noX)) :
    WM K fM_addVehicle (EM K fM_addVehicle 80 Q) 122 [some (aR 63), some (aI x1), some (aI x2), some (aI x3), some (aI x4)] [aI y0, aR 63] GG M 0 0 := by
  refine s_callV (Fc := fM_goesWell) (index := 74) (ci := 5) (as := [aI y0]) (rest := []) rfl h rfl rfl (by decide) rfl ⟨g_653, hM_goesWell, g_6, by decide, (show (parseMethodDescriptor fM_goesWell.1.desc).map (fun d => d.parameters.length) = some 1 from by decide +kernel), by decide, by decide, by decide, by decide⟩ g_655 gp_18 rfl rfl (Nat.le_of_ble_eq_true rfl) (by decide +kernel) (q_cI (fun b2 M1 h3 => ?_) (fun _ _ q => q.elim))
  refine s_if_ne (off := 5) (tgt := 130) (by decide +kernel) (by decide) (fun c5 => ?_) (fun c5 => ?_)
  · have h6 := h3.2 c5
    refine s_aload_n (i := 0) (by decide +kernel) rfl ?_
    refine s_getR (ci := 5) (k := 7) (index := 23) (r2 := 68) ck5 rfl rfl (by decide) rfl (by decide +kernel) g_588 ?_
    refine s_aload_n (i := 0) (by decide +kernel) rfl ?_
    refine s_getI (ci := 5) (k := 5) (index := 64) ck5 rfl (by decide) rfl (by decide +kernel) g_586 ?_
    refine s_iload_n (i := 2) (by decide +kernel) rfl ?_
    obtain ⟨j7, e8, e9, h10⟩ := h6
    refine s_iast (j := j7) rfl e8 e9 (by decide +kernel) ?_
    refine s_aload_n (i := 0) (by decide +kernel) rfl ?_
    refine s_getR (ci := 5) (k := 10) (index := 32) (r2 := 71) ck5 rfl rfl (by decide) rfl (by decide +kernel) g_591 ?_
    refine s_aload_n (i := 0) (by decide +kernel) rfl ?_
    refine s_getI (ci := 5) (k := 5) (index := 64) ck5 rfl (by decide) rfl (by decide +kernel) g_586 ?_
    refine s_iconst (n := 0) (by decide +kernel) ?_
    obtain ⟨j11, e12, e13, h14⟩ := h10
    refine s_iast (j := j11) rfl e12 e13 (by decide +kernel) ?_
    refine s_aload_n (i := 0) (by decide +kernel) rfl ?_
    refine s_dupR (by decide +kernel) ?_
    refine s_getI (ci := 5) (k := 5) (index := 64) ck5 rfl (by decide) rfl (by decide +kernel) g_586 ?_
    refine s_iconst (n := 1) (by decide +kernel) ?_
    refine s_iadd (by decide +kernel) ?_
    refine s_putI (ci := 5) (k := 5) (index := 64) ck5 rfl (by decide) rfl rfl rfl (by decide +kernel) g_586 ?_
    refine s_aload_n (i := 0) (by decide +kernel) rfl ?_
    refine s_getI (ci := 5) (k := 5) (index := 64) ck5 rfl (by decide) rfl (by decide +kernel) g_586 ?_
    refine s_iconst (n := 1) (by decide +kernel) ?_
    refine s_isub (by decide +kernel) ?_
    exact s_iret rfl (by decide +kernel) (by decide) (by decide) h14
  · have h15 := h3.1 c5
    refine s_iconst (n := 0) (by decide +kernel) ?_
    exact s_iret rfl (by decide +kernel) (by decide) (by decide) h15

set_option maxRecDepth 20000 in
theorem BM_findWay_0 {K : KX} {Q : Res → AG → AM → Prop} {M : AM} (p1 p2 : Int)
    (h : MetA K fM_measure [aR 63, aI p2] GG M (cV GG (fun M1 => ∃ j5 : Nat, wr p1 = (j5 : Int) ∧ j5 < 6 ∧ (∃ j9 : Nat, wr (M1 67 j5) = (j9 : Int) ∧ j9 < 20 ∧ (WM K fM_findWay (EM K fM_findWay 80 Q) 23 [some (aR 63), some (aI p1), some (aI p2), some (aI (M1 67 j5)), some (aI (M1 66 j9)), some (aI 0), none, none] [] GG M1 0 0))) noX)) :
    WM K fM_findWay (EM K fM_findWay 80 Q) 0 [some (aR 63), some (aI p1), some (aI p2), none, none, none, none, none] [] GG M 0 0 := by
  refine s_aload_n (i := 0) (by decide +kernel) rfl ?_
  refine s_iload_n (i := 2) (by decide +kernel) rfl ?_
  refine s_callV (Fc := fM_measure) (index := 80) (ci := 5) (as := [aI p2]) (rest := []) rfl h rfl rfl (by decide) rfl ⟨g_665, hM_measure, g_6, by decide, (show (parseMethodDescriptor fM_measure.1.desc).map (fun d => d.parameters.length) = some 1 from by decide +kernel), by decide, by decide, by decide, by decide⟩ g_667 gp_19 rfl rfl (Nat.le_of_ble_eq_true rfl) (by decide +kernel) (q_cV (fun M1 h3 => ?_) (fun _ _ q => q.elim))
  refine s_aload_n (i := 0) (by decide +kernel) rfl ?_
  refine s_getR (ci := 5) (k := 6) (index := 20) (r2 := 67) ck5 rfl rfl (by decide) rfl (by decide +kernel) g_587 ?_
  refine s_iload_n (i := 1) (by decide +kernel) rfl ?_
  obtain ⟨j5, e6, e7, h8⟩ := h3
  refine s_iald (j := j5) rfl e6 e7 (by decide +kernel) ?_
  refine s_istore_n (i := 3) (by decide +kernel) (by decide) ?_
  refine s_aload_n (i := 0) (by decide +kernel) rfl ?_
  refine s_getR (ci := 5) (k := 4) (index := 16) (r2 := 66) ck5 rfl rfl (by decide) rfl (by decide +kernel) g_585 ?_
  refine s_iload_n (i := 3) (by decide +kernel) rfl ?_
  obtain ⟨j9, e10, e11, h12⟩ := h8
  refine s_iald (j := j9) rfl e10 e11 (by decide +kernel) ?_
  refine s_istore (i := 4) (by decide +kernel) (by decide) ?_
  refine s_iconst (n := 0) (by decide +kernel) ?_
  refine s_istore (i := 5) (by decide +kernel) (by decide) ?_
  exact h12

set_option maxRecDepth 20000 in
theorem BM_findWay_23 {K : KX} {Q : Res → AG → AM → Prop} {M : AM} (x1 x2 x3 x4 x5 : Int)
    (h : (wr x4 ≤ wr x5 → Q (.inl (some (aI x4))) GG M) ∧ (¬ wr x4 ≤ wr x5 → WM K fM_findWay (EM K fM_findWay 80 Q) 37 [some (aR 63), some (aI x1), some (aI x2), some (aI x3), some (aI x4), some (aI x5), some (aI (-1)), some (aI 19)] [] GG M 0 0)) :
    WM K fM_findWay (EM K fM_findWay 80 Q) 23 [some (aR 63), some (aI x1), some (aI x2), some (aI x3), some (aI x4), some (aI x5), none, none] [] GG M 0 0 := by
  refine s_iload (i := 5) (by decide +kernel) rfl ?_
  refine s_iload (i := 4) (by decide +kernel) rfl ?_
  refine s_icmp_ge (off := 81) (tgt := 108) (by decide +kernel) (by decide) (fun c1 => ?_) (fun c1 => ?_)
  · have h2 := h.1 c1
    refine s_iload (i := 4) (by decide +kernel) rfl ?_
    exact s_iret rfl (by decide +kernel) (by decide) (by decide) h2
  · have h3 := h.2 c1
    refine s_iconst (n := -1) (by decide +kernel) ?_
    refine s_istore (i := 6) (by decide +kernel) (by decide) ?_
    refine s_bipush (n := 19) (by decide +kernel) (by decide +kernel) ?_
    refine s_istore (i := 7) (by decide +kernel) (by decide) ?_
    exact h3

set_option maxRecDepth 20000 in
theorem BM_findWay_37 {K : KX} {Q : Res → AG → AM → Prop} {M : AM} (x1 x2 x3 x4 x5 x6 x7 : Int)
    (h : (wr x7 < 0 → ∃ j3 : Nat, wr x5 = (j3 : Int) ∧ j3 < 20 ∧ (WM K fM_findWay (EM K fM_findWay 80 Q) 23 [some (aR 63), some (aI x1), some (aI x2), some (aI x6), some (aI x4), some (aI (x5 + 1)), none, none] [] GG (um M 78 j3 x6) 0 0)) ∧ (¬ wr x7 < 0 → ∃ j8 : Nat, wr ((20 * x3) + x7) = (j8 : Int) ∧ j8 < 400 ∧ ((wr (M 64 j8) = 0 → WM K fM_findWay (EM K fM_findWay 80 Q) 37 [some (aR 63), some (aI x1), some (aI x2), some (aI x3), some (aI x4), some (aI x5), some (aI x6), some (aI (x7 + (-1)))] [] GG M 0 0) ∧ (¬ wr (M 64 j8) = 0 → ∃ j15 : Nat, wr x7 = (j15 : Int) ∧ j15 < 20 ∧ (∃ j19 : Nat, wr x3 = (j19 : Int) ∧ j19 < 20 ∧ ((wr (M 66 j15) = wr ((M 66 j19) - 1) → WM K fM_findWay (EM K fM_findWay 80 Q) 37 [some (aR 63), some (aI x1), some (aI x2), some (aI x3), some (aI x4), some (aI x5), some (aI x7), some (aI (x7 + (-1)))] [] GG M 0 0) ∧ (¬ wr (M 66 j15) = wr ((M 66 j19) - 1) → WM K fM_findWay (EM K fM_findWay 80 Q) 37 [some (aR 63), some (aI x1), some (aI x2), some (aI x3), some (aI x4), some (aI x5), some (aI x6), some (aI (x7 + (-1)))] [] GG M 0 0))))))) :
    WM K fM_findWay (EM K fM_findWay 80 Q) 37 [some (aR 63), some (aI x1), some (aI x2), some (aI x3), some (aI x4), some (aI x5), some (aI x6), some (aI x7)] [] GG M 0 0 := by
  refine s_iload (i := 7) (by decide +kernel) rfl ?_
  refine s_if_lt (off := 51) (tgt := 90) (by decide +kernel) (by decide) (fun c1 => ?_) (fun c1 => ?_)
  · have h2 := h.1 c1
    refine s_aload_n (i := 0) (by decide +kernel) rfl ?_
    refine s_getR (ci := 5) (k := 18) (index := 53) (r2 := 78) ck5 rfl rfl (by decide) rfl (by decide +kernel) g_599 ?_
    refine s_iload (i := 5) (by decide +kernel) rfl ?_
    refine s_iload (i := 6) (by decide +kernel) rfl ?_
    obtain ⟨j3, e4, e5, h6⟩ := h2
    refine s_iast (j := j3) rfl e4 e5 (by decide +kernel) ?_
    refine s_iload (i := 6) (by decide +kernel) rfl ?_
    refine s_istore_n (i := 3) (by decide +kernel) (by decide) ?_
    refine s_iinc (i := 5) (n := 1) (by decide +kernel) rfl (by decide) ?_
    refine s_goto (off := -82) (tgt := 23) (by decide +kernel) (by decide) ?_
    exact s_loc (L' := [some (aR 63), some (aI x1), some (aI x2), some (aI x6), some (aI x4), some (aI (x5 + 1)), none, none]) (ll_s (ll_s (ll_s (ll_s (ll_s (ll_s (ll_n (ll_n ll_nil)))))))) h6
  · have h7 := h.2 c1
    refine s_aload_n (i := 0) (by decide +kernel) rfl ?_
    refine s_getR (ci := 5) (k := 1) (index := 7) (r2 := 64) ck5 rfl rfl (by decide) rfl (by decide +kernel) g_582 ?_
    refine s_bipush (n := 20) (by decide +kernel) (by decide +kernel) ?_
    refine s_iload_n (i := 3) (by decide +kernel) rfl ?_
    refine s_imul (by decide +kernel) ?_
    refine s_iload (i := 7) (by decide +kernel) rfl ?_
    refine s_iadd (by decide +kernel) ?_
    obtain ⟨j8, e9, e10, h11⟩ := h7
    refine s_zald (j := j8) rfl e9 e10 (by decide +kernel) ?_
    refine s_if_eq (off := 26) (tgt := 80) (by decide +kernel) (by decide) (fun c12 => ?_) (fun c12 => ?_)
    · have h13 := h11.1 c12
      refine s_iload (i := 6) (by decide +kernel) rfl ?_
      refine s_istore (i := 6) (by decide +kernel) (by decide) ?_
      refine s_iinc (i := 7) (n := -1) (by decide +kernel) rfl (by decide) ?_
      refine s_goto (off := -50) (tgt := 37) (by decide +kernel) (by decide) ?_
      exact h13
    · have h14 := h11.2 c12
      refine s_aload_n (i := 0) (by decide +kernel) rfl ?_
      refine s_getR (ci := 5) (k := 4) (index := 16) (r2 := 66) ck5 rfl rfl (by decide) rfl (by decide +kernel) g_585 ?_
      refine s_iload (i := 7) (by decide +kernel) rfl ?_
      obtain ⟨j15, e16, e17, h18⟩ := h14
      refine s_iald (j := j15) rfl e16 e17 (by decide +kernel) ?_
      refine s_aload_n (i := 0) (by decide +kernel) rfl ?_
      refine s_getR (ci := 5) (k := 4) (index := 16) (r2 := 66) ck5 rfl rfl (by decide) rfl (by decide +kernel) g_585 ?_
      refine s_iload_n (i := 3) (by decide +kernel) rfl ?_
      obtain ⟨j19, e20, e21, h22⟩ := h18
      refine s_iald (j := j19) rfl e20 e21 (by decide +kernel) ?_
      refine s_iconst (n := 1) (by decide +kernel) ?_
      refine s_isub (by decide +kernel) ?_
      refine s_icmp_ne (off := 8) (tgt := 80) (by decide +kernel) (by decide) (fun c23 => ?_) (fun c23 => ?_)
      · have h24 := h22.2 c23
        refine s_iload (i := 6) (by decide +kernel) rfl ?_
        refine s_istore (i := 6) (by decide +kernel) (by decide) ?_
        refine s_iinc (i := 7) (n := -1) (by decide +kernel) rfl (by decide) ?_
        refine s_goto (off := -50) (tgt := 37) (by decide +kernel) (by decide) ?_
        exact h24
      · have h25 := h22.1 c23
        refine s_iload (i := 7) (by decide +kernel) rfl ?_
        refine s_goto (off := 5) (tgt := 82) (by decide +kernel) (by decide) ?_
        refine s_istore (i := 6) (by decide +kernel) (by decide) ?_
        refine s_iinc (i := 7) (n := -1) (by decide +kernel) rfl (by decide) ?_
        refine s_goto (off := -50) (tgt := 37) (by decide +kernel) (by decide) ?_
        exact h25

set_option maxRecDepth 20000 in
theorem BM_setRoute_0 {K : KX} {Q : Res → AG → AM → Prop} {M : AM} (p1 p2 : Int)
    (h : WM K fM_setRoute (EM K fM_setRoute 80 Q) 2 [some (aR 63), some (aI p1), some (aI p2), some (aI 0)] [] GG M 0 0) :
    WM K fM_setRoute (EM K fM_setRoute 80 Q) 0 [some (aR 63), some (aI p1), some (aI p2), none] [] GG M 0 0 := by
  refine s_iconst (n := 0) (by decide +kernel) ?_
  refine s_istore_n (i := 3) (by decide +kernel) (by decide) ?_
  exact h

set_option maxRecDepth 20000 in
theorem BM_setRoute_2 {K : KX} {Q : Res → AG → AM → Prop} {M : AM} (x1 x2 x3 : Int)
    (h : (wr x2 ≤ wr x3 → ∃ j3 : Nat, wr x1 = (j3 : Int) ∧ j3 < 6 ∧ (Q (.inl none) GG (um M 69 j3 x2))) ∧ (¬ wr x2 ≤ wr x3 → ∃ j8 : Nat, wr x3 = (j8 : Int) ∧ j8 < 20 ∧ (∃ j12 : Nat, wr ((20 * x1) + x3) = (j12 : Int) ∧ j12 < 120 ∧ (WM K fM_setRoute (EM K fM_setRoute 80 Q) 2 [some (aR 63), some (aI x1), some (aI x2), some (aI (x3 + 1))] [] GG (um M 70 j12 (M 78 j8)) 0 0)))) :
    WM K fM_setRoute (EM K fM_setRoute 80 Q) 2 [some (aR 63), some (aI x1), some (aI x2), some (aI x3)] [] GG M 0 0 := by
  refine s_iload_n (i := 3) (by decide +kernel) rfl ?_
  refine s_iload_n (i := 2) (by decide +kernel) rfl ?_
  refine s_icmp_ge (off := 26) (tgt := 30) (by decide +kernel) (by decide) (fun c1 => ?_) (fun c1 => ?_)
  · have h2 := h.1 c1
    refine s_aload_n (i := 0) (by decide +kernel) rfl ?_
    refine s_getR (ci := 5) (k := 8) (index := 26) (r2 := 69) ck5 rfl rfl (by decide) rfl (by decide +kernel) g_589 ?_
    refine s_iload_n (i := 1) (by decide +kernel) rfl ?_
    refine s_iload_n (i := 2) (by decide +kernel) rfl ?_
    obtain ⟨j3, e4, e5, h6⟩ := h2
    refine s_iast (j := j3) rfl e4 e5 (by decide +kernel) ?_
    exact s_vret rfl (by decide +kernel) (by decide) (by decide) h6
  · have h7 := h.2 c1
    refine s_aload_n (i := 0) (by decide +kernel) rfl ?_
    refine s_getR (ci := 5) (k := 9) (index := 29) (r2 := 70) ck5 rfl rfl (by decide) rfl (by decide +kernel) g_590 ?_
    refine s_bipush (n := 20) (by decide +kernel) (by decide +kernel) ?_
    refine s_iload_n (i := 1) (by decide +kernel) rfl ?_
    refine s_imul (by decide +kernel) ?_
    refine s_iload_n (i := 3) (by decide +kernel) rfl ?_
    refine s_iadd (by decide +kernel) ?_
    refine s_aload_n (i := 0) (by decide +kernel) rfl ?_
    refine s_getR (ci := 5) (k := 18) (index := 53) (r2 := 78) ck5 rfl rfl (by decide) rfl (by decide +kernel) g_599 ?_
    refine s_iload_n (i := 3) (by decide +kernel) rfl ?_
    obtain ⟨j8, e9, e10, h11⟩ := h7
    refine s_iald (j := j8) rfl e9 e10 (by decide +kernel) ?_
    obtain ⟨j12, e13, e14, h15⟩ := h11
    refine s_iast (j := j12) rfl e13 e14 (by decide +kernel) ?_
    refine s_iinc (i := 3) (n := 1) (by decide +kernel) rfl (by decide) ?_
    refine s_goto (off := -25) (tgt := 2) (by decide +kernel) (by decide) ?_
    exact h15

set_option maxRecDepth 20000 in
theorem BM_couldGo_0 {K : KX} {Q : Res → AG → AM → Prop} {M : AM} (p1 p2 : Int)
    (h : ∃ j1 : Nat, wr p1 = (j1 : Int) ∧ j1 < 6 ∧ ((0 < wr (M 69 j1) → Q (.inl (some (aI (-1)))) GG M) ∧ (¬ 0 < wr (M 69 j1) → ∃ j8 : Nat, wr p1 = (j8 : Int) ∧ j8 < 6 ∧ ((wr (M 67 j8) = wr p2 → Q (.inl (some (aI (-1)))) GG M) ∧ (¬ wr (M 67 j8) = wr p2 → MetA K fM_findWay [aR 63, aI p1, aI p2] GG M (cI GG (fun b15 M14 => (wr b15 = wr ((-1)) → Q (.inl (some (aI (-1)))) GG M14) ∧ (¬ wr b15 = wr ((-1)) → ∃ j21 : Nat, wr p1 = (j21 : Int) ∧ j21 < 6 ∧ (MetA K fM_toCharger [aR 63, aI p2] GG M14 (cI GG (fun b26 M25 => (wr (b15 + b26) ≤ wr (M14 68 j21) → MetA K fM_setRoute [aR 63, aI p1, aI b15] GG M25 (cV GG (fun M31 => MetA K fM_isSafe [aR 63] GG M31 (cI GG (fun b36 M35 => ∃ j39 : Nat, wr p1 = (j39 : Int) ∧ j39 < 6 ∧ ((wr b36 = 0 → Q (.inl (some (aI (-1)))) GG (um M35 69 j39 0)) ∧ (¬ wr b36 = 0 → Q (.inl (some (aI b15))) GG (um M35 69 j39 0)))) noX)) noX)) ∧ (¬ wr (b15 + b26) ≤ wr (M14 68 j21) → Q (.inl (some (aI (-1)))) GG M25)) noX)))) noX)))))) :
    WM K fM_couldGo (EM K fM_couldGo 80 Q) 0 [some (aR 63), some (aI p1), some (aI p2), none, none] [] GG M 0 0 := by
  refine s_aload_n (i := 0) (by decide +kernel) rfl ?_
  refine s_getR (ci := 5) (k := 8) (index := 26) (r2 := 69) ck5 rfl rfl (by decide) rfl (by decide +kernel) g_589 ?_
  refine s_iload_n (i := 1) (by decide +kernel) rfl ?_
  obtain ⟨j1, e2, e3, h4⟩ := h
  refine s_iald (j := j1) rfl e2 e3 (by decide +kernel) ?_
  refine s_if_gt (off := 13) (tgt := 19) (by decide +kernel) (by decide) (fun c5 => ?_) (fun c5 => ?_)
  · have h6 := h4.1 c5
    refine s_iconst (n := -1) (by decide +kernel) ?_
    exact s_iret rfl (by decide +kernel) (by decide) (by decide) h6
  · have h7 := h4.2 c5
    refine s_aload_n (i := 0) (by decide +kernel) rfl ?_
    refine s_getR (ci := 5) (k := 6) (index := 20) (r2 := 67) ck5 rfl rfl (by decide) rfl (by decide +kernel) g_587 ?_
    refine s_iload_n (i := 1) (by decide +kernel) rfl ?_
    obtain ⟨j8, e9, e10, h11⟩ := h7
    refine s_iald (j := j8) rfl e9 e10 (by decide +kernel) ?_
    refine s_iload_n (i := 2) (by decide +kernel) rfl ?_
    refine s_icmp_ne (off := 5) (tgt := 21) (by decide +kernel) (by decide) (fun c12 => ?_) (fun c12 => ?_)
    · have h13 := h11.2 c12
      refine s_aload_n (i := 0) (by decide +kernel) rfl ?_
      refine s_iload_n (i := 1) (by decide +kernel) rfl ?_
      refine s_iload_n (i := 2) (by decide +kernel) rfl ?_
      refine s_callV (Fc := fM_findWay) (index := 104) (ci := 5) (as := [aI p1, aI p2]) (rest := []) rfl h13 rfl rfl (by decide) rfl ⟨g_705, hM_findWay, g_6, by decide, (show (parseMethodDescriptor fM_findWay.1.desc).map (fun d => d.parameters.length) = some 2 from by decide +kernel), by decide, by decide, by decide, by decide⟩ g_707 gp_27 rfl rfl (Nat.le_of_ble_eq_true rfl) (by decide +kernel) (q_cI (fun b15 M14 h16 => ?_) (fun _ _ q => q.elim))
      refine s_istore_n (i := 3) (by decide +kernel) (by decide) ?_
      refine s_iload_n (i := 3) (by decide +kernel) rfl ?_
      refine s_iconst (n := -1) (by decide +kernel) ?_
      refine s_icmp_eq (off := 19) (tgt := 49) (by decide +kernel) (by decide) (fun c18 => ?_) (fun c18 => ?_)
      · have h19 := h16.1 c18
        refine s_iconst (n := -1) (by decide +kernel) ?_
        exact s_iret rfl (by decide +kernel) (by decide) (by decide) h19
      · have h20 := h16.2 c18
        refine s_aload_n (i := 0) (by decide +kernel) rfl ?_
        refine s_getR (ci := 5) (k := 7) (index := 23) (r2 := 68) ck5 rfl rfl (by decide) rfl (by decide +kernel) g_588 ?_
        refine s_iload_n (i := 1) (by decide +kernel) rfl ?_
        obtain ⟨j21, e22, e23, h24⟩ := h20
        refine s_iald (j := j21) rfl e22 e23 (by decide +kernel) ?_
        refine s_iload_n (i := 3) (by decide +kernel) rfl ?_
        refine s_aload_n (i := 0) (by decide +kernel) rfl ?_
        refine s_iload_n (i := 2) (by decide +kernel) rfl ?_
        refine s_callV (Fc := fM_toCharger) (index := 107) (ci := 5) (as := [aI p2]) (rest := [aI b15, aI (M14 68 j21)]) rfl h24 rfl rfl (by decide) rfl ⟨g_709, hM_toCharger, g_6, by decide, (show (parseMethodDescriptor fM_toCharger.1.desc).map (fun d => d.parameters.length) = some 1 from by decide +kernel), by decide, by decide, by decide, by decide⟩ g_711 gp_28 rfl rfl (Nat.le_of_ble_eq_true rfl) (by decide +kernel) (q_cI (fun b26 M25 h27 => ?_) (fun _ _ q => q.elim))
        refine s_iadd (by decide +kernel) ?_
        refine s_icmp_ge (off := 5) (tgt := 51) (by decide +kernel) (by decide) (fun c29 => ?_) (fun c29 => ?_)
        · have h30 := h27.1 c29
          refine s_aload_n (i := 0) (by decide +kernel) rfl ?_
          refine s_iload_n (i := 1) (by decide +kernel) rfl ?_
          refine s_iload_n (i := 3) (by decide +kernel) rfl ?_
          refine s_callV (Fc := fM_setRoute) (index := 110) (ci := 5) (as := [aI p1, aI b15]) (rest := []) rfl h30 rfl rfl (by decide) rfl ⟨g_713, hM_setRoute, g_6, by decide, (show (parseMethodDescriptor fM_setRoute.1.desc).map (fun d => d.parameters.length) = some 2 from by decide +kernel), by decide, by decide, by decide, by decide⟩ g_715 gp_29 rfl rfl (Nat.le_of_ble_eq_true rfl) (by decide +kernel) (q_cV (fun M31 h33 => ?_) (fun _ _ q => q.elim))
          refine s_aload_n (i := 0) (by decide +kernel) rfl ?_
          refine s_callV (Fc := fM_isSafe) (index := 100) (ci := 5) (as := []) (rest := []) rfl h33 rfl rfl (by decide) rfl ⟨g_677, hM_isSafe, g_6, by decide, (show (parseMethodDescriptor fM_isSafe.1.desc).map (fun d => d.parameters.length) = some 0 from by decide +kernel), by decide, by decide, by decide, by decide⟩ g_679 gp_21 rfl rfl (Nat.le_of_ble_eq_true rfl) (by decide +kernel) (q_cI (fun b36 M35 h37 => ?_) (fun _ _ q => q.elim))
          refine s_istore (i := 4) (by decide +kernel) (by decide) ?_
          refine s_aload_n (i := 0) (by decide +kernel) rfl ?_
          refine s_getR (ci := 5) (k := 8) (index := 26) (r2 := 69) ck5 rfl rfl (by decide) rfl (by decide +kernel) g_589 ?_
          refine s_iload_n (i := 1) (by decide +kernel) rfl ?_
          refine s_iconst (n := 0) (by decide +kernel) ?_
          obtain ⟨j39, e40, e41, h42⟩ := h37
          refine s_iast (j := j39) rfl e40 e41 (by decide +kernel) ?_
          refine s_iload (i := 4) (by decide +kernel) rfl ?_
          refine s_if_eq (off := 7) (tgt := 79) (by decide +kernel) (by decide) (fun c43 => ?_) (fun c43 => ?_)
          · have h44 := h42.1 c43
            refine s_iconst (n := -1) (by decide +kernel) ?_
            exact s_iret rfl (by decide +kernel) (by decide) (by decide) h44
          · have h45 := h42.2 c43
            refine s_iload_n (i := 3) (by decide +kernel) rfl ?_
            refine s_goto (off := 4) (tgt := 80) (by decide +kernel) (by decide) ?_
            exact s_iret rfl (by decide +kernel) (by decide) (by decide) h45
        · have h46 := h27.2 c29
          refine s_iconst (n := -1) (by decide +kernel) ?_
          exact s_iret rfl (by decide +kernel) (by decide) (by decide) h46
    · have h47 := h11.1 c12
      refine s_iconst (n := -1) (by decide +kernel) ?_
      exact s_iret rfl (by decide +kernel) (by decide) (by decide) h47

set_option maxRecDepth 20000 in
theorem BM_assign_0 {K : KX} {Q : Res → AG → AM → Prop} {M : AM} (p1 p2 : Int)
    (h : MetA K fM_isVehicle [aR 63, aI p1] GG M (cI GG (fun b2 M1 => (wr b2 = 0 → WM K fM_assign (EM K fM_assign 80 Q) 24 [some (aR 63), some (aI p1), some (aI p2), none] [] GG M1 0 0) ∧ (¬ wr b2 = 0 → MetA K fM_isZone [aI p2] GG M1 (cI GG (fun b9 M8 => (wr b9 = 0 → WM K fM_assign (EM K fM_assign 80 Q) 24 [some (aR 63), some (aI p1), some (aI p2), none] [] GG M8 0 0) ∧ (¬ wr b9 = 0 → MetA K fM_couldGo [aR 63, aI p1, aI p2] GG M8 (cI GG (fun b16 M15 => WM K fM_assign (EM K fM_assign 80 Q) 25 [some (aR 63), some (aI p1), some (aI p2), none] [aI b16] GG M15 0 0) noX))) noX))) noX)) :
    WM K fM_assign (EM K fM_assign 80 Q) 0 [some (aR 63), some (aI p1), some (aI p2), none] [] GG M 0 0 := by
  refine s_aload_n (i := 0) (by decide +kernel) rfl ?_
  refine s_iload_n (i := 1) (by decide +kernel) rfl ?_
  refine s_callV (Fc := fM_isVehicle) (index := 114) (ci := 5) (as := [aI p1]) (rest := []) rfl h rfl rfl (by decide) rfl ⟨g_697, hM_isVehicle, g_6, by decide, (show (parseMethodDescriptor fM_isVehicle.1.desc).map (fun d => d.parameters.length) = some 1 from by decide +kernel), by decide, by decide, by decide, by decide⟩ g_699 gp_25 rfl rfl (Nat.le_of_ble_eq_true rfl) (by decide +kernel) (q_cI (fun b2 M1 h3 => ?_) (fun _ _ q => q.elim))
  refine s_if_eq (off := 19) (tgt := 24) (by decide +kernel) (by decide) (fun c5 => ?_) (fun c5 => ?_)
  · have h6 := h3.1 c5
    exact h6
  · have h7 := h3.2 c5
    refine s_iload_n (i := 2) (by decide +kernel) rfl ?_
    refine s_callS (Fc := fM_isZone) (index := 70) (as := [aI p2]) (rest := []) rfl h7 ⟨g_647, hM_isZone, g_6, by decide, (show (parseMethodDescriptor fM_isZone.1.desc).map (fun d => d.parameters.length) = some 1 from by decide +kernel), by decide, by decide, by decide, by decide⟩ g_648 rfl rfl (Nat.le_of_ble_eq_true rfl) (by decide +kernel) (q_cI (fun b9 M8 h10 => ?_) (fun _ _ q => q.elim))
    refine s_if_eq (off := 12) (tgt := 24) (by decide +kernel) (by decide) (fun c12 => ?_) (fun c12 => ?_)
    · have h13 := h10.1 c12
      exact h13
    · have h14 := h10.2 c12
      refine s_aload_n (i := 0) (by decide +kernel) rfl ?_
      refine s_iload_n (i := 1) (by decide +kernel) rfl ?_
      refine s_iload_n (i := 2) (by decide +kernel) rfl ?_
      refine s_callV (Fc := fM_couldGo) (index := 117) (ci := 5) (as := [aI p1, aI p2]) (rest := []) rfl h14 rfl rfl (by decide) rfl ⟨g_701, hM_couldGo, g_6, by decide, (show (parseMethodDescriptor fM_couldGo.1.desc).map (fun d => d.parameters.length) = some 2 from by decide +kernel), by decide, by decide, by decide, by decide⟩ g_703 gp_26 rfl rfl (Nat.le_of_ble_eq_true rfl) (by decide +kernel) (q_cI (fun b16 M15 h17 => ?_) (fun _ _ q => q.elim))
      refine s_goto (off := 4) (tgt := 25) (by decide +kernel) (by decide) ?_
      exact h17

set_option maxRecDepth 20000 in
theorem BM_assign_24 {K : KX} {Q : Res → AG → AM → Prop} {M : AM} (x1 x2 : Int)
    (h : WM K fM_assign (EM K fM_assign 80 Q) 25 [some (aR 63), some (aI x1), some (aI x2), none] [aI (-1)] GG M 0 0) :
    WM K fM_assign (EM K fM_assign 80 Q) 24 [some (aR 63), some (aI x1), some (aI x2), none] [] GG M 0 0 := by
  refine s_iconst (n := -1) (by decide +kernel) ?_
  exact h

set_option maxRecDepth 20000 in
theorem BM_assign_25 {K : KX} {Q : Res → AG → AM → Prop} {M : AM} (x1 x2 y0 : Int)
    (h : MetA K fM_isVehicle [aR 63, aI x1] GG M (cI GG (fun b2 M1 => (wr b2 = 0 → WM K fM_assign (EM K fM_assign 80 Q) 60 [some (aR 63), some (aI x1), some (aI x2), some (aI y0)] [aI 1, aR 63] GG M1 0 0) ∧ (¬ wr b2 = 0 → MetA K fM_isZone [aI x2] GG M1 (cI GG (fun b8 M7 => (wr b8 = 0 → WM K fM_assign (EM K fM_assign 80 Q) 60 [some (aR 63), some (aI x1), some (aI x2), some (aI y0)] [aI 2, aR 63] GG M7 0 0) ∧ (¬ wr b8 = 0 → (wr y0 = wr ((-1)) → WM K fM_assign (EM K fM_assign 80 Q) 60 [some (aR 63), some (aI x1), some (aI x2), some (aI y0)] [aI 3, aR 63] GG M7 0 0) ∧ (¬ wr y0 = wr ((-1)) → WM K fM_assign (EM K fM_assign 80 Q) 60 [some (aR 63), some (aI x1), some (aI x2), some (aI y0)] [aI 0, aR 63] GG M7 0 0))) noX))) noX)) :
    WM K fM_assign (EM K fM_assign 80 Q) 25 [some (aR 63), some (aI x1), some (aI x2), none] [aI y0] GG M 0 0 := by
  refine s_istore_n (i := 3) (by decide +kernel) (by decide) ?_
  refine s_aload_n (i := 0) (by decide +kernel) rfl ?_
  refine s_aload_n (i := 0) (by decide +kernel) rfl ?_
  refine s_iload_n (i := 1) (by decide +kernel) rfl ?_
  refine s_callV (Fc := fM_isVehicle) (index := 114) (ci := 5) (as := [aI x1]) (rest := [aR 63]) rfl h rfl rfl (by decide) rfl ⟨g_697, hM_isVehicle, g_6, by decide, (show (parseMethodDescriptor fM_isVehicle.1.desc).map (fun d => d.parameters.length) = some 1 from by decide +kernel), by decide, by decide, by decide, by decide⟩ g_699 gp_25 rfl rfl (Nat.le_of_ble_eq_true rfl) (by decide +kernel) (q_cI (fun b2 M1 h3 => ?_) (fun _ _ q => q.elim))
  refine s_if_ne (off := 7) (tgt := 39) (by decide +kernel) (by decide) (fun c5 => ?_) (fun c5 => ?_)
  · have h6 := h3.2 c5
    refine s_iload_n (i := 2) (by decide +kernel) rfl ?_
    refine s_callS (Fc := fM_isZone) (index := 70) (as := [aI x2]) (rest := [aR 63]) rfl h6 ⟨g_647, hM_isZone, g_6, by decide, (show (parseMethodDescriptor fM_isZone.1.desc).map (fun d => d.parameters.length) = some 1 from by decide +kernel), by decide, by decide, by decide, by decide⟩ g_648 rfl rfl (Nat.le_of_ble_eq_true rfl) (by decide +kernel) (q_cI (fun b8 M7 h9 => ?_) (fun _ _ q => q.elim))
    refine s_if_ne (off := 7) (tgt := 50) (by decide +kernel) (by decide) (fun c11 => ?_) (fun c11 => ?_)
    · have h12 := h9.2 c11
      refine s_iload_n (i := 3) (by decide +kernel) rfl ?_
      refine s_iconst (n := -1) (by decide +kernel) ?_
      refine s_icmp_ne (off := 7) (tgt := 59) (by decide +kernel) (by decide) (fun c13 => ?_) (fun c13 => ?_)
      · have h14 := h12.2 c13
        refine s_iconst (n := 0) (by decide +kernel) ?_
        exact h14
      · have h15 := h12.1 c13
        refine s_iconst (n := 3) (by decide +kernel) ?_
        refine s_goto (off := 4) (tgt := 60) (by decide +kernel) (by decide) ?_
        exact h15
    · have h16 := h9.1 c11
      refine s_iconst (n := 2) (by decide +kernel) ?_
      refine s_goto (off := 13) (tgt := 60) (by decide +kernel) (by decide) ?_
      exact h16
  · have h17 := h3.1 c5
    refine s_iconst (n := 1) (by decide +kernel) ?_
    refine s_goto (off := 24) (tgt := 60) (by decide +kernel) (by decide) ?_
    exact h17

set_option maxRecDepth 20000 in
theorem BM_assign_60 {K : KX} {Q : Res → AG → AM → Prop} {M : AM} (x1 x2 x3 y0 : Int)
    (h : MetA K fM_goesWell [aR 63, aI y0] GG M (cI GG (fun b2 M1 => (wr b2 = 0 → Q (.inl (some (aI 0))) GG M1) ∧ (¬ wr b2 = 0 → ∃ j7 : Nat, wr x1 = (j7 : Int) ∧ j7 < 6 ∧ (Q (.inl (some (aI x3))) GG (um M1 69 j7 x3)))) noX)) :
    WM K fM_assign (EM K fM_assign 80 Q) 60 [some (aR 63), some (aI x1), some (aI x2), some (aI x3)] [aI y0, aR 63] GG M 0 0 := by
  refine s_callV (Fc := fM_goesWell) (index := 74) (ci := 5) (as := [aI y0]) (rest := []) rfl h rfl rfl (by decide) rfl ⟨g_653, hM_goesWell, g_6, by decide, (show (parseMethodDescriptor fM_goesWell.1.desc).map (fun d => d.parameters.length) = some 1 from by decide +kernel), by decide, by decide, by decide, by decide⟩ g_655 gp_18 rfl rfl (Nat.le_of_ble_eq_true rfl) (by decide +kernel) (q_cI (fun b2 M1 h3 => ?_) (fun _ _ q => q.elim))
  refine s_if_ne (off := 5) (tgt := 68) (by decide +kernel) (by decide) (fun c5 => ?_) (fun c5 => ?_)
  · have h6 := h3.2 c5
    refine s_aload_n (i := 0) (by decide +kernel) rfl ?_
    refine s_getR (ci := 5) (k := 8) (index := 26) (r2 := 69) ck5 rfl rfl (by decide) rfl (by decide +kernel) g_589 ?_
    refine s_iload_n (i := 1) (by decide +kernel) rfl ?_
    refine s_iload_n (i := 3) (by decide +kernel) rfl ?_
    obtain ⟨j7, e8, e9, h10⟩ := h6
    refine s_iast (j := j7) rfl e8 e9 (by decide +kernel) ?_
    refine s_iload_n (i := 3) (by decide +kernel) rfl ?_
    exact s_iret rfl (by decide +kernel) (by decide) (by decide) h10
  · have h11 := h3.1 c5
    refine s_iconst (n := 0) (by decide +kernel) ?_
    exact s_iret rfl (by decide +kernel) (by decide) (by decide) h11

set_option maxRecDepth 20000 in
theorem BM_cancel_0 {K : KX} {Q : Res → AG → AM → Prop} {M : AM} (p1 : Int)
    (h : MetA K fM_isVehicle [aR 63, aI p1] GG M (cI GG (fun b2 M1 => (wr b2 = 0 → WM K fM_cancel (EM K fM_cancel 80 Q) 18 [some (aR 63), some (aI p1), none, none, none] [aI 0] GG M1 0 0) ∧ (¬ wr b2 = 0 → ∃ j8 : Nat, wr p1 = (j8 : Int) ∧ j8 < 6 ∧ (WM K fM_cancel (EM K fM_cancel 80 Q) 18 [some (aR 63), some (aI p1), none, none, none] [aI (M1 69 j8)] GG M1 0 0))) noX)) :
    WM K fM_cancel (EM K fM_cancel 80 Q) 0 [some (aR 63), some (aI p1), none, none, none] [] GG M 0 0 := by
  refine s_aload_n (i := 0) (by decide +kernel) rfl ?_
  refine s_iload_n (i := 1) (by decide +kernel) rfl ?_
  refine s_callV (Fc := fM_isVehicle) (index := 114) (ci := 5) (as := [aI p1]) (rest := []) rfl h rfl rfl (by decide) rfl ⟨g_697, hM_isVehicle, g_6, by decide, (show (parseMethodDescriptor fM_isVehicle.1.desc).map (fun d => d.parameters.length) = some 1 from by decide +kernel), by decide, by decide, by decide, by decide⟩ g_699 gp_25 rfl rfl (Nat.le_of_ble_eq_true rfl) (by decide +kernel) (q_cI (fun b2 M1 h3 => ?_) (fun _ _ q => q.elim))
  refine s_if_eq (off := 12) (tgt := 17) (by decide +kernel) (by decide) (fun c5 => ?_) (fun c5 => ?_)
  · have h6 := h3.1 c5
    refine s_iconst (n := 0) (by decide +kernel) ?_
    exact h6
  · have h7 := h3.2 c5
    refine s_aload_n (i := 0) (by decide +kernel) rfl ?_
    refine s_getR (ci := 5) (k := 8) (index := 26) (r2 := 69) ck5 rfl rfl (by decide) rfl (by decide +kernel) g_589 ?_
    refine s_iload_n (i := 1) (by decide +kernel) rfl ?_
    obtain ⟨j8, e9, e10, h11⟩ := h7
    refine s_iald (j := j8) rfl e9 e10 (by decide +kernel) ?_
    refine s_goto (off := 4) (tgt := 18) (by decide +kernel) (by decide) ?_
    exact h11

set_option maxRecDepth 20000 in
theorem BM_cancel_18 {K : KX} {Q : Res → AG → AM → Prop} {M : AM} (x1 y0 : Int)
    (h : (wr y0 ≤ 0 → WM K fM_cancel (EM K fM_cancel 80 Q) 28 [some (aR 63), some (aI x1), some (aI y0), none, none] [aI 0] GG M 0 0) ∧ (¬ wr y0 ≤ 0 → WM K fM_cancel (EM K fM_cancel 80 Q) 28 [some (aR 63), some (aI x1), some (aI y0), none, none] [aI 1] GG M 0 0)) :
    WM K fM_cancel (EM K fM_cancel 80 Q) 18 [some (aR 63), some (aI x1), none, none, none] [aI y0] GG M 0 0 := by
  refine s_istore_n (i := 2) (by decide +kernel) (by decide) ?_
  refine s_iload_n (i := 2) (by decide +kernel) rfl ?_
  refine s_if_le (off := 7) (tgt := 27) (by decide +kernel) (by decide) (fun c1 => ?_) (fun c1 => ?_)
  · have h2 := h.1 c1
    refine s_iconst (n := 0) (by decide +kernel) ?_
    exact h2
  · have h3 := h.2 c1
    refine s_iconst (n := 1) (by decide +kernel) ?_
    refine s_goto (off := 4) (tgt := 28) (by decide +kernel) (by decide) ?_
    exact h3

set_option maxRecDepth 20000 in
theorem BM_cancel_28 {K : KX} {Q : Res → AG → AM → Prop} {M : AM} (x1 x2 y0 : Int)
    (h : (wr y0 = 0 → WM K fM_cancel (EM K fM_cancel 80 Q) 52 [some (aR 63), some (aI x1), some (aI x2), some (aI y0), none] [] GG M 0 0) ∧ (¬ wr y0 = 0 → ∃ j4 : Nat, wr x1 = (j4 : Int) ∧ j4 < 6 ∧ (MetA K fM_isSafe [aR 63] GG (um M 69 j4 0) (cI GG (fun b9 M8 => ∃ j12 : Nat, wr x1 = (j12 : Int) ∧ j12 < 6 ∧ (WM K fM_cancel (EM K fM_cancel 80 Q) 52 [some (aR 63), some (aI x1), some (aI x2), some (aI b9), none] [] GG (um M8 69 j12 x2) 0 0)) noX)))) :
    WM K fM_cancel (EM K fM_cancel 80 Q) 28 [some (aR 63), some (aI x1), some (aI x2), none, none] [aI y0] GG M 0 0 := by
  refine s_istore_n (i := 3) (by decide +kernel) (by decide) ?_
  refine s_iload_n (i := 3) (by decide +kernel) rfl ?_
  refine s_if_eq (off := 22) (tgt := 52) (by decide +kernel) (by decide) (fun c1 => ?_) (fun c1 => ?_)
  · have h2 := h.1 c1
    exact h2
  · have h3 := h.2 c1
    refine s_aload_n (i := 0) (by decide +kernel) rfl ?_
    refine s_getR (ci := 5) (k := 8) (index := 26) (r2 := 69) ck5 rfl rfl (by decide) rfl (by decide +kernel) g_589 ?_
    refine s_iload_n (i := 1) (by decide +kernel) rfl ?_
    refine s_iconst (n := 0) (by decide +kernel) ?_
    obtain ⟨j4, e5, e6, h7⟩ := h3
    refine s_iast (j := j4) rfl e5 e6 (by decide +kernel) ?_
    refine s_aload_n (i := 0) (by decide +kernel) rfl ?_
    refine s_callV (Fc := fM_isSafe) (index := 100) (ci := 5) (as := []) (rest := []) rfl h7 rfl rfl (by decide) rfl ⟨g_677, hM_isSafe, g_6, by decide, (show (parseMethodDescriptor fM_isSafe.1.desc).map (fun d => d.parameters.length) = some 0 from by decide +kernel), by decide, by decide, by decide, by decide⟩ g_679 gp_21 rfl rfl (Nat.le_of_ble_eq_true rfl) (by decide +kernel) (q_cI (fun b9 M8 h10 => ?_) (fun _ _ q => q.elim))
    refine s_istore_n (i := 3) (by decide +kernel) (by decide) ?_
    refine s_aload_n (i := 0) (by decide +kernel) rfl ?_
    refine s_getR (ci := 5) (k := 8) (index := 26) (r2 := 69) ck5 rfl rfl (by decide) rfl (by decide +kernel) g_589 ?_
    refine s_iload_n (i := 1) (by decide +kernel) rfl ?_
    refine s_iload_n (i := 2) (by decide +kernel) rfl ?_
    obtain ⟨j12, e13, e14, h15⟩ := h10
    refine s_iast (j := j12) rfl e13 e14 (by decide +kernel) ?_
    exact h15

set_option maxRecDepth 20000 in
theorem BM_cancel_52 {K : KX} {Q : Res → AG → AM → Prop} {M : AM} (x1 x2 x3 : Int)
    (h : MetA K fM_isVehicle [aR 63, aI x1] GG M (cI GG (fun b2 M1 => (wr b2 = 0 → WM K fM_cancel (EM K fM_cancel 80 Q) 74 [some (aR 63), some (aI x1), some (aI x2), some (aI x3), none] [aI 1, aR 63] GG M1 0 0) ∧ (¬ wr b2 = 0 → (wr x3 = 0 → WM K fM_cancel (EM K fM_cancel 80 Q) 74 [some (aR 63), some (aI x1), some (aI x2), some (aI x3), none] [aI 2, aR 63] GG M1 0 0) ∧ (¬ wr x3 = 0 → WM K fM_cancel (EM K fM_cancel 80 Q) 74 [some (aR 63), some (aI x1), some (aI x2), some (aI x3), none] [aI 0, aR 63] GG M1 0 0))) noX)) :
    WM K fM_cancel (EM K fM_cancel 80 Q) 52 [some (aR 63), some (aI x1), some (aI x2), some (aI x3), none] [] GG M 0 0 := by
  refine s_aload_n (i := 0) (by decide +kernel) rfl ?_
  refine s_aload_n (i := 0) (by decide +kernel) rfl ?_
  refine s_iload_n (i := 1) (by decide +kernel) rfl ?_
  refine s_callV (Fc := fM_isVehicle) (index := 114) (ci := 5) (as := [aI x1]) (rest := [aR 63]) rfl h rfl rfl (by decide) rfl ⟨g_697, hM_isVehicle, g_6, by decide, (show (parseMethodDescriptor fM_isVehicle.1.desc).map (fun d => d.parameters.length) = some 1 from by decide +kernel), by decide, by decide, by decide, by decide⟩ g_699 gp_25 rfl rfl (Nat.le_of_ble_eq_true rfl) (by decide +kernel) (q_cI (fun b2 M1 h3 => ?_) (fun _ _ q => q.elim))
  refine s_if_ne (off := 7) (tgt := 65) (by decide +kernel) (by decide) (fun c5 => ?_) (fun c5 => ?_)
  · have h6 := h3.2 c5
    refine s_iload_n (i := 3) (by decide +kernel) rfl ?_
    refine s_if_eq (off := 7) (tgt := 73) (by decide +kernel) (by decide) (fun c7 => ?_) (fun c7 => ?_)
    · have h8 := h6.1 c7
      refine s_iconst (n := 2) (by decide +kernel) ?_
      exact h8
    · have h9 := h6.2 c7
      refine s_iconst (n := 0) (by decide +kernel) ?_
      refine s_goto (off := 4) (tgt := 74) (by decide +kernel) (by decide) ?_
      exact h9
  · have h10 := h3.1 c5
    refine s_iconst (n := 1) (by decide +kernel) ?_
    refine s_goto (off := 12) (tgt := 74) (by decide +kernel) (by decide) ?_
    exact h10

set_option maxRecDepth 20000 in
theorem BM_cancel_74 {K : KX} {Q : Res → AG → AM → Prop} {M : AM} (x1 x2 x3 y0 : Int)
    (h : MetA K fM_goesWell [aR 63, aI y0] GG M (cI GG (fun b2 M1 => (wr b2 = 0 → Q (.inl (some (aI 0))) GG M1) ∧ (¬ wr b2 = 0 → ∃ j7 : Nat, wr x1 = (j7 : Int) ∧ j7 < 6 ∧ (∃ j11 : Nat, wr x1 = (j11 : Int) ∧ j11 < 6 ∧ ((wr ((um M1 69 j7 0) 72 j11) = wr ((-1)) → WM K fM_cancel (EM K fM_cancel 80 Q) 126 [some (aR 63), some (aI x1), some (aI x2), some (aI x3), some (aI ((um M1 69 j7 0) 72 j11))] [] GG (um M1 69 j7 0) 0 0) ∧ (¬ wr ((um M1 69 j7 0) 72 j11) = wr ((-1)) → ∃ j18 : Nat, wr ((um M1 69 j7 0) 72 j11) = (j18 : Int) ∧ j18 < 20 ∧ (∃ j22 : Nat, wr ((um M1 69 j7 0) 72 j11) = (j22 : Int) ∧ j22 < 20 ∧ (∃ j26 : Nat, wr x1 = (j26 : Int) ∧ j26 < 6 ∧ (WM K fM_cancel (EM K fM_cancel 80 Q) 126 [some (aR 63), some (aI x1), some (aI x2), some (aI x3), some (aI ((um M1 69 j7 0) 72 j11))] [] GG (um (um (um (um M1 69 j7 0) 74 j18 0) 75 j22 ((-1))) 72 j26 ((-1))) 0 0)))))))) noX)) :
    WM K fM_cancel (EM K fM_cancel 80 Q) 74 [some (aR 63), some (aI x1), some (aI x2), some (aI x3), none] [aI y0, aR 63] GG M 0 0 := by
  refine s_callV (Fc := fM_goesWell) (index := 74) (ci := 5) (as := [aI y0]) (rest := []) rfl h rfl rfl (by decide) rfl ⟨g_653, hM_goesWell, g_6, by decide, (show (parseMethodDescriptor fM_goesWell.1.desc).map (fun d => d.parameters.length) = some 1 from by decide +kernel), by decide, by decide, by decide, by decide⟩ g_655 gp_18 rfl rfl (Nat.le_of_ble_eq_true rfl) (by decide +kernel) (q_cI (fun b2 M1 h3 => ?_) (fun _ _ q => q.elim))
  refine s_if_ne (off := 5) (tgt := 82) (by decide +kernel) (by decide) (fun c5 => ?_) (fun c5 => ?_)
  · have h6 := h3.2 c5
    refine s_aload_n (i := 0) (by decide +kernel) rfl ?_
    refine s_getR (ci := 5) (k := 8) (index := 26) (r2 := 69) ck5 rfl rfl (by decide) rfl (by decide +kernel) g_589 ?_
    refine s_iload_n (i := 1) (by decide +kernel) rfl ?_
    refine s_iconst (n := 0) (by decide +kernel) ?_
    obtain ⟨j7, e8, e9, h10⟩ := h6
    refine s_iast (j := j7) rfl e8 e9 (by decide +kernel) ?_
    refine s_aload_n (i := 0) (by decide +kernel) rfl ?_
    refine s_getR (ci := 5) (k := 11) (index := 35) (r2 := 72) ck5 rfl rfl (by decide) rfl (by decide +kernel) g_592 ?_
    refine s_iload_n (i := 1) (by decide +kernel) rfl ?_
    obtain ⟨j11, e12, e13, h14⟩ := h10
    refine s_iald (j := j11) rfl e12 e13 (by decide +kernel) ?_
    refine s_istore (i := 4) (by decide +kernel) (by decide) ?_
    refine s_iload (i := 4) (by decide +kernel) rfl ?_
    refine s_iconst (n := -1) (by decide +kernel) ?_
    refine s_icmp_eq (off := 26) (tgt := 126) (by decide +kernel) (by decide) (fun c15 => ?_) (fun c15 => ?_)
    · have h16 := h14.1 c15
      exact h16
    · have h17 := h14.2 c15
      refine s_aload_n (i := 0) (by decide +kernel) rfl ?_
      refine s_getR (ci := 5) (k := 14) (index := 41) (r2 := 74) ck5 rfl rfl (by decide) rfl (by decide +kernel) g_595 ?_
      refine s_iload (i := 4) (by decide +kernel) rfl ?_
      refine s_iconst (n := 0) (by decide +kernel) ?_
      obtain ⟨j18, e19, e20, h21⟩ := h17
      refine s_iast (j := j18) rfl e19 e20 (by decide +kernel) ?_
      refine s_aload_n (i := 0) (by decide +kernel) rfl ?_
      refine s_getR (ci := 5) (k := 15) (index := 44) (r2 := 75) ck5 rfl rfl (by decide) rfl (by decide +kernel) g_596 ?_
      refine s_iload (i := 4) (by decide +kernel) rfl ?_
      refine s_iconst (n := -1) (by decide +kernel) ?_
      obtain ⟨j22, e23, e24, h25⟩ := h21
      refine s_iast (j := j22) rfl e23 e24 (by decide +kernel) ?_
      refine s_aload_n (i := 0) (by decide +kernel) rfl ?_
      refine s_getR (ci := 5) (k := 11) (index := 35) (r2 := 72) ck5 rfl rfl (by decide) rfl (by decide +kernel) g_592 ?_
      refine s_iload_n (i := 1) (by decide +kernel) rfl ?_
      refine s_iconst (n := -1) (by decide +kernel) ?_
      obtain ⟨j26, e27, e28, h29⟩ := h25
      refine s_iast (j := j26) rfl e27 e28 (by decide +kernel) ?_
      exact h29
  · have h30 := h3.1 c5
    refine s_iconst (n := 0) (by decide +kernel) ?_
    exact s_iret rfl (by decide +kernel) (by decide) (by decide) h30

set_option maxRecDepth 20000 in
theorem BM_cancel_126 {K : KX} {Q : Res → AG → AM → Prop} {M : AM} (x1 x2 x3 x4 : Int)
    (h : Q (.inl (some (aI x2))) GG M) :
    WM K fM_cancel (EM K fM_cancel 80 Q) 126 [some (aR 63), some (aI x1), some (aI x2), some (aI x3), some (aI x4)] [] GG M 0 0 := by
  refine s_iload_n (i := 2) (by decide +kernel) rfl ?_
  exact s_iret rfl (by decide +kernel) (by decide) (by decide) h

set_option maxRecDepth 20000 in
theorem BM_charge_0 {K : KX} {Q : Res → AG → AM → Prop} {M : AM} (p1 : Int)
    (h : MetA K fM_isVehicle [aR 63, aI p1] GG M (cI GG (fun b2 M1 => (wr b2 = 0 → WM K fM_charge (EM K fM_charge 80 Q) 35 [some (aR 63), some (aI p1), none, none] [] GG M1 0 0) ∧ (¬ wr b2 = 0 → ∃ j8 : Nat, wr p1 = (j8 : Int) ∧ j8 < 6 ∧ ((wr (M1 69 j8) = 0 → ∃ j15 : Nat, wr p1 = (j15 : Int) ∧ j15 < 6 ∧ (∃ j19 : Nat, wr (M1 67 j15) = (j19 : Int) ∧ j19 < 20 ∧ ((wr (M1 65 j19) = 0 → WM K fM_charge (EM K fM_charge 80 Q) 35 [some (aR 63), some (aI p1), none, none] [] GG M1 0 0) ∧ (¬ wr (M1 65 j19) = 0 → WM K fM_charge (EM K fM_charge 80 Q) 36 [some (aR 63), some (aI p1), none, none] [aI 1] GG M1 0 0)))) ∧ (¬ wr (M1 69 j8) = 0 → WM K fM_charge (EM K fM_charge 80 Q) 35 [some (aR 63), some (aI p1), none, none] [] GG M1 0 0)))) noX)) :
    WM K fM_charge (EM K fM_charge 80 Q) 0 [some (aR 63), some (aI p1), none, none] [] GG M 0 0 := by
  refine s_aload_n (i := 0) (by decide +kernel) rfl ?_
  refine s_iload_n (i := 1) (by decide +kernel) rfl ?_
  refine s_callV (Fc := fM_isVehicle) (index := 114) (ci := 5) (as := [aI p1]) (rest := []) rfl h rfl rfl (by decide) rfl ⟨g_697, hM_isVehicle, g_6, by decide, (show (parseMethodDescriptor fM_isVehicle.1.desc).map (fun d => d.parameters.length) = some 1 from by decide +kernel), by decide, by decide, by decide, by decide⟩ g_699 gp_25 rfl rfl (Nat.le_of_ble_eq_true rfl) (by decide +kernel) (q_cI (fun b2 M1 h3 => ?_) (fun _ _ q => q.elim))
  refine s_if_eq (off := 30) (tgt := 35) (by decide +kernel) (by decide) (fun c5 => ?_) (fun c5 => ?_)
  · have h6 := h3.1 c5
    exact h6
  · have h7 := h3.2 c5
    refine s_aload_n (i := 0) (by decide +kernel) rfl ?_
    refine s_getR (ci := 5) (k := 8) (index := 26) (r2 := 69) ck5 rfl rfl (by decide) rfl (by decide +kernel) g_589 ?_
    refine s_iload_n (i := 1) (by decide +kernel) rfl ?_
    obtain ⟨j8, e9, e10, h11⟩ := h7
    refine s_iald (j := j8) rfl e9 e10 (by decide +kernel) ?_
    refine s_if_ne (off := 21) (tgt := 35) (by decide +kernel) (by decide) (fun c12 => ?_) (fun c12 => ?_)
    · have h13 := h11.2 c12
      exact h13
    · have h14 := h11.1 c12
      refine s_aload_n (i := 0) (by decide +kernel) rfl ?_
      refine s_getR (ci := 5) (k := 3) (index := 13) (r2 := 65) ck5 rfl rfl (by decide) rfl (by decide +kernel) g_584 ?_
      refine s_aload_n (i := 0) (by decide +kernel) rfl ?_
      refine s_getR (ci := 5) (k := 6) (index := 20) (r2 := 67) ck5 rfl rfl (by decide) rfl (by decide +kernel) g_587 ?_
      refine s_iload_n (i := 1) (by decide +kernel) rfl ?_
      obtain ⟨j15, e16, e17, h18⟩ := h14
      refine s_iald (j := j15) rfl e16 e17 (by decide +kernel) ?_
      obtain ⟨j19, e20, e21, h22⟩ := h18
      refine s_zald (j := j19) rfl e20 e21 (by decide +kernel) ?_
      refine s_if_eq (off := 7) (tgt := 35) (by decide +kernel) (by decide) (fun c23 => ?_) (fun c23 => ?_)
      · have h24 := h22.1 c23
        exact h24
      · have h25 := h22.2 c23
        refine s_iconst (n := 1) (by decide +kernel) ?_
        refine s_goto (off := 4) (tgt := 36) (by decide +kernel) (by decide) ?_
        exact h25

set_option maxRecDepth 20000 in
theorem BM_charge_35 {K : KX} {Q : Res → AG → AM → Prop} {M : AM} (x1 : Int)
    (h : WM K fM_charge (EM K fM_charge 80 Q) 36 [some (aR 63), some (aI x1), none, none] [aI 0] GG M 0 0) :
    WM K fM_charge (EM K fM_charge 80 Q) 35 [some (aR 63), some (aI x1), none, none] [] GG M 0 0 := by
  refine s_iconst (n := 0) (by decide +kernel) ?_
  exact h

set_option maxRecDepth 20000 in
theorem BM_charge_36 {K : KX} {Q : Res → AG → AM → Prop} {M : AM} (x1 y0 : Int)
    (h : MetA K fM_isVehicle [aR 63, aI x1] GG M (cI GG (fun b2 M1 => (wr b2 = 0 → WM K fM_charge (EM K fM_charge 80 Q) 59 [some (aR 63), some (aI x1), some (aI y0), none] [aI 1, aR 63] GG M1 0 0) ∧ (¬ wr b2 = 0 → (wr y0 = 0 → WM K fM_charge (EM K fM_charge 80 Q) 59 [some (aR 63), some (aI x1), some (aI y0), none] [aI 2, aR 63] GG M1 0 0) ∧ (¬ wr y0 = 0 → WM K fM_charge (EM K fM_charge 80 Q) 59 [some (aR 63), some (aI x1), some (aI y0), none] [aI 0, aR 63] GG M1 0 0))) noX)) :
    WM K fM_charge (EM K fM_charge 80 Q) 36 [some (aR 63), some (aI x1), none, none] [aI y0] GG M 0 0 := by
  refine s_istore_n (i := 2) (by decide +kernel) (by decide) ?_
  refine s_aload_n (i := 0) (by decide +kernel) rfl ?_
  refine s_aload_n (i := 0) (by decide +kernel) rfl ?_
  refine s_iload_n (i := 1) (by decide +kernel) rfl ?_
  refine s_callV (Fc := fM_isVehicle) (index := 114) (ci := 5) (as := [aI x1]) (rest := [aR 63]) rfl h rfl rfl (by decide) rfl ⟨g_697, hM_isVehicle, g_6, by decide, (show (parseMethodDescriptor fM_isVehicle.1.desc).map (fun d => d.parameters.length) = some 1 from by decide +kernel), by decide, by decide, by decide, by decide⟩ g_699 gp_25 rfl rfl (Nat.le_of_ble_eq_true rfl) (by decide +kernel) (q_cI (fun b2 M1 h3 => ?_) (fun _ _ q => q.elim))
  refine s_if_ne (off := 7) (tgt := 50) (by decide +kernel) (by decide) (fun c5 => ?_) (fun c5 => ?_)
  · have h6 := h3.2 c5
    refine s_iload_n (i := 2) (by decide +kernel) rfl ?_
    refine s_if_eq (off := 7) (tgt := 58) (by decide +kernel) (by decide) (fun c7 => ?_) (fun c7 => ?_)
    · have h8 := h6.1 c7
      refine s_iconst (n := 2) (by decide +kernel) ?_
      exact h8
    · have h9 := h6.2 c7
      refine s_iconst (n := 0) (by decide +kernel) ?_
      refine s_goto (off := 4) (tgt := 59) (by decide +kernel) (by decide) ?_
      exact h9
  · have h10 := h3.1 c5
    refine s_iconst (n := 1) (by decide +kernel) ?_
    refine s_goto (off := 12) (tgt := 59) (by decide +kernel) (by decide) ?_
    exact h10

set_option maxRecDepth 20000 in
theorem BM_charge_59 {K : KX} {Q : Res → AG → AM → Prop} {M : AM} (x1 x2 y0 : Int)
    (h : MetA K fM_goesWell [aR 63, aI y0] GG M (cI GG (fun b2 M1 => (wr b2 = 0 → Q (.inl (some (aI 0))) GG M1) ∧ (¬ wr b2 = 0 → ∃ j7 : Nat, wr x1 = (j7 : Int) ∧ j7 < 6 ∧ (∃ j11 : Nat, wr x1 = (j11 : Int) ∧ j11 < 6 ∧ (Q (.inl (some (aI (60 - (M1 68 j7))))) GG (um M1 68 j11 60))))) noX)) :
    WM K fM_charge (EM K fM_charge 80 Q) 59 [some (aR 63), some (aI x1), some (aI x2), none] [aI y0, aR 63] GG M 0 0 := by
  refine s_callV (Fc := fM_goesWell) (index := 74) (ci := 5) (as := [aI y0]) (rest := []) rfl h rfl rfl (by decide) rfl ⟨g_653, hM_goesWell, g_6, by decide, (show (parseMethodDescriptor fM_goesWell.1.desc).map (fun d => d.parameters.length) = some 1 from by decide +kernel), by decide, by decide, by decide, by decide⟩ g_655 gp_18 rfl rfl (Nat.le_of_ble_eq_true rfl) (by decide +kernel) (q_cI (fun b2 M1 h3 => ?_) (fun _ _ q => q.elim))
  refine s_if_ne (off := 5) (tgt := 67) (by decide +kernel) (by decide) (fun c5 => ?_) (fun c5 => ?_)
  · have h6 := h3.2 c5
    refine s_aload_n (i := 0) (by decide +kernel) rfl ?_
    refine s_getR (ci := 5) (k := 7) (index := 23) (r2 := 68) ck5 rfl rfl (by decide) rfl (by decide +kernel) g_588 ?_
    refine s_iload_n (i := 1) (by decide +kernel) rfl ?_
    obtain ⟨j7, e8, e9, h10⟩ := h6
    refine s_iald (j := j7) rfl e8 e9 (by decide +kernel) ?_
    refine s_istore_n (i := 3) (by decide +kernel) (by decide) ?_
    refine s_aload_n (i := 0) (by decide +kernel) rfl ?_
    refine s_getR (ci := 5) (k := 7) (index := 23) (r2 := 68) ck5 rfl rfl (by decide) rfl (by decide +kernel) g_588 ?_
    refine s_iload_n (i := 1) (by decide +kernel) rfl ?_
    refine s_bipush (n := 60) (by decide +kernel) (by decide +kernel) ?_
    obtain ⟨j11, e12, e13, h14⟩ := h10
    refine s_iast (j := j11) rfl e12 e13 (by decide +kernel) ?_
    refine s_bipush (n := 60) (by decide +kernel) (by decide +kernel) ?_
    refine s_iload_n (i := 3) (by decide +kernel) rfl ?_
    refine s_isub (by decide +kernel) ?_
    exact s_iret rfl (by decide +kernel) (by decide) (by decide) h14
  · have h15 := h3.1 c5
    refine s_iconst (n := 0) (by decide +kernel) ?_
    exact s_iret rfl (by decide +kernel) (by decide) (by decide) h15

set_option maxRecDepth 20000 in
theorem BM_move_0 {K : KX} {Q : Res → AG → AM → Prop} {M : AM} (p1 : Int)
    (h : ∃ j1 : Nat, wr (20 * p1) = (j1 : Int) ∧ j1 < 120 ∧ (∃ j5 : Nat, wr p1 = (j5 : Int) ∧ j5 < 6 ∧ (∃ j9 : Nat, wr p1 = (j9 : Int) ∧ j9 < 6 ∧ (∃ j13 : Nat, wr p1 = (j13 : Int) ∧ j13 < 6 ∧ (WM K fM_move (EM K fM_move 80 Q) 27 [some (aR 63), some (aI p1), some (aI 0)] [] GG (um (um M 67 j5 (M 70 j1)) 69 j13 (((um M 67 j5 (M 70 j1)) 69 j9) - 1)) 0 0))))) :
    WM K fM_move (EM K fM_move 80 Q) 0 [some (aR 63), some (aI p1), none] [] GG M 0 0 := by
  refine s_aload_n (i := 0) (by decide +kernel) rfl ?_
  refine s_getR (ci := 5) (k := 6) (index := 20) (r2 := 67) ck5 rfl rfl (by decide) rfl (by decide +kernel) g_587 ?_
  refine s_iload_n (i := 1) (by decide +kernel) rfl ?_
  refine s_aload_n (i := 0) (by decide +kernel) rfl ?_
  refine s_getR (ci := 5) (k := 9) (index := 29) (r2 := 70) ck5 rfl rfl (by decide) rfl (by decide +kernel) g_590 ?_
  refine s_bipush (n := 20) (by decide +kernel) (by decide +kernel) ?_
  refine s_iload_n (i := 1) (by decide +kernel) rfl ?_
  refine s_imul (by decide +kernel) ?_
  obtain ⟨j1, e2, e3, h4⟩ := h
  refine s_iald (j := j1) rfl e2 e3 (by decide +kernel) ?_
  obtain ⟨j5, e6, e7, h8⟩ := h4
  refine s_iast (j := j5) rfl e6 e7 (by decide +kernel) ?_
  refine s_aload_n (i := 0) (by decide +kernel) rfl ?_
  refine s_getR (ci := 5) (k := 8) (index := 26) (r2 := 69) ck5 rfl rfl (by decide) rfl (by decide +kernel) g_589 ?_
  refine s_iload_n (i := 1) (by decide +kernel) rfl ?_
  refine s_dup2 (by decide +kernel) ?_
  obtain ⟨j9, e10, e11, h12⟩ := h8
  refine s_iald (j := j9) rfl e10 e11 (by decide +kernel) ?_
  refine s_iconst (n := 1) (by decide +kernel) ?_
  refine s_isub (by decide +kernel) ?_
  obtain ⟨j13, e14, e15, h16⟩ := h12
  refine s_iast (j := j13) rfl e14 e15 (by decide +kernel) ?_
  refine s_iconst (n := 0) (by decide +kernel) ?_
  refine s_istore_n (i := 2) (by decide +kernel) (by decide) ?_
  exact h16

set_option maxRecDepth 20000 in
theorem BM_move_27 {K : KX} {Q : Res → AG → AM → Prop} {M : AM} (x1 x2 : Int)
    (h : ∃ j1 : Nat, wr x1 = (j1 : Int) ∧ j1 < 6 ∧ ((wr (M 69 j1) ≤ wr x2 → Q (.inl none) GG M) ∧ (¬ wr (M 69 j1) ≤ wr x2 → ∃ j8 : Nat, wr (((20 * x1) + x2) + 1) = (j8 : Int) ∧ j8 < 120 ∧ (∃ j12 : Nat, wr ((20 * x1) + x2) = (j12 : Int) ∧ j12 < 120 ∧ (WM K fM_move (EM K fM_move 80 Q) 27 [some (aR 63), some (aI x1), some (aI (x2 + 1))] [] GG (um M 70 j12 (M 70 j8)) 0 0))))) :
    WM K fM_move (EM K fM_move 80 Q) 27 [some (aR 63), some (aI x1), some (aI x2)] [] GG M 0 0 := by
  refine s_iload_n (i := 2) (by decide +kernel) rfl ?_
  refine s_aload_n (i := 0) (by decide +kernel) rfl ?_
  refine s_getR (ci := 5) (k := 8) (index := 26) (r2 := 69) ck5 rfl rfl (by decide) rfl (by decide +kernel) g_589 ?_
  refine s_iload_n (i := 1) (by decide +kernel) rfl ?_
  obtain ⟨j1, e2, e3, h4⟩ := h
  refine s_iald (j := j1) rfl e2 e3 (by decide +kernel) ?_
  refine s_icmp_ge (off := 33) (tgt := 67) (by decide +kernel) (by decide) (fun c5 => ?_) (fun c5 => ?_)
  · have h6 := h4.1 c5
    exact s_vret rfl (by decide +kernel) (by decide) (by decide) h6
  · have h7 := h4.2 c5
    refine s_aload_n (i := 0) (by decide +kernel) rfl ?_
    refine s_getR (ci := 5) (k := 9) (index := 29) (r2 := 70) ck5 rfl rfl (by decide) rfl (by decide +kernel) g_590 ?_
    refine s_bipush (n := 20) (by decide +kernel) (by decide +kernel) ?_
    refine s_iload_n (i := 1) (by decide +kernel) rfl ?_
    refine s_imul (by decide +kernel) ?_
    refine s_iload_n (i := 2) (by decide +kernel) rfl ?_
    refine s_iadd (by decide +kernel) ?_
    refine s_aload_n (i := 0) (by decide +kernel) rfl ?_
    refine s_getR (ci := 5) (k := 9) (index := 29) (r2 := 70) ck5 rfl rfl (by decide) rfl (by decide +kernel) g_590 ?_
    refine s_bipush (n := 20) (by decide +kernel) (by decide +kernel) ?_
    refine s_iload_n (i := 1) (by decide +kernel) rfl ?_
    refine s_imul (by decide +kernel) ?_
    refine s_iload_n (i := 2) (by decide +kernel) rfl ?_
    refine s_iadd (by decide +kernel) ?_
    refine s_iconst (n := 1) (by decide +kernel) ?_
    refine s_iadd (by decide +kernel) ?_
    obtain ⟨j8, e9, e10, h11⟩ := h7
    refine s_iald (j := j8) rfl e9 e10 (by decide +kernel) ?_
    obtain ⟨j12, e13, e14, h15⟩ := h11
    refine s_iast (j := j12) rfl e13 e14 (by decide +kernel) ?_
    refine s_iinc (i := 2) (n := 1) (by decide +kernel) rfl (by decide) ?_
    refine s_goto (off := -37) (tgt := 27) (by decide +kernel) (by decide) ?_
    exact h15

set_option maxRecDepth 20000 in
theorem BM_moveBack_0 {K : KX} {Q : Res → AG → AM → Prop} {M : AM} (p1 p2 : Int)
    (h : ∃ j1 : Nat, wr p1 = (j1 : Int) ∧ j1 < 6 ∧ (WM K fM_moveBack (EM K fM_moveBack 80 Q) 7 [some (aR 63), some (aI p1), some (aI p2), some (aI (M 69 j1))] [] GG M 0 0)) :
    WM K fM_moveBack (EM K fM_moveBack 80 Q) 0 [some (aR 63), some (aI p1), some (aI p2), none] [] GG M 0 0 := by
  refine s_aload_n (i := 0) (by decide +kernel) rfl ?_
  refine s_getR (ci := 5) (k := 8) (index := 26) (r2 := 69) ck5 rfl rfl (by decide) rfl (by decide +kernel) g_589 ?_
  refine s_iload_n (i := 1) (by decide +kernel) rfl ?_
  obtain ⟨j1, e2, e3, h4⟩ := h
  refine s_iald (j := j1) rfl e2 e3 (by decide +kernel) ?_
  refine s_istore_n (i := 3) (by decide +kernel) (by decide) ?_
  exact h4

set_option maxRecDepth 20000 in
theorem BM_moveBack_7 {K : KX} {Q : Res → AG → AM → Prop} {M : AM} (x1 x2 x3 : Int)
    (h : (wr x3 ≤ 0 → ∃ j3 : Nat, wr x1 = (j3 : Int) ∧ j3 < 6 ∧ (∃ j7 : Nat, wr (20 * x1) = (j7 : Int) ∧ j7 < 120 ∧ (∃ j11 : Nat, wr x1 = (j11 : Int) ∧ j11 < 6 ∧ (∃ j15 : Nat, wr x1 = (j15 : Int) ∧ j15 < 6 ∧ (∃ j19 : Nat, wr x1 = (j19 : Int) ∧ j19 < 6 ∧ (Q (.inl none) GG (um (um (um M 70 j7 (M 67 j3)) 69 j15 (((um M 70 j7 (M 67 j3)) 69 j11) + 1)) 67 j19 x2))))))) ∧ (¬ wr x3 ≤ 0 → ∃ j24 : Nat, wr (((20 * x1) + x3) - 1) = (j24 : Int) ∧ j24 < 120 ∧ (∃ j28 : Nat, wr ((20 * x1) + x3) = (j28 : Int) ∧ j28 < 120 ∧ (WM K fM_moveBack (EM K fM_moveBack 80 Q) 7 [some (aR 63), some (aI x1), some (aI x2), some (aI (x3 + (-1)))] [] GG (um M 70 j28 (M 70 j24)) 0 0)))) :
    WM K fM_moveBack (EM K fM_moveBack 80 Q) 7 [some (aR 63), some (aI x1), some (aI x2), some (aI x3)] [] GG M 0 0 := by
  refine s_iload_n (i := 3) (by decide +kernel) rfl ?_
  refine s_if_le (off := 33) (tgt := 41) (by decide +kernel) (by decide) (fun c1 => ?_) (fun c1 => ?_)
  · have h2 := h.1 c1
    refine s_aload_n (i := 0) (by decide +kernel) rfl ?_
    refine s_getR (ci := 5) (k := 9) (index := 29) (r2 := 70) ck5 rfl rfl (by decide) rfl (by decide +kernel) g_590 ?_
    refine s_bipush (n := 20) (by decide +kernel) (by decide +kernel) ?_
    refine s_iload_n (i := 1) (by decide +kernel) rfl ?_
    refine s_imul (by decide +kernel) ?_
    refine s_aload_n (i := 0) (by decide +kernel) rfl ?_
    refine s_getR (ci := 5) (k := 6) (index := 20) (r2 := 67) ck5 rfl rfl (by decide) rfl (by decide +kernel) g_587 ?_
    refine s_iload_n (i := 1) (by decide +kernel) rfl ?_
    obtain ⟨j3, e4, e5, h6⟩ := h2
    refine s_iald (j := j3) rfl e4 e5 (by decide +kernel) ?_
    obtain ⟨j7, e8, e9, h10⟩ := h6
    refine s_iast (j := j7) rfl e8 e9 (by decide +kernel) ?_
    refine s_aload_n (i := 0) (by decide +kernel) rfl ?_
    refine s_getR (ci := 5) (k := 8) (index := 26) (r2 := 69) ck5 rfl rfl (by decide) rfl (by decide +kernel) g_589 ?_
    refine s_iload_n (i := 1) (by decide +kernel) rfl ?_
    refine s_dup2 (by decide +kernel) ?_
    obtain ⟨j11, e12, e13, h14⟩ := h10
    refine s_iald (j := j11) rfl e12 e13 (by decide +kernel) ?_
    refine s_iconst (n := 1) (by decide +kernel) ?_
    refine s_iadd (by decide +kernel) ?_
    obtain ⟨j15, e16, e17, h18⟩ := h14
    refine s_iast (j := j15) rfl e16 e17 (by decide +kernel) ?_
    refine s_aload_n (i := 0) (by decide +kernel) rfl ?_
    refine s_getR (ci := 5) (k := 6) (index := 20) (r2 := 67) ck5 rfl rfl (by decide) rfl (by decide +kernel) g_587 ?_
    refine s_iload_n (i := 1) (by decide +kernel) rfl ?_
    refine s_iload_n (i := 2) (by decide +kernel) rfl ?_
    obtain ⟨j19, e20, e21, h22⟩ := h18
    refine s_iast (j := j19) rfl e20 e21 (by decide +kernel) ?_
    exact s_vret rfl (by decide +kernel) (by decide) (by decide) h22
  · have h23 := h.2 c1
    refine s_aload_n (i := 0) (by decide +kernel) rfl ?_
    refine s_getR (ci := 5) (k := 9) (index := 29) (r2 := 70) ck5 rfl rfl (by decide) rfl (by decide +kernel) g_590 ?_
    refine s_bipush (n := 20) (by decide +kernel) (by decide +kernel) ?_
    refine s_iload_n (i := 1) (by decide +kernel) rfl ?_
    refine s_imul (by decide +kernel) ?_
    refine s_iload_n (i := 3) (by decide +kernel) rfl ?_
    refine s_iadd (by decide +kernel) ?_
    refine s_aload_n (i := 0) (by decide +kernel) rfl ?_
    refine s_getR (ci := 5) (k := 9) (index := 29) (r2 := 70) ck5 rfl rfl (by decide) rfl (by decide +kernel) g_590 ?_
    refine s_bipush (n := 20) (by decide +kernel) (by decide +kernel) ?_
    refine s_iload_n (i := 1) (by decide +kernel) rfl ?_
    refine s_imul (by decide +kernel) ?_
    refine s_iload_n (i := 3) (by decide +kernel) rfl ?_
    refine s_iadd (by decide +kernel) ?_
    refine s_iconst (n := 1) (by decide +kernel) ?_
    refine s_isub (by decide +kernel) ?_
    obtain ⟨j24, e25, e26, h27⟩ := h23
    refine s_iald (j := j24) rfl e25 e26 (by decide +kernel) ?_
    obtain ⟨j28, e29, e30, h31⟩ := h27
    refine s_iast (j := j28) rfl e29 e30 (by decide +kernel) ?_
    refine s_iinc (i := 3) (n := -1) (by decide +kernel) rfl (by decide) ?_
    refine s_goto (off := -31) (tgt := 7) (by decide +kernel) (by decide) ?_
    exact h31

set_option maxRecDepth 20000 in
theorem BM_mayStep_0 {K : KX} {Q : Res → AG → AM → Prop} {M : AM} (p1 : Int)
    (h : ∃ j1 : Nat, wr p1 = (j1 : Int) ∧ j1 < 6 ∧ ((wr (M 69 j1) = 0 → Q (.inl (some (aI 0))) GG M) ∧ (¬ wr (M 69 j1) = 0 → ∃ j8 : Nat, wr (20 * p1) = (j8 : Int) ∧ j8 < 120 ∧ (MetA K fM_find [aR 63, aI (M 70 j8)] GG M (cI GG (fun b13 M12 => (wr b13 = wr ((-1)) → ∃ j18 : Nat, wr p1 = (j18 : Int) ∧ j18 < 6 ∧ (MetA K fM_move [aR 63, aI p1] GG M12 (cV GG (fun M22 => MetA K fM_isSafe [aR 63] GG M22 (cI GG (fun b27 M26 => MetA K fM_moveBack [aR 63, aI p1, aI (M12 67 j18)] GG M26 (cV GG (fun M30 => ((b27 : Int) = 0 ∨ (b27 : Int) = 1) ∧ Q (.inl (some (aI b27))) GG M30) noX)) noX)) noX))) ∧ (¬ wr b13 = wr ((-1)) → Q (.inl (some (aI 0))) GG M12)) noX))))) :
    WM K fM_mayStep (EM K fM_mayStep 80 Q) 0 [some (aR 63), some (aI p1), none, none] [] GG M 0 0 := by
  refine s_aload_n (i := 0) (by decide +kernel) rfl ?_
  refine s_getR (ci := 5) (k := 8) (index := 26) (r2 := 69) ck5 rfl rfl (by decide) rfl (by decide +kernel) g_589 ?_
  refine s_iload_n (i := 1) (by decide +kernel) rfl ?_
  obtain ⟨j1, e2, e3, h4⟩ := h
  refine s_iald (j := j1) rfl e2 e3 (by decide +kernel) ?_
  refine s_if_eq (off := 20) (tgt := 26) (by decide +kernel) (by decide) (fun c5 => ?_) (fun c5 => ?_)
  · have h6 := h4.1 c5
    refine s_iconst (n := 0) (by decide +kernel) ?_
    exact s_zret (Or.inl rfl) rfl (by decide +kernel) (by decide) (by decide) h6
  · have h7 := h4.2 c5
    refine s_aload_n (i := 0) (by decide +kernel) rfl ?_
    refine s_aload_n (i := 0) (by decide +kernel) rfl ?_
    refine s_getR (ci := 5) (k := 9) (index := 29) (r2 := 70) ck5 rfl rfl (by decide) rfl (by decide +kernel) g_590 ?_
    refine s_bipush (n := 20) (by decide +kernel) (by decide +kernel) ?_
    refine s_iload_n (i := 1) (by decide +kernel) rfl ?_
    refine s_imul (by decide +kernel) ?_
    obtain ⟨j8, e9, e10, h11⟩ := h7
    refine s_iald (j := j8) rfl e9 e10 (by decide +kernel) ?_
    refine s_callV (Fc := fM_find) (index := 96) (ci := 5) (as := [aI (M 70 j8)]) (rest := []) rfl h11 rfl rfl (by decide) rfl ⟨g_673, hM_find, g_6, by decide, (show (parseMethodDescriptor fM_find.1.desc).map (fun d => d.parameters.length) = some 1 from by decide +kernel), by decide, by decide, by decide, by decide⟩ g_675 gp_20 rfl rfl (Nat.le_of_ble_eq_true rfl) (by decide +kernel) (q_cI (fun b13 M12 h14 => ?_) (fun _ _ q => q.elim))
    refine s_iconst (n := -1) (by decide +kernel) ?_
    refine s_icmp_eq (off := 5) (tgt := 28) (by decide +kernel) (by decide) (fun c16 => ?_) (fun c16 => ?_)
    · have h17 := h14.1 c16
      refine s_aload_n (i := 0) (by decide +kernel) rfl ?_
      refine s_getR (ci := 5) (k := 6) (index := 20) (r2 := 67) ck5 rfl rfl (by decide) rfl (by decide +kernel) g_587 ?_
      refine s_iload_n (i := 1) (by decide +kernel) rfl ?_
      obtain ⟨j18, e19, e20, h21⟩ := h17
      refine s_iald (j := j18) rfl e19 e20 (by decide +kernel) ?_
      refine s_istore_n (i := 2) (by decide +kernel) (by decide) ?_
      refine s_aload_n (i := 0) (by decide +kernel) rfl ?_
      refine s_iload_n (i := 1) (by decide +kernel) rfl ?_
      refine s_callV (Fc := fM_move) (index := 120) (ci := 5) (as := [aI p1]) (rest := []) rfl h21 rfl rfl (by decide) rfl ⟨g_733, hM_move, g_6, by decide, (show (parseMethodDescriptor fM_move.1.desc).map (fun d => d.parameters.length) = some 1 from by decide +kernel), by decide, by decide, by decide, by decide⟩ g_735 gp_31 rfl rfl (Nat.le_of_ble_eq_true rfl) (by decide +kernel) (q_cV (fun M22 h24 => ?_) (fun _ _ q => q.elim))
      refine s_aload_n (i := 0) (by decide +kernel) rfl ?_
      refine s_callV (Fc := fM_isSafe) (index := 100) (ci := 5) (as := []) (rest := []) rfl h24 rfl rfl (by decide) rfl ⟨g_677, hM_isSafe, g_6, by decide, (show (parseMethodDescriptor fM_isSafe.1.desc).map (fun d => d.parameters.length) = some 0 from by decide +kernel), by decide, by decide, by decide, by decide⟩ g_679 gp_21 rfl rfl (Nat.le_of_ble_eq_true rfl) (by decide +kernel) (q_cI (fun b27 M26 h28 => ?_) (fun _ _ q => q.elim))
      refine s_istore_n (i := 3) (by decide +kernel) (by decide) ?_
      refine s_aload_n (i := 0) (by decide +kernel) rfl ?_
      refine s_iload_n (i := 1) (by decide +kernel) rfl ?_
      refine s_iload_n (i := 2) (by decide +kernel) rfl ?_
      refine s_callV (Fc := fM_moveBack) (index := 123) (ci := 5) (as := [aI p1, aI (M12 67 j18)]) (rest := []) rfl h28 rfl rfl (by decide) rfl ⟨g_737, hM_moveBack, g_6, by decide, (show (parseMethodDescriptor fM_moveBack.1.desc).map (fun d => d.parameters.length) = some 2 from by decide +kernel), by decide, by decide, by decide, by decide⟩ g_739 gp_32 rfl rfl (Nat.le_of_ble_eq_true rfl) (by decide +kernel) (q_cV (fun M30 h32 => ?_) (fun _ _ q => q.elim))
      refine s_iload_n (i := 3) (by decide +kernel) rfl ?_
      exact s_zret h32.1 rfl (by decide +kernel) (by decide) (by decide) h32.2
    · have h34 := h14.2 c16
      refine s_iconst (n := 0) (by decide +kernel) ?_
      exact s_zret (Or.inl rfl) rfl (by decide +kernel) (by decide) (by decide) h34

set_option maxRecDepth 20000 in
theorem BM_canStep_0 {K : KX} {Q : Res → AG → AM → Prop} {M : AM} (p1 : Int)
    (h : MetA K fM_isVehicle [aR 63, aI p1] GG M (cI GG (fun b2 M1 => (wr b2 = 0 → MetA K fM_goesWell [aR 63, aI 1] GG M1 (cI GG (fun b8 M7 => (wr b8 = 0 → Q (.inl (some (aI 0))) GG M7) ∧ (¬ wr b8 = 0 → MetA K fM_mayStep [aR 63, aI p1] GG M7 (cI GG (fun b15 M14 => (wr b15 = 0 → Q (.inl (some (aI 0))) GG M14) ∧ (¬ wr b15 = 0 → Q (.inl (some (aI 1))) GG M14)) noX))) noX)) ∧ (¬ wr b2 = 0 → MetA K fM_goesWell [aR 63, aI 0] GG M1 (cI GG (fun b23 M22 => (wr b23 = 0 → Q (.inl (some (aI 0))) GG M22) ∧ (¬ wr b23 = 0 → MetA K fM_mayStep [aR 63, aI p1] GG M22 (cI GG (fun b30 M29 => (wr b30 = 0 → Q (.inl (some (aI 0))) GG M29) ∧ (¬ wr b30 = 0 → Q (.inl (some (aI 1))) GG M29)) noX))) noX))) noX)) :
    WM K fM_canStep (EM K fM_canStep 80 Q) 0 [some (aR 63), some (aI p1)] [] GG M 0 0 := by
  refine s_aload_n (i := 0) (by decide +kernel) rfl ?_
  refine s_aload_n (i := 0) (by decide +kernel) rfl ?_
  refine s_iload_n (i := 1) (by decide +kernel) rfl ?_
  refine s_callV (Fc := fM_isVehicle) (index := 114) (ci := 5) (as := [aI p1]) (rest := [aR 63]) rfl h rfl rfl (by decide) rfl ⟨g_697, hM_isVehicle, g_6, by decide, (show (parseMethodDescriptor fM_isVehicle.1.desc).map (fun d => d.parameters.length) = some 1 from by decide +kernel), by decide, by decide, by decide, by decide⟩ g_699 gp_25 rfl rfl (Nat.le_of_ble_eq_true rfl) (by decide +kernel) (q_cI (fun b2 M1 h3 => ?_) (fun _ _ q => q.elim))
  refine s_if_eq (off := 7) (tgt := 13) (by decide +kernel) (by decide) (fun c5 => ?_) (fun c5 => ?_)
  · have h6 := h3.1 c5
    refine s_iconst (n := 1) (by decide +kernel) ?_
    refine s_callV (Fc := fM_goesWell) (index := 74) (ci := 5) (as := [aI 1]) (rest := []) rfl h6 rfl rfl (by decide) rfl ⟨g_653, hM_goesWell, g_6, by decide, (show (parseMethodDescriptor fM_goesWell.1.desc).map (fun d => d.parameters.length) = some 1 from by decide +kernel), by decide, by decide, by decide, by decide⟩ g_655 gp_18 rfl rfl (Nat.le_of_ble_eq_true rfl) (by decide +kernel) (q_cI (fun b8 M7 h9 => ?_) (fun _ _ q => q.elim))
    refine s_if_eq (off := 15) (tgt := 32) (by decide +kernel) (by decide) (fun c11 => ?_) (fun c11 => ?_)
    · have h12 := h9.1 c11
      refine s_iconst (n := 0) (by decide +kernel) ?_
      exact s_zret (Or.inl rfl) rfl (by decide +kernel) (by decide) (by decide) h12
    · have h13 := h9.2 c11
      refine s_aload_n (i := 0) (by decide +kernel) rfl ?_
      refine s_iload_n (i := 1) (by decide +kernel) rfl ?_
      refine s_callV (Fc := fM_mayStep) (index := 126) (ci := 5) (as := [aI p1]) (rest := []) rfl h13 rfl rfl (by decide) rfl ⟨g_729, hM_mayStep, g_6, by decide, (show (parseMethodDescriptor fM_mayStep.1.desc).map (fun d => d.parameters.length) = some 1 from by decide +kernel), by decide, by decide, by decide, by decide⟩ g_731 gp_30 rfl rfl (Nat.le_of_ble_eq_true rfl) (by decide +kernel) (q_cI (fun b15 M14 h16 => ?_) (fun _ _ q => q.elim))
      refine s_if_eq (off := 7) (tgt := 32) (by decide +kernel) (by decide) (fun c18 => ?_) (fun c18 => ?_)
      · have h19 := h16.1 c18
        refine s_iconst (n := 0) (by decide +kernel) ?_
        exact s_zret (Or.inl rfl) rfl (by decide +kernel) (by decide) (by decide) h19
      · have h20 := h16.2 c18
        refine s_iconst (n := 1) (by decide +kernel) ?_
        refine s_goto (off := 4) (tgt := 33) (by decide +kernel) (by decide) ?_
        exact s_zret (Or.inr rfl) rfl (by decide +kernel) (by decide) (by decide) h20
  · have h21 := h3.2 c5
    refine s_iconst (n := 0) (by decide +kernel) ?_
    refine s_goto (off := 4) (tgt := 14) (by decide +kernel) (by decide) ?_
    refine s_callV (Fc := fM_goesWell) (index := 74) (ci := 5) (as := [aI 0]) (rest := []) rfl h21 rfl rfl (by decide) rfl ⟨g_653, hM_goesWell, g_6, by decide, (show (parseMethodDescriptor fM_goesWell.1.desc).map (fun d => d.parameters.length) = some 1 from by decide +kernel), by decide, by decide, by decide, by decide⟩ g_655 gp_18 rfl rfl (Nat.le_of_ble_eq_true rfl) (by decide +kernel) (q_cI (fun b23 M22 h24 => ?_) (fun _ _ q => q.elim))
    refine s_if_eq (off := 15) (tgt := 32) (by decide +kernel) (by decide) (fun c26 => ?_) (fun c26 => ?_)
    · have h27 := h24.1 c26
      refine s_iconst (n := 0) (by decide +kernel) ?_
      exact s_zret (Or.inl rfl) rfl (by decide +kernel) (by decide) (by decide) h27
    · have h28 := h24.2 c26
      refine s_aload_n (i := 0) (by decide +kernel) rfl ?_
      refine s_iload_n (i := 1) (by decide +kernel) rfl ?_
      refine s_callV (Fc := fM_mayStep) (index := 126) (ci := 5) (as := [aI p1]) (rest := []) rfl h28 rfl rfl (by decide) rfl ⟨g_729, hM_mayStep, g_6, by decide, (show (parseMethodDescriptor fM_mayStep.1.desc).map (fun d => d.parameters.length) = some 1 from by decide +kernel), by decide, by decide, by decide, by decide⟩ g_731 gp_30 rfl rfl (Nat.le_of_ble_eq_true rfl) (by decide +kernel) (q_cI (fun b30 M29 h31 => ?_) (fun _ _ q => q.elim))
      refine s_if_eq (off := 7) (tgt := 32) (by decide +kernel) (by decide) (fun c33 => ?_) (fun c33 => ?_)
      · have h34 := h31.1 c33
        refine s_iconst (n := 0) (by decide +kernel) ?_
        exact s_zret (Or.inl rfl) rfl (by decide +kernel) (by decide) (by decide) h34
      · have h35 := h31.2 c33
        refine s_iconst (n := 1) (by decide +kernel) ?_
        refine s_goto (off := 4) (tgt := 33) (by decide +kernel) (by decide) ?_
        exact s_zret (Or.inr rfl) rfl (by decide +kernel) (by decide) (by decide) h35

set_option maxRecDepth 20000 in
theorem BM_go_0 {K : KX} {Q : Res → AG → AM → Prop} {M : AM} (p1 : Int)
    (h : MetA K fM_move [aR 63, aI p1] GG M (cV GG (fun M1 => ∃ j5 : Nat, wr p1 = (j5 : Int) ∧ j5 < 6 ∧ (∃ j9 : Nat, wr p1 = (j9 : Int) ∧ j9 < 6 ∧ (∃ j13 : Nat, wr p1 = (j13 : Int) ∧ j13 < 6 ∧ ((wr ((um M1 68 j9 ((M1 68 j5) - 1)) 69 j13) = 0 → ∃ j20 : Nat, wr p1 = (j20 : Int) ∧ j20 < 6 ∧ ((wr ((um M1 68 j9 ((M1 68 j5) - 1)) 72 j20) = wr ((-1)) → Q (.inl none) GG (um M1 68 j9 ((M1 68 j5) - 1))) ∧ (¬ wr ((um M1 68 j9 ((M1 68 j5) - 1)) 72 j20) = wr ((-1)) → ∃ j27 : Nat, wr p1 = (j27 : Int) ∧ j27 < 6 ∧ (∃ j31 : Nat, wr ((um M1 68 j9 ((M1 68 j5) - 1)) 72 j27) = (j31 : Int) ∧ j31 < 20 ∧ (∃ j35 : Nat, wr p1 = (j35 : Int) ∧ j35 < 6 ∧ (Q (.inl none) GG (um (um (um M1 68 j9 ((M1 68 j5) - 1)) 74 j31 2) 72 j35 ((-1))))))))) ∧ (¬ wr ((um M1 68 j9 ((M1 68 j5) - 1)) 69 j13) = 0 → Q (.inl none) GG (um M1 68 j9 ((M1 68 j5) - 1))))))) noX)) :
    WM K fM_go (EM K fM_go 80 Q) 0 [some (aR 63), some (aI p1)] [] GG M 0 0 := by
  refine s_aload_n (i := 0) (by decide +kernel) rfl ?_
  refine s_iload_n (i := 1) (by decide +kernel) rfl ?_
  refine s_callV (Fc := fM_move) (index := 120) (ci := 5) (as := [aI p1]) (rest := []) rfl h rfl rfl (by decide) rfl ⟨g_733, hM_move, g_6, by decide, (show (parseMethodDescriptor fM_move.1.desc).map (fun d => d.parameters.length) = some 1 from by decide +kernel), by decide, by decide, by decide, by decide⟩ g_735 gp_31 rfl rfl (Nat.le_of_ble_eq_true rfl) (by decide +kernel) (q_cV (fun M1 h3 => ?_) (fun _ _ q => q.elim))
  refine s_aload_n (i := 0) (by decide +kernel) rfl ?_
  refine s_getR (ci := 5) (k := 7) (index := 23) (r2 := 68) ck5 rfl rfl (by decide) rfl (by decide +kernel) g_588 ?_
  refine s_iload_n (i := 1) (by decide +kernel) rfl ?_
  refine s_dup2 (by decide +kernel) ?_
  obtain ⟨j5, e6, e7, h8⟩ := h3
  refine s_iald (j := j5) rfl e6 e7 (by decide +kernel) ?_
  refine s_iconst (n := 1) (by decide +kernel) ?_
  refine s_isub (by decide +kernel) ?_
  obtain ⟨j9, e10, e11, h12⟩ := h8
  refine s_iast (j := j9) rfl e10 e11 (by decide +kernel) ?_
  refine s_aload_n (i := 0) (by decide +kernel) rfl ?_
  refine s_getR (ci := 5) (k := 8) (index := 26) (r2 := 69) ck5 rfl rfl (by decide) rfl (by decide +kernel) g_589 ?_
  refine s_iload_n (i := 1) (by decide +kernel) rfl ?_
  obtain ⟨j13, e14, e15, h16⟩ := h12
  refine s_iald (j := j13) rfl e14 e15 (by decide +kernel) ?_
  refine s_if_ne (off := 32) (tgt := 53) (by decide +kernel) (by decide) (fun c17 => ?_) (fun c17 => ?_)
  · have h18 := h16.2 c17
    exact s_vret rfl (by decide +kernel) (by decide) (by decide) h18
  · have h19 := h16.1 c17
    refine s_aload_n (i := 0) (by decide +kernel) rfl ?_
    refine s_getR (ci := 5) (k := 11) (index := 35) (r2 := 72) ck5 rfl rfl (by decide) rfl (by decide +kernel) g_592 ?_
    refine s_iload_n (i := 1) (by decide +kernel) rfl ?_
    obtain ⟨j20, e21, e22, h23⟩ := h19
    refine s_iald (j := j20) rfl e21 e22 (by decide +kernel) ?_
    refine s_iconst (n := -1) (by decide +kernel) ?_
    refine s_icmp_eq (off := 22) (tgt := 53) (by decide +kernel) (by decide) (fun c24 => ?_) (fun c24 => ?_)
    · have h25 := h23.1 c24
      exact s_vret rfl (by decide +kernel) (by decide) (by decide) h25
    · have h26 := h23.2 c24
      refine s_aload_n (i := 0) (by decide +kernel) rfl ?_
      refine s_getR (ci := 5) (k := 14) (index := 41) (r2 := 74) ck5 rfl rfl (by decide) rfl (by decide +kernel) g_595 ?_
      refine s_aload_n (i := 0) (by decide +kernel) rfl ?_
      refine s_getR (ci := 5) (k := 11) (index := 35) (r2 := 72) ck5 rfl rfl (by decide) rfl (by decide +kernel) g_592 ?_
      refine s_iload_n (i := 1) (by decide +kernel) rfl ?_
      obtain ⟨j27, e28, e29, h30⟩ := h26
      refine s_iald (j := j27) rfl e28 e29 (by decide +kernel) ?_
      refine s_iconst (n := 2) (by decide +kernel) ?_
      obtain ⟨j31, e32, e33, h34⟩ := h30
      refine s_iast (j := j31) rfl e32 e33 (by decide +kernel) ?_
      refine s_aload_n (i := 0) (by decide +kernel) rfl ?_
      refine s_getR (ci := 5) (k := 11) (index := 35) (r2 := 72) ck5 rfl rfl (by decide) rfl (by decide +kernel) g_592 ?_
      refine s_iload_n (i := 1) (by decide +kernel) rfl ?_
      refine s_iconst (n := -1) (by decide +kernel) ?_
      obtain ⟨j35, e36, e37, h38⟩ := h34
      refine s_iast (j := j35) rfl e36 e37 (by decide +kernel) ?_
      exact s_vret rfl (by decide +kernel) (by decide) (by decide) h38

set_option maxRecDepth 20000 in
theorem BM_step_0 {K : KX} {Q : Res → AG → AM → Prop} {M : AM} (p1 : Int)
    (h : MetA K fM_isVehicle [aR 63, aI p1] GG M (cI GG (fun b2 M1 => (wr b2 = 0 → WM K fM_step (EM K fM_step 80 Q) 20 [some (aR 63), some (aI p1), none] [] GG M1 0 0) ∧ (¬ wr b2 = 0 → MetA K fM_mayStep [aR 63, aI p1] GG M1 (cI GG (fun b9 M8 => (wr b9 = 0 → WM K fM_step (EM K fM_step 80 Q) 20 [some (aR 63), some (aI p1), none] [] GG M8 0 0) ∧ (¬ wr b9 = 0 → WM K fM_step (EM K fM_step 80 Q) 21 [some (aR 63), some (aI p1), none] [aI 1] GG M8 0 0)) noX))) noX)) :
    WM K fM_step (EM K fM_step 80 Q) 0 [some (aR 63), some (aI p1), none] [] GG M 0 0 := by
  refine s_aload_n (i := 0) (by decide +kernel) rfl ?_
  refine s_iload_n (i := 1) (by decide +kernel) rfl ?_
  refine s_callV (Fc := fM_isVehicle) (index := 114) (ci := 5) (as := [aI p1]) (rest := []) rfl h rfl rfl (by decide) rfl ⟨g_697, hM_isVehicle, g_6, by decide, (show (parseMethodDescriptor fM_isVehicle.1.desc).map (fun d => d.parameters.length) = some 1 from by decide +kernel), by decide, by decide, by decide, by decide⟩ g_699 gp_25 rfl rfl (Nat.le_of_ble_eq_true rfl) (by decide +kernel) (q_cI (fun b2 M1 h3 => ?_) (fun _ _ q => q.elim))
  refine s_if_eq (off := 15) (tgt := 20) (by decide +kernel) (by decide) (fun c5 => ?_) (fun c5 => ?_)
  · have h6 := h3.1 c5
    exact h6
  · have h7 := h3.2 c5
    refine s_aload_n (i := 0) (by decide +kernel) rfl ?_
    refine s_iload_n (i := 1) (by decide +kernel) rfl ?_
    refine s_callV (Fc := fM_mayStep) (index := 126) (ci := 5) (as := [aI p1]) (rest := []) rfl h7 rfl rfl (by decide) rfl ⟨g_729, hM_mayStep, g_6, by decide, (show (parseMethodDescriptor fM_mayStep.1.desc).map (fun d => d.parameters.length) = some 1 from by decide +kernel), by decide, by decide, by decide, by decide⟩ g_731 gp_30 rfl rfl (Nat.le_of_ble_eq_true rfl) (by decide +kernel) (q_cI (fun b9 M8 h10 => ?_) (fun _ _ q => q.elim))
    refine s_if_eq (off := 7) (tgt := 20) (by decide +kernel) (by decide) (fun c12 => ?_) (fun c12 => ?_)
    · have h13 := h10.1 c12
      exact h13
    · have h14 := h10.2 c12
      refine s_iconst (n := 1) (by decide +kernel) ?_
      refine s_goto (off := 4) (tgt := 21) (by decide +kernel) (by decide) ?_
      exact h14

set_option maxRecDepth 20000 in
theorem BM_step_20 {K : KX} {Q : Res → AG → AM → Prop} {M : AM} (x1 : Int)
    (h : WM K fM_step (EM K fM_step 80 Q) 21 [some (aR 63), some (aI x1), none] [aI 0] GG M 0 0) :
    WM K fM_step (EM K fM_step 80 Q) 20 [some (aR 63), some (aI x1), none] [] GG M 0 0 := by
  refine s_iconst (n := 0) (by decide +kernel) ?_
  exact h

set_option maxRecDepth 20000 in
theorem BM_step_21 {K : KX} {Q : Res → AG → AM → Prop} {M : AM} (x1 y0 : Int)
    (h : MetA K fM_isVehicle [aR 63, aI x1] GG M (cI GG (fun b2 M1 => (wr b2 = 0 → WM K fM_step (EM K fM_step 80 Q) 44 [some (aR 63), some (aI x1), some (aI y0)] [aI 1, aR 63] GG M1 0 0) ∧ (¬ wr b2 = 0 → (wr y0 = 0 → WM K fM_step (EM K fM_step 80 Q) 44 [some (aR 63), some (aI x1), some (aI y0)] [aI 2, aR 63] GG M1 0 0) ∧ (¬ wr y0 = 0 → WM K fM_step (EM K fM_step 80 Q) 44 [some (aR 63), some (aI x1), some (aI y0)] [aI 0, aR 63] GG M1 0 0))) noX)) :
    WM K fM_step (EM K fM_step 80 Q) 21 [some (aR 63), some (aI x1), none] [aI y0] GG M 0 0 := by
  refine s_istore_n (i := 2) (by decide +kernel) (by decide) ?_
  refine s_aload_n (i := 0) (by decide +kernel) rfl ?_
  refine s_aload_n (i := 0) (by decide +kernel) rfl ?_
  refine s_iload_n (i := 1) (by decide +kernel) rfl ?_
  refine s_callV (Fc := fM_isVehicle) (index := 114) (ci := 5) (as := [aI x1]) (rest := [aR 63]) rfl h rfl rfl (by decide) rfl ⟨g_697, hM_isVehicle, g_6, by decide, (show (parseMethodDescriptor fM_isVehicle.1.desc).map (fun d => d.parameters.length) = some 1 from by decide +kernel), by decide, by decide, by decide, by decide⟩ g_699 gp_25 rfl rfl (Nat.le_of_ble_eq_true rfl) (by decide +kernel) (q_cI (fun b2 M1 h3 => ?_) (fun _ _ q => q.elim))
  refine s_if_ne (off := 7) (tgt := 35) (by decide +kernel) (by decide) (fun c5 => ?_) (fun c5 => ?_)
  · have h6 := h3.2 c5
    refine s_iload_n (i := 2) (by decide +kernel) rfl ?_
    refine s_if_eq (off := 7) (tgt := 43) (by decide +kernel) (by decide) (fun c7 => ?_) (fun c7 => ?_)
    · have h8 := h6.1 c7
      refine s_iconst (n := 2) (by decide +kernel) ?_
      exact h8
    · have h9 := h6.2 c7
      refine s_iconst (n := 0) (by decide +kernel) ?_
      refine s_goto (off := 4) (tgt := 44) (by decide +kernel) (by decide) ?_
      exact h9
  · have h10 := h3.1 c5
    refine s_iconst (n := 1) (by decide +kernel) ?_
    refine s_goto (off := 12) (tgt := 44) (by decide +kernel) (by decide) ?_
    exact h10

set_option maxRecDepth 20000 in
theorem BM_step_44 {K : KX} {Q : Res → AG → AM → Prop} {M : AM} (x1 x2 y0 : Int)
    (h : MetA K fM_goesWell [aR 63, aI y0] GG M (cI GG (fun b2 M1 => (wr b2 = 0 → Q (.inl (some (aI 0))) GG M1) ∧ (¬ wr b2 = 0 → MetA K fM_go [aR 63, aI x1] GG M1 (cV GG (fun M7 => ∃ j11 : Nat, wr x1 = (j11 : Int) ∧ j11 < 6 ∧ (Q (.inl (some (aI (M7 67 j11)))) GG M7)) noX))) noX)) :
    WM K fM_step (EM K fM_step 80 Q) 44 [some (aR 63), some (aI x1), some (aI x2)] [aI y0, aR 63] GG M 0 0 := by
  refine s_callV (Fc := fM_goesWell) (index := 74) (ci := 5) (as := [aI y0]) (rest := []) rfl h rfl rfl (by decide) rfl ⟨g_653, hM_goesWell, g_6, by decide, (show (parseMethodDescriptor fM_goesWell.1.desc).map (fun d => d.parameters.length) = some 1 from by decide +kernel), by decide, by decide, by decide, by decide⟩ g_655 gp_18 rfl rfl (Nat.le_of_ble_eq_true rfl) (by decide +kernel) (q_cI (fun b2 M1 h3 => ?_) (fun _ _ q => q.elim))
  refine s_if_ne (off := 5) (tgt := 52) (by decide +kernel) (by decide) (fun c5 => ?_) (fun c5 => ?_)
  · have h6 := h3.2 c5
    refine s_aload_n (i := 0) (by decide +kernel) rfl ?_
    refine s_iload_n (i := 1) (by decide +kernel) rfl ?_
    refine s_callV (Fc := fM_go) (index := 129) (ci := 5) (as := [aI x1]) (rest := []) rfl h6 rfl rfl (by decide) rfl ⟨g_745, hM_go, g_6, by decide, (show (parseMethodDescriptor fM_go.1.desc).map (fun d => d.parameters.length) = some 1 from by decide +kernel), by decide, by decide, by decide, by decide⟩ g_747 gp_33 rfl rfl (Nat.le_of_ble_eq_true rfl) (by decide +kernel) (q_cV (fun M7 h9 => ?_) (fun _ _ q => q.elim))
    refine s_aload_n (i := 0) (by decide +kernel) rfl ?_
    refine s_getR (ci := 5) (k := 6) (index := 20) (r2 := 67) ck5 rfl rfl (by decide) rfl (by decide +kernel) g_587 ?_
    refine s_iload_n (i := 1) (by decide +kernel) rfl ?_
    obtain ⟨j11, e12, e13, h14⟩ := h9
    refine s_iald (j := j11) rfl e12 e13 (by decide +kernel) ?_
    exact s_iret rfl (by decide +kernel) (by decide) (by decide) h14
  · have h15 := h3.1 c5
    refine s_iconst (n := 0) (by decide +kernel) ?_
    exact s_iret rfl (by decide +kernel) (by decide) (by decide) h15

set_option maxRecDepth 20000 in
theorem BM_tick_0 {K : KX} {Q : Res → AG → AM → Prop} {M : AM} (p1 : Int)
    (h : MetA K fM_in [aI p1, aI 1, aI 20] GG M (cI GG (fun b2 M1 => (wr b2 = 0 → MetA K fM_goesWell [aR 63, aI 1] GG M1 (cI GG (fun b8 M7 => (wr b8 = 0 → Q (.inl (some (aI 0))) GG M7) ∧ (¬ wr b8 = 0 → WM K fM_tick (EM K fM_tick 80 Q) 28 [some (aR 63), some (aI p1), some (aI 0), some (aI 0), none] [] GG M7 0 0)) noX)) ∧ (¬ wr b2 = 0 → MetA K fM_goesWell [aR 63, aI 0] GG M1 (cI GG (fun b16 M15 => (wr b16 = 0 → Q (.inl (some (aI 0))) GG M15) ∧ (¬ wr b16 = 0 → WM K fM_tick (EM K fM_tick 80 Q) 28 [some (aR 63), some (aI p1), some (aI 0), some (aI 0), none] [] GG M15 0 0)) noX))) noX)) :
    WM K fM_tick (EM K fM_tick 80 Q) 0 [some (aR 63), some (aI p1), none, none, none] [] GG M 0 0 := by
  refine s_aload_n (i := 0) (by decide +kernel) rfl ?_
  refine s_iload_n (i := 1) (by decide +kernel) rfl ?_
  refine s_iconst (n := 1) (by decide +kernel) ?_
  refine s_bipush (n := 20) (by decide +kernel) (by decide +kernel) ?_
  refine s_callS (Fc := fM_in) (index := 60) (as := [aI p1, aI 1, aI 20]) (rest := [aR 63]) rfl h ⟨g_650, hM_in, g_6, by decide, (show (parseMethodDescriptor fM_in.1.desc).map (fun d => d.parameters.length) = some 3 from by decide +kernel), by decide, by decide, by decide, by decide⟩ g_651 rfl rfl (Nat.le_of_ble_eq_true rfl) (by decide +kernel) (q_cI (fun b2 M1 h3 => ?_) (fun _ _ q => q.elim))
  refine s_if_eq (off := 7) (tgt := 15) (by decide +kernel) (by decide) (fun c5 => ?_) (fun c5 => ?_)
  · have h6 := h3.1 c5
    refine s_iconst (n := 1) (by decide +kernel) ?_
    refine s_callV (Fc := fM_goesWell) (index := 74) (ci := 5) (as := [aI 1]) (rest := []) rfl h6 rfl rfl (by decide) rfl ⟨g_653, hM_goesWell, g_6, by decide, (show (parseMethodDescriptor fM_goesWell.1.desc).map (fun d => d.parameters.length) = some 1 from by decide +kernel), by decide, by decide, by decide, by decide⟩ g_655 gp_18 rfl rfl (Nat.le_of_ble_eq_true rfl) (by decide +kernel) (q_cI (fun b8 M7 h9 => ?_) (fun _ _ q => q.elim))
    refine s_if_ne (off := 5) (tgt := 24) (by decide +kernel) (by decide) (fun c11 => ?_) (fun c11 => ?_)
    · have h12 := h9.2 c11
      refine s_iconst (n := 0) (by decide +kernel) ?_
      refine s_istore_n (i := 2) (by decide +kernel) (by decide) ?_
      refine s_iconst (n := 0) (by decide +kernel) ?_
      refine s_istore_n (i := 3) (by decide +kernel) (by decide) ?_
      exact h12
    · have h13 := h9.1 c11
      refine s_iconst (n := 0) (by decide +kernel) ?_
      exact s_iret rfl (by decide +kernel) (by decide) (by decide) h13
  · have h14 := h3.2 c5
    refine s_iconst (n := 0) (by decide +kernel) ?_
    refine s_goto (off := 4) (tgt := 16) (by decide +kernel) (by decide) ?_
    refine s_callV (Fc := fM_goesWell) (index := 74) (ci := 5) (as := [aI 0]) (rest := []) rfl h14 rfl rfl (by decide) rfl ⟨g_653, hM_goesWell, g_6, by decide, (show (parseMethodDescriptor fM_goesWell.1.desc).map (fun d => d.parameters.length) = some 1 from by decide +kernel), by decide, by decide, by decide, by decide⟩ g_655 gp_18 rfl rfl (Nat.le_of_ble_eq_true rfl) (by decide +kernel) (q_cI (fun b16 M15 h17 => ?_) (fun _ _ q => q.elim))
    refine s_if_ne (off := 5) (tgt := 24) (by decide +kernel) (by decide) (fun c19 => ?_) (fun c19 => ?_)
    · have h20 := h17.2 c19
      refine s_iconst (n := 0) (by decide +kernel) ?_
      refine s_istore_n (i := 2) (by decide +kernel) (by decide) ?_
      refine s_iconst (n := 0) (by decide +kernel) ?_
      refine s_istore_n (i := 3) (by decide +kernel) (by decide) ?_
      exact h20
    · have h21 := h17.1 c19
      refine s_iconst (n := 0) (by decide +kernel) ?_
      exact s_iret rfl (by decide +kernel) (by decide) (by decide) h21

set_option maxRecDepth 20000 in
theorem BM_tick_28 {K : KX} {Q : Res → AG → AM → Prop} {M : AM} (x1 x2 x3 : Int)
    (h : (wr (x1 * (M 63 5)) ≤ wr x3 → Q (.inl (some (aI x2))) GG M) ∧ (¬ wr (x1 * (M 63 5)) ≤ wr x3 → (¬ wr (M 63 5) = 0) ∧ (MetA K fM_mayStep [aR 63, aI (x3 - (wdv x3 (M 63 5)) * (M 63 5))] GG M (cI GG (fun b6 M5 => (wr b6 = 0 → ∃ j11 : Nat, wr (x3 - (wdv x3 (M 63 5)) * (M 63 5)) = (j11 : Int) ∧ j11 < 6 ∧ ((wr (M5 69 j11) ≤ 0 → WM K fM_tick (EM K fM_tick 80 Q) 28 [some (aR 63), some (aI x1), some (aI x2), some (aI (x3 + 1)), none] [] GG M5 0 0) ∧ (¬ wr (M5 69 j11) ≤ 0 → ∃ j18 : Nat, wr (x3 - (wdv x3 (M 63 5)) * (M 63 5)) = (j18 : Int) ∧ j18 < 6 ∧ (∃ j22 : Nat, wr (x3 - (wdv x3 (M 63 5)) * (M 63 5)) = (j22 : Int) ∧ j22 < 6 ∧ (WM K fM_tick (EM K fM_tick 80 Q) 28 [some (aR 63), some (aI x1), some (aI x2), some (aI (x3 + 1)), none] [] GG (um M5 71 j22 ((M5 71 j18) + 1)) 0 0))))) ∧ (¬ wr b6 = 0 → MetA K fM_go [aR 63, aI (x3 - (wdv x3 (M 63 5)) * (M 63 5))] GG M5 (cV GG (fun M27 => WM K fM_tick (EM K fM_tick 80 Q) 28 [some (aR 63), some (aI x1), some (aI (x2 + 1)), some (aI (x3 + 1)), none] [] GG M27 0 0) noX))) noX)))) :
    WM K fM_tick (EM K fM_tick 80 Q) 28 [some (aR 63), some (aI x1), some (aI x2), some (aI x3), none] [] GG M 0 0 := by
  refine s_iload_n (i := 3) (by decide +kernel) rfl ?_
  refine s_iload_n (i := 1) (by decide +kernel) rfl ?_
  refine s_aload_n (i := 0) (by decide +kernel) rfl ?_
  refine s_getI (ci := 5) (k := 5) (index := 64) ck5 rfl (by decide) rfl (by decide +kernel) g_586 ?_
  refine s_imul (by decide +kernel) ?_
  refine s_icmp_ge (off := 59) (tgt := 94) (by decide +kernel) (by decide) (fun c1 => ?_) (fun c1 => ?_)
  · have h2 := h.1 c1
    refine s_iload_n (i := 2) (by decide +kernel) rfl ?_
    exact s_iret rfl (by decide +kernel) (by decide) (by decide) h2
  · have h3 := h.2 c1
    refine s_iload_n (i := 3) (by decide +kernel) rfl ?_
    refine s_aload_n (i := 0) (by decide +kernel) rfl ?_
    refine s_getI (ci := 5) (k := 5) (index := 64) ck5 rfl (by decide) rfl (by decide +kernel) g_586 ?_
    refine s_irem (by decide +kernel) h3.1 ?_
    have h4 := h3.2
    refine s_istore (i := 4) (by decide +kernel) (by decide) ?_
    refine s_aload_n (i := 0) (by decide +kernel) rfl ?_
    refine s_iload (i := 4) (by decide +kernel) rfl ?_
    refine s_callV (Fc := fM_mayStep) (index := 126) (ci := 5) (as := [aI (x3 - (wdv x3 (M 63 5)) * (M 63 5))]) (rest := []) rfl h4 rfl rfl (by decide) rfl ⟨g_729, hM_mayStep, g_6, by decide, (show (parseMethodDescriptor fM_mayStep.1.desc).map (fun d => d.parameters.length) = some 1 from by decide +kernel), by decide, by decide, by decide, by decide⟩ g_731 gp_30 rfl rfl (Nat.le_of_ble_eq_true rfl) (by decide +kernel) (q_cI (fun b6 M5 h7 => ?_) (fun _ _ q => q.elim))
    refine s_if_eq (off := 15) (tgt := 67) (by decide +kernel) (by decide) (fun c9 => ?_) (fun c9 => ?_)
    · have h10 := h7.1 c9
      refine s_aload_n (i := 0) (by decide +kernel) rfl ?_
      refine s_getR (ci := 5) (k := 8) (index := 26) (r2 := 69) ck5 rfl rfl (by decide) rfl (by decide +kernel) g_589 ?_
      refine s_iload (i := 4) (by decide +kernel) rfl ?_
      obtain ⟨j11, e12, e13, h14⟩ := h10
      refine s_iald (j := j11) rfl e12 e13 (by decide +kernel) ?_
      refine s_if_le (off := 14) (tgt := 88) (by decide +kernel) (by decide) (fun c15 => ?_) (fun c15 => ?_)
      · have h16 := h14.1 c15
        refine s_iinc (i := 3) (n := 1) (by decide +kernel) rfl (by decide) ?_
        refine s_goto (off := -63) (tgt := 28) (by decide +kernel) (by decide) ?_
        exact s_loc (L' := [some (aR 63), some (aI x1), some (aI x2), some (aI (x3 + 1)), none]) (ll_s (ll_s (ll_s (ll_s (ll_n ll_nil))))) h16
      · have h17 := h14.2 c15
        refine s_aload_n (i := 0) (by decide +kernel) rfl ?_
        refine s_getR (ci := 5) (k := 10) (index := 32) (r2 := 71) ck5 rfl rfl (by decide) rfl (by decide +kernel) g_591 ?_
        refine s_iload (i := 4) (by decide +kernel) rfl ?_
        refine s_dup2 (by decide +kernel) ?_
        obtain ⟨j18, e19, e20, h21⟩ := h17
        refine s_iald (j := j18) rfl e19 e20 (by decide +kernel) ?_
        refine s_iconst (n := 1) (by decide +kernel) ?_
        refine s_iadd (by decide +kernel) ?_
        obtain ⟨j22, e23, e24, h25⟩ := h21
        refine s_iast (j := j22) rfl e23 e24 (by decide +kernel) ?_
        refine s_iinc (i := 3) (n := 1) (by decide +kernel) rfl (by decide) ?_
        refine s_goto (off := -63) (tgt := 28) (by decide +kernel) (by decide) ?_
        exact s_loc (L' := [some (aR 63), some (aI x1), some (aI x2), some (aI (x3 + 1)), none]) (ll_s (ll_s (ll_s (ll_s (ll_n ll_nil))))) h25
    · have h26 := h7.2 c9
      refine s_aload_n (i := 0) (by decide +kernel) rfl ?_
      refine s_iload (i := 4) (by decide +kernel) rfl ?_
      refine s_callV (Fc := fM_go) (index := 129) (ci := 5) (as := [aI (x3 - (wdv x3 (M 63 5)) * (M 63 5))]) (rest := []) rfl h26 rfl rfl (by decide) rfl ⟨g_745, hM_go, g_6, by decide, (show (parseMethodDescriptor fM_go.1.desc).map (fun d => d.parameters.length) = some 1 from by decide +kernel), by decide, by decide, by decide, by decide⟩ g_747 gp_33 rfl rfl (Nat.le_of_ble_eq_true rfl) (by decide +kernel) (q_cV (fun M27 h29 => ?_) (fun _ _ q => q.elim))
      refine s_iinc (i := 2) (n := 1) (by decide +kernel) rfl (by decide) ?_
      refine s_goto (off := 24) (tgt := 88) (by decide +kernel) (by decide) ?_
      refine s_iinc (i := 3) (n := 1) (by decide +kernel) rfl (by decide) ?_
      refine s_goto (off := -63) (tgt := 28) (by decide +kernel) (by decide) ?_
      exact s_loc (L' := [some (aR 63), some (aI x1), some (aI (x2 + 1)), some (aI (x3 + 1)), none]) (ll_s (ll_s (ll_s (ll_s (ll_n ll_nil))))) h29

set_option maxRecDepth 20000 in
theorem BM_addJob_0 {K : KX} {Q : Res → AG → AM → Prop} {M : AM} (p1 : Int)
    (h : MetA K fM_isZone [aI p1] GG M (cI GG (fun b2 M1 => (wr b2 = 0 → WM K fM_addJob (EM K fM_addJob 80 Q) 26 [some (aR 63), some (aI p1)] [aI 1, aR 63] GG M1 0 0) ∧ (¬ wr b2 = 0 → (wr (M1 63 12) = wr 20 → WM K fM_addJob (EM K fM_addJob 80 Q) 26 [some (aR 63), some (aI p1)] [aI 2, aR 63] GG M1 0 0) ∧ (¬ wr (M1 63 12) = wr 20 → WM K fM_addJob (EM K fM_addJob 80 Q) 26 [some (aR 63), some (aI p1)] [aI 0, aR 63] GG M1 0 0))) noX)) :
    WM K fM_addJob (EM K fM_addJob 80 Q) 0 [some (aR 63), some (aI p1)] [] GG M 0 0 := by
  refine s_aload_n (i := 0) (by decide +kernel) rfl ?_
  refine s_iload_n (i := 1) (by decide +kernel) rfl ?_
  refine s_callS (Fc := fM_isZone) (index := 70) (as := [aI p1]) (rest := [aR 63]) rfl h ⟨g_647, hM_isZone, g_6, by decide, (show (parseMethodDescriptor fM_isZone.1.desc).map (fun d => d.parameters.length) = some 1 from by decide +kernel), by decide, by decide, by decide, by decide⟩ g_648 rfl rfl (Nat.le_of_ble_eq_true rfl) (by decide +kernel) (q_cI (fun b2 M1 h3 => ?_) (fun _ _ q => q.elim))
  refine s_if_ne (off := 7) (tgt := 12) (by decide +kernel) (by decide) (fun c5 => ?_) (fun c5 => ?_)
  · have h6 := h3.2 c5
    refine s_aload_n (i := 0) (by decide +kernel) rfl ?_
    refine s_getI (ci := 5) (k := 12) (index := 67) ck5 rfl (by decide) rfl (by decide +kernel) g_593 ?_
    refine s_bipush (n := 20) (by decide +kernel) (by decide +kernel) ?_
    refine s_icmp_ne (off := 7) (tgt := 25) (by decide +kernel) (by decide) (fun c7 => ?_) (fun c7 => ?_)
    · have h8 := h6.2 c7
      refine s_iconst (n := 0) (by decide +kernel) ?_
      exact h8
    · have h9 := h6.1 c7
      refine s_iconst (n := 2) (by decide +kernel) ?_
      refine s_goto (off := 4) (tgt := 26) (by decide +kernel) (by decide) ?_
      exact h9
  · have h10 := h3.1 c5
    refine s_iconst (n := 1) (by decide +kernel) ?_
    refine s_goto (off := 17) (tgt := 26) (by decide +kernel) (by decide) ?_
    exact h10

set_option maxRecDepth 20000 in
theorem BM_addJob_26 {K : KX} {Q : Res → AG → AM → Prop} {M : AM} (x1 y0 : Int)
    (h : MetA K fM_goesWell [aR 63, aI y0] GG M (cI GG (fun b2 M1 => (wr b2 = 0 → Q (.inl (some (aI 0))) GG M1) ∧ (¬ wr b2 = 0 → ∃ j7 : Nat, wr (M1 63 12) = (j7 : Int) ∧ j7 < 20 ∧ (∃ j11 : Nat, wr ((um M1 73 j7 x1) 63 12) = (j11 : Int) ∧ j11 < 20 ∧ (∃ j15 : Nat, wr ((um (um M1 73 j7 x1) 74 j11 0) 63 12) = (j15 : Int) ∧ j15 < 20 ∧ (Q (.inl (some (aI (((um (um (um (um M1 73 j7 x1) 74 j11 0) 75 j15 ((-1))) 63 12 (((um (um (um M1 73 j7 x1) 74 j11 0) 75 j15 ((-1))) 63 12) + 1)) 63 12) - 1)))) GG (um (um (um (um M1 73 j7 x1) 74 j11 0) 75 j15 ((-1))) 63 12 (((um (um (um M1 73 j7 x1) 74 j11 0) 75 j15 ((-1))) 63 12) + 1))))))) noX)) :
    WM K fM_addJob (EM K fM_addJob 80 Q) 26 [some (aR 63), some (aI x1)] [aI y0, aR 63] GG M 0 0 := by
  refine s_callV (Fc := fM_goesWell) (index := 74) (ci := 5) (as := [aI y0]) (rest := []) rfl h rfl rfl (by decide) rfl ⟨g_653, hM_goesWell, g_6, by decide, (show (parseMethodDescriptor fM_goesWell.1.desc).map (fun d => d.parameters.length) = some 1 from by decide +kernel), by decide, by decide, by decide, by decide⟩ g_655 gp_18 rfl rfl (Nat.le_of_ble_eq_true rfl) (by decide +kernel) (q_cI (fun b2 M1 h3 => ?_) (fun _ _ q => q.elim))
  refine s_if_ne (off := 5) (tgt := 34) (by decide +kernel) (by decide) (fun c5 => ?_) (fun c5 => ?_)
  · have h6 := h3.2 c5
    refine s_aload_n (i := 0) (by decide +kernel) rfl ?_
    refine s_getR (ci := 5) (k := 13) (index := 38) (r2 := 73) ck5 rfl rfl (by decide) rfl (by decide +kernel) g_594 ?_
    refine s_aload_n (i := 0) (by decide +kernel) rfl ?_
    refine s_getI (ci := 5) (k := 12) (index := 67) ck5 rfl (by decide) rfl (by decide +kernel) g_593 ?_
    refine s_iload_n (i := 1) (by decide +kernel) rfl ?_
    obtain ⟨j7, e8, e9, h10⟩ := h6
    refine s_iast (j := j7) rfl e8 e9 (by decide +kernel) ?_
    refine s_aload_n (i := 0) (by decide +kernel) rfl ?_
    refine s_getR (ci := 5) (k := 14) (index := 41) (r2 := 74) ck5 rfl rfl (by decide) rfl (by decide +kernel) g_595 ?_
    refine s_aload_n (i := 0) (by decide +kernel) rfl ?_
    refine s_getI (ci := 5) (k := 12) (index := 67) ck5 rfl (by decide) rfl (by decide +kernel) g_593 ?_
    refine s_iconst (n := 0) (by decide +kernel) ?_
    obtain ⟨j11, e12, e13, h14⟩ := h10
    refine s_iast (j := j11) rfl e12 e13 (by decide +kernel) ?_
    refine s_aload_n (i := 0) (by decide +kernel) rfl ?_
    refine s_getR (ci := 5) (k := 15) (index := 44) (r2 := 75) ck5 rfl rfl (by decide) rfl (by decide +kernel) g_596 ?_
    refine s_aload_n (i := 0) (by decide +kernel) rfl ?_
    refine s_getI (ci := 5) (k := 12) (index := 67) ck5 rfl (by decide) rfl (by decide +kernel) g_593 ?_
    refine s_iconst (n := -1) (by decide +kernel) ?_
    obtain ⟨j15, e16, e17, h18⟩ := h14
    refine s_iast (j := j15) rfl e16 e17 (by decide +kernel) ?_
    refine s_aload_n (i := 0) (by decide +kernel) rfl ?_
    refine s_dupR (by decide +kernel) ?_
    refine s_getI (ci := 5) (k := 12) (index := 67) ck5 rfl (by decide) rfl (by decide +kernel) g_593 ?_
    refine s_iconst (n := 1) (by decide +kernel) ?_
    refine s_iadd (by decide +kernel) ?_
    refine s_putI (ci := 5) (k := 12) (index := 67) ck5 rfl (by decide) rfl rfl rfl (by decide +kernel) g_593 ?_
    refine s_aload_n (i := 0) (by decide +kernel) rfl ?_
    refine s_getI (ci := 5) (k := 12) (index := 67) ck5 rfl (by decide) rfl (by decide +kernel) g_593 ?_
    refine s_iconst (n := 1) (by decide +kernel) ?_
    refine s_isub (by decide +kernel) ?_
    exact s_iret rfl (by decide +kernel) (by decide) (by decide) h18
  · have h19 := h3.1 c5
    refine s_iconst (n := 0) (by decide +kernel) ?_
    exact s_iret rfl (by decide +kernel) (by decide) (by decide) h19

set_option maxRecDepth 20000 in
theorem BM_takerOf_0 {K : KX} {Q : Res → AG → AM → Prop} {M : AM} (p1 : Int)
    (h : WM K fM_takerOf (EM K fM_takerOf 80 Q) 7 [some (aR 63), some (aI p1), some (aI (-1)), some (aI 0), some (aI 0), none] [] GG M 0 0) :
    WM K fM_takerOf (EM K fM_takerOf 80 Q) 0 [some (aR 63), some (aI p1), none, none, none, none] [] GG M 0 0 := by
  refine s_iconst (n := -1) (by decide +kernel) ?_
  refine s_istore_n (i := 2) (by decide +kernel) (by decide) ?_
  refine s_iconst (n := 0) (by decide +kernel) ?_
  refine s_istore_n (i := 3) (by decide +kernel) (by decide) ?_
  refine s_iconst (n := 0) (by decide +kernel) ?_
  refine s_istore (i := 4) (by decide +kernel) (by decide) ?_
  exact h

set_option maxRecDepth 20000 in
theorem BM_takerOf_7 {K : KX} {Q : Res → AG → AM → Prop} {M : AM} (x1 x2 x3 x4 : Int)
    (h : (wr (M 63 5) ≤ wr x4 → Q (.inl (some (aI x2))) GG M) ∧ (¬ wr (M 63 5) ≤ wr x4 → ∃ j4 : Nat, wr x1 = (j4 : Int) ∧ j4 < 20 ∧ (MetA K fM_couldGo [aR 63, aI x4, aI (M 73 j4)] GG M (cI GG (fun b9 M8 => (wr b9 = wr ((-1)) → WM K fM_takerOf (EM K fM_takerOf 80 Q) 7 [some (aR 63), some (aI x1), some (aI x2), some (aI x3), some (aI (x4 + 1)), none] [] GG M8 0 0) ∧ (¬ wr b9 = wr ((-1)) → (wr x2 = wr ((-1)) → WM K fM_takerOf (EM K fM_takerOf 80 Q) 7 [some (aR 63), some (aI x1), some (aI x4), some (aI b9), some (aI (x4 + 1)), none] [] GG M8 0 0) ∧ (¬ wr x2 = wr ((-1)) → (wr x3 ≤ wr b9 → WM K fM_takerOf (EM K fM_takerOf 80 Q) 7 [some (aR 63), some (aI x1), some (aI x2), some (aI x3), some (aI (x4 + 1)), none] [] GG M8 0 0) ∧ (¬ wr x3 ≤ wr b9 → WM K fM_takerOf (EM K fM_takerOf 80 Q) 7 [some (aR 63), some (aI x1), some (aI x4), some (aI b9), some (aI (x4 + 1)), none] [] GG M8 0 0)))) noX)))) :
    WM K fM_takerOf (EM K fM_takerOf 80 Q) 7 [some (aR 63), some (aI x1), some (aI x2), some (aI x3), some (aI x4), none] [] GG M 0 0 := by
  refine s_iload (i := 4) (by decide +kernel) rfl ?_
  refine s_aload_n (i := 0) (by decide +kernel) rfl ?_
  refine s_getI (ci := 5) (k := 5) (index := 64) ck5 rfl (by decide) rfl (by decide +kernel) g_586 ?_
  refine s_icmp_ge (off := 46) (tgt := 59) (by decide +kernel) (by decide) (fun c1 => ?_) (fun c1 => ?_)
  · have h2 := h.1 c1
    refine s_iload_n (i := 2) (by decide +kernel) rfl ?_
    exact s_iret rfl (by decide +kernel) (by decide) (by decide) h2
  · have h3 := h.2 c1
    refine s_aload_n (i := 0) (by decide +kernel) rfl ?_
    refine s_iload (i := 4) (by decide +kernel) rfl ?_
    refine s_aload_n (i := 0) (by decide +kernel) rfl ?_
    refine s_getR (ci := 5) (k := 13) (index := 38) (r2 := 73) ck5 rfl rfl (by decide) rfl (by decide +kernel) g_594 ?_
    refine s_iload_n (i := 1) (by decide +kernel) rfl ?_
    obtain ⟨j4, e5, e6, h7⟩ := h3
    refine s_iald (j := j4) rfl e5 e6 (by decide +kernel) ?_
    refine s_callV (Fc := fM_couldGo) (index := 117) (ci := 5) (as := [aI x4, aI (M 73 j4)]) (rest := []) rfl h7 rfl rfl (by decide) rfl ⟨g_701, hM_couldGo, g_6, by decide, (show (parseMethodDescriptor fM_couldGo.1.desc).map (fun d => d.parameters.length) = some 2 from by decide +kernel), by decide, by decide, by decide, by decide⟩ g_703 gp_26 rfl rfl (Nat.le_of_ble_eq_true rfl) (by decide +kernel) (q_cI (fun b9 M8 h10 => ?_) (fun _ _ q => q.elim))
    refine s_istore (i := 5) (by decide +kernel) (by decide) ?_
    refine s_iload (i := 5) (by decide +kernel) rfl ?_
    refine s_iconst (n := -1) (by decide +kernel) ?_
    refine s_icmp_eq (off := 20) (tgt := 53) (by decide +kernel) (by decide) (fun c12 => ?_) (fun c12 => ?_)
    · have h13 := h10.1 c12
      refine s_iinc (i := 4) (n := 1) (by decide +kernel) rfl (by decide) ?_
      refine s_goto (off := -49) (tgt := 7) (by decide +kernel) (by decide) ?_
      exact s_loc (L' := [some (aR 63), some (aI x1), some (aI x2), some (aI x3), some (aI (x4 + 1)), none]) (ll_s (ll_s (ll_s (ll_s (ll_s (ll_n ll_nil)))))) h13
    · have h14 := h10.2 c12
      refine s_iload_n (i := 2) (by decide +kernel) rfl ?_
      refine s_iconst (n := -1) (by decide +kernel) ?_
      refine s_icmp_eq (off := 9) (tgt := 47) (by decide +kernel) (by decide) (fun c15 => ?_) (fun c15 => ?_)
      · have h16 := h14.1 c15
        refine s_iload (i := 4) (by decide +kernel) rfl ?_
        refine s_istore_n (i := 2) (by decide +kernel) (by decide) ?_
        refine s_iload (i := 5) (by decide +kernel) rfl ?_
        refine s_istore_n (i := 3) (by decide +kernel) (by decide) ?_
        refine s_iinc (i := 4) (n := 1) (by decide +kernel) rfl (by decide) ?_
        refine s_goto (off := -49) (tgt := 7) (by decide +kernel) (by decide) ?_
        exact s_loc (L' := [some (aR 63), some (aI x1), some (aI x4), some (aI b9), some (aI (x4 + 1)), none]) (ll_s (ll_s (ll_s (ll_s (ll_s (ll_n ll_nil)))))) h16
      · have h17 := h14.2 c15
        refine s_iload (i := 5) (by decide +kernel) rfl ?_
        refine s_iload_n (i := 3) (by decide +kernel) rfl ?_
        refine s_icmp_ge (off := 9) (tgt := 53) (by decide +kernel) (by decide) (fun c18 => ?_) (fun c18 => ?_)
        · have h19 := h17.1 c18
          refine s_iinc (i := 4) (n := 1) (by decide +kernel) rfl (by decide) ?_
          refine s_goto (off := -49) (tgt := 7) (by decide +kernel) (by decide) ?_
          exact s_loc (L' := [some (aR 63), some (aI x1), some (aI x2), some (aI x3), some (aI (x4 + 1)), none]) (ll_s (ll_s (ll_s (ll_s (ll_s (ll_n ll_nil)))))) h19
        · have h20 := h17.2 c18
          refine s_iload (i := 4) (by decide +kernel) rfl ?_
          refine s_istore_n (i := 2) (by decide +kernel) (by decide) ?_
          refine s_iload (i := 5) (by decide +kernel) rfl ?_
          refine s_istore_n (i := 3) (by decide +kernel) (by decide) ?_
          refine s_iinc (i := 4) (n := 1) (by decide +kernel) rfl (by decide) ?_
          refine s_goto (off := -49) (tgt := 7) (by decide +kernel) (by decide) ?_
          exact s_loc (L' := [some (aR 63), some (aI x1), some (aI x4), some (aI b9), some (aI (x4 + 1)), none]) (ll_s (ll_s (ll_s (ll_s (ll_s (ll_n ll_nil)))))) h20

set_option maxRecDepth 20000 in
theorem BM_regretOf_0 {K : KX} {Q : Res → AG → AM → Prop} {M : AM} (p1 : Int)
    (h : ∃ j1 : Nat, wr p1 = (j1 : Int) ∧ j1 < 20 ∧ ((wr (M 74 j1) = 0 → MetA K fM_takerOf [aR 63, aI p1] GG M (cI GG (fun b9 M8 => WM K fM_regretOf (EM K fM_regretOf 80 Q) 18 [some (aR 63), some (aI p1), none, none, none, none, none] [aI b9] GG M8 0 0) noX)) ∧ (¬ wr (M 74 j1) = 0 → WM K fM_regretOf (EM K fM_regretOf 80 Q) 18 [some (aR 63), some (aI p1), none, none, none, none, none] [aI (-1)] GG M 0 0))) :
    WM K fM_regretOf (EM K fM_regretOf 80 Q) 0 [some (aR 63), some (aI p1), none, none, none, none, none] [] GG M 0 0 := by
  refine s_aload_n (i := 0) (by decide +kernel) rfl ?_
  refine s_getR (ci := 5) (k := 14) (index := 41) (r2 := 74) ck5 rfl rfl (by decide) rfl (by decide +kernel) g_595 ?_
  refine s_iload_n (i := 1) (by decide +kernel) rfl ?_
  obtain ⟨j1, e2, e3, h4⟩ := h
  refine s_iald (j := j1) rfl e2 e3 (by decide +kernel) ?_
  refine s_if_ne (off := 11) (tgt := 17) (by decide +kernel) (by decide) (fun c5 => ?_) (fun c5 => ?_)
  · have h6 := h4.2 c5
    refine s_iconst (n := -1) (by decide +kernel) ?_
    exact h6
  · have h7 := h4.1 c5
    refine s_aload_n (i := 0) (by decide +kernel) rfl ?_
    refine s_iload_n (i := 1) (by decide +kernel) rfl ?_
    refine s_callV (Fc := fM_takerOf) (index := 132) (ci := 5) (as := [aI p1]) (rest := []) rfl h7 rfl rfl (by decide) rfl ⟨g_765, hM_takerOf, g_6, by decide, (show (parseMethodDescriptor fM_takerOf.1.desc).map (fun d => d.parameters.length) = some 1 from by decide +kernel), by decide, by decide, by decide, by decide⟩ g_767 gp_35 rfl rfl (Nat.le_of_ble_eq_true rfl) (by decide +kernel) (q_cI (fun b9 M8 h10 => ?_) (fun _ _ q => q.elim))
    refine s_goto (off := 4) (tgt := 18) (by decide +kernel) (by decide) ?_
    exact h10

set_option maxRecDepth 20000 in
theorem BM_regretOf_18 {K : KX} {Q : Res → AG → AM → Prop} {M : AM} (x1 y0 : Int)
    (h : (wr y0 = wr ((-1)) → Q (.inl (some (aI (-1)))) GG M) ∧ (¬ wr y0 = wr ((-1)) → ∃ j3 : Nat, wr x1 = (j3 : Int) ∧ j3 < 20 ∧ (MetA K fM_couldGo [aR 63, aI y0, aI (M 73 j3)] GG M (cI GG (fun b8 M7 => WM K fM_regretOf (EM K fM_regretOf 80 Q) 44 [some (aR 63), some (aI x1), some (aI y0), some (aI b8), some (aI (-1)), some (aI 0), none] [] GG M7 0 0) noX)))) :
    WM K fM_regretOf (EM K fM_regretOf 80 Q) 18 [some (aR 63), some (aI x1), none, none, none, none, none] [aI y0] GG M 0 0 := by
  refine s_istore_n (i := 2) (by decide +kernel) (by decide) ?_
  refine s_iload_n (i := 2) (by decide +kernel) rfl ?_
  refine s_iconst (n := -1) (by decide +kernel) ?_
  refine s_icmp_ne (off := 5) (tgt := 26) (by decide +kernel) (by decide) (fun c1 => ?_) (fun c1 => ?_)
  · have h2 := h.2 c1
    refine s_aload_n (i := 0) (by decide +kernel) rfl ?_
    refine s_iload_n (i := 2) (by decide +kernel) rfl ?_
    refine s_aload_n (i := 0) (by decide +kernel) rfl ?_
    refine s_getR (ci := 5) (k := 13) (index := 38) (r2 := 73) ck5 rfl rfl (by decide) rfl (by decide +kernel) g_594 ?_
    refine s_iload_n (i := 1) (by decide +kernel) rfl ?_
    obtain ⟨j3, e4, e5, h6⟩ := h2
    refine s_iald (j := j3) rfl e4 e5 (by decide +kernel) ?_
    refine s_callV (Fc := fM_couldGo) (index := 117) (ci := 5) (as := [aI y0, aI (M 73 j3)]) (rest := []) rfl h6 rfl rfl (by decide) rfl ⟨g_701, hM_couldGo, g_6, by decide, (show (parseMethodDescriptor fM_couldGo.1.desc).map (fun d => d.parameters.length) = some 2 from by decide +kernel), by decide, by decide, by decide, by decide⟩ g_703 gp_26 rfl rfl (Nat.le_of_ble_eq_true rfl) (by decide +kernel) (q_cI (fun b8 M7 h9 => ?_) (fun _ _ q => q.elim))
    refine s_istore_n (i := 3) (by decide +kernel) (by decide) ?_
    refine s_iconst (n := -1) (by decide +kernel) ?_
    refine s_istore (i := 4) (by decide +kernel) (by decide) ?_
    refine s_iconst (n := 0) (by decide +kernel) ?_
    refine s_istore (i := 5) (by decide +kernel) (by decide) ?_
    exact h9
  · have h11 := h.1 c1
    refine s_iconst (n := -1) (by decide +kernel) ?_
    exact s_iret rfl (by decide +kernel) (by decide) (by decide) h11

set_option maxRecDepth 20000 in
theorem BM_regretOf_44 {K : KX} {Q : Res → AG → AM → Prop} {M : AM} (x1 x2 x3 x4 x5 : Int)
    (h : (wr (M 63 5) ≤ wr x5 → (wr x4 = wr ((-1)) → WM K fM_regretOf (EM K fM_regretOf 80 Q) 127 [some (aR 63), some (aI x1), some (aI x2), some (aI x3), some (aI x4), some (aI x5), none] [aI 1000] GG M 0 0) ∧ (¬ wr x4 = wr ((-1)) → WM K fM_regretOf (EM K fM_regretOf 80 Q) 127 [some (aR 63), some (aI x1), some (aI x2), some (aI x3), some (aI x4), some (aI x5), none] [aI (x4 - x3)] GG M 0 0)) ∧ (¬ wr (M 63 5) ≤ wr x5 → (wr x5 = wr x2 → WM K fM_regretOf (EM K fM_regretOf 80 Q) 75 [some (aR 63), some (aI x1), some (aI x2), some (aI x3), some (aI x4), some (aI x5), none] [aI (-1)] GG M 0 0) ∧ (¬ wr x5 = wr x2 → ∃ j9 : Nat, wr x1 = (j9 : Int) ∧ j9 < 20 ∧ (MetA K fM_couldGo [aR 63, aI x5, aI (M 73 j9)] GG M (cI GG (fun b14 M13 => WM K fM_regretOf (EM K fM_regretOf 80 Q) 75 [some (aR 63), some (aI x1), some (aI x2), some (aI x3), some (aI x4), some (aI x5), none] [aI b14] GG M13 0 0) noX))))) :
    WM K fM_regretOf (EM K fM_regretOf 80 Q) 44 [some (aR 63), some (aI x1), some (aI x2), some (aI x3), some (aI x4), some (aI x5), none] [] GG M 0 0 := by
  refine s_iload (i := 5) (by decide +kernel) rfl ?_
  refine s_aload_n (i := 0) (by decide +kernel) rfl ?_
  refine s_getI (ci := 5) (k := 5) (index := 64) ck5 rfl (by decide) rfl (by decide +kernel) g_586 ?_
  refine s_icmp_ge (off := 61) (tgt := 111) (by decide +kernel) (by decide) (fun c1 => ?_) (fun c1 => ?_)
  · have h2 := h.1 c1
    refine s_iload (i := 4) (by decide +kernel) rfl ?_
    refine s_iconst (n := -1) (by decide +kernel) ?_
    refine s_icmp_ne (off := 9) (tgt := 123) (by decide +kernel) (by decide) (fun c3 => ?_) (fun c3 => ?_)
    · have h4 := h2.2 c3
      refine s_iload (i := 4) (by decide +kernel) rfl ?_
      refine s_iload_n (i := 3) (by decide +kernel) rfl ?_
      refine s_isub (by decide +kernel) ?_
      exact h4
    · have h5 := h2.1 c3
      refine s_sipush (n := 1000) (by decide +kernel) (by decide +kernel) ?_
      refine s_goto (off := 7) (tgt := 127) (by decide +kernel) (by decide) ?_
      exact h5
  · have h6 := h.2 c1
    refine s_iload (i := 5) (by decide +kernel) rfl ?_
    refine s_iload_n (i := 2) (by decide +kernel) rfl ?_
    refine s_icmp_ne (off := 7) (tgt := 63) (by decide +kernel) (by decide) (fun c7 => ?_) (fun c7 => ?_)
    · have h8 := h6.2 c7
      refine s_aload_n (i := 0) (by decide +kernel) rfl ?_
      refine s_iload (i := 5) (by decide +kernel) rfl ?_
      refine s_aload_n (i := 0) (by decide +kernel) rfl ?_
      refine s_getR (ci := 5) (k := 13) (index := 38) (r2 := 73) ck5 rfl rfl (by decide) rfl (by decide +kernel) g_594 ?_
      refine s_iload_n (i := 1) (by decide +kernel) rfl ?_
      obtain ⟨j9, e10, e11, h12⟩ := h8
      refine s_iald (j := j9) rfl e10 e11 (by decide +kernel) ?_
      refine s_callV (Fc := fM_couldGo) (index := 117) (ci := 5) (as := [aI x5, aI (M 73 j9)]) (rest := []) rfl h12 rfl rfl (by decide) rfl ⟨g_701, hM_couldGo, g_6, by decide, (show (parseMethodDescriptor fM_couldGo.1.desc).map (fun d => d.parameters.length) = some 2 from by decide +kernel), by decide, by decide, by decide, by decide⟩ g_703 gp_26 rfl rfl (Nat.le_of_ble_eq_true rfl) (by decide +kernel) (q_cI (fun b14 M13 h15 => ?_) (fun _ _ q => q.elim))
      exact h15
    · have h17 := h6.1 c7
      refine s_iconst (n := -1) (by decide +kernel) ?_
      refine s_goto (off := 15) (tgt := 75) (by decide +kernel) (by decide) ?_
      exact h17

set_option maxRecDepth 20000 in
theorem BM_regretOf_75 {K : KX} {Q : Res → AG → AM → Prop} {M : AM} (x1 x2 x3 x4 x5 y0 : Int)
    (h : (wr y0 = wr ((-1)) → WM K fM_regretOf (EM K fM_regretOf 80 Q) 101 [some (aR 63), some (aI x1), some (aI x2), some (aI x3), some (aI x4), some (aI x5), some (aI y0)] [] GG M 0 0) ∧ (¬ wr y0 = wr ((-1)) → (wr x4 = wr ((-1)) → WM K fM_regretOf (EM K fM_regretOf 80 Q) 96 [some (aR 63), some (aI x1), some (aI x2), some (aI x3), some (aI x4), some (aI x5), some (aI y0)] [] GG M 0 0) ∧ (¬ wr x4 = wr ((-1)) → (wr x4 ≤ wr y0 → WM K fM_regretOf (EM K fM_regretOf 80 Q) 101 [some (aR 63), some (aI x1), some (aI x2), some (aI x3), some (aI x4), some (aI x5), some (aI y0)] [] GG M 0 0) ∧ (¬ wr x4 ≤ wr y0 → WM K fM_regretOf (EM K fM_regretOf 80 Q) 96 [some (aR 63), some (aI x1), some (aI x2), some (aI x3), some (aI x4), some (aI x5), some (aI y0)] [] GG M 0 0)))) :
    WM K fM_regretOf (EM K fM_regretOf 80 Q) 75 [some (aR 63), some (aI x1), some (aI x2), some (aI x3), some (aI x4), some (aI x5), none] [aI y0] GG M 0 0 := by
  refine s_istore (i := 6) (by decide +kernel) (by decide) ?_
  refine s_iload (i := 6) (by decide +kernel) rfl ?_
  refine s_iconst (n := -1) (by decide +kernel) ?_
  refine s_icmp_eq (off := 21) (tgt := 101) (by decide +kernel) (by decide) (fun c1 => ?_) (fun c1 => ?_)
  · have h2 := h.1 c1
    exact h2
  · have h3 := h.2 c1
    refine s_iload (i := 4) (by decide +kernel) rfl ?_
    refine s_iconst (n := -1) (by decide +kernel) ?_
    refine s_icmp_eq (off := 10) (tgt := 96) (by decide +kernel) (by decide) (fun c4 => ?_) (fun c4 => ?_)
    · have h5 := h3.1 c4
      exact h5
    · have h6 := h3.2 c4
      refine s_iload (i := 6) (by decide +kernel) rfl ?_
      refine s_iload (i := 4) (by decide +kernel) rfl ?_
      refine s_icmp_ge (off := 8) (tgt := 101) (by decide +kernel) (by decide) (fun c7 => ?_) (fun c7 => ?_)
      · have h8 := h6.1 c7
        exact h8
      · have h9 := h6.2 c7
        exact h9

set_option maxRecDepth 20000 in
theorem BM_regretOf_96 {K : KX} {Q : Res → AG → AM → Prop} {M : AM} (x1 x2 x3 x4 x5 x6 : Int)
    (h : WM K fM_regretOf (EM K fM_regretOf 80 Q) 103 [some (aR 63), some (aI x1), some (aI x2), some (aI x3), some (aI x4), some (aI x5), some (aI x6)] [aI x6] GG M 0 0) :
    WM K fM_regretOf (EM K fM_regretOf 80 Q) 96 [some (aR 63), some (aI x1), some (aI x2), some (aI x3), some (aI x4), some (aI x5), some (aI x6)] [] GG M 0 0 := by
  refine s_iload (i := 6) (by decide +kernel) rfl ?_
  refine s_goto (off := 5) (tgt := 103) (by decide +kernel) (by decide) ?_
  exact h

set_option maxRecDepth 20000 in
theorem BM_regretOf_101 {K : KX} {Q : Res → AG → AM → Prop} {M : AM} (x1 x2 x3 x4 x5 x6 : Int)
    (h : WM K fM_regretOf (EM K fM_regretOf 80 Q) 103 [some (aR 63), some (aI x1), some (aI x2), some (aI x3), some (aI x4), some (aI x5), some (aI x6)] [aI x4] GG M 0 0) :
    WM K fM_regretOf (EM K fM_regretOf 80 Q) 101 [some (aR 63), some (aI x1), some (aI x2), some (aI x3), some (aI x4), some (aI x5), some (aI x6)] [] GG M 0 0 := by
  refine s_iload (i := 4) (by decide +kernel) rfl ?_
  exact h

set_option maxRecDepth 20000 in
theorem BM_regretOf_103 {K : KX} {Q : Res → AG → AM → Prop} {M : AM} (x1 x2 x3 x4 x5 x6 y0 : Int)
    (h : WM K fM_regretOf (EM K fM_regretOf 80 Q) 44 [some (aR 63), some (aI x1), some (aI x2), some (aI x3), some (aI y0), some (aI (x5 + 1)), none] [] GG M 0 0) :
    WM K fM_regretOf (EM K fM_regretOf 80 Q) 103 [some (aR 63), some (aI x1), some (aI x2), some (aI x3), some (aI x4), some (aI x5), some (aI x6)] [aI y0] GG M 0 0 := by
  refine s_istore (i := 4) (by decide +kernel) (by decide) ?_
  refine s_iinc (i := 5) (n := 1) (by decide +kernel) rfl (by decide) ?_
  refine s_goto (off := -64) (tgt := 44) (by decide +kernel) (by decide) ?_
  exact s_loc (L' := [some (aR 63), some (aI x1), some (aI x2), some (aI x3), some (aI y0), some (aI (x5 + 1)), none]) (ll_s (ll_s (ll_s (ll_s (ll_s (ll_s (ll_n ll_nil))))))) h

set_option maxRecDepth 20000 in
theorem BM_regretOf_127 {K : KX} {Q : Res → AG → AM → Prop} {M : AM} (x1 x2 x3 x4 x5 y0 : Int)
    (h : Q (.inl (some (aI y0))) GG M) :
    WM K fM_regretOf (EM K fM_regretOf 80 Q) 127 [some (aR 63), some (aI x1), some (aI x2), some (aI x3), some (aI x4), some (aI x5), none] [aI y0] GG M 0 0 := by
  exact s_iret rfl (by decide +kernel) (by decide) (by decide) h

set_option maxRecDepth 20000 in
theorem BM_dispatch_0 {K : KX} {Q : Res → AG → AM → Prop} {M : AM} 
    (h : WM K fM_dispatch (EM K fM_dispatch 80 Q) 11 [some (aR 63), some (aI (-1)), some (aI (-1)), some (aI 0), none] [] GG (um M 63 0 0) 0 0) :
    WM K fM_dispatch (EM K fM_dispatch 80 Q) 0 [some (aR 63), none, none, none, none] [] GG M 0 0 := by
  refine s_aload_n (i := 0) (by decide +kernel) rfl ?_
  refine s_iconst (n := 0) (by decide +kernel) ?_
  refine s_putI (ci := 5) (k := 0) (index := 56) ck5 rfl (by decide) rfl rfl rfl (by decide +kernel) g_581 ?_
  refine s_iconst (n := -1) (by decide +kernel) ?_
  refine s_istore_n (i := 1) (by decide +kernel) (by decide) ?_
  refine s_iconst (n := -1) (by decide +kernel) ?_
  refine s_istore_n (i := 2) (by decide +kernel) (by decide) ?_
  refine s_iconst (n := 0) (by decide +kernel) ?_
  refine s_istore_n (i := 3) (by decide +kernel) (by decide) ?_
  exact h

set_option maxRecDepth 20000 in
theorem BM_dispatch_11 {K : KX} {Q : Res → AG → AM → Prop} {M : AM} (x1 x2 x3 : Int)
    (h : (wr (M 63 12) ≤ wr x3 → (wr x1 = wr ((-1)) → WM K fM_dispatch (EM K fM_dispatch 80 Q) 106 [some (aR 63), some (aI x1), some (aI x2), some (aI x3), none] [] GG M 0 0) ∧ (¬ wr x1 = wr ((-1)) → MetA K fM_takerOf [aR 63, aI x1] GG M (cI GG (fun b7 M6 => ∃ j10 : Nat, wr x1 = (j10 : Int) ∧ j10 < 20 ∧ (MetA K fM_couldGo [aR 63, aI b7, aI (M6 73 j10)] GG M6 (cI GG (fun b15 M14 => ∃ j18 : Nat, wr b7 = (j18 : Int) ∧ j18 < 6 ∧ (∃ j22 : Nat, wr b7 = (j22 : Int) ∧ j22 < 6 ∧ (∃ j26 : Nat, wr x1 = (j26 : Int) ∧ j26 < 20 ∧ (∃ j30 : Nat, wr x1 = (j30 : Int) ∧ j30 < 20 ∧ (WM K fM_dispatch (EM K fM_dispatch 80 Q) 106 [some (aR 63), some (aI x1), some (aI x2), some (aI b7), none] [] GG (um (um (um (um M14 69 j18 b15) 72 j22 x1) 74 j26 1) 75 j30 b7) 0 0))))) noX))) noX))) ∧ (¬ wr (M 63 12) ≤ wr x3 → MetA K fM_regretOf [aR 63, aI x3] GG M (cI GG (fun b36 M35 => (wr b36 ≤ wr x2 → WM K fM_dispatch (EM K fM_dispatch 80 Q) 37 [some (aR 63), some (aI x1), some (aI x2), some (aI x3), some (aI b36)] [aI x1] GG M35 0 0) ∧ (¬ wr b36 ≤ wr x2 → WM K fM_dispatch (EM K fM_dispatch 80 Q) 37 [some (aR 63), some (aI x1), some (aI x2), some (aI x3), some (aI b36)] [aI x3] GG M35 0 0)) noX))) :
    WM K fM_dispatch (EM K fM_dispatch 80 Q) 11 [some (aR 63), some (aI x1), some (aI x2), some (aI x3), none] [] GG M 0 0 := by
  refine s_iload_n (i := 3) (by decide +kernel) rfl ?_
  refine s_aload_n (i := 0) (by decide +kernel) rfl ?_
  refine s_getI (ci := 5) (k := 12) (index := 67) ck5 rfl (by decide) rfl (by decide +kernel) g_593 ?_
  refine s_icmp_ge (off := 41) (tgt := 57) (by decide +kernel) (by decide) (fun c1 => ?_) (fun c1 => ?_)
  · have h2 := h.1 c1
    refine s_iload_n (i := 1) (by decide +kernel) rfl ?_
    refine s_iconst (n := -1) (by decide +kernel) ?_
    refine s_icmp_eq (off := 47) (tgt := 106) (by decide +kernel) (by decide) (fun c3 => ?_) (fun c3 => ?_)
    · have h4 := h2.1 c3
      exact h4
    · have h5 := h2.2 c3
      refine s_aload_n (i := 0) (by decide +kernel) rfl ?_
      refine s_iload_n (i := 1) (by decide +kernel) rfl ?_
      refine s_callV (Fc := fM_takerOf) (index := 132) (ci := 5) (as := [aI x1]) (rest := []) rfl h5 rfl rfl (by decide) rfl ⟨g_765, hM_takerOf, g_6, by decide, (show (parseMethodDescriptor fM_takerOf.1.desc).map (fun d => d.parameters.length) = some 1 from by decide +kernel), by decide, by decide, by decide, by decide⟩ g_767 gp_35 rfl rfl (Nat.le_of_ble_eq_true rfl) (by decide +kernel) (q_cI (fun b7 M6 h8 => ?_) (fun _ _ q => q.elim))
      refine s_istore_n (i := 3) (by decide +kernel) (by decide) ?_
      refine s_aload_n (i := 0) (by decide +kernel) rfl ?_
      refine s_getR (ci := 5) (k := 8) (index := 26) (r2 := 69) ck5 rfl rfl (by decide) rfl (by decide +kernel) g_589 ?_
      refine s_iload_n (i := 3) (by decide +kernel) rfl ?_
      refine s_aload_n (i := 0) (by decide +kernel) rfl ?_
      refine s_iload_n (i := 3) (by decide +kernel) rfl ?_
      refine s_aload_n (i := 0) (by decide +kernel) rfl ?_
      refine s_getR (ci := 5) (k := 13) (index := 38) (r2 := 73) ck5 rfl rfl (by decide) rfl (by decide +kernel) g_594 ?_
      refine s_iload_n (i := 1) (by decide +kernel) rfl ?_
      obtain ⟨j10, e11, e12, h13⟩ := h8
      refine s_iald (j := j10) rfl e11 e12 (by decide +kernel) ?_
      refine s_callV (Fc := fM_couldGo) (index := 117) (ci := 5) (as := [aI b7, aI (M6 73 j10)]) (rest := [aI b7, aR 69]) rfl h13 rfl rfl (by decide) rfl ⟨g_701, hM_couldGo, g_6, by decide, (show (parseMethodDescriptor fM_couldGo.1.desc).map (fun d => d.parameters.length) = some 2 from by decide +kernel), by decide, by decide, by decide, by decide⟩ g_703 gp_26 rfl rfl (Nat.le_of_ble_eq_true rfl) (by decide +kernel) (q_cI (fun b15 M14 h16 => ?_) (fun _ _ q => q.elim))
      obtain ⟨j18, e19, e20, h21⟩ := h16
      refine s_iast (j := j18) rfl e19 e20 (by decide +kernel) ?_
      refine s_aload_n (i := 0) (by decide +kernel) rfl ?_
      refine s_getR (ci := 5) (k := 11) (index := 35) (r2 := 72) ck5 rfl rfl (by decide) rfl (by decide +kernel) g_592 ?_
      refine s_iload_n (i := 3) (by decide +kernel) rfl ?_
      refine s_iload_n (i := 1) (by decide +kernel) rfl ?_
      obtain ⟨j22, e23, e24, h25⟩ := h21
      refine s_iast (j := j22) rfl e23 e24 (by decide +kernel) ?_
      refine s_aload_n (i := 0) (by decide +kernel) rfl ?_
      refine s_getR (ci := 5) (k := 14) (index := 41) (r2 := 74) ck5 rfl rfl (by decide) rfl (by decide +kernel) g_595 ?_
      refine s_iload_n (i := 1) (by decide +kernel) rfl ?_
      refine s_iconst (n := 1) (by decide +kernel) ?_
      obtain ⟨j26, e27, e28, h29⟩ := h25
      refine s_iast (j := j26) rfl e27 e28 (by decide +kernel) ?_
      refine s_aload_n (i := 0) (by decide +kernel) rfl ?_
      refine s_getR (ci := 5) (k := 15) (index := 44) (r2 := 75) ck5 rfl rfl (by decide) rfl (by decide +kernel) g_596 ?_
      refine s_iload_n (i := 1) (by decide +kernel) rfl ?_
      refine s_iload_n (i := 3) (by decide +kernel) rfl ?_
      obtain ⟨j30, e31, e32, h33⟩ := h29
      refine s_iast (j := j30) rfl e31 e32 (by decide +kernel) ?_
      exact h33
  · have h34 := h.2 c1
    refine s_aload_n (i := 0) (by decide +kernel) rfl ?_
    refine s_iload_n (i := 3) (by decide +kernel) rfl ?_
    refine s_callV (Fc := fM_regretOf) (index := 135) (ci := 5) (as := [aI x3]) (rest := []) rfl h34 rfl rfl (by decide) rfl ⟨g_761, hM_regretOf, g_6, by decide, (show (parseMethodDescriptor fM_regretOf.1.desc).map (fun d => d.parameters.length) = some 1 from by decide +kernel), by decide, by decide, by decide, by decide⟩ g_763 gp_34 rfl rfl (Nat.le_of_ble_eq_true rfl) (by decide +kernel) (q_cI (fun b36 M35 h37 => ?_) (fun _ _ q => q.elim))
    refine s_istore (i := 4) (by decide +kernel) (by decide) ?_
    refine s_iload (i := 4) (by decide +kernel) rfl ?_
    refine s_iload_n (i := 2) (by decide +kernel) rfl ?_
    refine s_icmp_le (off := 7) (tgt := 36) (by decide +kernel) (by decide) (fun c39 => ?_) (fun c39 => ?_)
    · have h40 := h37.1 c39
      refine s_iload_n (i := 1) (by decide +kernel) rfl ?_
      exact h40
    · have h41 := h37.2 c39
      refine s_iload_n (i := 3) (by decide +kernel) rfl ?_
      refine s_goto (off := 4) (tgt := 37) (by decide +kernel) (by decide) ?_
      exact h41

set_option maxRecDepth 20000 in
theorem BM_dispatch_37 {K : KX} {Q : Res → AG → AM → Prop} {M : AM} (x1 x2 x3 x4 y0 : Int)
    (h : (wr x4 ≤ wr x2 → WM K fM_dispatch (EM K fM_dispatch 80 Q) 50 [some (aR 63), some (aI y0), some (aI x2), some (aI x3), some (aI x4)] [aI x2] GG M 0 0) ∧ (¬ wr x4 ≤ wr x2 → WM K fM_dispatch (EM K fM_dispatch 80 Q) 50 [some (aR 63), some (aI y0), some (aI x2), some (aI x3), some (aI x4)] [aI x4] GG M 0 0)) :
    WM K fM_dispatch (EM K fM_dispatch 80 Q) 37 [some (aR 63), some (aI x1), some (aI x2), some (aI x3), some (aI x4)] [aI y0] GG M 0 0 := by
  refine s_istore_n (i := 1) (by decide +kernel) (by decide) ?_
  refine s_iload (i := 4) (by decide +kernel) rfl ?_
  refine s_iload_n (i := 2) (by decide +kernel) rfl ?_
  refine s_icmp_le (off := 8) (tgt := 49) (by decide +kernel) (by decide) (fun c1 => ?_) (fun c1 => ?_)
  · have h2 := h.1 c1
    refine s_iload_n (i := 2) (by decide +kernel) rfl ?_
    exact h2
  · have h3 := h.2 c1
    refine s_iload (i := 4) (by decide +kernel) rfl ?_
    refine s_goto (off := 4) (tgt := 50) (by decide +kernel) (by decide) ?_
    exact h3

set_option maxRecDepth 20000 in
theorem BM_dispatch_50 {K : KX} {Q : Res → AG → AM → Prop} {M : AM} (x1 x2 x3 x4 y0 : Int)
    (h : WM K fM_dispatch (EM K fM_dispatch 80 Q) 11 [some (aR 63), some (aI x1), some (aI y0), some (aI (x3 + 1)), none] [] GG M 0 0) :
    WM K fM_dispatch (EM K fM_dispatch 80 Q) 50 [some (aR 63), some (aI x1), some (aI x2), some (aI x3), some (aI x4)] [aI y0] GG M 0 0 := by
  refine s_istore_n (i := 2) (by decide +kernel) (by decide) ?_
  refine s_iinc (i := 3) (n := 1) (by decide +kernel) rfl (by decide) ?_
  refine s_goto (off := -43) (tgt := 11) (by decide +kernel) (by decide) ?_
  exact s_loc (L' := [some (aR 63), some (aI x1), some (aI y0), some (aI (x3 + 1)), none]) (ll_s (ll_s (ll_s (ll_s (ll_n ll_nil))))) h

set_option maxRecDepth 20000 in
theorem BM_dispatch_106 {K : KX} {Q : Res → AG → AM → Prop} {M : AM} (x1 x2 x3 : Int)
    (h : Q (.inl (some (aI x1))) GG M) :
    WM K fM_dispatch (EM K fM_dispatch 80 Q) 106 [some (aR 63), some (aI x1), some (aI x2), some (aI x3), none] [] GG M 0 0 := by
  refine s_iload_n (i := 1) (by decide +kernel) rfl ?_
  exact s_iret rfl (by decide +kernel) (by decide) (by decide) h

set_option maxRecDepth 20000 in
theorem BM_jobState_0 {K : KX} {Q : Res → AG → AM → Prop} {M : AM} (p1 : Int)
    (h : MetA K fM_isJob [aR 63, aI p1] GG M (cI GG (fun b2 M1 => (wr b2 = 0 → MetA K fM_goesWell [aR 63, aI 1] GG M1 (cI GG (fun b8 M7 => (wr b8 = 0 → Q (.inl (some (aI 0))) GG M7) ∧ (¬ wr b8 = 0 → ∃ j14 : Nat, wr p1 = (j14 : Int) ∧ j14 < 20 ∧ (Q (.inl (some (aI (M7 74 j14)))) GG M7))) noX)) ∧ (¬ wr b2 = 0 → MetA K fM_goesWell [aR 63, aI 0] GG M1 (cI GG (fun b20 M19 => (wr b20 = 0 → Q (.inl (some (aI 0))) GG M19) ∧ (¬ wr b20 = 0 → ∃ j26 : Nat, wr p1 = (j26 : Int) ∧ j26 < 20 ∧ (Q (.inl (some (aI (M19 74 j26)))) GG M19))) noX))) noX)) :
    WM K fM_jobState (EM K fM_jobState 80 Q) 0 [some (aR 63), some (aI p1)] [] GG M 0 0 := by
  refine s_aload_n (i := 0) (by decide +kernel) rfl ?_
  refine s_aload_n (i := 0) (by decide +kernel) rfl ?_
  refine s_iload_n (i := 1) (by decide +kernel) rfl ?_
  refine s_callV (Fc := fM_isJob) (index := 138) (ci := 5) (as := [aI p1]) (rest := [aR 63]) rfl h rfl rfl (by decide) rfl ⟨g_773, hM_isJob, g_6, by decide, (show (parseMethodDescriptor fM_isJob.1.desc).map (fun d => d.parameters.length) = some 1 from by decide +kernel), by decide, by decide, by decide, by decide⟩ g_775 gp_36 rfl rfl (Nat.le_of_ble_eq_true rfl) (by decide +kernel) (q_cI (fun b2 M1 h3 => ?_) (fun _ _ q => q.elim))
  refine s_if_eq (off := 7) (tgt := 13) (by decide +kernel) (by decide) (fun c5 => ?_) (fun c5 => ?_)
  · have h6 := h3.1 c5
    refine s_iconst (n := 1) (by decide +kernel) ?_
    refine s_callV (Fc := fM_goesWell) (index := 74) (ci := 5) (as := [aI 1]) (rest := []) rfl h6 rfl rfl (by decide) rfl ⟨g_653, hM_goesWell, g_6, by decide, (show (parseMethodDescriptor fM_goesWell.1.desc).map (fun d => d.parameters.length) = some 1 from by decide +kernel), by decide, by decide, by decide, by decide⟩ g_655 gp_18 rfl rfl (Nat.le_of_ble_eq_true rfl) (by decide +kernel) (q_cI (fun b8 M7 h9 => ?_) (fun _ _ q => q.elim))
    refine s_if_eq (off := 12) (tgt := 29) (by decide +kernel) (by decide) (fun c11 => ?_) (fun c11 => ?_)
    · have h12 := h9.1 c11
      refine s_iconst (n := 0) (by decide +kernel) ?_
      exact s_iret rfl (by decide +kernel) (by decide) (by decide) h12
    · have h13 := h9.2 c11
      refine s_aload_n (i := 0) (by decide +kernel) rfl ?_
      refine s_getR (ci := 5) (k := 14) (index := 41) (r2 := 74) ck5 rfl rfl (by decide) rfl (by decide +kernel) g_595 ?_
      refine s_iload_n (i := 1) (by decide +kernel) rfl ?_
      obtain ⟨j14, e15, e16, h17⟩ := h13
      refine s_iald (j := j14) rfl e15 e16 (by decide +kernel) ?_
      refine s_goto (off := 4) (tgt := 30) (by decide +kernel) (by decide) ?_
      exact s_iret rfl (by decide +kernel) (by decide) (by decide) h17
  · have h18 := h3.2 c5
    refine s_iconst (n := 0) (by decide +kernel) ?_
    refine s_goto (off := 4) (tgt := 14) (by decide +kernel) (by decide) ?_
    refine s_callV (Fc := fM_goesWell) (index := 74) (ci := 5) (as := [aI 0]) (rest := []) rfl h18 rfl rfl (by decide) rfl ⟨g_653, hM_goesWell, g_6, by decide, (show (parseMethodDescriptor fM_goesWell.1.desc).map (fun d => d.parameters.length) = some 1 from by decide +kernel), by decide, by decide, by decide, by decide⟩ g_655 gp_18 rfl rfl (Nat.le_of_ble_eq_true rfl) (by decide +kernel) (q_cI (fun b20 M19 h21 => ?_) (fun _ _ q => q.elim))
    refine s_if_eq (off := 12) (tgt := 29) (by decide +kernel) (by decide) (fun c23 => ?_) (fun c23 => ?_)
    · have h24 := h21.1 c23
      refine s_iconst (n := 0) (by decide +kernel) ?_
      exact s_iret rfl (by decide +kernel) (by decide) (by decide) h24
    · have h25 := h21.2 c23
      refine s_aload_n (i := 0) (by decide +kernel) rfl ?_
      refine s_getR (ci := 5) (k := 14) (index := 41) (r2 := 74) ck5 rfl rfl (by decide) rfl (by decide +kernel) g_595 ?_
      refine s_iload_n (i := 1) (by decide +kernel) rfl ?_
      obtain ⟨j26, e27, e28, h29⟩ := h25
      refine s_iald (j := j26) rfl e27 e28 (by decide +kernel) ?_
      refine s_goto (off := 4) (tgt := 30) (by decide +kernel) (by decide) ?_
      exact s_iret rfl (by decide +kernel) (by decide) (by decide) h29

set_option maxRecDepth 20000 in
theorem BM_jobVehicle_0 {K : KX} {Q : Res → AG → AM → Prop} {M : AM} (p1 : Int)
    (h : MetA K fM_isJob [aR 63, aI p1] GG M (cI GG (fun b2 M1 => (wr b2 = 0 → MetA K fM_goesWell [aR 63, aI 1] GG M1 (cI GG (fun b8 M7 => (wr b8 = 0 → Q (.inl (some (aI 0))) GG M7) ∧ (¬ wr b8 = 0 → ∃ j14 : Nat, wr p1 = (j14 : Int) ∧ j14 < 20 ∧ (Q (.inl (some (aI (M7 75 j14)))) GG M7))) noX)) ∧ (¬ wr b2 = 0 → MetA K fM_goesWell [aR 63, aI 0] GG M1 (cI GG (fun b20 M19 => (wr b20 = 0 → Q (.inl (some (aI 0))) GG M19) ∧ (¬ wr b20 = 0 → ∃ j26 : Nat, wr p1 = (j26 : Int) ∧ j26 < 20 ∧ (Q (.inl (some (aI (M19 75 j26)))) GG M19))) noX))) noX)) :
    WM K fM_jobVehicle (EM K fM_jobVehicle 80 Q) 0 [some (aR 63), some (aI p1)] [] GG M 0 0 := by
  refine s_aload_n (i := 0) (by decide +kernel) rfl ?_
  refine s_aload_n (i := 0) (by decide +kernel) rfl ?_
  refine s_iload_n (i := 1) (by decide +kernel) rfl ?_
  refine s_callV (Fc := fM_isJob) (index := 138) (ci := 5) (as := [aI p1]) (rest := [aR 63]) rfl h rfl rfl (by decide) rfl ⟨g_773, hM_isJob, g_6, by decide, (show (parseMethodDescriptor fM_isJob.1.desc).map (fun d => d.parameters.length) = some 1 from by decide +kernel), by decide, by decide, by decide, by decide⟩ g_775 gp_36 rfl rfl (Nat.le_of_ble_eq_true rfl) (by decide +kernel) (q_cI (fun b2 M1 h3 => ?_) (fun _ _ q => q.elim))
  refine s_if_eq (off := 7) (tgt := 13) (by decide +kernel) (by decide) (fun c5 => ?_) (fun c5 => ?_)
  · have h6 := h3.1 c5
    refine s_iconst (n := 1) (by decide +kernel) ?_
    refine s_callV (Fc := fM_goesWell) (index := 74) (ci := 5) (as := [aI 1]) (rest := []) rfl h6 rfl rfl (by decide) rfl ⟨g_653, hM_goesWell, g_6, by decide, (show (parseMethodDescriptor fM_goesWell.1.desc).map (fun d => d.parameters.length) = some 1 from by decide +kernel), by decide, by decide, by decide, by decide⟩ g_655 gp_18 rfl rfl (Nat.le_of_ble_eq_true rfl) (by decide +kernel) (q_cI (fun b8 M7 h9 => ?_) (fun _ _ q => q.elim))
    refine s_if_eq (off := 12) (tgt := 29) (by decide +kernel) (by decide) (fun c11 => ?_) (fun c11 => ?_)
    · have h12 := h9.1 c11
      refine s_iconst (n := 0) (by decide +kernel) ?_
      exact s_iret rfl (by decide +kernel) (by decide) (by decide) h12
    · have h13 := h9.2 c11
      refine s_aload_n (i := 0) (by decide +kernel) rfl ?_
      refine s_getR (ci := 5) (k := 15) (index := 44) (r2 := 75) ck5 rfl rfl (by decide) rfl (by decide +kernel) g_596 ?_
      refine s_iload_n (i := 1) (by decide +kernel) rfl ?_
      obtain ⟨j14, e15, e16, h17⟩ := h13
      refine s_iald (j := j14) rfl e15 e16 (by decide +kernel) ?_
      refine s_goto (off := 4) (tgt := 30) (by decide +kernel) (by decide) ?_
      exact s_iret rfl (by decide +kernel) (by decide) (by decide) h17
  · have h18 := h3.2 c5
    refine s_iconst (n := 0) (by decide +kernel) ?_
    refine s_goto (off := 4) (tgt := 14) (by decide +kernel) (by decide) ?_
    refine s_callV (Fc := fM_goesWell) (index := 74) (ci := 5) (as := [aI 0]) (rest := []) rfl h18 rfl rfl (by decide) rfl ⟨g_653, hM_goesWell, g_6, by decide, (show (parseMethodDescriptor fM_goesWell.1.desc).map (fun d => d.parameters.length) = some 1 from by decide +kernel), by decide, by decide, by decide, by decide⟩ g_655 gp_18 rfl rfl (Nat.le_of_ble_eq_true rfl) (by decide +kernel) (q_cI (fun b20 M19 h21 => ?_) (fun _ _ q => q.elim))
    refine s_if_eq (off := 12) (tgt := 29) (by decide +kernel) (by decide) (fun c23 => ?_) (fun c23 => ?_)
    · have h24 := h21.1 c23
      refine s_iconst (n := 0) (by decide +kernel) ?_
      exact s_iret rfl (by decide +kernel) (by decide) (by decide) h24
    · have h25 := h21.2 c23
      refine s_aload_n (i := 0) (by decide +kernel) rfl ?_
      refine s_getR (ci := 5) (k := 15) (index := 44) (r2 := 75) ck5 rfl rfl (by decide) rfl (by decide +kernel) g_596 ?_
      refine s_iload_n (i := 1) (by decide +kernel) rfl ?_
      obtain ⟨j26, e27, e28, h29⟩ := h25
      refine s_iald (j := j26) rfl e27 e28 (by decide +kernel) ?_
      refine s_goto (off := 4) (tgt := 30) (by decide +kernel) (by decide) ?_
      exact s_iret rfl (by decide +kernel) (by decide) (by decide) h29

set_option maxRecDepth 20000 in
theorem BM_regret_0 {K : KX} {Q : Res → AG → AM → Prop} {M : AM} (p1 : Int)
    (h : MetA K fM_isJob [aR 63, aI p1] GG M (cI GG (fun b2 M1 => (wr b2 = 0 → MetA K fM_goesWell [aR 63, aI 1] GG M1 (cI GG (fun b8 M7 => (wr b8 = 0 → Q (.inl (some (aI 0))) GG M7) ∧ (¬ wr b8 = 0 → MetA K fM_regretOf [aR 63, aI p1] GG M7 (cI GG (fun b15 M14 => Q (.inl (some (aI b15))) GG M14) noX))) noX)) ∧ (¬ wr b2 = 0 → MetA K fM_goesWell [aR 63, aI 0] GG M1 (cI GG (fun b20 M19 => (wr b20 = 0 → Q (.inl (some (aI 0))) GG M19) ∧ (¬ wr b20 = 0 → MetA K fM_regretOf [aR 63, aI p1] GG M19 (cI GG (fun b27 M26 => Q (.inl (some (aI b27))) GG M26) noX))) noX))) noX)) :
    WM K fM_regret (EM K fM_regret 80 Q) 0 [some (aR 63), some (aI p1)] [] GG M 0 0 := by
  refine s_aload_n (i := 0) (by decide +kernel) rfl ?_
  refine s_aload_n (i := 0) (by decide +kernel) rfl ?_
  refine s_iload_n (i := 1) (by decide +kernel) rfl ?_
  refine s_callV (Fc := fM_isJob) (index := 138) (ci := 5) (as := [aI p1]) (rest := [aR 63]) rfl h rfl rfl (by decide) rfl ⟨g_773, hM_isJob, g_6, by decide, (show (parseMethodDescriptor fM_isJob.1.desc).map (fun d => d.parameters.length) = some 1 from by decide +kernel), by decide, by decide, by decide, by decide⟩ g_775 gp_36 rfl rfl (Nat.le_of_ble_eq_true rfl) (by decide +kernel) (q_cI (fun b2 M1 h3 => ?_) (fun _ _ q => q.elim))
  refine s_if_eq (off := 7) (tgt := 13) (by decide +kernel) (by decide) (fun c5 => ?_) (fun c5 => ?_)
  · have h6 := h3.1 c5
    refine s_iconst (n := 1) (by decide +kernel) ?_
    refine s_callV (Fc := fM_goesWell) (index := 74) (ci := 5) (as := [aI 1]) (rest := []) rfl h6 rfl rfl (by decide) rfl ⟨g_653, hM_goesWell, g_6, by decide, (show (parseMethodDescriptor fM_goesWell.1.desc).map (fun d => d.parameters.length) = some 1 from by decide +kernel), by decide, by decide, by decide, by decide⟩ g_655 gp_18 rfl rfl (Nat.le_of_ble_eq_true rfl) (by decide +kernel) (q_cI (fun b8 M7 h9 => ?_) (fun _ _ q => q.elim))
    refine s_if_eq (off := 11) (tgt := 28) (by decide +kernel) (by decide) (fun c11 => ?_) (fun c11 => ?_)
    · have h12 := h9.1 c11
      refine s_iconst (n := 0) (by decide +kernel) ?_
      exact s_iret rfl (by decide +kernel) (by decide) (by decide) h12
    · have h13 := h9.2 c11
      refine s_aload_n (i := 0) (by decide +kernel) rfl ?_
      refine s_iload_n (i := 1) (by decide +kernel) rfl ?_
      refine s_callV (Fc := fM_regretOf) (index := 135) (ci := 5) (as := [aI p1]) (rest := []) rfl h13 rfl rfl (by decide) rfl ⟨g_761, hM_regretOf, g_6, by decide, (show (parseMethodDescriptor fM_regretOf.1.desc).map (fun d => d.parameters.length) = some 1 from by decide +kernel), by decide, by decide, by decide, by decide⟩ g_763 gp_34 rfl rfl (Nat.le_of_ble_eq_true rfl) (by decide +kernel) (q_cI (fun b15 M14 h16 => ?_) (fun _ _ q => q.elim))
      refine s_goto (off := 4) (tgt := 29) (by decide +kernel) (by decide) ?_
      exact s_iret rfl (by decide +kernel) (by decide) (by decide) h16
  · have h18 := h3.2 c5
    refine s_iconst (n := 0) (by decide +kernel) ?_
    refine s_goto (off := 4) (tgt := 14) (by decide +kernel) (by decide) ?_
    refine s_callV (Fc := fM_goesWell) (index := 74) (ci := 5) (as := [aI 0]) (rest := []) rfl h18 rfl rfl (by decide) rfl ⟨g_653, hM_goesWell, g_6, by decide, (show (parseMethodDescriptor fM_goesWell.1.desc).map (fun d => d.parameters.length) = some 1 from by decide +kernel), by decide, by decide, by decide, by decide⟩ g_655 gp_18 rfl rfl (Nat.le_of_ble_eq_true rfl) (by decide +kernel) (q_cI (fun b20 M19 h21 => ?_) (fun _ _ q => q.elim))
    refine s_if_eq (off := 11) (tgt := 28) (by decide +kernel) (by decide) (fun c23 => ?_) (fun c23 => ?_)
    · have h24 := h21.1 c23
      refine s_iconst (n := 0) (by decide +kernel) ?_
      exact s_iret rfl (by decide +kernel) (by decide) (by decide) h24
    · have h25 := h21.2 c23
      refine s_aload_n (i := 0) (by decide +kernel) rfl ?_
      refine s_iload_n (i := 1) (by decide +kernel) rfl ?_
      refine s_callV (Fc := fM_regretOf) (index := 135) (ci := 5) (as := [aI p1]) (rest := []) rfl h25 rfl rfl (by decide) rfl ⟨g_761, hM_regretOf, g_6, by decide, (show (parseMethodDescriptor fM_regretOf.1.desc).map (fun d => d.parameters.length) = some 1 from by decide +kernel), by decide, by decide, by decide, by decide⟩ g_763 gp_34 rfl rfl (Nat.le_of_ble_eq_true rfl) (by decide +kernel) (q_cI (fun b27 M26 h28 => ?_) (fun _ _ q => q.elim))
      refine s_goto (off := 4) (tgt := 29) (by decide +kernel) (by decide) ?_
      exact s_iret rfl (by decide +kernel) (by decide) (by decide) h28

set_option maxRecDepth 20000 in
theorem BM_vehicles_0 {K : KX} {Q : Res → AG → AM → Prop} {M : AM} 
    (h : Q (.inl (some (aI ((um M 63 0 0) 63 5)))) GG (um M 63 0 0)) :
    WM K fM_vehicles (EM K fM_vehicles 80 Q) 0 [some (aR 63)] [] GG M 0 0 := by
  refine s_aload_n (i := 0) (by decide +kernel) rfl ?_
  refine s_iconst (n := 0) (by decide +kernel) ?_
  refine s_putI (ci := 5) (k := 0) (index := 56) ck5 rfl (by decide) rfl rfl rfl (by decide +kernel) g_581 ?_
  refine s_aload_n (i := 0) (by decide +kernel) rfl ?_
  refine s_getI (ci := 5) (k := 5) (index := 64) ck5 rfl (by decide) rfl (by decide +kernel) g_586 ?_
  exact s_iret rfl (by decide +kernel) (by decide) (by decide) h

set_option maxRecDepth 20000 in
theorem BM_zoneOf_0 {K : KX} {Q : Res → AG → AM → Prop} {M : AM} (p1 : Int)
    (h : MetA K fM_isVehicle [aR 63, aI p1] GG M (cI GG (fun b2 M1 => (wr b2 = 0 → MetA K fM_goesWell [aR 63, aI 1] GG M1 (cI GG (fun b8 M7 => (wr b8 = 0 → Q (.inl (some (aI 0))) GG M7) ∧ (¬ wr b8 = 0 → ∃ j14 : Nat, wr p1 = (j14 : Int) ∧ j14 < 6 ∧ (Q (.inl (some (aI (M7 67 j14)))) GG M7))) noX)) ∧ (¬ wr b2 = 0 → MetA K fM_goesWell [aR 63, aI 0] GG M1 (cI GG (fun b20 M19 => (wr b20 = 0 → Q (.inl (some (aI 0))) GG M19) ∧ (¬ wr b20 = 0 → ∃ j26 : Nat, wr p1 = (j26 : Int) ∧ j26 < 6 ∧ (Q (.inl (some (aI (M19 67 j26)))) GG M19))) noX))) noX)) :
    WM K fM_zoneOf (EM K fM_zoneOf 80 Q) 0 [some (aR 63), some (aI p1)] [] GG M 0 0 := by
  refine s_aload_n (i := 0) (by decide +kernel) rfl ?_
  refine s_aload_n (i := 0) (by decide +kernel) rfl ?_
  refine s_iload_n (i := 1) (by decide +kernel) rfl ?_
  refine s_callV (Fc := fM_isVehicle) (index := 114) (ci := 5) (as := [aI p1]) (rest := [aR 63]) rfl h rfl rfl (by decide) rfl ⟨g_697, hM_isVehicle, g_6, by decide, (show (parseMethodDescriptor fM_isVehicle.1.desc).map (fun d => d.parameters.length) = some 1 from by decide +kernel), by decide, by decide, by decide, by decide⟩ g_699 gp_25 rfl rfl (Nat.le_of_ble_eq_true rfl) (by decide +kernel) (q_cI (fun b2 M1 h3 => ?_) (fun _ _ q => q.elim))
  refine s_if_eq (off := 7) (tgt := 13) (by decide +kernel) (by decide) (fun c5 => ?_) (fun c5 => ?_)
  · have h6 := h3.1 c5
    refine s_iconst (n := 1) (by decide +kernel) ?_
    refine s_callV (Fc := fM_goesWell) (index := 74) (ci := 5) (as := [aI 1]) (rest := []) rfl h6 rfl rfl (by decide) rfl ⟨g_653, hM_goesWell, g_6, by decide, (show (parseMethodDescriptor fM_goesWell.1.desc).map (fun d => d.parameters.length) = some 1 from by decide +kernel), by decide, by decide, by decide, by decide⟩ g_655 gp_18 rfl rfl (Nat.le_of_ble_eq_true rfl) (by decide +kernel) (q_cI (fun b8 M7 h9 => ?_) (fun _ _ q => q.elim))
    refine s_if_eq (off := 12) (tgt := 29) (by decide +kernel) (by decide) (fun c11 => ?_) (fun c11 => ?_)
    · have h12 := h9.1 c11
      refine s_iconst (n := 0) (by decide +kernel) ?_
      exact s_iret rfl (by decide +kernel) (by decide) (by decide) h12
    · have h13 := h9.2 c11
      refine s_aload_n (i := 0) (by decide +kernel) rfl ?_
      refine s_getR (ci := 5) (k := 6) (index := 20) (r2 := 67) ck5 rfl rfl (by decide) rfl (by decide +kernel) g_587 ?_
      refine s_iload_n (i := 1) (by decide +kernel) rfl ?_
      obtain ⟨j14, e15, e16, h17⟩ := h13
      refine s_iald (j := j14) rfl e15 e16 (by decide +kernel) ?_
      refine s_goto (off := 4) (tgt := 30) (by decide +kernel) (by decide) ?_
      exact s_iret rfl (by decide +kernel) (by decide) (by decide) h17
  · have h18 := h3.2 c5
    refine s_iconst (n := 0) (by decide +kernel) ?_
    refine s_goto (off := 4) (tgt := 14) (by decide +kernel) (by decide) ?_
    refine s_callV (Fc := fM_goesWell) (index := 74) (ci := 5) (as := [aI 0]) (rest := []) rfl h18 rfl rfl (by decide) rfl ⟨g_653, hM_goesWell, g_6, by decide, (show (parseMethodDescriptor fM_goesWell.1.desc).map (fun d => d.parameters.length) = some 1 from by decide +kernel), by decide, by decide, by decide, by decide⟩ g_655 gp_18 rfl rfl (Nat.le_of_ble_eq_true rfl) (by decide +kernel) (q_cI (fun b20 M19 h21 => ?_) (fun _ _ q => q.elim))
    refine s_if_eq (off := 12) (tgt := 29) (by decide +kernel) (by decide) (fun c23 => ?_) (fun c23 => ?_)
    · have h24 := h21.1 c23
      refine s_iconst (n := 0) (by decide +kernel) ?_
      exact s_iret rfl (by decide +kernel) (by decide) (by decide) h24
    · have h25 := h21.2 c23
      refine s_aload_n (i := 0) (by decide +kernel) rfl ?_
      refine s_getR (ci := 5) (k := 6) (index := 20) (r2 := 67) ck5 rfl rfl (by decide) rfl (by decide +kernel) g_587 ?_
      refine s_iload_n (i := 1) (by decide +kernel) rfl ?_
      obtain ⟨j26, e27, e28, h29⟩ := h25
      refine s_iald (j := j26) rfl e27 e28 (by decide +kernel) ?_
      refine s_goto (off := 4) (tgt := 30) (by decide +kernel) (by decide) ?_
      exact s_iret rfl (by decide +kernel) (by decide) (by decide) h29

set_option maxRecDepth 20000 in
theorem BM_vehicleIn_0 {K : KX} {Q : Res → AG → AM → Prop} {M : AM} (p1 : Int)
    (h : MetA K fM_isZone [aI p1] GG M (cI GG (fun b2 M1 => (wr b2 = 0 → MetA K fM_goesWell [aR 63, aI 1] GG M1 (cI GG (fun b8 M7 => (wr b8 = 0 → Q (.inl (some (aI 0))) GG M7) ∧ (¬ wr b8 = 0 → MetA K fM_find [aR 63, aI p1] GG M7 (cI GG (fun b15 M14 => Q (.inl (some (aI b15))) GG M14) noX))) noX)) ∧ (¬ wr b2 = 0 → MetA K fM_goesWell [aR 63, aI 0] GG M1 (cI GG (fun b20 M19 => (wr b20 = 0 → Q (.inl (some (aI 0))) GG M19) ∧ (¬ wr b20 = 0 → MetA K fM_find [aR 63, aI p1] GG M19 (cI GG (fun b27 M26 => Q (.inl (some (aI b27))) GG M26) noX))) noX))) noX)) :
    WM K fM_vehicleIn (EM K fM_vehicleIn 80 Q) 0 [some (aR 63), some (aI p1)] [] GG M 0 0 := by
  refine s_aload_n (i := 0) (by decide +kernel) rfl ?_
  refine s_iload_n (i := 1) (by decide +kernel) rfl ?_
  refine s_callS (Fc := fM_isZone) (index := 70) (as := [aI p1]) (rest := [aR 63]) rfl h ⟨g_647, hM_isZone, g_6, by decide, (show (parseMethodDescriptor fM_isZone.1.desc).map (fun d => d.parameters.length) = some 1 from by decide +kernel), by decide, by decide, by decide, by decide⟩ g_648 rfl rfl (Nat.le_of_ble_eq_true rfl) (by decide +kernel) (q_cI (fun b2 M1 h3 => ?_) (fun _ _ q => q.elim))
  refine s_if_eq (off := 7) (tgt := 12) (by decide +kernel) (by decide) (fun c5 => ?_) (fun c5 => ?_)
  · have h6 := h3.1 c5
    refine s_iconst (n := 1) (by decide +kernel) ?_
    refine s_callV (Fc := fM_goesWell) (index := 74) (ci := 5) (as := [aI 1]) (rest := []) rfl h6 rfl rfl (by decide) rfl ⟨g_653, hM_goesWell, g_6, by decide, (show (parseMethodDescriptor fM_goesWell.1.desc).map (fun d => d.parameters.length) = some 1 from by decide +kernel), by decide, by decide, by decide, by decide⟩ g_655 gp_18 rfl rfl (Nat.le_of_ble_eq_true rfl) (by decide +kernel) (q_cI (fun b8 M7 h9 => ?_) (fun _ _ q => q.elim))
    refine s_if_eq (off := 11) (tgt := 27) (by decide +kernel) (by decide) (fun c11 => ?_) (fun c11 => ?_)
    · have h12 := h9.1 c11
      refine s_iconst (n := 0) (by decide +kernel) ?_
      exact s_iret rfl (by decide +kernel) (by decide) (by decide) h12
    · have h13 := h9.2 c11
      refine s_aload_n (i := 0) (by decide +kernel) rfl ?_
      refine s_iload_n (i := 1) (by decide +kernel) rfl ?_
      refine s_callV (Fc := fM_find) (index := 96) (ci := 5) (as := [aI p1]) (rest := []) rfl h13 rfl rfl (by decide) rfl ⟨g_673, hM_find, g_6, by decide, (show (parseMethodDescriptor fM_find.1.desc).map (fun d => d.parameters.length) = some 1 from by decide +kernel), by decide, by decide, by decide, by decide⟩ g_675 gp_20 rfl rfl (Nat.le_of_ble_eq_true rfl) (by decide +kernel) (q_cI (fun b15 M14 h16 => ?_) (fun _ _ q => q.elim))
      refine s_goto (off := 4) (tgt := 28) (by decide +kernel) (by decide) ?_
      exact s_iret rfl (by decide +kernel) (by decide) (by decide) h16
  · have h18 := h3.2 c5
    refine s_iconst (n := 0) (by decide +kernel) ?_
    refine s_goto (off := 4) (tgt := 13) (by decide +kernel) (by decide) ?_
    refine s_callV (Fc := fM_goesWell) (index := 74) (ci := 5) (as := [aI 0]) (rest := []) rfl h18 rfl rfl (by decide) rfl ⟨g_653, hM_goesWell, g_6, by decide, (show (parseMethodDescriptor fM_goesWell.1.desc).map (fun d => d.parameters.length) = some 1 from by decide +kernel), by decide, by decide, by decide, by decide⟩ g_655 gp_18 rfl rfl (Nat.le_of_ble_eq_true rfl) (by decide +kernel) (q_cI (fun b20 M19 h21 => ?_) (fun _ _ q => q.elim))
    refine s_if_eq (off := 11) (tgt := 27) (by decide +kernel) (by decide) (fun c23 => ?_) (fun c23 => ?_)
    · have h24 := h21.1 c23
      refine s_iconst (n := 0) (by decide +kernel) ?_
      exact s_iret rfl (by decide +kernel) (by decide) (by decide) h24
    · have h25 := h21.2 c23
      refine s_aload_n (i := 0) (by decide +kernel) rfl ?_
      refine s_iload_n (i := 1) (by decide +kernel) rfl ?_
      refine s_callV (Fc := fM_find) (index := 96) (ci := 5) (as := [aI p1]) (rest := []) rfl h25 rfl rfl (by decide) rfl ⟨g_673, hM_find, g_6, by decide, (show (parseMethodDescriptor fM_find.1.desc).map (fun d => d.parameters.length) = some 1 from by decide +kernel), by decide, by decide, by decide, by decide⟩ g_675 gp_20 rfl rfl (Nat.le_of_ble_eq_true rfl) (by decide +kernel) (q_cI (fun b27 M26 h28 => ?_) (fun _ _ q => q.elim))
      refine s_goto (off := 4) (tgt := 28) (by decide +kernel) (by decide) ?_
      exact s_iret rfl (by decide +kernel) (by decide) (by decide) h28

set_option maxRecDepth 20000 in
theorem BM_routeLength_0 {K : KX} {Q : Res → AG → AM → Prop} {M : AM} (p1 : Int)
    (h : MetA K fM_isVehicle [aR 63, aI p1] GG M (cI GG (fun b2 M1 => (wr b2 = 0 → MetA K fM_goesWell [aR 63, aI 1] GG M1 (cI GG (fun b8 M7 => (wr b8 = 0 → Q (.inl (some (aI 0))) GG M7) ∧ (¬ wr b8 = 0 → ∃ j14 : Nat, wr p1 = (j14 : Int) ∧ j14 < 6 ∧ (Q (.inl (some (aI (M7 69 j14)))) GG M7))) noX)) ∧ (¬ wr b2 = 0 → MetA K fM_goesWell [aR 63, aI 0] GG M1 (cI GG (fun b20 M19 => (wr b20 = 0 → Q (.inl (some (aI 0))) GG M19) ∧ (¬ wr b20 = 0 → ∃ j26 : Nat, wr p1 = (j26 : Int) ∧ j26 < 6 ∧ (Q (.inl (some (aI (M19 69 j26)))) GG M19))) noX))) noX)) :
    WM K fM_routeLength (EM K fM_routeLength 80 Q) 0 [some (aR 63), some (aI p1)] [] GG M 0 0 := by
  refine s_aload_n (i := 0) (by decide +kernel) rfl ?_
  refine s_aload_n (i := 0) (by decide +kernel) rfl ?_
  refine s_iload_n (i := 1) (by decide +kernel) rfl ?_
  refine s_callV (Fc := fM_isVehicle) (index := 114) (ci := 5) (as := [aI p1]) (rest := [aR 63]) rfl h rfl rfl (by decide) rfl ⟨g_697, hM_isVehicle, g_6, by decide, (show (parseMethodDescriptor fM_isVehicle.1.desc).map (fun d => d.parameters.length) = some 1 from by decide +kernel), by decide, by decide, by decide, by decide⟩ g_699 gp_25 rfl rfl (Nat.le_of_ble_eq_true rfl) (by decide +kernel) (q_cI (fun b2 M1 h3 => ?_) (fun _ _ q => q.elim))
  refine s_if_eq (off := 7) (tgt := 13) (by decide +kernel) (by decide) (fun c5 => ?_) (fun c5 => ?_)
  · have h6 := h3.1 c5
    refine s_iconst (n := 1) (by decide +kernel) ?_
    refine s_callV (Fc := fM_goesWell) (index := 74) (ci := 5) (as := [aI 1]) (rest := []) rfl h6 rfl rfl (by decide) rfl ⟨g_653, hM_goesWell, g_6, by decide, (show (parseMethodDescriptor fM_goesWell.1.desc).map (fun d => d.parameters.length) = some 1 from by decide +kernel), by decide, by decide, by decide, by decide⟩ g_655 gp_18 rfl rfl (Nat.le_of_ble_eq_true rfl) (by decide +kernel) (q_cI (fun b8 M7 h9 => ?_) (fun _ _ q => q.elim))
    refine s_if_eq (off := 12) (tgt := 29) (by decide +kernel) (by decide) (fun c11 => ?_) (fun c11 => ?_)
    · have h12 := h9.1 c11
      refine s_iconst (n := 0) (by decide +kernel) ?_
      exact s_iret rfl (by decide +kernel) (by decide) (by decide) h12
    · have h13 := h9.2 c11
      refine s_aload_n (i := 0) (by decide +kernel) rfl ?_
      refine s_getR (ci := 5) (k := 8) (index := 26) (r2 := 69) ck5 rfl rfl (by decide) rfl (by decide +kernel) g_589 ?_
      refine s_iload_n (i := 1) (by decide +kernel) rfl ?_
      obtain ⟨j14, e15, e16, h17⟩ := h13
      refine s_iald (j := j14) rfl e15 e16 (by decide +kernel) ?_
      refine s_goto (off := 4) (tgt := 30) (by decide +kernel) (by decide) ?_
      exact s_iret rfl (by decide +kernel) (by decide) (by decide) h17
  · have h18 := h3.2 c5
    refine s_iconst (n := 0) (by decide +kernel) ?_
    refine s_goto (off := 4) (tgt := 14) (by decide +kernel) (by decide) ?_
    refine s_callV (Fc := fM_goesWell) (index := 74) (ci := 5) (as := [aI 0]) (rest := []) rfl h18 rfl rfl (by decide) rfl ⟨g_653, hM_goesWell, g_6, by decide, (show (parseMethodDescriptor fM_goesWell.1.desc).map (fun d => d.parameters.length) = some 1 from by decide +kernel), by decide, by decide, by decide, by decide⟩ g_655 gp_18 rfl rfl (Nat.le_of_ble_eq_true rfl) (by decide +kernel) (q_cI (fun b20 M19 h21 => ?_) (fun _ _ q => q.elim))
    refine s_if_eq (off := 12) (tgt := 29) (by decide +kernel) (by decide) (fun c23 => ?_) (fun c23 => ?_)
    · have h24 := h21.1 c23
      refine s_iconst (n := 0) (by decide +kernel) ?_
      exact s_iret rfl (by decide +kernel) (by decide) (by decide) h24
    · have h25 := h21.2 c23
      refine s_aload_n (i := 0) (by decide +kernel) rfl ?_
      refine s_getR (ci := 5) (k := 8) (index := 26) (r2 := 69) ck5 rfl rfl (by decide) rfl (by decide +kernel) g_589 ?_
      refine s_iload_n (i := 1) (by decide +kernel) rfl ?_
      obtain ⟨j26, e27, e28, h29⟩ := h25
      refine s_iald (j := j26) rfl e27 e28 (by decide +kernel) ?_
      refine s_goto (off := 4) (tgt := 30) (by decide +kernel) (by decide) ?_
      exact s_iret rfl (by decide +kernel) (by decide) (by decide) h29

set_option maxRecDepth 20000 in
theorem BM_routeZone_0 {K : KX} {Q : Res → AG → AM → Prop} {M : AM} (p1 p2 : Int)
    (h : MetA K fM_isVehicle [aR 63, aI p1] GG M (cI GG (fun b2 M1 => (wr b2 = 0 → MetA K fM_goesWell [aR 63, aI 1] GG M1 (cI GG (fun b42 M41 => (wr b42 = 0 → Q (.inl (some (aI 0))) GG M41) ∧ (¬ wr b42 = 0 → ∃ j48 : Nat, wr ((20 * p1) + p2) = (j48 : Int) ∧ j48 < 120 ∧ (Q (.inl (some (aI (M41 70 j48)))) GG M41))) noX)) ∧ (¬ wr b2 = 0 → ∃ j7 : Nat, wr p1 = (j7 : Int) ∧ j7 < 6 ∧ (MetA K fM_in [aI p2, aI 0, aI ((M1 69 j7) - 1)] GG M1 (cI GG (fun b12 M11 => (wr b12 = 0 → MetA K fM_goesWell [aR 63, aI 2] GG M11 (cI GG (fun b18 M17 => (wr b18 = 0 → Q (.inl (some (aI 0))) GG M17) ∧ (¬ wr b18 = 0 → ∃ j24 : Nat, wr ((20 * p1) + p2) = (j24 : Int) ∧ j24 < 120 ∧ (Q (.inl (some (aI (M17 70 j24)))) GG M17))) noX)) ∧ (¬ wr b12 = 0 → MetA K fM_goesWell [aR 63, aI 0] GG M11 (cI GG (fun b30 M29 => (wr b30 = 0 → Q (.inl (some (aI 0))) GG M29) ∧ (¬ wr b30 = 0 → ∃ j36 : Nat, wr ((20 * p1) + p2) = (j36 : Int) ∧ j36 < 120 ∧ (Q (.inl (some (aI (M29 70 j36)))) GG M29))) noX))) noX)))) noX)) :
    WM K fM_routeZone (EM K fM_routeZone 80 Q) 0 [some (aR 63), some (aI p1), some (aI p2), none] [] GG M 0 0 := by
  refine s_aload_n (i := 0) (by decide +kernel) rfl ?_
  refine s_iload_n (i := 1) (by decide +kernel) rfl ?_
  refine s_callV (Fc := fM_isVehicle) (index := 114) (ci := 5) (as := [aI p1]) (rest := []) rfl h rfl rfl (by decide) rfl ⟨g_697, hM_isVehicle, g_6, by decide, (show (parseMethodDescriptor fM_isVehicle.1.desc).map (fun d => d.parameters.length) = some 1 from by decide +kernel), by decide, by decide, by decide, by decide⟩ g_699 gp_25 rfl rfl (Nat.le_of_ble_eq_true rfl) (by decide +kernel) (q_cI (fun b2 M1 h3 => ?_) (fun _ _ q => q.elim))
  refine s_istore_n (i := 3) (by decide +kernel) (by decide) ?_
  refine s_aload_n (i := 0) (by decide +kernel) rfl ?_
  refine s_iload_n (i := 3) (by decide +kernel) rfl ?_
  refine s_if_ne (off := 7) (tgt := 15) (by decide +kernel) (by decide) (fun c5 => ?_) (fun c5 => ?_)
  · have h6 := h3.2 c5
    refine s_iload_n (i := 2) (by decide +kernel) rfl ?_
    refine s_iconst (n := 0) (by decide +kernel) ?_
    refine s_aload_n (i := 0) (by decide +kernel) rfl ?_
    refine s_getR (ci := 5) (k := 8) (index := 26) (r2 := 69) ck5 rfl rfl (by decide) rfl (by decide +kernel) g_589 ?_
    refine s_iload_n (i := 1) (by decide +kernel) rfl ?_
    obtain ⟨j7, e8, e9, h10⟩ := h6
    refine s_iald (j := j7) rfl e8 e9 (by decide +kernel) ?_
    refine s_iconst (n := 1) (by decide +kernel) ?_
    refine s_isub (by decide +kernel) ?_
    refine s_callS (Fc := fM_in) (index := 60) (as := [aI p2, aI 0, aI ((M1 69 j7) - 1)]) (rest := [aR 63]) rfl h10 ⟨g_650, hM_in, g_6, by decide, (show (parseMethodDescriptor fM_in.1.desc).map (fun d => d.parameters.length) = some 3 from by decide +kernel), by decide, by decide, by decide, by decide⟩ g_651 rfl rfl (Nat.le_of_ble_eq_true rfl) (by decide +kernel) (q_cI (fun b12 M11 h13 => ?_) (fun _ _ q => q.elim))
    refine s_if_eq (off := 7) (tgt := 35) (by decide +kernel) (by decide) (fun c15 => ?_) (fun c15 => ?_)
    · have h16 := h13.1 c15
      refine s_iconst (n := 2) (by decide +kernel) ?_
      refine s_callV (Fc := fM_goesWell) (index := 74) (ci := 5) (as := [aI 2]) (rest := []) rfl h16 rfl rfl (by decide) rfl ⟨g_653, hM_goesWell, g_6, by decide, (show (parseMethodDescriptor fM_goesWell.1.desc).map (fun d => d.parameters.length) = some 1 from by decide +kernel), by decide, by decide, by decide, by decide⟩ g_655 gp_18 rfl rfl (Nat.le_of_ble_eq_true rfl) (by decide +kernel) (q_cI (fun b18 M17 h19 => ?_) (fun _ _ q => q.elim))
      refine s_if_eq (off := 17) (tgt := 56) (by decide +kernel) (by decide) (fun c21 => ?_) (fun c21 => ?_)
      · have h22 := h19.1 c21
        refine s_iconst (n := 0) (by decide +kernel) ?_
        exact s_iret rfl (by decide +kernel) (by decide) (by decide) h22
      · have h23 := h19.2 c21
        refine s_aload_n (i := 0) (by decide +kernel) rfl ?_
        refine s_getR (ci := 5) (k := 9) (index := 29) (r2 := 70) ck5 rfl rfl (by decide) rfl (by decide +kernel) g_590 ?_
        refine s_bipush (n := 20) (by decide +kernel) (by decide +kernel) ?_
        refine s_iload_n (i := 1) (by decide +kernel) rfl ?_
        refine s_imul (by decide +kernel) ?_
        refine s_iload_n (i := 2) (by decide +kernel) rfl ?_
        refine s_iadd (by decide +kernel) ?_
        obtain ⟨j24, e25, e26, h27⟩ := h23
        refine s_iald (j := j24) rfl e25 e26 (by decide +kernel) ?_
        refine s_goto (off := 4) (tgt := 57) (by decide +kernel) (by decide) ?_
        exact s_iret rfl (by decide +kernel) (by decide) (by decide) h27
    · have h28 := h13.2 c15
      refine s_iconst (n := 0) (by decide +kernel) ?_
      refine s_goto (off := 4) (tgt := 36) (by decide +kernel) (by decide) ?_
      refine s_callV (Fc := fM_goesWell) (index := 74) (ci := 5) (as := [aI 0]) (rest := []) rfl h28 rfl rfl (by decide) rfl ⟨g_653, hM_goesWell, g_6, by decide, (show (parseMethodDescriptor fM_goesWell.1.desc).map (fun d => d.parameters.length) = some 1 from by decide +kernel), by decide, by decide, by decide, by decide⟩ g_655 gp_18 rfl rfl (Nat.le_of_ble_eq_true rfl) (by decide +kernel) (q_cI (fun b30 M29 h31 => ?_) (fun _ _ q => q.elim))
      refine s_if_eq (off := 17) (tgt := 56) (by decide +kernel) (by decide) (fun c33 => ?_) (fun c33 => ?_)
      · have h34 := h31.1 c33
        refine s_iconst (n := 0) (by decide +kernel) ?_
        exact s_iret rfl (by decide +kernel) (by decide) (by decide) h34
      · have h35 := h31.2 c33
        refine s_aload_n (i := 0) (by decide +kernel) rfl ?_
        refine s_getR (ci := 5) (k := 9) (index := 29) (r2 := 70) ck5 rfl rfl (by decide) rfl (by decide +kernel) g_590 ?_
        refine s_bipush (n := 20) (by decide +kernel) (by decide +kernel) ?_
        refine s_iload_n (i := 1) (by decide +kernel) rfl ?_
        refine s_imul (by decide +kernel) ?_
        refine s_iload_n (i := 2) (by decide +kernel) rfl ?_
        refine s_iadd (by decide +kernel) ?_
        obtain ⟨j36, e37, e38, h39⟩ := h35
        refine s_iald (j := j36) rfl e37 e38 (by decide +kernel) ?_
        refine s_goto (off := 4) (tgt := 57) (by decide +kernel) (by decide) ?_
        exact s_iret rfl (by decide +kernel) (by decide) (by decide) h39
  · have h40 := h3.1 c5
    refine s_iconst (n := 1) (by decide +kernel) ?_
    refine s_goto (off := 24) (tgt := 36) (by decide +kernel) (by decide) ?_
    refine s_callV (Fc := fM_goesWell) (index := 74) (ci := 5) (as := [aI 1]) (rest := []) rfl h40 rfl rfl (by decide) rfl ⟨g_653, hM_goesWell, g_6, by decide, (show (parseMethodDescriptor fM_goesWell.1.desc).map (fun d => d.parameters.length) = some 1 from by decide +kernel), by decide, by decide, by decide, by decide⟩ g_655 gp_18 rfl rfl (Nat.le_of_ble_eq_true rfl) (by decide +kernel) (q_cI (fun b42 M41 h43 => ?_) (fun _ _ q => q.elim))
    refine s_if_eq (off := 17) (tgt := 56) (by decide +kernel) (by decide) (fun c45 => ?_) (fun c45 => ?_)
    · have h46 := h43.1 c45
      refine s_iconst (n := 0) (by decide +kernel) ?_
      exact s_iret rfl (by decide +kernel) (by decide) (by decide) h46
    · have h47 := h43.2 c45
      refine s_aload_n (i := 0) (by decide +kernel) rfl ?_
      refine s_getR (ci := 5) (k := 9) (index := 29) (r2 := 70) ck5 rfl rfl (by decide) rfl (by decide +kernel) g_590 ?_
      refine s_bipush (n := 20) (by decide +kernel) (by decide +kernel) ?_
      refine s_iload_n (i := 1) (by decide +kernel) rfl ?_
      refine s_imul (by decide +kernel) ?_
      refine s_iload_n (i := 2) (by decide +kernel) rfl ?_
      refine s_iadd (by decide +kernel) ?_
      obtain ⟨j48, e49, e50, h51⟩ := h47
      refine s_iald (j := j48) rfl e49 e50 (by decide +kernel) ?_
      refine s_goto (off := 4) (tgt := 57) (by decide +kernel) (by decide) ?_
      exact s_iret rfl (by decide +kernel) (by decide) (by decide) h51

set_option maxRecDepth 20000 in
theorem BM_energy_0 {K : KX} {Q : Res → AG → AM → Prop} {M : AM} (p1 : Int)
    (h : MetA K fM_isVehicle [aR 63, aI p1] GG M (cI GG (fun b2 M1 => (wr b2 = 0 → MetA K fM_goesWell [aR 63, aI 1] GG M1 (cI GG (fun b8 M7 => (wr b8 = 0 → Q (.inl (some (aI 0))) GG M7) ∧ (¬ wr b8 = 0 → ∃ j14 : Nat, wr p1 = (j14 : Int) ∧ j14 < 6 ∧ (Q (.inl (some (aI (M7 68 j14)))) GG M7))) noX)) ∧ (¬ wr b2 = 0 → MetA K fM_goesWell [aR 63, aI 0] GG M1 (cI GG (fun b20 M19 => (wr b20 = 0 → Q (.inl (some (aI 0))) GG M19) ∧ (¬ wr b20 = 0 → ∃ j26 : Nat, wr p1 = (j26 : Int) ∧ j26 < 6 ∧ (Q (.inl (some (aI (M19 68 j26)))) GG M19))) noX))) noX)) :
    WM K fM_energy (EM K fM_energy 80 Q) 0 [some (aR 63), some (aI p1)] [] GG M 0 0 := by
  refine s_aload_n (i := 0) (by decide +kernel) rfl ?_
  refine s_aload_n (i := 0) (by decide +kernel) rfl ?_
  refine s_iload_n (i := 1) (by decide +kernel) rfl ?_
  refine s_callV (Fc := fM_isVehicle) (index := 114) (ci := 5) (as := [aI p1]) (rest := [aR 63]) rfl h rfl rfl (by decide) rfl ⟨g_697, hM_isVehicle, g_6, by decide, (show (parseMethodDescriptor fM_isVehicle.1.desc).map (fun d => d.parameters.length) = some 1 from by decide +kernel), by decide, by decide, by decide, by decide⟩ g_699 gp_25 rfl rfl (Nat.le_of_ble_eq_true rfl) (by decide +kernel) (q_cI (fun b2 M1 h3 => ?_) (fun _ _ q => q.elim))
  refine s_if_eq (off := 7) (tgt := 13) (by decide +kernel) (by decide) (fun c5 => ?_) (fun c5 => ?_)
  · have h6 := h3.1 c5
    refine s_iconst (n := 1) (by decide +kernel) ?_
    refine s_callV (Fc := fM_goesWell) (index := 74) (ci := 5) (as := [aI 1]) (rest := []) rfl h6 rfl rfl (by decide) rfl ⟨g_653, hM_goesWell, g_6, by decide, (show (parseMethodDescriptor fM_goesWell.1.desc).map (fun d => d.parameters.length) = some 1 from by decide +kernel), by decide, by decide, by decide, by decide⟩ g_655 gp_18 rfl rfl (Nat.le_of_ble_eq_true rfl) (by decide +kernel) (q_cI (fun b8 M7 h9 => ?_) (fun _ _ q => q.elim))
    refine s_if_eq (off := 12) (tgt := 29) (by decide +kernel) (by decide) (fun c11 => ?_) (fun c11 => ?_)
    · have h12 := h9.1 c11
      refine s_iconst (n := 0) (by decide +kernel) ?_
      exact s_iret rfl (by decide +kernel) (by decide) (by decide) h12
    · have h13 := h9.2 c11
      refine s_aload_n (i := 0) (by decide +kernel) rfl ?_
      refine s_getR (ci := 5) (k := 7) (index := 23) (r2 := 68) ck5 rfl rfl (by decide) rfl (by decide +kernel) g_588 ?_
      refine s_iload_n (i := 1) (by decide +kernel) rfl ?_
      obtain ⟨j14, e15, e16, h17⟩ := h13
      refine s_iald (j := j14) rfl e15 e16 (by decide +kernel) ?_
      refine s_goto (off := 4) (tgt := 30) (by decide +kernel) (by decide) ?_
      exact s_iret rfl (by decide +kernel) (by decide) (by decide) h17
  · have h18 := h3.2 c5
    refine s_iconst (n := 0) (by decide +kernel) ?_
    refine s_goto (off := 4) (tgt := 14) (by decide +kernel) (by decide) ?_
    refine s_callV (Fc := fM_goesWell) (index := 74) (ci := 5) (as := [aI 0]) (rest := []) rfl h18 rfl rfl (by decide) rfl ⟨g_653, hM_goesWell, g_6, by decide, (show (parseMethodDescriptor fM_goesWell.1.desc).map (fun d => d.parameters.length) = some 1 from by decide +kernel), by decide, by decide, by decide, by decide⟩ g_655 gp_18 rfl rfl (Nat.le_of_ble_eq_true rfl) (by decide +kernel) (q_cI (fun b20 M19 h21 => ?_) (fun _ _ q => q.elim))
    refine s_if_eq (off := 12) (tgt := 29) (by decide +kernel) (by decide) (fun c23 => ?_) (fun c23 => ?_)
    · have h24 := h21.1 c23
      refine s_iconst (n := 0) (by decide +kernel) ?_
      exact s_iret rfl (by decide +kernel) (by decide) (by decide) h24
    · have h25 := h21.2 c23
      refine s_aload_n (i := 0) (by decide +kernel) rfl ?_
      refine s_getR (ci := 5) (k := 7) (index := 23) (r2 := 68) ck5 rfl rfl (by decide) rfl (by decide +kernel) g_588 ?_
      refine s_iload_n (i := 1) (by decide +kernel) rfl ?_
      obtain ⟨j26, e27, e28, h29⟩ := h25
      refine s_iald (j := j26) rfl e27 e28 (by decide +kernel) ?_
      refine s_goto (off := 4) (tgt := 30) (by decide +kernel) (by decide) ?_
      exact s_iret rfl (by decide +kernel) (by decide) (by decide) h29

set_option maxRecDepth 20000 in
theorem BM_waited_0 {K : KX} {Q : Res → AG → AM → Prop} {M : AM} (p1 : Int)
    (h : MetA K fM_isVehicle [aR 63, aI p1] GG M (cI GG (fun b2 M1 => (wr b2 = 0 → MetA K fM_goesWell [aR 63, aI 1] GG M1 (cI GG (fun b8 M7 => (wr b8 = 0 → Q (.inl (some (aI 0))) GG M7) ∧ (¬ wr b8 = 0 → ∃ j14 : Nat, wr p1 = (j14 : Int) ∧ j14 < 6 ∧ (Q (.inl (some (aI (M7 71 j14)))) GG M7))) noX)) ∧ (¬ wr b2 = 0 → MetA K fM_goesWell [aR 63, aI 0] GG M1 (cI GG (fun b20 M19 => (wr b20 = 0 → Q (.inl (some (aI 0))) GG M19) ∧ (¬ wr b20 = 0 → ∃ j26 : Nat, wr p1 = (j26 : Int) ∧ j26 < 6 ∧ (Q (.inl (some (aI (M19 71 j26)))) GG M19))) noX))) noX)) :
    WM K fM_waited (EM K fM_waited 80 Q) 0 [some (aR 63), some (aI p1)] [] GG M 0 0 := by
  refine s_aload_n (i := 0) (by decide +kernel) rfl ?_
  refine s_aload_n (i := 0) (by decide +kernel) rfl ?_
  refine s_iload_n (i := 1) (by decide +kernel) rfl ?_
  refine s_callV (Fc := fM_isVehicle) (index := 114) (ci := 5) (as := [aI p1]) (rest := [aR 63]) rfl h rfl rfl (by decide) rfl ⟨g_697, hM_isVehicle, g_6, by decide, (show (parseMethodDescriptor fM_isVehicle.1.desc).map (fun d => d.parameters.length) = some 1 from by decide +kernel), by decide, by decide, by decide, by decide⟩ g_699 gp_25 rfl rfl (Nat.le_of_ble_eq_true rfl) (by decide +kernel) (q_cI (fun b2 M1 h3 => ?_) (fun _ _ q => q.elim))
  refine s_if_eq (off := 7) (tgt := 13) (by decide +kernel) (by decide) (fun c5 => ?_) (fun c5 => ?_)
  · have h6 := h3.1 c5
    refine s_iconst (n := 1) (by decide +kernel) ?_
    refine s_callV (Fc := fM_goesWell) (index := 74) (ci := 5) (as := [aI 1]) (rest := []) rfl h6 rfl rfl (by decide) rfl ⟨g_653, hM_goesWell, g_6, by decide, (show (parseMethodDescriptor fM_goesWell.1.desc).map (fun d => d.parameters.length) = some 1 from by decide +kernel), by decide, by decide, by decide, by decide⟩ g_655 gp_18 rfl rfl (Nat.le_of_ble_eq_true rfl) (by decide +kernel) (q_cI (fun b8 M7 h9 => ?_) (fun _ _ q => q.elim))
    refine s_if_eq (off := 12) (tgt := 29) (by decide +kernel) (by decide) (fun c11 => ?_) (fun c11 => ?_)
    · have h12 := h9.1 c11
      refine s_iconst (n := 0) (by decide +kernel) ?_
      exact s_iret rfl (by decide +kernel) (by decide) (by decide) h12
    · have h13 := h9.2 c11
      refine s_aload_n (i := 0) (by decide +kernel) rfl ?_
      refine s_getR (ci := 5) (k := 10) (index := 32) (r2 := 71) ck5 rfl rfl (by decide) rfl (by decide +kernel) g_591 ?_
      refine s_iload_n (i := 1) (by decide +kernel) rfl ?_
      obtain ⟨j14, e15, e16, h17⟩ := h13
      refine s_iald (j := j14) rfl e15 e16 (by decide +kernel) ?_
      refine s_goto (off := 4) (tgt := 30) (by decide +kernel) (by decide) ?_
      exact s_iret rfl (by decide +kernel) (by decide) (by decide) h17
  · have h18 := h3.2 c5
    refine s_iconst (n := 0) (by decide +kernel) ?_
    refine s_goto (off := 4) (tgt := 14) (by decide +kernel) (by decide) ?_
    refine s_callV (Fc := fM_goesWell) (index := 74) (ci := 5) (as := [aI 0]) (rest := []) rfl h18 rfl rfl (by decide) rfl ⟨g_653, hM_goesWell, g_6, by decide, (show (parseMethodDescriptor fM_goesWell.1.desc).map (fun d => d.parameters.length) = some 1 from by decide +kernel), by decide, by decide, by decide, by decide⟩ g_655 gp_18 rfl rfl (Nat.le_of_ble_eq_true rfl) (by decide +kernel) (q_cI (fun b20 M19 h21 => ?_) (fun _ _ q => q.elim))
    refine s_if_eq (off := 12) (tgt := 29) (by decide +kernel) (by decide) (fun c23 => ?_) (fun c23 => ?_)
    · have h24 := h21.1 c23
      refine s_iconst (n := 0) (by decide +kernel) ?_
      exact s_iret rfl (by decide +kernel) (by decide) (by decide) h24
    · have h25 := h21.2 c23
      refine s_aload_n (i := 0) (by decide +kernel) rfl ?_
      refine s_getR (ci := 5) (k := 10) (index := 32) (r2 := 71) ck5 rfl rfl (by decide) rfl (by decide +kernel) g_591 ?_
      refine s_iload_n (i := 1) (by decide +kernel) rfl ?_
      obtain ⟨j26, e27, e28, h29⟩ := h25
      refine s_iald (j := j26) rfl e27 e28 (by decide +kernel) ?_
      refine s_goto (off := 4) (tgt := 30) (by decide +kernel) (by decide) ?_
      exact s_iret rfl (by decide +kernel) (by decide) (by decide) h29

set_option maxRecDepth 20000 in
theorem BM_orders_0 {K : KX} {Q : Res → AG → AM → Prop} {M : AM} 
    (h : MetA K fM_isSafe [aR 63] GG (um M 63 0 0) (cI GG (fun b2 M1 => MetA K fM_countBusy [aR 63] GG M1 (cI GG (fun b6 M5 => ∃ j9 : Nat, wr b6 = (j9 : Int) ∧ j9 < 64 ∧ (Q (.inl (some (aI (M5 76 j9)))) GG M5)) noX)) noX)) :
    WM K fM_orders (EM K fM_orders 80 Q) 0 [some (aR 63), none] [] GG M 0 0 := by
  refine s_aload_n (i := 0) (by decide +kernel) rfl ?_
  refine s_iconst (n := 0) (by decide +kernel) ?_
  refine s_putI (ci := 5) (k := 0) (index := 56) ck5 rfl (by decide) rfl rfl rfl (by decide +kernel) g_581 ?_
  refine s_aload_n (i := 0) (by decide +kernel) rfl ?_
  refine s_callV (Fc := fM_isSafe) (index := 100) (ci := 5) (as := []) (rest := []) rfl h rfl rfl (by decide) rfl ⟨g_677, hM_isSafe, g_6, by decide, (show (parseMethodDescriptor fM_isSafe.1.desc).map (fun d => d.parameters.length) = some 0 from by decide +kernel), by decide, by decide, by decide, by decide⟩ g_679 gp_21 rfl rfl (Nat.le_of_ble_eq_true rfl) (by decide +kernel) (q_cI (fun b2 M1 h3 => ?_) (fun _ _ q => q.elim))
  refine s_istore_n (i := 1) (by decide +kernel) (by decide) ?_
  refine s_aload_n (i := 0) (by decide +kernel) rfl ?_
  refine s_getR (ci := 5) (k := 16) (index := 47) (r2 := 76) ck5 rfl rfl (by decide) rfl (by decide +kernel) g_597 ?_
  refine s_aload_n (i := 0) (by decide +kernel) rfl ?_
  refine s_callV (Fc := fM_countBusy) (index := 88) (ci := 5) (as := []) (rest := [aR 76]) rfl h3 rfl rfl (by decide) rfl ⟨g_681, hM_countBusy, g_6, by decide, (show (parseMethodDescriptor fM_countBusy.1.desc).map (fun d => d.parameters.length) = some 0 from by decide +kernel), by decide, by decide, by decide, by decide⟩ g_683 gp_22 rfl rfl (Nat.le_of_ble_eq_true rfl) (by decide +kernel) (q_cI (fun b6 M5 h7 => ?_) (fun _ _ q => q.elim))
  obtain ⟨j9, e10, e11, h12⟩ := h7
  refine s_iald (j := j9) rfl e10 e11 (by decide +kernel) ?_
  exact s_iret rfl (by decide +kernel) (by decide) (by decide) h12

set_option maxRecDepth 20000 in
theorem BM_layEnds_0 {K : KX} {Q : Res → AG → AM → Prop} {M : AM} 
    (h : MetA K fM_countBusy [aR 63] GG M (cI GG (fun b2 M1 => WM K fM_layEnds (EM K fM_layEnds 80 Q) 7 [some (aR 63), some (aI b2), some (aI b2), none, none] [] GG M1 0 0) noX)) :
    WM K fM_layEnds (EM K fM_layEnds 80 Q) 0 [some (aR 63), none, none, none, none] [] GG M 0 0 := by
  refine s_aload_n (i := 0) (by decide +kernel) rfl ?_
  refine s_callV (Fc := fM_countBusy) (index := 88) (ci := 5) (as := []) (rest := []) rfl h rfl rfl (by decide) rfl ⟨g_681, hM_countBusy, g_6, by decide, (show (parseMethodDescriptor fM_countBusy.1.desc).map (fun d => d.parameters.length) = some 0 from by decide +kernel), by decide, by decide, by decide, by decide⟩ g_683 gp_22 rfl rfl (Nat.le_of_ble_eq_true rfl) (by decide +kernel) (q_cI (fun b2 M1 h3 => ?_) (fun _ _ q => q.elim))
  refine s_istore_n (i := 1) (by decide +kernel) (by decide) ?_
  refine s_iload_n (i := 1) (by decide +kernel) rfl ?_
  refine s_istore_n (i := 2) (by decide +kernel) (by decide) ?_
  exact h3

set_option maxRecDepth 20000 in
theorem BM_layEnds_7 {K : KX} {Q : Res → AG → AM → Prop} {M : AM} (x1 x2 : Int)
    (h : (wr x2 < 0 → Q (.inl none) GG M) ∧ (¬ wr x2 < 0 → WM K fM_layEnds (EM K fM_layEnds 80 Q) 13 [some (aR 63), some (aI x1), some (aI x2), some (aI 0), none] [] GG M 0 0)) :
    WM K fM_layEnds (EM K fM_layEnds 80 Q) 7 [some (aR 63), some (aI x1), some (aI x2), none, none] [] GG M 0 0 := by
  refine s_iload_n (i := 2) (by decide +kernel) rfl ?_
  refine s_if_lt (off := 104) (tgt := 112) (by decide +kernel) (by decide) (fun c1 => ?_) (fun c1 => ?_)
  · have h2 := h.1 c1
    exact s_vret rfl (by decide +kernel) (by decide) (by decide) h2
  · have h3 := h.2 c1
    refine s_iconst (n := 0) (by decide +kernel) ?_
    refine s_istore_n (i := 3) (by decide +kernel) (by decide) ?_
    exact h3

set_option maxRecDepth 20000 in
theorem BM_layEnds_13 {K : KX} {Q : Res → AG → AM → Prop} {M : AM} (x1 x2 x3 : Int)
    (h : (wr (M 63 5) ≤ wr x3 → WM K fM_layEnds (EM K fM_layEnds 80 Q) 106 [some (aR 63), some (aI x1), some (aI x2), some (aI x3), none] [] GG M 0 0) ∧ (¬ wr (M 63 5) ≤ wr x3 → (wr (wia x2 (wix x1 ((-1)))) = 0 → (wr (wia (wsr x1 x3) 1) = wr 1 → (wr (wia (wsr x2 x3) 1) = 0 → WM K fM_layEnds (EM K fM_layEnds 80 Q) 51 [some (aR 63), some (aI x1), some (aI x2), some (aI x3), none] [aI 1] GG M 0 0) ∧ (¬ wr (wia (wsr x2 x3) 1) = 0 → WM K fM_layEnds (EM K fM_layEnds 80 Q) 50 [some (aR 63), some (aI x1), some (aI x2), some (aI x3), none] [] GG M 0 0)) ∧ (¬ wr (wia (wsr x1 x3) 1) = wr 1 → WM K fM_layEnds (EM K fM_layEnds 80 Q) 50 [some (aR 63), some (aI x1), some (aI x2), some (aI x3), none] [] GG M 0 0)) ∧ (¬ wr (wia x2 (wix x1 ((-1)))) = 0 → WM K fM_layEnds (EM K fM_layEnds 80 Q) 106 [some (aR 63), some (aI x1), some (aI x2), some (aI x3), none] [] GG M 0 0))) :
    WM K fM_layEnds (EM K fM_layEnds 80 Q) 13 [some (aR 63), some (aI x1), some (aI x2), some (aI x3), none] [] GG M 0 0 := by
  refine s_iload_n (i := 3) (by decide +kernel) rfl ?_
  refine s_aload_n (i := 0) (by decide +kernel) rfl ?_
  refine s_getI (ci := 5) (k := 5) (index := 64) ck5 rfl (by decide) rfl (by decide +kernel) g_586 ?_
  refine s_icmp_ge (off := 88) (tgt := 106) (by decide +kernel) (by decide) (fun c1 => ?_) (fun c1 => ?_)
  · have h2 := h.1 c1
    exact h2
  · have h3 := h.2 c1
    refine s_iload_n (i := 2) (by decide +kernel) rfl ?_
    refine s_iload_n (i := 1) (by decide +kernel) rfl ?_
    refine s_iconst (n := -1) (by decide +kernel) ?_
    refine s_ixor (by decide +kernel) ?_
    refine s_iand (by decide +kernel) ?_
    refine s_if_ne (off := 80) (tgt := 106) (by decide +kernel) (by decide) (fun c4 => ?_) (fun c4 => ?_)
    · have h5 := h3.2 c4
      exact h5
    · have h6 := h3.1 c4
      refine s_iload_n (i := 1) (by decide +kernel) rfl ?_
      refine s_iload_n (i := 3) (by decide +kernel) rfl ?_
      refine s_ishr (by decide +kernel) ?_
      refine s_iconst (n := 1) (by decide +kernel) ?_
      refine s_iand (by decide +kernel) ?_
      refine s_iconst (n := 1) (by decide +kernel) ?_
      refine s_icmp_ne (off := 15) (tgt := 50) (by decide +kernel) (by decide) (fun c7 => ?_) (fun c7 => ?_)
      · have h8 := h6.2 c7
        exact h8
      · have h9 := h6.1 c7
        refine s_iload_n (i := 2) (by decide +kernel) rfl ?_
        refine s_iload_n (i := 3) (by decide +kernel) rfl ?_
        refine s_ishr (by decide +kernel) ?_
        refine s_iconst (n := 1) (by decide +kernel) ?_
        refine s_iand (by decide +kernel) ?_
        refine s_if_ne (off := 7) (tgt := 50) (by decide +kernel) (by decide) (fun c10 => ?_) (fun c10 => ?_)
        · have h11 := h9.2 c10
          exact h11
        · have h12 := h9.1 c10
          refine s_iconst (n := 1) (by decide +kernel) ?_
          refine s_goto (off := 4) (tgt := 51) (by decide +kernel) (by decide) ?_
          exact h12

set_option maxRecDepth 20000 in
theorem BM_layEnds_50 {K : KX} {Q : Res → AG → AM → Prop} {M : AM} (x1 x2 x3 : Int)
    (h : WM K fM_layEnds (EM K fM_layEnds 80 Q) 51 [some (aR 63), some (aI x1), some (aI x2), some (aI x3), none] [aI 0] GG M 0 0) :
    WM K fM_layEnds (EM K fM_layEnds 80 Q) 50 [some (aR 63), some (aI x1), some (aI x2), some (aI x3), none] [] GG M 0 0 := by
  refine s_iconst (n := 0) (by decide +kernel) ?_
  exact h

set_option maxRecDepth 20000 in
theorem BM_layEnds_51 {K : KX} {Q : Res → AG → AM → Prop} {M : AM} (x1 x2 x3 y0 : Int)
    (h : ∃ j1 : Nat, wr x2 = (j1 : Int) ∧ j1 < 64 ∧ ((wr (M 77 j1) = 0 → (wr y0 = 0 → WM K fM_layEnds (EM K fM_layEnds 80 Q) 98 [some (aR 63), some (aI x1), some (aI x2), some (aI x3), some (aI y0)] [aI x2, aR 77] GG M 0 0) ∧ (¬ wr y0 = 0 → ∃ j11 : Nat, wr (wio x2 (wsl 1 x3)) = (j11 : Int) ∧ j11 < 64 ∧ ((wr (M 77 j11) = 0 → WM K fM_layEnds (EM K fM_layEnds 80 Q) 98 [some (aR 63), some (aI x1), some (aI x2), some (aI x3), some (aI y0)] [aI x2, aR 77] GG M 0 0) ∧ (¬ wr (M 77 j11) = 0 → MetA K fM_canRun [aR 63, aI x3, aI x2] GG M (cI GG (fun b19 M18 => (wr b19 = 0 → WM K fM_layEnds (EM K fM_layEnds 80 Q) 98 [some (aR 63), some (aI x1), some (aI x2), some (aI x3), some (aI y0)] [aI x2, aR 77] GG M18 0 0) ∧ (¬ wr b19 = 0 → WM K fM_layEnds (EM K fM_layEnds 80 Q) 94 [some (aR 63), some (aI x1), some (aI x2), some (aI x3), some (aI y0)] [aI x2, aR 77] GG M18 0 0)) noX))))) ∧ (¬ wr (M 77 j1) = 0 → WM K fM_layEnds (EM K fM_layEnds 80 Q) 94 [some (aR 63), some (aI x1), some (aI x2), some (aI x3), some (aI y0)] [aI x2, aR 77] GG M 0 0))) :
    WM K fM_layEnds (EM K fM_layEnds 80 Q) 51 [some (aR 63), some (aI x1), some (aI x2), some (aI x3), none] [aI y0] GG M 0 0 := by
  refine s_istore (i := 4) (by decide +kernel) (by decide) ?_
  refine s_aload_n (i := 0) (by decide +kernel) rfl ?_
  refine s_getR (ci := 5) (k := 17) (index := 50) (r2 := 77) ck5 rfl rfl (by decide) rfl (by decide +kernel) g_598 ?_
  refine s_iload_n (i := 2) (by decide +kernel) rfl ?_
  refine s_aload_n (i := 0) (by decide +kernel) rfl ?_
  refine s_getR (ci := 5) (k := 17) (index := 50) (r2 := 77) ck5 rfl rfl (by decide) rfl (by decide +kernel) g_598 ?_
  refine s_iload_n (i := 2) (by decide +kernel) rfl ?_
  obtain ⟨j1, e2, e3, h4⟩ := h
  refine s_zald (j := j1) rfl e2 e3 (by decide +kernel) ?_
  refine s_if_ne (off := 30) (tgt := 94) (by decide +kernel) (by decide) (fun c5 => ?_) (fun c5 => ?_)
  · have h6 := h4.2 c5
    exact h6
  · have h7 := h4.1 c5
    refine s_iload (i := 4) (by decide +kernel) rfl ?_
    refine s_if_eq (off := 29) (tgt := 98) (by decide +kernel) (by decide) (fun c8 => ?_) (fun c8 => ?_)
    · have h9 := h7.1 c8
      exact h9
    · have h10 := h7.2 c8
      refine s_aload_n (i := 0) (by decide +kernel) rfl ?_
      refine s_getR (ci := 5) (k := 17) (index := 50) (r2 := 77) ck5 rfl rfl (by decide) rfl (by decide +kernel) g_598 ?_
      refine s_iload_n (i := 2) (by decide +kernel) rfl ?_
      refine s_iconst (n := 1) (by decide +kernel) ?_
      refine s_iload_n (i := 3) (by decide +kernel) rfl ?_
      refine s_ishl (by decide +kernel) ?_
      refine s_ior (by decide +kernel) ?_
      obtain ⟨j11, e12, e13, h14⟩ := h10
      refine s_zald (j := j11) rfl e12 e13 (by decide +kernel) ?_
      refine s_if_eq (off := 16) (tgt := 98) (by decide +kernel) (by decide) (fun c15 => ?_) (fun c15 => ?_)
      · have h16 := h14.1 c15
        exact h16
      · have h17 := h14.2 c15
        refine s_aload_n (i := 0) (by decide +kernel) rfl ?_
        refine s_iload_n (i := 3) (by decide +kernel) rfl ?_
        refine s_iload_n (i := 2) (by decide +kernel) rfl ?_
        refine s_callV (Fc := fM_canRun) (index := 92) (ci := 5) (as := [aI x3, aI x2]) (rest := [aI x2, aR 77]) rfl h17 rfl rfl (by decide) rfl ⟨g_685, hM_canRun, g_6, by decide, (show (parseMethodDescriptor fM_canRun.1.desc).map (fun d => d.parameters.length) = some 2 from by decide +kernel), by decide, by decide, by decide, by decide⟩ g_687 gp_23 rfl rfl (Nat.le_of_ble_eq_true rfl) (by decide +kernel) (q_cI (fun b19 M18 h20 => ?_) (fun _ _ q => q.elim))
        refine s_if_eq (off := 7) (tgt := 98) (by decide +kernel) (by decide) (fun c22 => ?_) (fun c22 => ?_)
        · have h23 := h20.1 c22
          exact h23
        · have h24 := h20.2 c22
          exact h24

set_option maxRecDepth 20000 in
theorem BM_layEnds_94 {K : KX} {Q : Res → AG → AM → Prop} {M : AM} (x1 x2 x3 x4 y0 : Int)
    (h : WM K fM_layEnds (EM K fM_layEnds 80 Q) 99 [some (aR 63), some (aI x1), some (aI x2), some (aI x3), some (aI x4)] [aI 1, aI y0, aR 77] GG M 0 0) :
    WM K fM_layEnds (EM K fM_layEnds 80 Q) 94 [some (aR 63), some (aI x1), some (aI x2), some (aI x3), some (aI x4)] [aI y0, aR 77] GG M 0 0 := by
  refine s_iconst (n := 1) (by decide +kernel) ?_
  refine s_goto (off := 4) (tgt := 99) (by decide +kernel) (by decide) ?_
  exact h

set_option maxRecDepth 20000 in
theorem BM_layEnds_98 {K : KX} {Q : Res → AG → AM → Prop} {M : AM} (x1 x2 x3 x4 y0 : Int)
    (h : WM K fM_layEnds (EM K fM_layEnds 80 Q) 99 [some (aR 63), some (aI x1), some (aI x2), some (aI x3), some (aI x4)] [aI 0, aI y0, aR 77] GG M 0 0) :
    WM K fM_layEnds (EM K fM_layEnds 80 Q) 98 [some (aR 63), some (aI x1), some (aI x2), some (aI x3), some (aI x4)] [aI y0, aR 77] GG M 0 0 := by
  refine s_iconst (n := 0) (by decide +kernel) ?_
  exact h

set_option maxRecDepth 20000 in
theorem BM_layEnds_99 {K : KX} {Q : Res → AG → AM → Prop} {M : AM} (x1 x2 x3 x4 y0 y1 : Int)
    (h : ∃ j1 : Nat, wr y1 = (j1 : Int) ∧ j1 < 64 ∧ ((y0 : Int) = 0 ∨ (y0 : Int) = 1) ∧ (WM K fM_layEnds (EM K fM_layEnds 80 Q) 13 [some (aR 63), some (aI x1), some (aI x2), some (aI (x3 + 1)), none] [] GG (um M 77 j1 y0) 0 0)) :
    WM K fM_layEnds (EM K fM_layEnds 80 Q) 99 [some (aR 63), some (aI x1), some (aI x2), some (aI x3), some (aI x4)] [aI y0, aI y1, aR 77] GG M 0 0 := by
  obtain ⟨j1, e2, e3, e5, h4⟩ := h
  refine s_zast (j := j1) rfl e2 e3 e5 (by decide +kernel) ?_
  refine s_iinc (i := 3) (n := 1) (by decide +kernel) rfl (by decide) ?_
  refine s_goto (off := -90) (tgt := 13) (by decide +kernel) (by decide) ?_
  exact s_loc (L' := [some (aR 63), some (aI x1), some (aI x2), some (aI (x3 + 1)), none]) (ll_s (ll_s (ll_s (ll_s (ll_n ll_nil))))) h4

set_option maxRecDepth 20000 in
theorem BM_layEnds_106 {K : KX} {Q : Res → AG → AM → Prop} {M : AM} (x1 x2 x3 : Int)
    (h : WM K fM_layEnds (EM K fM_layEnds 80 Q) 7 [some (aR 63), some (aI x1), some (aI (x2 + (-1))), none, none] [] GG M 0 0) :
    WM K fM_layEnds (EM K fM_layEnds 80 Q) 106 [some (aR 63), some (aI x1), some (aI x2), some (aI x3), none] [] GG M 0 0 := by
  refine s_iinc (i := 2) (n := -1) (by decide +kernel) rfl (by decide) ?_
  refine s_goto (off := -102) (tgt := 7) (by decide +kernel) (by decide) ?_
  exact s_loc (L' := [some (aR 63), some (aI x1), some (aI (x2 + (-1))), none, none]) (ll_s (ll_s (ll_s (ll_n (ll_s ll_nil))))) h

set_option maxRecDepth 20000 in
theorem BM_finisher_0 {K : KX} {Q : Res → AG → AM → Prop} {M : AM} (p1 : Int)
    (h : MetA K fM_isSafe [aR 63] GG M (cI GG (fun b2 M1 => MetA K fM_countBusy [aR 63] GG M1 (cI GG (fun b6 M5 => WM K fM_finisher (EM K fM_finisher 80 Q) 16 [some (aR 63), some (aI p1), some (aI b2), some (aI b6), some (aI 0), some (aI 0), none, none, none, none] [] GG M5 0 0) noX)) noX)) :
    WM K fM_finisher (EM K fM_finisher 80 Q) 0 [some (aR 63), some (aI p1), none, none, none, none, none, none, none, none] [] GG M 0 0 := by
  refine s_aload_n (i := 0) (by decide +kernel) rfl ?_
  refine s_callV (Fc := fM_isSafe) (index := 100) (ci := 5) (as := []) (rest := []) rfl h rfl rfl (by decide) rfl ⟨g_677, hM_isSafe, g_6, by decide, (show (parseMethodDescriptor fM_isSafe.1.desc).map (fun d => d.parameters.length) = some 0 from by decide +kernel), by decide, by decide, by decide, by decide⟩ g_679 gp_21 rfl rfl (Nat.le_of_ble_eq_true rfl) (by decide +kernel) (q_cI (fun b2 M1 h3 => ?_) (fun _ _ q => q.elim))
  refine s_istore_n (i := 2) (by decide +kernel) (by decide) ?_
  refine s_aload_n (i := 0) (by decide +kernel) rfl ?_
  refine s_callV (Fc := fM_countBusy) (index := 88) (ci := 5) (as := []) (rest := []) rfl h3 rfl rfl (by decide) rfl ⟨g_681, hM_countBusy, g_6, by decide, (show (parseMethodDescriptor fM_countBusy.1.desc).map (fun d => d.parameters.length) = some 0 from by decide +kernel), by decide, by decide, by decide, by decide⟩ g_683 gp_22 rfl rfl (Nat.le_of_ble_eq_true rfl) (by decide +kernel) (q_cI (fun b6 M5 h7 => ?_) (fun _ _ q => q.elim))
  refine s_istore_n (i := 3) (by decide +kernel) (by decide) ?_
  refine s_iconst (n := 0) (by decide +kernel) ?_
  refine s_istore (i := 4) (by decide +kernel) (by decide) ?_
  refine s_iconst (n := 0) (by decide +kernel) ?_
  refine s_istore (i := 5) (by decide +kernel) (by decide) ?_
  exact h7

set_option maxRecDepth 20000 in
theorem BM_finisher_16 {K : KX} {Q : Res → AG → AM → Prop} {M : AM} (x1 x2 x3 x4 x5 : Int)
    (h : (wr (M 63 5) ≤ wr x5 → MetA K fM_in [aI x1, aI 0, aI (x4 - 1)] GG M (cI GG (fun b4 M3 => (wr b4 = 0 → WM K fM_finisher (EM K fM_finisher 80 Q) 60 [some (aR 63), some (aI x1), some (aI x2), some (aI x3), some (aI x4), some (aI x5), none, none, none, none] [aI 1, aR 63] GG M3 0 0) ∧ (¬ wr b4 = 0 → WM K fM_finisher (EM K fM_finisher 80 Q) 60 [some (aR 63), some (aI x1), some (aI x2), some (aI x3), some (aI x4), some (aI x5), none, none, none, none] [aI 0, aR 63] GG M3 0 0)) noX)) ∧ (¬ wr (M 63 5) ≤ wr x5 → WM K fM_finisher (EM K fM_finisher 80 Q) 16 [some (aR 63), some (aI x1), some (aI x2), some (aI x3), some (aI (x4 + (wia (wsr x3 x5) 1))), some (aI (x5 + 1)), none, none, none, none] [] GG M 0 0)) :
    WM K fM_finisher (EM K fM_finisher 80 Q) 16 [some (aR 63), some (aI x1), some (aI x2), some (aI x3), some (aI x4), some (aI x5), none, none, none, none] [] GG M 0 0 := by
  refine s_iload (i := 5) (by decide +kernel) rfl ?_
  refine s_aload_n (i := 0) (by decide +kernel) rfl ?_
  refine s_getI (ci := 5) (k := 5) (index := 64) ck5 rfl (by decide) rfl (by decide +kernel) g_586 ?_
  refine s_icmp_ge (off := 20) (tgt := 42) (by decide +kernel) (by decide) (fun c1 => ?_) (fun c1 => ?_)
  · have h2 := h.1 c1
    refine s_aload_n (i := 0) (by decide +kernel) rfl ?_
    refine s_iload_n (i := 1) (by decide +kernel) rfl ?_
    refine s_iconst (n := 0) (by decide +kernel) ?_
    refine s_iload (i := 4) (by decide +kernel) rfl ?_
    refine s_iconst (n := 1) (by decide +kernel) ?_
    refine s_isub (by decide +kernel) ?_
    refine s_callS (Fc := fM_in) (index := 60) (as := [aI x1, aI 0, aI (x4 - 1)]) (rest := [aR 63]) rfl h2 ⟨g_650, hM_in, g_6, by decide, (show (parseMethodDescriptor fM_in.1.desc).map (fun d => d.parameters.length) = some 3 from by decide +kernel), by decide, by decide, by decide, by decide⟩ g_651 rfl rfl (Nat.le_of_ble_eq_true rfl) (by decide +kernel) (q_cI (fun b4 M3 h5 => ?_) (fun _ _ q => q.elim))
    refine s_if_eq (off := 7) (tgt := 59) (by decide +kernel) (by decide) (fun c7 => ?_) (fun c7 => ?_)
    · have h8 := h5.1 c7
      refine s_iconst (n := 1) (by decide +kernel) ?_
      exact h8
    · have h9 := h5.2 c7
      refine s_iconst (n := 0) (by decide +kernel) ?_
      refine s_goto (off := 4) (tgt := 60) (by decide +kernel) (by decide) ?_
      exact h9
  · have h10 := h.2 c1
    refine s_iload (i := 4) (by decide +kernel) rfl ?_
    refine s_iload_n (i := 3) (by decide +kernel) rfl ?_
    refine s_iload (i := 5) (by decide +kernel) rfl ?_
    refine s_ishr (by decide +kernel) ?_
    refine s_iconst (n := 1) (by decide +kernel) ?_
    refine s_iand (by decide +kernel) ?_
    refine s_iadd (by decide +kernel) ?_
    refine s_istore (i := 4) (by decide +kernel) (by decide) ?_
    refine s_iinc (i := 5) (n := 1) (by decide +kernel) rfl (by decide) ?_
    refine s_goto (off := -23) (tgt := 16) (by decide +kernel) (by decide) ?_
    exact h10

set_option maxRecDepth 20000 in
theorem BM_finisher_60 {K : KX} {Q : Res → AG → AM → Prop} {M : AM} (x1 x2 x3 x4 x5 y0 : Int)
    (h : MetA K fM_goesWell [aR 63, aI y0] GG M (cI GG (fun b2 M1 => (wr b2 = 0 → Q (.inl (some (aI 0))) GG M1) ∧ (¬ wr b2 = 0 → MetA K fM_layEnds [aR 63] GG M1 (cV GG (fun M7 => WM K fM_finisher (EM K fM_finisher 80 Q) 81 [some (aR 63), some (aI x1), some (aI x2), some (aI x3), some (aI x4), some (aI 0), some (aI (-1)), some (aI 0), none, none] [] GG M7 0 0) noX))) noX)) :
    WM K fM_finisher (EM K fM_finisher 80 Q) 60 [some (aR 63), some (aI x1), some (aI x2), some (aI x3), some (aI x4), some (aI x5), none, none, none, none] [aI y0, aR 63] GG M 0 0 := by
  refine s_callV (Fc := fM_goesWell) (index := 74) (ci := 5) (as := [aI y0]) (rest := []) rfl h rfl rfl (by decide) rfl ⟨g_653, hM_goesWell, g_6, by decide, (show (parseMethodDescriptor fM_goesWell.1.desc).map (fun d => d.parameters.length) = some 1 from by decide +kernel), by decide, by decide, by decide, by decide⟩ g_655 gp_18 rfl rfl (Nat.le_of_ble_eq_true rfl) (by decide +kernel) (q_cI (fun b2 M1 h3 => ?_) (fun _ _ q => q.elim))
  refine s_if_ne (off := 5) (tgt := 68) (by decide +kernel) (by decide) (fun c5 => ?_) (fun c5 => ?_)
  · have h6 := h3.2 c5
    refine s_aload_n (i := 0) (by decide +kernel) rfl ?_
    refine s_callV (Fc := fM_layEnds) (index := 141) (ci := 5) (as := []) (rest := []) rfl h6 rfl rfl (by decide) rfl ⟨g_821, hM_layEnds, g_6, by decide, (show (parseMethodDescriptor fM_layEnds.1.desc).map (fun d => d.parameters.length) = some 0 from by decide +kernel), by decide, by decide, by decide, by decide⟩ g_823 gp_37 rfl rfl (Nat.le_of_ble_eq_true rfl) (by decide +kernel) (q_cV (fun M7 h9 => ?_) (fun _ _ q => q.elim))
    refine s_iconst (n := 0) (by decide +kernel) ?_
    refine s_istore (i := 5) (by decide +kernel) (by decide) ?_
    refine s_iconst (n := -1) (by decide +kernel) ?_
    refine s_istore (i := 6) (by decide +kernel) (by decide) ?_
    refine s_iconst (n := 0) (by decide +kernel) ?_
    refine s_istore (i := 7) (by decide +kernel) (by decide) ?_
    exact h9
  · have h11 := h3.1 c5
    refine s_iconst (n := 0) (by decide +kernel) ?_
    exact s_iret rfl (by decide +kernel) (by decide) (by decide) h11

set_option maxRecDepth 20000 in
theorem BM_finisher_81 {K : KX} {Q : Res → AG → AM → Prop} {M : AM} (x1 x2 x3 x4 x5 x6 x7 : Int)
    (h : (wr x1 < wr x7 → Q (.inl (some (aI x6))) GG M) ∧ (¬ wr x1 < wr x7 → WM K fM_finisher (EM K fM_finisher 80 Q) 98 [some (aR 63), some (aI x1), some (aI x2), some (aI x3), some (aI x4), some (aI x5), some (aI (-1)), some (aI x7), some (aI ((M 63 5) - 1)), none] [] GG M 0 0)) :
    WM K fM_finisher (EM K fM_finisher 80 Q) 81 [some (aR 63), some (aI x1), some (aI x2), some (aI x3), some (aI x4), some (aI x5), some (aI x6), some (aI x7), none, none] [] GG M 0 0 := by
  refine s_iload (i := 7) (by decide +kernel) rfl ?_
  refine s_iload_n (i := 1) (by decide +kernel) rfl ?_
  refine s_icmp_gt (off := 107) (tgt := 191) (by decide +kernel) (by decide) (fun c1 => ?_) (fun c1 => ?_)
  · have h2 := h.1 c1
    refine s_iload (i := 6) (by decide +kernel) rfl ?_
    exact s_iret rfl (by decide +kernel) (by decide) (by decide) h2
  · have h3 := h.2 c1
    refine s_iconst (n := -1) (by decide +kernel) ?_
    refine s_istore (i := 6) (by decide +kernel) (by decide) ?_
    refine s_aload_n (i := 0) (by decide +kernel) rfl ?_
    refine s_getI (ci := 5) (k := 5) (index := 64) ck5 rfl (by decide) rfl (by decide +kernel) g_586 ?_
    refine s_iconst (n := 1) (by decide +kernel) ?_
    refine s_isub (by decide +kernel) ?_
    refine s_istore (i := 8) (by decide +kernel) (by decide) ?_
    exact h3

set_option maxRecDepth 20000 in
theorem BM_finisher_98 {K : KX} {Q : Res → AG → AM → Prop} {M : AM} (x1 x2 x3 x4 x5 x6 x7 x8 : Int)
    (h : (wr x8 < 0 → WM K fM_finisher (EM K fM_finisher 80 Q) 81 [some (aR 63), some (aI x1), some (aI x2), some (aI x3), some (aI x4), some (aI (wio x5 (wsl 1 x6))), some (aI x6), some (aI (x7 + 1)), none, none] [] GG M 0 0) ∧ (¬ wr x8 < 0 → (wr (wia (wsr x3 x8) 1) = wr 1 → (wr (wia (wsr x5 x8) 1) = 0 → WM K fM_finisher (EM K fM_finisher 80 Q) 128 [some (aR 63), some (aI x1), some (aI x2), some (aI x3), some (aI x4), some (aI x5), some (aI x6), some (aI x7), some (aI x8), none] [aI 1] GG M 0 0) ∧ (¬ wr (wia (wsr x5 x8) 1) = 0 → WM K fM_finisher (EM K fM_finisher 80 Q) 127 [some (aR 63), some (aI x1), some (aI x2), some (aI x3), some (aI x4), some (aI x5), some (aI x6), some (aI x7), some (aI x8), none] [] GG M 0 0)) ∧ (¬ wr (wia (wsr x3 x8) 1) = wr 1 → WM K fM_finisher (EM K fM_finisher 80 Q) 127 [some (aR 63), some (aI x1), some (aI x2), some (aI x3), some (aI x4), some (aI x5), some (aI x6), some (aI x7), some (aI x8), none] [] GG M 0 0))) :
    WM K fM_finisher (EM K fM_finisher 80 Q) 98 [some (aR 63), some (aI x1), some (aI x2), some (aI x3), some (aI x4), some (aI x5), some (aI x6), some (aI x7), some (aI x8), none] [] GG M 0 0 := by
  refine s_iload (i := 8) (by decide +kernel) rfl ?_
  refine s_if_lt (off := 76) (tgt := 176) (by decide +kernel) (by decide) (fun c1 => ?_) (fun c1 => ?_)
  · have h2 := h.1 c1
    refine s_iload (i := 5) (by decide +kernel) rfl ?_
    refine s_iconst (n := 1) (by decide +kernel) ?_
    refine s_iload (i := 6) (by decide +kernel) rfl ?_
    refine s_ishl (by decide +kernel) ?_
    refine s_ior (by decide +kernel) ?_
    refine s_istore (i := 5) (by decide +kernel) (by decide) ?_
    refine s_iinc (i := 7) (n := 1) (by decide +kernel) rfl (by decide) ?_
    refine s_goto (off := -107) (tgt := 81) (by decide +kernel) (by decide) ?_
    exact s_loc (L' := [some (aR 63), some (aI x1), some (aI x2), some (aI x3), some (aI x4), some (aI (wio x5 (wsl 1 x6))), some (aI x6), some (aI (x7 + 1)), none, none]) (ll_s (ll_s (ll_s (ll_s (ll_s (ll_s (ll_s (ll_s (ll_n (ll_s ll_nil)))))))))) h2
  · have h3 := h.2 c1
    refine s_iload_n (i := 3) (by decide +kernel) rfl ?_
    refine s_iload (i := 8) (by decide +kernel) rfl ?_
    refine s_ishr (by decide +kernel) ?_
    refine s_iconst (n := 1) (by decide +kernel) ?_
    refine s_iand (by decide +kernel) ?_
    refine s_iconst (n := 1) (by decide +kernel) ?_
    refine s_icmp_ne (off := 17) (tgt := 127) (by decide +kernel) (by decide) (fun c4 => ?_) (fun c4 => ?_)
    · have h5 := h3.2 c4
      exact h5
    · have h6 := h3.1 c4
      refine s_iload (i := 5) (by decide +kernel) rfl ?_
      refine s_iload (i := 8) (by decide +kernel) rfl ?_
      refine s_ishr (by decide +kernel) ?_
      refine s_iconst (n := 1) (by decide +kernel) ?_
      refine s_iand (by decide +kernel) ?_
      refine s_if_ne (off := 7) (tgt := 127) (by decide +kernel) (by decide) (fun c7 => ?_) (fun c7 => ?_)
      · have h8 := h6.2 c7
        exact h8
      · have h9 := h6.1 c7
        refine s_iconst (n := 1) (by decide +kernel) ?_
        refine s_goto (off := 4) (tgt := 128) (by decide +kernel) (by decide) ?_
        exact h9

set_option maxRecDepth 20000 in
theorem BM_finisher_127 {K : KX} {Q : Res → AG → AM → Prop} {M : AM} (x1 x2 x3 x4 x5 x6 x7 x8 : Int)
    (h : WM K fM_finisher (EM K fM_finisher 80 Q) 128 [some (aR 63), some (aI x1), some (aI x2), some (aI x3), some (aI x4), some (aI x5), some (aI x6), some (aI x7), some (aI x8), none] [aI 0] GG M 0 0) :
    WM K fM_finisher (EM K fM_finisher 80 Q) 127 [some (aR 63), some (aI x1), some (aI x2), some (aI x3), some (aI x4), some (aI x5), some (aI x6), some (aI x7), some (aI x8), none] [] GG M 0 0 := by
  refine s_iconst (n := 0) (by decide +kernel) ?_
  exact h

set_option maxRecDepth 20000 in
theorem BM_finisher_128 {K : KX} {Q : Res → AG → AM → Prop} {M : AM} (x1 x2 x3 x4 x5 x6 x7 x8 y0 : Int)
    (h : (wr y0 = 0 → WM K fM_finisher (EM K fM_finisher 80 Q) 166 [some (aR 63), some (aI x1), some (aI x2), some (aI x3), some (aI x4), some (aI x5), some (aI x6), some (aI x7), some (aI x8), some (aI y0)] [] GG M 0 0) ∧ (¬ wr y0 = 0 → ∃ j4 : Nat, wr (wio x5 (wsl 1 x8)) = (j4 : Int) ∧ j4 < 64 ∧ ((wr (M 77 j4) = 0 → WM K fM_finisher (EM K fM_finisher 80 Q) 166 [some (aR 63), some (aI x1), some (aI x2), some (aI x3), some (aI x4), some (aI x5), some (aI x6), some (aI x7), some (aI x8), some (aI y0)] [] GG M 0 0) ∧ (¬ wr (M 77 j4) = 0 → MetA K fM_canRun [aR 63, aI x8, aI x5] GG M (cI GG (fun b12 M11 => (wr b12 = 0 → WM K fM_finisher (EM K fM_finisher 80 Q) 166 [some (aR 63), some (aI x1), some (aI x2), some (aI x3), some (aI x4), some (aI x5), some (aI x6), some (aI x7), some (aI x8), some (aI y0)] [] GG M11 0 0) ∧ (¬ wr b12 = 0 → WM K fM_finisher (EM K fM_finisher 80 Q) 168 [some (aR 63), some (aI x1), some (aI x2), some (aI x3), some (aI x4), some (aI x5), some (aI x6), some (aI x7), some (aI x8), some (aI y0)] [aI x8] GG M11 0 0)) noX))))) :
    WM K fM_finisher (EM K fM_finisher 80 Q) 128 [some (aR 63), some (aI x1), some (aI x2), some (aI x3), some (aI x4), some (aI x5), some (aI x6), some (aI x7), some (aI x8), none] [aI y0] GG M 0 0 := by
  refine s_istore (i := 9) (by decide +kernel) (by decide) ?_
  refine s_iload (i := 9) (by decide +kernel) rfl ?_
  refine s_if_eq (off := 34) (tgt := 166) (by decide +kernel) (by decide) (fun c1 => ?_) (fun c1 => ?_)
  · have h2 := h.1 c1
    exact h2
  · have h3 := h.2 c1
    refine s_aload_n (i := 0) (by decide +kernel) rfl ?_
    refine s_getR (ci := 5) (k := 17) (index := 50) (r2 := 77) ck5 rfl rfl (by decide) rfl (by decide +kernel) g_598 ?_
    refine s_iload (i := 5) (by decide +kernel) rfl ?_
    refine s_iconst (n := 1) (by decide +kernel) ?_
    refine s_iload (i := 8) (by decide +kernel) rfl ?_
    refine s_ishl (by decide +kernel) ?_
    refine s_ior (by decide +kernel) ?_
    obtain ⟨j4, e5, e6, h7⟩ := h3
    refine s_zald (j := j4) rfl e5 e6 (by decide +kernel) ?_
    refine s_if_eq (off := 19) (tgt := 166) (by decide +kernel) (by decide) (fun c8 => ?_) (fun c8 => ?_)
    · have h9 := h7.1 c8
      exact h9
    · have h10 := h7.2 c8
      refine s_aload_n (i := 0) (by decide +kernel) rfl ?_
      refine s_iload (i := 8) (by decide +kernel) rfl ?_
      refine s_iload (i := 5) (by decide +kernel) rfl ?_
      refine s_callV (Fc := fM_canRun) (index := 92) (ci := 5) (as := [aI x8, aI x5]) (rest := []) rfl h10 rfl rfl (by decide) rfl ⟨g_685, hM_canRun, g_6, by decide, (show (parseMethodDescriptor fM_canRun.1.desc).map (fun d => d.parameters.length) = some 2 from by decide +kernel), by decide, by decide, by decide, by decide⟩ g_687 gp_23 rfl rfl (Nat.le_of_ble_eq_true rfl) (by decide +kernel) (q_cI (fun b12 M11 h13 => ?_) (fun _ _ q => q.elim))
      refine s_if_eq (off := 8) (tgt := 166) (by decide +kernel) (by decide) (fun c15 => ?_) (fun c15 => ?_)
      · have h16 := h13.1 c15
        exact h16
      · have h17 := h13.2 c15
        refine s_iload (i := 8) (by decide +kernel) rfl ?_
        refine s_goto (off := 5) (tgt := 168) (by decide +kernel) (by decide) ?_
        exact h17

set_option maxRecDepth 20000 in
theorem BM_finisher_166 {K : KX} {Q : Res → AG → AM → Prop} {M : AM} (x1 x2 x3 x4 x5 x6 x7 x8 x9 : Int)
    (h : WM K fM_finisher (EM K fM_finisher 80 Q) 168 [some (aR 63), some (aI x1), some (aI x2), some (aI x3), some (aI x4), some (aI x5), some (aI x6), some (aI x7), some (aI x8), some (aI x9)] [aI x6] GG M 0 0) :
    WM K fM_finisher (EM K fM_finisher 80 Q) 166 [some (aR 63), some (aI x1), some (aI x2), some (aI x3), some (aI x4), some (aI x5), some (aI x6), some (aI x7), some (aI x8), some (aI x9)] [] GG M 0 0 := by
  refine s_iload (i := 6) (by decide +kernel) rfl ?_
  exact h

set_option maxRecDepth 20000 in
theorem BM_finisher_168 {K : KX} {Q : Res → AG → AM → Prop} {M : AM} (x1 x2 x3 x4 x5 x6 x7 x8 x9 y0 : Int)
    (h : WM K fM_finisher (EM K fM_finisher 80 Q) 98 [some (aR 63), some (aI x1), some (aI x2), some (aI x3), some (aI x4), some (aI x5), some (aI y0), some (aI x7), some (aI (x8 + (-1))), none] [] GG M 0 0) :
    WM K fM_finisher (EM K fM_finisher 80 Q) 168 [some (aR 63), some (aI x1), some (aI x2), some (aI x3), some (aI x4), some (aI x5), some (aI x6), some (aI x7), some (aI x8), some (aI x9)] [aI y0] GG M 0 0 := by
  refine s_istore (i := 6) (by decide +kernel) (by decide) ?_
  refine s_iinc (i := 8) (n := -1) (by decide +kernel) rfl (by decide) ?_
  refine s_goto (off := -75) (tgt := 98) (by decide +kernel) (by decide) ?_
  exact s_loc (L' := [some (aR 63), some (aI x1), some (aI x2), some (aI x3), some (aI x4), some (aI x5), some (aI y0), some (aI x7), some (aI (x8 + (-1))), none]) (ll_s (ll_s (ll_s (ll_s (ll_s (ll_s (ll_s (ll_s (ll_s (ll_n ll_nil)))))))))) h

