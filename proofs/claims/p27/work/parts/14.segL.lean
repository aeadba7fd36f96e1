set_option maxRecDepth 20000 in
theorem BL_low_0 {K : KX} {Q : Res → AG → AM → Prop} {M : AM} (p1 p2 : Int)
    (h : (¬ wr p2 = 0) ∧ (Q (.inl (some (aI ((wia p1 2147483647) - (wdv (wia p1 2147483647) p2) * p2)))) GG M)) :
    WM K fL_low (EM K fL_low 126 Q) 0 [some (aI p1), some (aI p2)] [] GG M 0 0 := by
  refine s_iload_n (i := 0) (by decide +kernel) rfl ?_
  refine s_ldc (index := 7) (v := 2147483647) (z := 2147483647) (by decide +kernel) g_302 (by decide) ?_
  refine s_iand (by decide +kernel) ?_
  refine s_iload_n (i := 1) (by decide +kernel) rfl ?_
  refine s_irem (by decide +kernel) h.1 ?_
  have h1 := h.2
  exact s_iret rfl (by decide +kernel) (by decide) (by decide) h1

set_option maxRecDepth 20000 in
theorem BL_addLane_0 {K : KX} {Q : Res → AG → AM → Prop} {M : AM} (p2 p3 : Int)
    (h : MetA K fZ_addLane [aR 0, aI p2, aI p3] GG M (cI GG (fun b2 M1 => Q (.inl (some (aI b2))) GG M1) (fun X4 M1 => (X4 = "java/lang/IllegalArgumentException" ∧ (Q (.inl (some (aI (-99999)))) GG M1)) ∨ (X4 = "java/lang/IllegalStateException" ∧ (Q (.inl (some (aI (-99999)))) GG M1))))) :
    WM K fL_addLane (EM K fL_addLane 126 Q) 0 [some (aR 0), some (aI p2), some (aI p3), none] [] GG M 0 0 := by
  refine s_aload_n (i := 0) (by decide +kernel) rfl ?_
  refine s_iload_n (i := 1) (by decide +kernel) rfl ?_
  refine s_iload_n (i := 2) (by decide +kernel) rfl ?_
  refine s_callV (Fc := fZ_addLane) (index := 8) (ci := 4) (as := [aI p2, aI p3]) (rest := []) rfl h rfl rfl (by decide) rfl ⟨g_311, hZ_addLane, g_1, by decide, (show (parseMethodDescriptor fZ_addLane.1.desc).map (fun d => d.parameters.length) = some 2 from by decide +kernel), by decide, by decide, (by decide), (by decide)⟩ g_312 g_313 rfl rfl (Nat.le_of_ble_eq_true rfl) (by decide +kernel) (q_cI (fun b2 M1 h3 => ?_) (fun X4 M1 h3 => ?_))
  · skip
    exact s_iret rfl (by decide +kernel) (by decide) (by decide) h3
  · rcases h3 with ⟨rfl, h3⟩ | ⟨rfl, h3⟩
    · refine x_catch [] (0, 6, 7, 14) [(0, 6, 11, 17)] rfl (fun n =>  "") (fun z hz => nomatch hz) (by decide) (by decide) g_309 (by decide) (fun q9 => ?_)
      refine s_astoreX_n (i := 3) (by decide +kernel) (by decide) ?_
      refine s_ldc (index := 16) (v := -99999) (z := -99999) (by decide +kernel) g_356 (by decide) ?_
      exact s_iret rfl (by decide +kernel) (by decide) (by decide) h3
    · refine x_catch [(0, 6, 7, 14)] (0, 6, 11, 17) [] rfl (fun n => if n = 14 then "java/lang/IllegalArgumentException" else "") (by intro z hz; rcases List.mem_cons.mp hz with rfl | hz; exact ⟨by decide, g_309, by decide⟩; exact nomatch hz) (by decide) (by decide) g_310 (by decide) (fun q9 => ?_)
      refine s_astoreX_n (i := 3) (by decide +kernel) (by decide) ?_
      refine s_ldc (index := 16) (v := -99999) (z := -99999) (by decide +kernel) g_356 (by decide) ?_
      exact s_iret rfl (by decide +kernel) (by decide) (by decide) h3

set_option maxRecDepth 20000 in
theorem BL_setCharger_0 {K : KX} {Q : Res → AG → AM → Prop} {M : AM} (p2 p3 : Int)
    (h : MetA K fZ_setCharger [aR 0, aI p2, aI p3] GG M (cI GG (fun b2 M1 => (wr b2 = 0 → Q (.inl (some (aI 0))) GG M1) ∧ (¬ wr b2 = 0 → Q (.inl (some (aI 1))) GG M1)) (fun X4 M1 => (X4 = "java/lang/IllegalArgumentException" ∧ (Q (.inl (some (aI (-99999)))) GG M1))))) :
    WM K fL_setCharger (EM K fL_setCharger 126 Q) 0 [some (aR 0), some (aI p2), some (aI p3), none] [] GG M 0 0 := by
  refine s_aload_n (i := 0) (by decide +kernel) rfl ?_
  refine s_iload_n (i := 1) (by decide +kernel) rfl ?_
  refine s_iload_n (i := 2) (by decide +kernel) rfl ?_
  refine s_callV (Fc := fZ_setCharger) (index := 19) (ci := 4) (as := [aI p2, aI p3]) (rest := []) rfl h rfl rfl (by decide) rfl ⟨g_360, hZ_setCharger, g_1, by decide, (show (parseMethodDescriptor fZ_setCharger.1.desc).map (fun d => d.parameters.length) = some 2 from by decide +kernel), by decide, by decide, (by decide), (by decide)⟩ g_361 g_362 rfl rfl (Nat.le_of_ble_eq_true rfl) (by decide +kernel) (q_cI (fun b2 M1 h3 => ?_) (fun X4 M1 h3 => ?_))
  · skip
    refine s_if_eq (off := 7) (tgt := 13) (by decide +kernel) (by decide) (fun c5 => ?_) (fun c5 => ?_)
    · have h6 := h3.1 c5
      refine s_iconst (n := 0) (by decide +kernel) ?_
      exact s_iret rfl (by decide +kernel) (by decide) (by decide) h6
    · have h7 := h3.2 c5
      refine s_iconst (n := 1) (by decide +kernel) ?_
      refine s_goto (off := 4) (tgt := 14) (by decide +kernel) (by decide) ?_
      exact s_iret rfl (by decide +kernel) (by decide) (by decide) h7
  · rcases h3 with ⟨rfl, h3⟩
    · refine x_catch [] (0, 14, 15, 14) [] rfl (fun n =>  "") (fun z hz => nomatch hz) (by decide) (by decide) g_309 (by decide) (fun q9 => ?_)
      refine s_astoreX_n (i := 3) (by decide +kernel) (by decide) ?_
      refine s_ldc (index := 16) (v := -99999) (z := -99999) (by decide +kernel) g_356 (by decide) ?_
      exact s_iret rfl (by decide +kernel) (by decide) (by decide) h3

set_option maxRecDepth 20000 in
theorem BL_addVehicle_0 {K : KX} {Q : Res → AG → AM → Prop} {M : AM} (p2 p3 : Int)
    (h : MetA K fZ_addVehicle [aR 0, aI p2, aI p3] GG M (cI GG (fun b2 M1 => Q (.inl (some (aI b2))) GG M1) (fun X4 M1 => (X4 = "java/lang/IllegalArgumentException" ∧ (Q (.inl (some (aI (-99999)))) GG M1)) ∨ (X4 = "java/lang/IllegalStateException" ∧ (Q (.inl (some (aI (-99999)))) GG M1))))) :
    WM K fL_addVehicle (EM K fL_addVehicle 126 Q) 0 [some (aR 0), some (aI p2), some (aI p3), none] [] GG M 0 0 := by
  refine s_aload_n (i := 0) (by decide +kernel) rfl ?_
  refine s_iload_n (i := 1) (by decide +kernel) rfl ?_
  refine s_iload_n (i := 2) (by decide +kernel) rfl ?_
  refine s_callV (Fc := fZ_addVehicle) (index := 23) (ci := 4) (as := [aI p2, aI p3]) (rest := []) rfl h rfl rfl (by decide) rfl ⟨g_367, hZ_addVehicle, g_1, by decide, (show (parseMethodDescriptor fZ_addVehicle.1.desc).map (fun d => d.parameters.length) = some 2 from by decide +kernel), by decide, by decide, (by decide), (by decide)⟩ g_368 g_369 rfl rfl (Nat.le_of_ble_eq_true rfl) (by decide +kernel) (q_cI (fun b2 M1 h3 => ?_) (fun X4 M1 h3 => ?_))
  · skip
    exact s_iret rfl (by decide +kernel) (by decide) (by decide) h3
  · rcases h3 with ⟨rfl, h3⟩ | ⟨rfl, h3⟩
    · refine x_catch [] (0, 6, 7, 14) [(0, 6, 11, 17)] rfl (fun n =>  "") (fun z hz => nomatch hz) (by decide) (by decide) g_309 (by decide) (fun q9 => ?_)
      refine s_astoreX_n (i := 3) (by decide +kernel) (by decide) ?_
      refine s_ldc (index := 16) (v := -99999) (z := -99999) (by decide +kernel) g_356 (by decide) ?_
      exact s_iret rfl (by decide +kernel) (by decide) (by decide) h3
    · refine x_catch [(0, 6, 7, 14)] (0, 6, 11, 17) [] rfl (fun n => if n = 14 then "java/lang/IllegalArgumentException" else "") (by intro z hz; rcases List.mem_cons.mp hz with rfl | hz; exact ⟨by decide, g_309, by decide⟩; exact nomatch hz) (by decide) (by decide) g_310 (by decide) (fun q9 => ?_)
      refine s_astoreX_n (i := 3) (by decide +kernel) (by decide) ?_
      refine s_ldc (index := 16) (v := -99999) (z := -99999) (by decide +kernel) g_356 (by decide) ?_
      exact s_iret rfl (by decide +kernel) (by decide) (by decide) h3

set_option maxRecDepth 20000 in
theorem BL_assign_0 {K : KX} {Q : Res → AG → AM → Prop} {M : AM} (p2 p3 : Int)
    (h : MetA K fZ_assign [aR 0, aI p2, aI p3] GG M (cI GG (fun b2 M1 => Q (.inl (some (aI b2))) GG M1) (fun X4 M1 => (X4 = "java/lang/IndexOutOfBoundsException" ∧ (Q (.inl (some (aI (-99999)))) GG M1)) ∨ (X4 = "java/lang/IllegalArgumentException" ∧ (Q (.inl (some (aI (-99999)))) GG M1)) ∨ (X4 = "java/lang/IllegalStateException" ∧ (Q (.inl (some (aI (-99999)))) GG M1))))) :
    WM K fL_assign (EM K fL_assign 126 Q) 0 [some (aR 0), some (aI p2), some (aI p3), none] [] GG M 0 0 := by
  refine s_aload_n (i := 0) (by decide +kernel) rfl ?_
  refine s_iload_n (i := 1) (by decide +kernel) rfl ?_
  refine s_iload_n (i := 2) (by decide +kernel) rfl ?_
  refine s_callV (Fc := fZ_assign) (index := 26) (ci := 4) (as := [aI p2, aI p3]) (rest := []) rfl h rfl rfl (by decide) rfl ⟨g_387, hZ_assign, g_1, by decide, (show (parseMethodDescriptor fZ_assign.1.desc).map (fun d => d.parameters.length) = some 2 from by decide +kernel), by decide, by decide, (by decide), (by decide)⟩ g_388 g_389 rfl rfl (Nat.le_of_ble_eq_true rfl) (by decide +kernel) (q_cI (fun b2 M1 h3 => ?_) (fun X4 M1 h3 => ?_))
  · skip
    exact s_iret rfl (by decide +kernel) (by decide) (by decide) h3
  · rcases h3 with ⟨rfl, h3⟩ | ⟨rfl, h3⟩ | ⟨rfl, h3⟩
    · refine x_catch [] (0, 6, 7, 29) [(0, 6, 11, 14), (0, 6, 15, 17)] rfl (fun n =>  "") (fun z hz => nomatch hz) (by decide) (by decide) g_386 (by decide) (fun q9 => ?_)
      refine s_astoreX_n (i := 3) (by decide +kernel) (by decide) ?_
      refine s_ldc (index := 16) (v := -99999) (z := -99999) (by decide +kernel) g_356 (by decide) ?_
      exact s_iret rfl (by decide +kernel) (by decide) (by decide) h3
    · refine x_catch [(0, 6, 7, 29)] (0, 6, 11, 14) [(0, 6, 15, 17)] rfl (fun n => if n = 29 then "java/lang/IndexOutOfBoundsException" else "") (by intro z hz; rcases List.mem_cons.mp hz with rfl | hz; exact ⟨by decide, g_386, by decide⟩; exact nomatch hz) (by decide) (by decide) g_309 (by decide) (fun q9 => ?_)
      refine s_astoreX_n (i := 3) (by decide +kernel) (by decide) ?_
      refine s_ldc (index := 16) (v := -99999) (z := -99999) (by decide +kernel) g_356 (by decide) ?_
      exact s_iret rfl (by decide +kernel) (by decide) (by decide) h3
    · refine x_catch [(0, 6, 7, 29), (0, 6, 11, 14)] (0, 6, 15, 17) [] rfl (fun n => if n = 29 then "java/lang/IndexOutOfBoundsException" else if n = 14 then "java/lang/IllegalArgumentException" else "") (by intro z hz; rcases List.mem_cons.mp hz with rfl | hz; exact ⟨by decide, g_386, by decide⟩; rcases List.mem_cons.mp hz with rfl | hz; exact ⟨by decide, g_309, by decide⟩; exact nomatch hz) (by decide) (by decide) g_310 (by decide) (fun q9 => ?_)
      refine s_astoreX_n (i := 3) (by decide +kernel) (by decide) ?_
      refine s_ldc (index := 16) (v := -99999) (z := -99999) (by decide +kernel) g_356 (by decide) ?_
      exact s_iret rfl (by decide +kernel) (by decide) (by decide) h3

set_option maxRecDepth 20000 in
theorem BL_cancel_0 {K : KX} {Q : Res → AG → AM → Prop} {M : AM} (p2 : Int)
    (h : MetA K fZ_cancel [aR 0, aI p2] GG M (cI GG (fun b2 M1 => Q (.inl (some (aI b2))) GG M1) (fun X4 M1 => (X4 = "java/lang/IndexOutOfBoundsException" ∧ (Q (.inl (some (aI (-99999)))) GG M1)) ∨ (X4 = "java/lang/IllegalStateException" ∧ (Q (.inl (some (aI (-99999)))) GG M1))))) :
    WM K fL_cancel (EM K fL_cancel 126 Q) 0 [some (aR 0), some (aI p2), none] [] GG M 0 0 := by
  refine s_aload_n (i := 0) (by decide +kernel) rfl ?_
  refine s_iload_n (i := 1) (by decide +kernel) rfl ?_
  refine s_callV (Fc := fZ_cancel) (index := 31) (ci := 4) (as := [aI p2]) (rest := []) rfl h rfl rfl (by decide) rfl ⟨g_406, hZ_cancel, g_1, by decide, (show (parseMethodDescriptor fZ_cancel.1.desc).map (fun d => d.parameters.length) = some 1 from by decide +kernel), by decide, by decide, (by decide), (by decide)⟩ g_407 g_408 rfl rfl (Nat.le_of_ble_eq_true rfl) (by decide +kernel) (q_cI (fun b2 M1 h3 => ?_) (fun X4 M1 h3 => ?_))
  · skip
    exact s_iret rfl (by decide +kernel) (by decide) (by decide) h3
  · rcases h3 with ⟨rfl, h3⟩ | ⟨rfl, h3⟩
    · refine x_catch [] (0, 5, 6, 29) [(0, 5, 10, 17)] rfl (fun n =>  "") (fun z hz => nomatch hz) (by decide) (by decide) g_386 (by decide) (fun q9 => ?_)
      refine s_astoreX_n (i := 2) (by decide +kernel) (by decide) ?_
      refine s_ldc (index := 16) (v := -99999) (z := -99999) (by decide +kernel) g_356 (by decide) ?_
      exact s_iret rfl (by decide +kernel) (by decide) (by decide) h3
    · refine x_catch [(0, 5, 6, 29)] (0, 5, 10, 17) [] rfl (fun n => if n = 29 then "java/lang/IndexOutOfBoundsException" else "") (by intro z hz; rcases List.mem_cons.mp hz with rfl | hz; exact ⟨by decide, g_386, by decide⟩; exact nomatch hz) (by decide) (by decide) g_310 (by decide) (fun q9 => ?_)
      refine s_astoreX_n (i := 2) (by decide +kernel) (by decide) ?_
      refine s_ldc (index := 16) (v := -99999) (z := -99999) (by decide +kernel) g_356 (by decide) ?_
      exact s_iret rfl (by decide +kernel) (by decide) (by decide) h3

set_option maxRecDepth 20000 in
theorem BL_charge_0 {K : KX} {Q : Res → AG → AM → Prop} {M : AM} (p2 : Int)
    (h : MetA K fZ_charge [aR 0, aI p2] GG M (cI GG (fun b2 M1 => Q (.inl (some (aI b2))) GG M1) (fun X4 M1 => (X4 = "java/lang/IndexOutOfBoundsException" ∧ (Q (.inl (some (aI (-99999)))) GG M1)) ∨ (X4 = "java/lang/IllegalStateException" ∧ (Q (.inl (some (aI (-99999)))) GG M1))))) :
    WM K fL_charge (EM K fL_charge 126 Q) 0 [some (aR 0), some (aI p2), none] [] GG M 0 0 := by
  refine s_aload_n (i := 0) (by decide +kernel) rfl ?_
  refine s_iload_n (i := 1) (by decide +kernel) rfl ?_
  refine s_callV (Fc := fZ_charge) (index := 35) (ci := 4) (as := [aI p2]) (rest := []) rfl h rfl rfl (by decide) rfl ⟨g_426, hZ_charge, g_1, by decide, (show (parseMethodDescriptor fZ_charge.1.desc).map (fun d => d.parameters.length) = some 1 from by decide +kernel), by decide, by decide, (by decide), (by decide)⟩ g_427 g_428 rfl rfl (Nat.le_of_ble_eq_true rfl) (by decide +kernel) (q_cI (fun b2 M1 h3 => ?_) (fun X4 M1 h3 => ?_))
  · skip
    exact s_iret rfl (by decide +kernel) (by decide) (by decide) h3
  · rcases h3 with ⟨rfl, h3⟩ | ⟨rfl, h3⟩
    · refine x_catch [] (0, 5, 6, 29) [(0, 5, 10, 17)] rfl (fun n =>  "") (fun z hz => nomatch hz) (by decide) (by decide) g_386 (by decide) (fun q9 => ?_)
      refine s_astoreX_n (i := 2) (by decide +kernel) (by decide) ?_
      refine s_ldc (index := 16) (v := -99999) (z := -99999) (by decide +kernel) g_356 (by decide) ?_
      exact s_iret rfl (by decide +kernel) (by decide) (by decide) h3
    · refine x_catch [(0, 5, 6, 29)] (0, 5, 10, 17) [] rfl (fun n => if n = 29 then "java/lang/IndexOutOfBoundsException" else "") (by intro z hz; rcases List.mem_cons.mp hz with rfl | hz; exact ⟨by decide, g_386, by decide⟩; exact nomatch hz) (by decide) (by decide) g_310 (by decide) (fun q9 => ?_)
      refine s_astoreX_n (i := 2) (by decide +kernel) (by decide) ?_
      refine s_ldc (index := 16) (v := -99999) (z := -99999) (by decide +kernel) g_356 (by decide) ?_
      exact s_iret rfl (by decide +kernel) (by decide) (by decide) h3

set_option maxRecDepth 20000 in
theorem BL_step_0 {K : KX} {Q : Res → AG → AM → Prop} {M : AM} (p2 : Int)
    (h : MetA K fZ_step [aR 0, aI p2] GG M (cI GG (fun b2 M1 => Q (.inl (some (aI b2))) GG M1) (fun X4 M1 => (X4 = "java/lang/IndexOutOfBoundsException" ∧ (Q (.inl (some (aI (-99999)))) GG M1)) ∨ (X4 = "java/lang/IllegalStateException" ∧ (Q (.inl (some (aI (-99999)))) GG M1))))) :
    WM K fL_step (EM K fL_step 126 Q) 0 [some (aR 0), some (aI p2), none] [] GG M 0 0 := by
  refine s_aload_n (i := 0) (by decide +kernel) rfl ?_
  refine s_iload_n (i := 1) (by decide +kernel) rfl ?_
  refine s_callV (Fc := fZ_step) (index := 38) (ci := 4) (as := [aI p2]) (rest := []) rfl h rfl rfl (by decide) rfl ⟨g_435, hZ_step, g_1, by decide, (show (parseMethodDescriptor fZ_step.1.desc).map (fun d => d.parameters.length) = some 1 from by decide +kernel), by decide, by decide, (by decide), (by decide)⟩ g_436 g_437 rfl rfl (Nat.le_of_ble_eq_true rfl) (by decide +kernel) (q_cI (fun b2 M1 h3 => ?_) (fun X4 M1 h3 => ?_))
  · skip
    exact s_iret rfl (by decide +kernel) (by decide) (by decide) h3
  · rcases h3 with ⟨rfl, h3⟩ | ⟨rfl, h3⟩
    · refine x_catch [] (0, 5, 6, 29) [(0, 5, 10, 17)] rfl (fun n =>  "") (fun z hz => nomatch hz) (by decide) (by decide) g_386 (by decide) (fun q9 => ?_)
      refine s_astoreX_n (i := 2) (by decide +kernel) (by decide) ?_
      refine s_ldc (index := 16) (v := -99999) (z := -99999) (by decide +kernel) g_356 (by decide) ?_
      exact s_iret rfl (by decide +kernel) (by decide) (by decide) h3
    · refine x_catch [(0, 5, 6, 29)] (0, 5, 10, 17) [] rfl (fun n => if n = 29 then "java/lang/IndexOutOfBoundsException" else "") (by intro z hz; rcases List.mem_cons.mp hz with rfl | hz; exact ⟨by decide, g_386, by decide⟩; exact nomatch hz) (by decide) (by decide) g_310 (by decide) (fun q9 => ?_)
      refine s_astoreX_n (i := 2) (by decide +kernel) (by decide) ?_
      refine s_ldc (index := 16) (v := -99999) (z := -99999) (by decide +kernel) g_356 (by decide) ?_
      exact s_iret rfl (by decide +kernel) (by decide) (by decide) h3

set_option maxRecDepth 20000 in
theorem BL_tick_0 {K : KX} {Q : Res → AG → AM → Prop} {M : AM} (p2 : Int)
    (h : MetA K fZ_tick [aR 0, aI p2] GG M (cI GG (fun b2 M1 => Q (.inl (some (aI b2))) GG M1) (fun X4 M1 => (X4 = "java/lang/IllegalArgumentException" ∧ (Q (.inl (some (aI (-99999)))) GG M1))))) :
    WM K fL_tick (EM K fL_tick 126 Q) 0 [some (aR 0), some (aI p2), none] [] GG M 0 0 := by
  refine s_aload_n (i := 0) (by decide +kernel) rfl ?_
  refine s_iload_n (i := 1) (by decide +kernel) rfl ?_
  refine s_callV (Fc := fZ_tick) (index := 41) (ci := 4) (as := [aI p2]) (rest := []) rfl h rfl rfl (by decide) rfl ⟨g_460, hZ_tick, g_1, by decide, (show (parseMethodDescriptor fZ_tick.1.desc).map (fun d => d.parameters.length) = some 1 from by decide +kernel), by decide, by decide, (by decide), (by decide)⟩ g_461 g_462 rfl rfl (Nat.le_of_ble_eq_true rfl) (by decide +kernel) (q_cI (fun b2 M1 h3 => ?_) (fun X4 M1 h3 => ?_))
  · skip
    exact s_iret rfl (by decide +kernel) (by decide) (by decide) h3
  · rcases h3 with ⟨rfl, h3⟩
    · refine x_catch [] (0, 5, 6, 14) [] rfl (fun n =>  "") (fun z hz => nomatch hz) (by decide) (by decide) g_309 (by decide) (fun q9 => ?_)
      refine s_astoreX_n (i := 2) (by decide +kernel) (by decide) ?_
      refine s_ldc (index := 16) (v := -99999) (z := -99999) (by decide +kernel) g_356 (by decide) ?_
      exact s_iret rfl (by decide +kernel) (by decide) (by decide) h3

set_option maxRecDepth 20000 in
theorem BL_addJob_0 {K : KX} {Q : Res → AG → AM → Prop} {M : AM} (p2 : Int)
    (h : MetA K fZ_addJob [aR 0, aI p2] GG M (cI GG (fun b2 M1 => Q (.inl (some (aI b2))) GG M1) (fun X4 M1 => (X4 = "java/lang/IllegalArgumentException" ∧ (Q (.inl (some (aI (-99999)))) GG M1)) ∨ (X4 = "java/lang/IllegalStateException" ∧ (Q (.inl (some (aI (-99999)))) GG M1))))) :
    WM K fL_addJob (EM K fL_addJob 126 Q) 0 [some (aR 0), some (aI p2), none] [] GG M 0 0 := by
  refine s_aload_n (i := 0) (by decide +kernel) rfl ?_
  refine s_iload_n (i := 1) (by decide +kernel) rfl ?_
  refine s_callV (Fc := fZ_addJob) (index := 44) (ci := 4) (as := [aI p2]) (rest := []) rfl h rfl rfl (by decide) rfl ⟨g_472, hZ_addJob, g_1, by decide, (show (parseMethodDescriptor fZ_addJob.1.desc).map (fun d => d.parameters.length) = some 1 from by decide +kernel), by decide, by decide, (by decide), (by decide)⟩ g_473 g_474 rfl rfl (Nat.le_of_ble_eq_true rfl) (by decide +kernel) (q_cI (fun b2 M1 h3 => ?_) (fun X4 M1 h3 => ?_))
  · skip
    exact s_iret rfl (by decide +kernel) (by decide) (by decide) h3
  · rcases h3 with ⟨rfl, h3⟩ | ⟨rfl, h3⟩
    · refine x_catch [] (0, 5, 6, 14) [(0, 5, 10, 17)] rfl (fun n =>  "") (fun z hz => nomatch hz) (by decide) (by decide) g_309 (by decide) (fun q9 => ?_)
      refine s_astoreX_n (i := 2) (by decide +kernel) (by decide) ?_
      refine s_ldc (index := 16) (v := -99999) (z := -99999) (by decide +kernel) g_356 (by decide) ?_
      exact s_iret rfl (by decide +kernel) (by decide) (by decide) h3
    · refine x_catch [(0, 5, 6, 14)] (0, 5, 10, 17) [] rfl (fun n => if n = 14 then "java/lang/IllegalArgumentException" else "") (by intro z hz; rcases List.mem_cons.mp hz with rfl | hz; exact ⟨by decide, g_309, by decide⟩; exact nomatch hz) (by decide) (by decide) g_310 (by decide) (fun q9 => ?_)
      refine s_astoreX_n (i := 2) (by decide +kernel) (by decide) ?_
      refine s_ldc (index := 16) (v := -99999) (z := -99999) (by decide +kernel) g_356 (by decide) ?_
      exact s_iret rfl (by decide +kernel) (by decide) (by decide) h3

set_option maxRecDepth 20000 in
theorem BL_finisher_0 {K : KX} {Q : Res → AG → AM → Prop} {M : AM} (p2 : Int)
    (h : MetA K fZ_finisher [aR 0, aI p2] GG M (cI GG (fun b2 M1 => Q (.inl (some (aI b2))) GG M1) (fun X4 M1 => (X4 = "java/lang/IllegalArgumentException" ∧ (Q (.inl (some (aI (-1)))) GG M1))))) :
    WM K fL_finisher (EM K fL_finisher 126 Q) 0 [some (aR 0), some (aI p2), none] [] GG M 0 0 := by
  refine s_aload_n (i := 0) (by decide +kernel) rfl ?_
  refine s_iload_n (i := 1) (by decide +kernel) rfl ?_
  refine s_callV (Fc := fZ_finisher) (index := 47) (ci := 4) (as := [aI p2]) (rest := []) rfl h rfl rfl (by decide) rfl ⟨g_535, hZ_finisher, g_1, by decide, (show (parseMethodDescriptor fZ_finisher.1.desc).map (fun d => d.parameters.length) = some 1 from by decide +kernel), by decide, by decide, (by decide), (by decide)⟩ g_536 g_537 rfl rfl (Nat.le_of_ble_eq_true rfl) (by decide +kernel) (q_cI (fun b2 M1 h3 => ?_) (fun X4 M1 h3 => ?_))
  · skip
    exact s_iret rfl (by decide +kernel) (by decide) (by decide) h3
  · rcases h3 with ⟨rfl, h3⟩
    · refine x_catch [] (0, 5, 6, 14) [] rfl (fun n =>  "") (fun z hz => nomatch hz) (by decide) (by decide) g_309 (by decide) (fun q9 => ?_)
      refine s_astoreX_n (i := 2) (by decide +kernel) (by decide) ?_
      refine s_iconst (n := -1) (by decide +kernel) ?_
      exact s_iret rfl (by decide +kernel) (by decide) (by decide) h3

set_option maxRecDepth 20000 in
theorem BL_act_0 {K : KX} {Q : Res → AG → AM → Prop} {M : AM} (p2 : Int)
    (h : MetA K fL_low [aI (wsr p2 24), aI 9] GG M (cI GG (fun b2 M1 => (wr b2 = 0 → WM K fL_act (EM K fL_act 126 Q) 17 [some (aR 0), some (aI p2), none, none, none, none] [aI 1] GG M1 0 0) ∧ (¬ wr b2 = 0 → WM K fL_act (EM K fL_act 126 Q) 17 [some (aR 0), some (aI p2), none, none, none, none] [aI 0] GG M1 0 0)) noX)) :
    WM K fL_act (EM K fL_act 126 Q) 0 [some (aR 0), some (aI p2), none, none, none, none] [] GG M 0 0 := by
  refine s_iload_n (i := 1) (by decide +kernel) rfl ?_
  refine s_bipush (n := 24) (by decide +kernel) (by decide +kernel) ?_
  refine s_ishr (by decide +kernel) ?_
  refine s_bipush (n := 9) (by decide +kernel) (by decide +kernel) ?_
  refine s_callS (Fc := fL_low) (index := 50) (as := [aI (wsr p2 24), aI 9]) (rest := []) rfl h ⟨g_299, hL_low, g_0, by decide, (show (parseMethodDescriptor fL_low.1.desc).map (fun d => d.parameters.length) = some 2 from by decide +kernel), by decide, by decide, (by decide), (by decide)⟩ g_300 rfl rfl (Nat.le_of_ble_eq_true rfl) (by decide +kernel) (q_cI (fun b2 M1 h3 => ?_) (fun _ _ q => q.elim))
  refine s_if_ne (off := 7) (tgt := 16) (by decide +kernel) (by decide) (fun c5 => ?_) (fun c5 => ?_)
  · have h6 := h3.2 c5
    refine s_iconst (n := 0) (by decide +kernel) ?_
    exact h6
  · have h7 := h3.1 c5
    refine s_iconst (n := 1) (by decide +kernel) ?_
    refine s_goto (off := 4) (tgt := 17) (by decide +kernel) (by decide) ?_
    exact h7

set_option maxRecDepth 20000 in
theorem BL_act_17 {K : KX} {Q : Res → AG → AM → Prop} {M : AM} (x1 y0 : Int)
    (h : (wr y0 = 0 → MetA K fL_low [aI (wsr x1 4), aI 12] GG M (cI GG (fun b4 M3 => WM K fL_act (EM K fL_act 126 Q) 43 [some (aR 0), some (aI x1), some (aI y0), none, none, none] [aI b4] GG M3 0 0) noX)) ∧ (¬ wr y0 = 0 → MetA K fL_low [aI (wsr x1 4), aI 23] GG M (cI GG (fun b9 M8 => WM K fL_act (EM K fL_act 126 Q) 43 [some (aR 0), some (aI x1), some (aI y0), none, none, none] [aI (b9 - 1)] GG M8 0 0) noX))) :
    WM K fL_act (EM K fL_act 126 Q) 17 [some (aR 0), some (aI x1), none, none, none, none] [aI y0] GG M 0 0 := by
  refine s_istore_n (i := 2) (by decide +kernel) (by decide) ?_
  refine s_iload_n (i := 2) (by decide +kernel) rfl ?_
  refine s_if_eq (off := 16) (tgt := 35) (by decide +kernel) (by decide) (fun c1 => ?_) (fun c1 => ?_)
  · have h2 := h.1 c1
    refine s_iload_n (i := 1) (by decide +kernel) rfl ?_
    refine s_iconst (n := 4) (by decide +kernel) ?_
    refine s_ishr (by decide +kernel) ?_
    refine s_bipush (n := 12) (by decide +kernel) (by decide +kernel) ?_
    refine s_callS (Fc := fL_low) (index := 50) (as := [aI (wsr x1 4), aI 12]) (rest := []) rfl h2 ⟨g_299, hL_low, g_0, by decide, (show (parseMethodDescriptor fL_low.1.desc).map (fun d => d.parameters.length) = some 2 from by decide +kernel), by decide, by decide, (by decide), (by decide)⟩ g_300 rfl rfl (Nat.le_of_ble_eq_true rfl) (by decide +kernel) (q_cI (fun b4 M3 h5 => ?_) (fun _ _ q => q.elim))
    exact h5
  · have h7 := h.2 c1
    refine s_iload_n (i := 1) (by decide +kernel) rfl ?_
    refine s_iconst (n := 4) (by decide +kernel) ?_
    refine s_ishr (by decide +kernel) ?_
    refine s_bipush (n := 23) (by decide +kernel) (by decide +kernel) ?_
    refine s_callS (Fc := fL_low) (index := 50) (as := [aI (wsr x1 4), aI 23]) (rest := []) rfl h7 ⟨g_299, hL_low, g_0, by decide, (show (parseMethodDescriptor fL_low.1.desc).map (fun d => d.parameters.length) = some 2 from by decide +kernel), by decide, by decide, (by decide), (by decide)⟩ g_300 rfl rfl (Nat.le_of_ble_eq_true rfl) (by decide +kernel) (q_cI (fun b9 M8 h10 => ?_) (fun _ _ q => q.elim))
    refine s_iconst (n := 1) (by decide +kernel) ?_
    refine s_isub (by decide +kernel) ?_
    refine s_goto (off := 11) (tgt := 43) (by decide +kernel) (by decide) ?_
    exact h10

set_option maxRecDepth 20000 in
theorem BL_act_43 {K : KX} {Q : Res → AG → AM → Prop} {M : AM} (x1 x2 y0 : Int)
    (h : (wr x2 = 0 → WM K fL_act (EM K fL_act 126 Q) 59 [some (aR 0), some (aI x1), some (aI x2), some (aI y0), none, none] [aI 12, aI (wsr x1 9)] GG M 0 0) ∧ (¬ wr x2 = 0 → WM K fL_act (EM K fL_act 126 Q) 59 [some (aR 0), some (aI x1), some (aI x2), some (aI y0), none, none] [aI 21, aI (wsr x1 9)] GG M 0 0)) :
    WM K fL_act (EM K fL_act 126 Q) 43 [some (aR 0), some (aI x1), some (aI x2), none, none, none] [aI y0] GG M 0 0 := by
  refine s_istore_n (i := 3) (by decide +kernel) (by decide) ?_
  refine s_iload_n (i := 1) (by decide +kernel) rfl ?_
  refine s_bipush (n := 9) (by decide +kernel) (by decide +kernel) ?_
  refine s_ishr (by decide +kernel) ?_
  refine s_iload_n (i := 2) (by decide +kernel) rfl ?_
  refine s_if_eq (off := 8) (tgt := 57) (by decide +kernel) (by decide) (fun c1 => ?_) (fun c1 => ?_)
  · have h2 := h.1 c1
    refine s_bipush (n := 12) (by decide +kernel) (by decide +kernel) ?_
    exact h2
  · have h3 := h.2 c1
    refine s_bipush (n := 21) (by decide +kernel) (by decide +kernel) ?_
    refine s_goto (off := 5) (tgt := 59) (by decide +kernel) (by decide) ?_
    exact h3

set_option maxRecDepth 20000 in
theorem BL_act_59 {K : KX} {Q : Res → AG → AM → Prop} {M : AM} (x1 x2 x3 y0 y1 : Int)
    (h : MetA K fL_low [aI y1, aI y0] GG M (cI GG (fun b2 M1 => MetA K fL_low [aI (wsr x1 13), aI 5] GG M1 (cI GG (fun b6 M5 => (wr x2 = 0 → WM K fL_act (EM K fL_act 126 Q) 81 [some (aR 0), some (aI x1), some (aI x2), some (aI x3), some (aI b2), none] [aI 0, aI b6] GG M5 0 0) ∧ (¬ wr x2 = 0 → WM K fL_act (EM K fL_act 126 Q) 81 [some (aR 0), some (aI x1), some (aI x2), some (aI x3), some (aI b2), none] [aI 1, aI b6] GG M5 0 0)) noX)) noX)) :
    WM K fL_act (EM K fL_act 126 Q) 59 [some (aR 0), some (aI x1), some (aI x2), some (aI x3), none, none] [aI y0, aI y1] GG M 0 0 := by
  refine s_callS (Fc := fL_low) (index := 50) (as := [aI y1, aI y0]) (rest := []) rfl h ⟨g_299, hL_low, g_0, by decide, (show (parseMethodDescriptor fL_low.1.desc).map (fun d => d.parameters.length) = some 2 from by decide +kernel), by decide, by decide, (by decide), (by decide)⟩ g_300 rfl rfl (Nat.le_of_ble_eq_true rfl) (by decide +kernel) (q_cI (fun b2 M1 h3 => ?_) (fun _ _ q => q.elim))
  refine s_istore (i := 4) (by decide +kernel) (by decide) ?_
  refine s_iload_n (i := 1) (by decide +kernel) rfl ?_
  refine s_bipush (n := 13) (by decide +kernel) (by decide +kernel) ?_
  refine s_ishr (by decide +kernel) ?_
  refine s_iconst (n := 5) (by decide +kernel) ?_
  refine s_callS (Fc := fL_low) (index := 50) (as := [aI (wsr x1 13), aI 5]) (rest := []) rfl h3 ⟨g_299, hL_low, g_0, by decide, (show (parseMethodDescriptor fL_low.1.desc).map (fun d => d.parameters.length) = some 2 from by decide +kernel), by decide, by decide, (by decide), (by decide)⟩ g_300 rfl rfl (Nat.le_of_ble_eq_true rfl) (by decide +kernel) (q_cI (fun b6 M5 h7 => ?_) (fun _ _ q => q.elim))
  refine s_iload_n (i := 2) (by decide +kernel) rfl ?_
  refine s_if_eq (off := 7) (tgt := 80) (by decide +kernel) (by decide) (fun c9 => ?_) (fun c9 => ?_)
  · have h10 := h7.1 c9
    refine s_iconst (n := 0) (by decide +kernel) ?_
    exact h10
  · have h11 := h7.2 c9
    refine s_iconst (n := 1) (by decide +kernel) ?_
    refine s_goto (off := 4) (tgt := 81) (by decide +kernel) (by decide) ?_
    exact h11

theorem d_L_act_90 : decode fL_act.2.1 90 = .ok (.tableswitch 228 0 18 #[90, 90, 90, 90, 90, 98, 120, 120, 155, 155, 155, 163, 170, 177, 177, 184, 217, 223, 223], 90) := by decide +kernel
set_option maxRecDepth 20000 in
theorem BL_act_81 {K : KX} {Q : Res → AG → AM → Prop} {M : AM} (x1 x2 x3 x4 y0 y1 : Int)
    (h : MetA K fL_low [aI x1, aI 20] GG M (cI GG (fun b2 M1 => ((wr b2 < 0 ∨ 18 < wr b2) → MetA K fL_assign [aR 0, aI (y1 - y0), aI x4] GG M1 (cI GG (fun b8 M7 => Q (.inl (some (aI b8))) GG M7) (fun X9 M9 => Q (.inr X9) GG M9))) ∧ (((wr b2 = 0 ∨ wr b2 = 1 ∨ wr b2 = 2 ∨ wr b2 = 3 ∨ wr b2 = 4) → MetA K fL_addLane [aR 0, aI x3, aI x4] GG M1 (cI GG (fun b33 M32 => Q (.inl (some (aI b33))) GG M32) (fun X9 M9 => Q (.inr X9) GG M9))) ∧ ((wr b2 = 5) → MetA K fL_low [aI (wsr x1 9), aI 3] GG M1 (cI GG (fun b38 M37 => (wr b38 ≤ 0 → WM K fL_act (EM K fL_act 126 Q) 206 [some (aR 0), some (aI x1), some (aI x2), some (aI x3), some (aI x4), some (aI (y1 - y0))] [aI 0, aI x3, aR 0] GG M37 0 0) ∧ (¬ wr b38 ≤ 0 → WM K fL_act (EM K fL_act 126 Q) 206 [some (aR 0), some (aI x1), some (aI x2), some (aI x3), some (aI x4), some (aI (y1 - y0))] [aI 1, aI x3, aR 0] GG M37 0 0)) noX)) ∧ ((wr b2 = 6 ∨ wr b2 = 7) → (wr x2 = 0 → MetA K fL_low [aI (wsr x1 9), aI 30] GG M1 (cI GG (fun b60 M59 => WM K fL_act (EM K fL_act 126 Q) 241 [some (aR 0), some (aI x1), some (aI x2), some (aI x3), some (aI x4), some (aI (y1 - y0))] [aI (5 + b60), aI x3, aR 0] GG M59 0 0) noX)) ∧ (¬ wr x2 = 0 → MetA K fL_low [aI (wsr x1 9), aI 64] GG M1 (cI GG (fun b65 M64 => WM K fL_act (EM K fL_act 126 Q) 241 [some (aR 0), some (aI x1), some (aI x2), some (aI x3), some (aI x4), some (aI (y1 - y0))] [aI (b65 - 2), aI x3, aR 0] GG M64 0 0) noX))) ∧ ((wr b2 = 8 ∨ wr b2 = 9 ∨ wr b2 = 10) → MetA K fL_assign [aR 0, aI (y1 - y0), aI x3] GG M1 (cI GG (fun b80 M79 => Q (.inl (some (aI b80))) GG M79) (fun X9 M9 => Q (.inr X9) GG M9))) ∧ ((wr b2 = 11) → MetA K fL_cancel [aR 0, aI (y1 - y0)] GG M1 (cI GG (fun b85 M84 => Q (.inl (some (aI b85))) GG M84) (fun X9 M9 => Q (.inr X9) GG M9))) ∧ ((wr b2 = 12) → MetA K fL_charge [aR 0, aI (y1 - y0)] GG M1 (cI GG (fun b90 M89 => Q (.inl (some (aI b90))) GG M89) (fun X9 M9 => Q (.inr X9) GG M9))) ∧ ((wr b2 = 13 ∨ wr b2 = 14) → MetA K fL_step [aR 0, aI (y1 - y0)] GG M1 (cI GG (fun b100 M99 => Q (.inl (some (aI b100))) GG M99) (fun X9 M9 => Q (.inr X9) GG M9))) ∧ ((wr b2 = 15) → (wr x2 = 0 → MetA K fL_low [aI (wsr x1 9), aI 3] GG M1 (cI GG (fun b107 M106 => WM K fL_act (EM K fL_act 126 Q) 303 [some (aR 0), some (aI x1), some (aI x2), some (aI x3), some (aI x4), some (aI (y1 - y0))] [aI (1 + b107), aR 0] GG M106 0 0) noX)) ∧ (¬ wr x2 = 0 → MetA K fL_low [aI (wsr x1 9), aI 24] GG M1 (cI GG (fun b112 M111 => WM K fL_act (EM K fL_act 126 Q) 303 [some (aR 0), some (aI x1), some (aI x2), some (aI x3), some (aI x4), some (aI (y1 - y0))] [aI (b112 - 2), aR 0] GG M111 0 0) noX))) ∧ ((wr b2 = 16) → MetA K fL_addJob [aR 0, aI x3] GG M1 (cI GG (fun b117 M116 => Q (.inl (some (aI b117))) GG M116) (fun X9 M9 => Q (.inr X9) GG M9))) ∧ ((wr b2 = 17 ∨ wr b2 = 18) → MetA K fZ_dispatch [aR 0] GG M1 (cI GG (fun b127 M126 => Q (.inl (some (aI b127))) GG M126) noX)))) noX)) :
    WM K fL_act (EM K fL_act 126 Q) 81 [some (aR 0), some (aI x1), some (aI x2), some (aI x3), some (aI x4), none] [aI y0, aI y1] GG M 0 0 := by
  refine s_isub (by decide +kernel) ?_
  refine s_istore (i := 5) (by decide +kernel) (by decide) ?_
  refine s_iload_n (i := 1) (by decide +kernel) rfl ?_
  refine s_bipush (n := 20) (by decide +kernel) (by decide +kernel) ?_
  refine s_callS (Fc := fL_low) (index := 50) (as := [aI x1, aI 20]) (rest := []) rfl h ⟨g_299, hL_low, g_0, by decide, (show (parseMethodDescriptor fL_low.1.desc).map (fun d => d.parameters.length) = some 2 from by decide +kernel), by decide, by decide, (by decide), (by decide)⟩ g_300 rfl rfl (Nat.le_of_ble_eq_true rfl) (by decide +kernel) (q_cI (fun b2 M1 h3 => ?_) (fun _ _ q => q.elim))
  by_cases c5 : wr b2 < 0 ∨ 18 < wr b2
  · have h6 := h3.1 c5
    refine s_tabOut (tgt := 318) d_L_act_90 c5 (by decide) ?_
    refine s_aload_n (i := 0) (by decide +kernel) rfl ?_
    refine s_iload (i := 5) (by decide +kernel) rfl ?_
    refine s_iload (i := 4) (by decide +kernel) rfl ?_
    refine s_callSH (Fc := fL_assign) (index := 63) (as := [aR 0, aI (y1 - y0), aI x4]) (rest := []) rfl h6 ⟨g_383, hL_assign, g_0, by decide, (show (parseMethodDescriptor fL_assign.1.desc).map (fun d => d.parameters.length) = some 3 from by decide +kernel), by decide, by decide, (by decide), (by decide)⟩ g_384 (by decide) rfl (Nat.le_of_ble_eq_true rfl) (by decide +kernel) (q_cI (fun b8 M7 h9 => ?_) (fun X9 M9 q => x_out rfl rfl (by decide) (by decide) q))
    exact s_iret rfl (by decide +kernel) (by decide) (by decide) h9
  · have h3s := h3.2
    have hv : wr b2 = 0 ∨ wr b2 = 1 ∨ wr b2 = 2 ∨ wr b2 = 3 ∨ wr b2 = 4 ∨ wr b2 = 5 ∨ wr b2 = 6 ∨ wr b2 = 7 ∨ wr b2 = 8 ∨ wr b2 = 9 ∨ wr b2 = 10 ∨ wr b2 = 11 ∨ wr b2 = 12 ∨ wr b2 = 13 ∨ wr b2 = 14 ∨ wr b2 = 15 ∨ wr b2 = 16 ∨ wr b2 = 17 ∨ wr b2 = 18 := by omega
    rcases hv with hv | hv | hv | hv | hv | hv | hv | hv | hv | hv | hv | hv | hv | hv | hv | hv | hv | hv | hv
    · have h11 := h3s.1 (by omega)
      refine s_tabIn (off := 90) (tgt := 180) d_L_act_90 (by omega) (by omega) (by rw [hv]; rfl) (by decide) ?_
      refine s_aload_n (i := 0) (by decide +kernel) rfl ?_
      refine s_iload_n (i := 3) (by decide +kernel) rfl ?_
      refine s_iload (i := 4) (by decide +kernel) rfl ?_
      refine s_callSH (Fc := fL_addLane) (index := 55) (as := [aR 0, aI x3, aI x4]) (rest := []) rfl h11 ⟨g_306, hL_addLane, g_0, by decide, (show (parseMethodDescriptor fL_addLane.1.desc).map (fun d => d.parameters.length) = some 3 from by decide +kernel), by decide, by decide, (by decide), (by decide)⟩ g_307 (by decide) rfl (Nat.le_of_ble_eq_true rfl) (by decide +kernel) (q_cI (fun b13 M12 h14 => ?_) (fun X9 M9 q => x_out rfl rfl (by decide) (by decide) q))
      exact s_iret rfl (by decide +kernel) (by decide) (by decide) h14
    · have h16 := h3s.1 (by omega)
      refine s_tabIn (off := 90) (tgt := 180) d_L_act_90 (by omega) (by omega) (by rw [hv]; rfl) (by decide) ?_
      refine s_aload_n (i := 0) (by decide +kernel) rfl ?_
      refine s_iload_n (i := 3) (by decide +kernel) rfl ?_
      refine s_iload (i := 4) (by decide +kernel) rfl ?_
      refine s_callSH (Fc := fL_addLane) (index := 55) (as := [aR 0, aI x3, aI x4]) (rest := []) rfl h16 ⟨g_306, hL_addLane, g_0, by decide, (show (parseMethodDescriptor fL_addLane.1.desc).map (fun d => d.parameters.length) = some 3 from by decide +kernel), by decide, by decide, (by decide), (by decide)⟩ g_307 (by decide) rfl (Nat.le_of_ble_eq_true rfl) (by decide +kernel) (q_cI (fun b18 M17 h19 => ?_) (fun X9 M9 q => x_out rfl rfl (by decide) (by decide) q))
      exact s_iret rfl (by decide +kernel) (by decide) (by decide) h19
    · have h21 := h3s.1 (by omega)
      refine s_tabIn (off := 90) (tgt := 180) d_L_act_90 (by omega) (by omega) (by rw [hv]; rfl) (by decide) ?_
      refine s_aload_n (i := 0) (by decide +kernel) rfl ?_
      refine s_iload_n (i := 3) (by decide +kernel) rfl ?_
      refine s_iload (i := 4) (by decide +kernel) rfl ?_
      refine s_callSH (Fc := fL_addLane) (index := 55) (as := [aR 0, aI x3, aI x4]) (rest := []) rfl h21 ⟨g_306, hL_addLane, g_0, by decide, (show (parseMethodDescriptor fL_addLane.1.desc).map (fun d => d.parameters.length) = some 3 from by decide +kernel), by decide, by decide, (by decide), (by decide)⟩ g_307 (by decide) rfl (Nat.le_of_ble_eq_true rfl) (by decide +kernel) (q_cI (fun b23 M22 h24 => ?_) (fun X9 M9 q => x_out rfl rfl (by decide) (by decide) q))
      exact s_iret rfl (by decide +kernel) (by decide) (by decide) h24
    · have h26 := h3s.1 (by omega)
      refine s_tabIn (off := 90) (tgt := 180) d_L_act_90 (by omega) (by omega) (by rw [hv]; rfl) (by decide) ?_
      refine s_aload_n (i := 0) (by decide +kernel) rfl ?_
      refine s_iload_n (i := 3) (by decide +kernel) rfl ?_
      refine s_iload (i := 4) (by decide +kernel) rfl ?_
      refine s_callSH (Fc := fL_addLane) (index := 55) (as := [aR 0, aI x3, aI x4]) (rest := []) rfl h26 ⟨g_306, hL_addLane, g_0, by decide, (show (parseMethodDescriptor fL_addLane.1.desc).map (fun d => d.parameters.length) = some 3 from by decide +kernel), by decide, by decide, (by decide), (by decide)⟩ g_307 (by decide) rfl (Nat.le_of_ble_eq_true rfl) (by decide +kernel) (q_cI (fun b28 M27 h29 => ?_) (fun X9 M9 q => x_out rfl rfl (by decide) (by decide) q))
      exact s_iret rfl (by decide +kernel) (by decide) (by decide) h29
    · have h31 := h3s.1 (by omega)
      refine s_tabIn (off := 90) (tgt := 180) d_L_act_90 (by omega) (by omega) (by rw [hv]; rfl) (by decide) ?_
      refine s_aload_n (i := 0) (by decide +kernel) rfl ?_
      refine s_iload_n (i := 3) (by decide +kernel) rfl ?_
      refine s_iload (i := 4) (by decide +kernel) rfl ?_
      refine s_callSH (Fc := fL_addLane) (index := 55) (as := [aR 0, aI x3, aI x4]) (rest := []) rfl h31 ⟨g_306, hL_addLane, g_0, by decide, (show (parseMethodDescriptor fL_addLane.1.desc).map (fun d => d.parameters.length) = some 3 from by decide +kernel), by decide, by decide, (by decide), (by decide)⟩ g_307 (by decide) rfl (Nat.le_of_ble_eq_true rfl) (by decide +kernel) (q_cI (fun b33 M32 h34 => ?_) (fun X9 M9 q => x_out rfl rfl (by decide) (by decide) q))
      exact s_iret rfl (by decide +kernel) (by decide) (by decide) h34
    · have h36 := h3s.2.1 (by omega)
      refine s_tabIn (off := 98) (tgt := 188) d_L_act_90 (by omega) (by omega) (by rw [hv]; rfl) (by decide) ?_
      refine s_aload_n (i := 0) (by decide +kernel) rfl ?_
      refine s_iload_n (i := 3) (by decide +kernel) rfl ?_
      refine s_iload_n (i := 1) (by decide +kernel) rfl ?_
      refine s_bipush (n := 9) (by decide +kernel) (by decide +kernel) ?_
      refine s_ishr (by decide +kernel) ?_
      refine s_iconst (n := 3) (by decide +kernel) ?_
      refine s_callS (Fc := fL_low) (index := 50) (as := [aI (wsr x1 9), aI 3]) (rest := [aI x3, aR 0]) rfl h36 ⟨g_299, hL_low, g_0, by decide, (show (parseMethodDescriptor fL_low.1.desc).map (fun d => d.parameters.length) = some 2 from by decide +kernel), by decide, by decide, (by decide), (by decide)⟩ g_300 rfl rfl (Nat.le_of_ble_eq_true rfl) (by decide +kernel) (q_cI (fun b38 M37 h39 => ?_) (fun _ _ q => q.elim))
      refine s_if_le (off := 7) (tgt := 205) (by decide +kernel) (by decide) (fun c41 => ?_) (fun c41 => ?_)
      · have h42 := h39.1 c41
        refine s_iconst (n := 0) (by decide +kernel) ?_
        exact h42
      · have h43 := h39.2 c41
        refine s_iconst (n := 1) (by decide +kernel) ?_
        refine s_goto (off := 4) (tgt := 206) (by decide +kernel) (by decide) ?_
        exact h43
    · have h44 := h3s.2.2.1 (by omega)
      refine s_tabIn (off := 120) (tgt := 210) d_L_act_90 (by omega) (by omega) (by rw [hv]; rfl) (by decide) ?_
      refine s_aload_n (i := 0) (by decide +kernel) rfl ?_
      refine s_iload_n (i := 3) (by decide +kernel) rfl ?_
      refine s_iload_n (i := 2) (by decide +kernel) rfl ?_
      refine s_if_eq (off := 17) (tgt := 230) (by decide +kernel) (by decide) (fun c45 => ?_) (fun c45 => ?_)
      · have h46 := h44.1 c45
        refine s_iconst (n := 5) (by decide +kernel) ?_
        refine s_iload_n (i := 1) (by decide +kernel) rfl ?_
        refine s_bipush (n := 9) (by decide +kernel) (by decide +kernel) ?_
        refine s_ishr (by decide +kernel) ?_
        refine s_bipush (n := 30) (by decide +kernel) (by decide +kernel) ?_
        refine s_callS (Fc := fL_low) (index := 50) (as := [aI (wsr x1 9), aI 30]) (rest := [aI 5, aI x3, aR 0]) rfl h46 ⟨g_299, hL_low, g_0, by decide, (show (parseMethodDescriptor fL_low.1.desc).map (fun d => d.parameters.length) = some 2 from by decide +kernel), by decide, by decide, (by decide), (by decide)⟩ g_300 rfl rfl (Nat.le_of_ble_eq_true rfl) (by decide +kernel) (q_cI (fun b48 M47 h49 => ?_) (fun _ _ q => q.elim))
        refine s_iadd (by decide +kernel) ?_
        exact h49
      · have h51 := h44.2 c45
        refine s_iload_n (i := 1) (by decide +kernel) rfl ?_
        refine s_bipush (n := 9) (by decide +kernel) (by decide +kernel) ?_
        refine s_ishr (by decide +kernel) ?_
        refine s_bipush (n := 64) (by decide +kernel) (by decide +kernel) ?_
        refine s_callS (Fc := fL_low) (index := 50) (as := [aI (wsr x1 9), aI 64]) (rest := [aI x3, aR 0]) rfl h51 ⟨g_299, hL_low, g_0, by decide, (show (parseMethodDescriptor fL_low.1.desc).map (fun d => d.parameters.length) = some 2 from by decide +kernel), by decide, by decide, (by decide), (by decide)⟩ g_300 rfl rfl (Nat.le_of_ble_eq_true rfl) (by decide +kernel) (q_cI (fun b53 M52 h54 => ?_) (fun _ _ q => q.elim))
        refine s_iconst (n := 2) (by decide +kernel) ?_
        refine s_isub (by decide +kernel) ?_
        refine s_goto (off := 14) (tgt := 241) (by decide +kernel) (by decide) ?_
        exact h54
    · have h56 := h3s.2.2.1 (by omega)
      refine s_tabIn (off := 120) (tgt := 210) d_L_act_90 (by omega) (by omega) (by rw [hv]; rfl) (by decide) ?_
      refine s_aload_n (i := 0) (by decide +kernel) rfl ?_
      refine s_iload_n (i := 3) (by decide +kernel) rfl ?_
      refine s_iload_n (i := 2) (by decide +kernel) rfl ?_
      refine s_if_eq (off := 17) (tgt := 230) (by decide +kernel) (by decide) (fun c57 => ?_) (fun c57 => ?_)
      · have h58 := h56.1 c57
        refine s_iconst (n := 5) (by decide +kernel) ?_
        refine s_iload_n (i := 1) (by decide +kernel) rfl ?_
        refine s_bipush (n := 9) (by decide +kernel) (by decide +kernel) ?_
        refine s_ishr (by decide +kernel) ?_
        refine s_bipush (n := 30) (by decide +kernel) (by decide +kernel) ?_
        refine s_callS (Fc := fL_low) (index := 50) (as := [aI (wsr x1 9), aI 30]) (rest := [aI 5, aI x3, aR 0]) rfl h58 ⟨g_299, hL_low, g_0, by decide, (show (parseMethodDescriptor fL_low.1.desc).map (fun d => d.parameters.length) = some 2 from by decide +kernel), by decide, by decide, (by decide), (by decide)⟩ g_300 rfl rfl (Nat.le_of_ble_eq_true rfl) (by decide +kernel) (q_cI (fun b60 M59 h61 => ?_) (fun _ _ q => q.elim))
        refine s_iadd (by decide +kernel) ?_
        exact h61
      · have h63 := h56.2 c57
        refine s_iload_n (i := 1) (by decide +kernel) rfl ?_
        refine s_bipush (n := 9) (by decide +kernel) (by decide +kernel) ?_
        refine s_ishr (by decide +kernel) ?_
        refine s_bipush (n := 64) (by decide +kernel) (by decide +kernel) ?_
        refine s_callS (Fc := fL_low) (index := 50) (as := [aI (wsr x1 9), aI 64]) (rest := [aI x3, aR 0]) rfl h63 ⟨g_299, hL_low, g_0, by decide, (show (parseMethodDescriptor fL_low.1.desc).map (fun d => d.parameters.length) = some 2 from by decide +kernel), by decide, by decide, (by decide), (by decide)⟩ g_300 rfl rfl (Nat.le_of_ble_eq_true rfl) (by decide +kernel) (q_cI (fun b65 M64 h66 => ?_) (fun _ _ q => q.elim))
        refine s_iconst (n := 2) (by decide +kernel) ?_
        refine s_isub (by decide +kernel) ?_
        refine s_goto (off := 14) (tgt := 241) (by decide +kernel) (by decide) ?_
        exact h66
    · have h68 := h3s.2.2.2.1 (by omega)
      refine s_tabIn (off := 155) (tgt := 245) d_L_act_90 (by omega) (by omega) (by rw [hv]; rfl) (by decide) ?_
      refine s_aload_n (i := 0) (by decide +kernel) rfl ?_
      refine s_iload (i := 5) (by decide +kernel) rfl ?_
      refine s_iload_n (i := 3) (by decide +kernel) rfl ?_
      refine s_callSH (Fc := fL_assign) (index := 63) (as := [aR 0, aI (y1 - y0), aI x3]) (rest := []) rfl h68 ⟨g_383, hL_assign, g_0, by decide, (show (parseMethodDescriptor fL_assign.1.desc).map (fun d => d.parameters.length) = some 3 from by decide +kernel), by decide, by decide, (by decide), (by decide)⟩ g_384 (by decide) rfl (Nat.le_of_ble_eq_true rfl) (by decide +kernel) (q_cI (fun b70 M69 h71 => ?_) (fun X9 M9 q => x_out rfl rfl (by decide) (by decide) q))
      exact s_iret rfl (by decide +kernel) (by decide) (by decide) h71
    · have h73 := h3s.2.2.2.1 (by omega)
      refine s_tabIn (off := 155) (tgt := 245) d_L_act_90 (by omega) (by omega) (by rw [hv]; rfl) (by decide) ?_
      refine s_aload_n (i := 0) (by decide +kernel) rfl ?_
      refine s_iload (i := 5) (by decide +kernel) rfl ?_
      refine s_iload_n (i := 3) (by decide +kernel) rfl ?_
      refine s_callSH (Fc := fL_assign) (index := 63) (as := [aR 0, aI (y1 - y0), aI x3]) (rest := []) rfl h73 ⟨g_383, hL_assign, g_0, by decide, (show (parseMethodDescriptor fL_assign.1.desc).map (fun d => d.parameters.length) = some 3 from by decide +kernel), by decide, by decide, (by decide), (by decide)⟩ g_384 (by decide) rfl (Nat.le_of_ble_eq_true rfl) (by decide +kernel) (q_cI (fun b75 M74 h76 => ?_) (fun X9 M9 q => x_out rfl rfl (by decide) (by decide) q))
      exact s_iret rfl (by decide +kernel) (by decide) (by decide) h76
    · have h78 := h3s.2.2.2.1 (by omega)
      refine s_tabIn (off := 155) (tgt := 245) d_L_act_90 (by omega) (by omega) (by rw [hv]; rfl) (by decide) ?_
      refine s_aload_n (i := 0) (by decide +kernel) rfl ?_
      refine s_iload (i := 5) (by decide +kernel) rfl ?_
      refine s_iload_n (i := 3) (by decide +kernel) rfl ?_
      refine s_callSH (Fc := fL_assign) (index := 63) (as := [aR 0, aI (y1 - y0), aI x3]) (rest := []) rfl h78 ⟨g_383, hL_assign, g_0, by decide, (show (parseMethodDescriptor fL_assign.1.desc).map (fun d => d.parameters.length) = some 3 from by decide +kernel), by decide, by decide, (by decide), (by decide)⟩ g_384 (by decide) rfl (Nat.le_of_ble_eq_true rfl) (by decide +kernel) (q_cI (fun b80 M79 h81 => ?_) (fun X9 M9 q => x_out rfl rfl (by decide) (by decide) q))
      exact s_iret rfl (by decide +kernel) (by decide) (by decide) h81
    · have h83 := h3s.2.2.2.2.1 (by omega)
      refine s_tabIn (off := 163) (tgt := 253) d_L_act_90 (by omega) (by omega) (by rw [hv]; rfl) (by decide) ?_
      refine s_aload_n (i := 0) (by decide +kernel) rfl ?_
      refine s_iload (i := 5) (by decide +kernel) rfl ?_
      refine s_callSH (Fc := fL_cancel) (index := 65) (as := [aR 0, aI (y1 - y0)]) (rest := []) rfl h83 ⟨g_403, hL_cancel, g_0, by decide, (show (parseMethodDescriptor fL_cancel.1.desc).map (fun d => d.parameters.length) = some 2 from by decide +kernel), by decide, by decide, (by decide), (by decide)⟩ g_404 (by decide) rfl (Nat.le_of_ble_eq_true rfl) (by decide +kernel) (q_cI (fun b85 M84 h86 => ?_) (fun X9 M9 q => x_out rfl rfl (by decide) (by decide) q))
      exact s_iret rfl (by decide +kernel) (by decide) (by decide) h86
    · have h88 := h3s.2.2.2.2.2.1 (by omega)
      refine s_tabIn (off := 170) (tgt := 260) d_L_act_90 (by omega) (by omega) (by rw [hv]; rfl) (by decide) ?_
      refine s_aload_n (i := 0) (by decide +kernel) rfl ?_
      refine s_iload (i := 5) (by decide +kernel) rfl ?_
      refine s_callSH (Fc := fL_charge) (index := 68) (as := [aR 0, aI (y1 - y0)]) (rest := []) rfl h88 ⟨g_423, hL_charge, g_0, by decide, (show (parseMethodDescriptor fL_charge.1.desc).map (fun d => d.parameters.length) = some 2 from by decide +kernel), by decide, by decide, (by decide), (by decide)⟩ g_424 (by decide) rfl (Nat.le_of_ble_eq_true rfl) (by decide +kernel) (q_cI (fun b90 M89 h91 => ?_) (fun X9 M9 q => x_out rfl rfl (by decide) (by decide) q))
      exact s_iret rfl (by decide +kernel) (by decide) (by decide) h91
    · have h93 := h3s.2.2.2.2.2.2.1 (by omega)
      refine s_tabIn (off := 177) (tgt := 267) d_L_act_90 (by omega) (by omega) (by rw [hv]; rfl) (by decide) ?_
      refine s_aload_n (i := 0) (by decide +kernel) rfl ?_
      refine s_iload (i := 5) (by decide +kernel) rfl ?_
      refine s_callSH (Fc := fL_step) (index := 70) (as := [aR 0, aI (y1 - y0)]) (rest := []) rfl h93 ⟨g_432, hL_step, g_0, by decide, (show (parseMethodDescriptor fL_step.1.desc).map (fun d => d.parameters.length) = some 2 from by decide +kernel), by decide, by decide, (by decide), (by decide)⟩ g_433 (by decide) rfl (Nat.le_of_ble_eq_true rfl) (by decide +kernel) (q_cI (fun b95 M94 h96 => ?_) (fun X9 M9 q => x_out rfl rfl (by decide) (by decide) q))
      exact s_iret rfl (by decide +kernel) (by decide) (by decide) h96
    · have h98 := h3s.2.2.2.2.2.2.1 (by omega)
      refine s_tabIn (off := 177) (tgt := 267) d_L_act_90 (by omega) (by omega) (by rw [hv]; rfl) (by decide) ?_
      refine s_aload_n (i := 0) (by decide +kernel) rfl ?_
      refine s_iload (i := 5) (by decide +kernel) rfl ?_
      refine s_callSH (Fc := fL_step) (index := 70) (as := [aR 0, aI (y1 - y0)]) (rest := []) rfl h98 ⟨g_432, hL_step, g_0, by decide, (show (parseMethodDescriptor fL_step.1.desc).map (fun d => d.parameters.length) = some 2 from by decide +kernel), by decide, by decide, (by decide), (by decide)⟩ g_433 (by decide) rfl (Nat.le_of_ble_eq_true rfl) (by decide +kernel) (q_cI (fun b100 M99 h101 => ?_) (fun X9 M9 q => x_out rfl rfl (by decide) (by decide) q))
      exact s_iret rfl (by decide +kernel) (by decide) (by decide) h101
    · have h103 := h3s.2.2.2.2.2.2.2.1 (by omega)
      refine s_tabIn (off := 184) (tgt := 274) d_L_act_90 (by omega) (by omega) (by rw [hv]; rfl) (by decide) ?_
      refine s_aload_n (i := 0) (by decide +kernel) rfl ?_
      refine s_iload_n (i := 2) (by decide +kernel) rfl ?_
      refine s_if_eq (off := 17) (tgt := 293) (by decide +kernel) (by decide) (fun c104 => ?_) (fun c104 => ?_)
      · have h105 := h103.1 c104
        refine s_iconst (n := 1) (by decide +kernel) ?_
        refine s_iload_n (i := 1) (by decide +kernel) rfl ?_
        refine s_bipush (n := 9) (by decide +kernel) (by decide +kernel) ?_
        refine s_ishr (by decide +kernel) ?_
        refine s_iconst (n := 3) (by decide +kernel) ?_
        refine s_callS (Fc := fL_low) (index := 50) (as := [aI (wsr x1 9), aI 3]) (rest := [aI 1, aR 0]) rfl h105 ⟨g_299, hL_low, g_0, by decide, (show (parseMethodDescriptor fL_low.1.desc).map (fun d => d.parameters.length) = some 2 from by decide +kernel), by decide, by decide, (by decide), (by decide)⟩ g_300 rfl rfl (Nat.le_of_ble_eq_true rfl) (by decide +kernel) (q_cI (fun b107 M106 h108 => ?_) (fun _ _ q => q.elim))
        refine s_iadd (by decide +kernel) ?_
        exact h108
      · have h110 := h103.2 c104
        refine s_iload_n (i := 1) (by decide +kernel) rfl ?_
        refine s_bipush (n := 9) (by decide +kernel) (by decide +kernel) ?_
        refine s_ishr (by decide +kernel) ?_
        refine s_bipush (n := 24) (by decide +kernel) (by decide +kernel) ?_
        refine s_callS (Fc := fL_low) (index := 50) (as := [aI (wsr x1 9), aI 24]) (rest := [aR 0]) rfl h110 ⟨g_299, hL_low, g_0, by decide, (show (parseMethodDescriptor fL_low.1.desc).map (fun d => d.parameters.length) = some 2 from by decide +kernel), by decide, by decide, (by decide), (by decide)⟩ g_300 rfl rfl (Nat.le_of_ble_eq_true rfl) (by decide +kernel) (q_cI (fun b112 M111 h113 => ?_) (fun _ _ q => q.elim))
        refine s_iconst (n := 2) (by decide +kernel) ?_
        refine s_isub (by decide +kernel) ?_
        refine s_goto (off := 13) (tgt := 303) (by decide +kernel) (by decide) ?_
        exact h113
    · have h115 := h3s.2.2.2.2.2.2.2.2.1 (by omega)
      refine s_tabIn (off := 217) (tgt := 307) d_L_act_90 (by omega) (by omega) (by rw [hv]; rfl) (by decide) ?_
      refine s_aload_n (i := 0) (by decide +kernel) rfl ?_
      refine s_iload_n (i := 3) (by decide +kernel) rfl ?_
      refine s_callSH (Fc := fL_addJob) (index := 74) (as := [aR 0, aI x3]) (rest := []) rfl h115 ⟨g_469, hL_addJob, g_0, by decide, (show (parseMethodDescriptor fL_addJob.1.desc).map (fun d => d.parameters.length) = some 2 from by decide +kernel), by decide, by decide, (by decide), (by decide)⟩ g_470 (by decide) rfl (Nat.le_of_ble_eq_true rfl) (by decide +kernel) (q_cI (fun b117 M116 h118 => ?_) (fun X9 M9 q => x_out rfl rfl (by decide) (by decide) q))
      exact s_iret rfl (by decide +kernel) (by decide) (by decide) h118
    · have h120 := h3s.2.2.2.2.2.2.2.2.2 (by omega)
      refine s_tabIn (off := 223) (tgt := 313) d_L_act_90 (by omega) (by omega) (by rw [hv]; rfl) (by decide) ?_
      refine s_aload_n (i := 0) (by decide +kernel) rfl ?_
      refine s_callV (Fc := fZ_dispatch) (index := 76) (ci := 4) (as := []) (rest := []) rfl h120 rfl rfl (by decide) rfl ⟨g_477, hZ_dispatch, g_1, by decide, (show (parseMethodDescriptor fZ_dispatch.1.desc).map (fun d => d.parameters.length) = some 0 from by decide +kernel), by decide, by decide, (by decide), (by decide)⟩ g_478 g_479 rfl rfl (Nat.le_of_ble_eq_true rfl) (by decide +kernel) (q_cI (fun b122 M121 h123 => ?_) (fun _ _ q => q.elim))
      exact s_iret rfl (by decide +kernel) (by decide) (by decide) h123
    · have h125 := h3s.2.2.2.2.2.2.2.2.2 (by omega)
      refine s_tabIn (off := 223) (tgt := 313) d_L_act_90 (by omega) (by omega) (by rw [hv]; rfl) (by decide) ?_
      refine s_aload_n (i := 0) (by decide +kernel) rfl ?_
      refine s_callV (Fc := fZ_dispatch) (index := 76) (ci := 4) (as := []) (rest := []) rfl h125 rfl rfl (by decide) rfl ⟨g_477, hZ_dispatch, g_1, by decide, (show (parseMethodDescriptor fZ_dispatch.1.desc).map (fun d => d.parameters.length) = some 0 from by decide +kernel), by decide, by decide, (by decide), (by decide)⟩ g_478 g_479 rfl rfl (Nat.le_of_ble_eq_true rfl) (by decide +kernel) (q_cI (fun b127 M126 h128 => ?_) (fun _ _ q => q.elim))
      exact s_iret rfl (by decide +kernel) (by decide) (by decide) h128

set_option maxRecDepth 20000 in
theorem BL_act_206 {K : KX} {Q : Res → AG → AM → Prop} {M : AM} (x1 x2 x3 x4 x5 y0 y1 : Int)
    (h : MetA K fL_setCharger [aR 0, aI y1, aI y0] GG M (cI GG (fun b2 M1 => Q (.inl (some (aI b2))) GG M1) (fun X9 M9 => Q (.inr X9) GG M9))) :
    WM K fL_act (EM K fL_act 126 Q) 206 [some (aR 0), some (aI x1), some (aI x2), some (aI x3), some (aI x4), some (aI x5)] [aI y0, aI y1, aR 0] GG M 0 0 := by
  refine s_callSH (Fc := fL_setCharger) (index := 58) (as := [aR 0, aI y1, aI y0]) (rest := []) rfl h ⟨g_357, hL_setCharger, g_0, by decide, (show (parseMethodDescriptor fL_setCharger.1.desc).map (fun d => d.parameters.length) = some 3 from by decide +kernel), by decide, by decide, (by decide), (by decide)⟩ g_358 (by decide) rfl (Nat.le_of_ble_eq_true rfl) (by decide +kernel) (q_cI (fun b2 M1 h3 => ?_) (fun X9 M9 q => x_out rfl rfl (by decide) (by decide) q))
  exact s_iret rfl (by decide +kernel) (by decide) (by decide) h3

set_option maxRecDepth 20000 in
theorem BL_act_241 {K : KX} {Q : Res → AG → AM → Prop} {M : AM} (x1 x2 x3 x4 x5 y0 y1 : Int)
    (h : MetA K fL_addVehicle [aR 0, aI y1, aI y0] GG M (cI GG (fun b2 M1 => Q (.inl (some (aI b2))) GG M1) (fun X9 M9 => Q (.inr X9) GG M9))) :
    WM K fL_act (EM K fL_act 126 Q) 241 [some (aR 0), some (aI x1), some (aI x2), some (aI x3), some (aI x4), some (aI x5)] [aI y0, aI y1, aR 0] GG M 0 0 := by
  refine s_callSH (Fc := fL_addVehicle) (index := 61) (as := [aR 0, aI y1, aI y0]) (rest := []) rfl h ⟨g_364, hL_addVehicle, g_0, by decide, (show (parseMethodDescriptor fL_addVehicle.1.desc).map (fun d => d.parameters.length) = some 3 from by decide +kernel), by decide, by decide, (by decide), (by decide)⟩ g_365 (by decide) rfl (Nat.le_of_ble_eq_true rfl) (by decide +kernel) (q_cI (fun b2 M1 h3 => ?_) (fun X9 M9 q => x_out rfl rfl (by decide) (by decide) q))
  exact s_iret rfl (by decide +kernel) (by decide) (by decide) h3

set_option maxRecDepth 20000 in
theorem BL_act_303 {K : KX} {Q : Res → AG → AM → Prop} {M : AM} (x1 x2 x3 x4 x5 y0 : Int)
    (h : MetA K fL_tick [aR 0, aI y0] GG M (cI GG (fun b2 M1 => Q (.inl (some (aI b2))) GG M1) (fun X9 M9 => Q (.inr X9) GG M9))) :
    WM K fL_act (EM K fL_act 126 Q) 303 [some (aR 0), some (aI x1), some (aI x2), some (aI x3), some (aI x4), some (aI x5)] [aI y0, aR 0] GG M 0 0 := by
  refine s_callSH (Fc := fL_tick) (index := 72) (as := [aR 0, aI y0]) (rest := []) rfl h ⟨g_457, hL_tick, g_0, by decide, (show (parseMethodDescriptor fL_tick.1.desc).map (fun d => d.parameters.length) = some 2 from by decide +kernel), by decide, by decide, (by decide), (by decide)⟩ g_458 (by decide) rfl (Nat.le_of_ble_eq_true rfl) (by decide +kernel) (q_cI (fun b2 M1 h3 => ?_) (fun X9 M9 q => x_out rfl rfl (by decide) (by decide) q))
  exact s_iret rfl (by decide +kernel) (by decide) (by decide) h3

set_option maxRecDepth 20000 in
theorem BL_areAlike_0 {K : KX} {Q : Res → AG → AM → Prop} {M : AM} {uc us : Nat} (hu : uc + 0 ≤ 60) (hw : us + 0 ≤ 400)
    (h : MetA K fZ_vehicles [aR 0] GG M (cI GG (fun b2 M1 => MetA K fZ_vehicles [aR 63] GG M1 (cI GG (fun b6 M5 => (wr b2 = wr b6 → MetA K fZ_orders [aR 0] GG M5 (cI GG (fun b13 M12 => MetA K fZ_orders [aR 63] GG M12 (cI GG (fun b17 M16 => (wr b13 = wr b17 → WM K fL_areAlike (EM K fL_areAlike 126 Q) 30 [some (aR 0), some (aR 63), some (aI 1), some (aI 0)] [] GG M16 uc us) ∧ (¬ wr b13 = wr b17 → WM K fL_areAlike (EM K fL_areAlike 126 Q) 30 [some (aR 0), some (aR 63), some (aI 0), some (aI 0)] [] GG M16 uc us)) noX)) noX)) ∧ (¬ wr b2 = wr b6 → WM K fL_areAlike (EM K fL_areAlike 126 Q) 30 [some (aR 0), some (aR 63), some (aI 0), some (aI 0)] [] GG M5 uc us)) noX)) noX)) :
    WM K fL_areAlike (EM K fL_areAlike 126 Q) 0 [some (aR 0), some (aR 63), none, none] [] GG M uc us := by
  refine s_aload_n (i := 0) (by decide +kernel) rfl ?_
  refine s_callV (Fc := fZ_vehicles) (index := 80) (ci := 4) (as := []) (rest := []) rfl h rfl rfl (by decide) rfl ⟨g_492, hZ_vehicles, g_1, by decide, (show (parseMethodDescriptor fZ_vehicles.1.desc).map (fun d => d.parameters.length) = some 0 from by decide +kernel), by decide, by decide, (show uc ≤ 60 by omega), (show us ≤ 400 by omega)⟩ g_493 g_494 rfl rfl (Nat.le_of_ble_eq_true rfl) (by decide +kernel) (q_cI (fun b2 M1 h3 => ?_) (fun _ _ q => q.elim))
  refine s_aload_n (i := 1) (by decide +kernel) rfl ?_
  refine s_callV (Fc := fZ_vehicles) (index := 80) (ci := 4) (as := []) (rest := [aI b2]) rfl h3 rfl rfl (by decide) rfl ⟨g_492, hZ_vehicles, g_1, by decide, (show (parseMethodDescriptor fZ_vehicles.1.desc).map (fun d => d.parameters.length) = some 0 from by decide +kernel), by decide, by decide, (show uc ≤ 60 by omega), (show us ≤ 400 by omega)⟩ g_493 g_494 rfl rfl (Nat.le_of_ble_eq_true rfl) (by decide +kernel) (q_cI (fun b6 M5 h7 => ?_) (fun _ _ q => q.elim))
  refine s_icmp_ne (off := 18) (tgt := 26) (by decide +kernel) (by decide) (fun c9 => ?_) (fun c9 => ?_)
  · have h10 := h7.2 c9
    refine s_iconst (n := 0) (by decide +kernel) ?_
    refine s_istore_n (i := 2) (by decide +kernel) (by decide) ?_
    refine s_iconst (n := 0) (by decide +kernel) ?_
    refine s_istore_n (i := 3) (by decide +kernel) (by decide) ?_
    exact h10
  · have h11 := h7.1 c9
    refine s_aload_n (i := 0) (by decide +kernel) rfl ?_
    refine s_callV (Fc := fZ_orders) (index := 83) (ci := 4) (as := []) (rest := []) rfl h11 rfl rfl (by decide) rfl ⟨g_496, hZ_orders, g_1, by decide, (show (parseMethodDescriptor fZ_orders.1.desc).map (fun d => d.parameters.length) = some 0 from by decide +kernel), by decide, by decide, (show uc ≤ 60 by omega), (show us ≤ 400 by omega)⟩ g_497 g_498 rfl rfl (Nat.le_of_ble_eq_true rfl) (by decide +kernel) (q_cI (fun b13 M12 h14 => ?_) (fun _ _ q => q.elim))
    refine s_aload_n (i := 1) (by decide +kernel) rfl ?_
    refine s_callV (Fc := fZ_orders) (index := 83) (ci := 4) (as := []) (rest := [aI b13]) rfl h14 rfl rfl (by decide) rfl ⟨g_496, hZ_orders, g_1, by decide, (show (parseMethodDescriptor fZ_orders.1.desc).map (fun d => d.parameters.length) = some 0 from by decide +kernel), by decide, by decide, (show uc ≤ 60 by omega), (show us ≤ 400 by omega)⟩ g_497 g_498 rfl rfl (Nat.le_of_ble_eq_true rfl) (by decide +kernel) (q_cI (fun b17 M16 h18 => ?_) (fun _ _ q => q.elim))
    refine s_icmp_ne (off := 7) (tgt := 26) (by decide +kernel) (by decide) (fun c20 => ?_) (fun c20 => ?_)
    · have h21 := h18.2 c20
      refine s_iconst (n := 0) (by decide +kernel) ?_
      refine s_istore_n (i := 2) (by decide +kernel) (by decide) ?_
      refine s_iconst (n := 0) (by decide +kernel) ?_
      refine s_istore_n (i := 3) (by decide +kernel) (by decide) ?_
      exact h21
    · have h22 := h18.1 c20
      refine s_iconst (n := 1) (by decide +kernel) ?_
      refine s_goto (off := 4) (tgt := 27) (by decide +kernel) (by decide) ?_
      refine s_istore_n (i := 2) (by decide +kernel) (by decide) ?_
      refine s_iconst (n := 0) (by decide +kernel) ?_
      refine s_istore_n (i := 3) (by decide +kernel) (by decide) ?_
      exact h22

set_option maxRecDepth 20000 in
theorem BL_areAlike_30 {K : KX} {Q : Res → AG → AM → Prop} {M : AM} (x2 x3 : Int) {uc us : Nat} (hu : uc + 8 ≤ 60) (hw : us + 48 ≤ 400)
    (h : MetA K fZ_vehicles [aR 0] GG M (cI GG (fun b2 M1 => (wr b2 ≤ wr x3 → ((x2 : Int) = 0 ∨ (x2 : Int) = 1) ∧ Q (.inl (some (aI x2))) GG M1) ∧ (¬ wr b2 ≤ wr x3 → (wr x2 = 0 → ((x2 : Int) = 0 ∨ (x2 : Int) = 1) ∧ Q (.inl (some (aI x2))) GG M1) ∧ (¬ wr x2 = 0 → MetA K fZ_zoneOf [aR 0, aI x3] GG M1 (cI GG (fun b12 M11 => MetA K fZ_zoneOf [aR 63, aI x3] GG M11 (cI GG (fun b16 M15 => (wr b12 = wr b16 → MetA K fZ_energy [aR 0, aI x3] GG M15 (cI GG (fun b23 M22 => MetA K fZ_energy [aR 63, aI x3] GG M22 (cI GG (fun b27 M26 => (wr b23 = wr b27 → MetA K fZ_routeLength [aR 0, aI x3] GG M26 (cI GG (fun b34 M33 => MetA K fZ_routeLength [aR 63, aI x3] GG M33 (cI GG (fun b38 M37 => (wr b34 = wr b38 → MetA K fZ_waited [aR 0, aI x3] GG M37 (cI GG (fun b45 M44 => MetA K fZ_waited [aR 63, aI x3] GG M44 (cI GG (fun b49 M48 => (wr b45 = wr b49 → WM K fL_areAlike (EM K fL_areAlike 126 Q) 30 [some (aR 0), some (aR 63), some (aI 1), some (aI (x3 + 1))] [] GG M48 (uc + 8) (us + 48)) ∧ (¬ wr b45 = wr b49 → WM K fL_areAlike (EM K fL_areAlike 126 Q) 30 [some (aR 0), some (aR 63), some (aI 0), some (aI (x3 + 1))] [] GG M48 (uc + 8) (us + 48))) (fun X9 M9 => Q (.inr X9) GG M9))) (fun X9 M9 => Q (.inr X9) GG M9))) ∧ (¬ wr b34 = wr b38 → WM K fL_areAlike (EM K fL_areAlike 126 Q) 30 [some (aR 0), some (aR 63), some (aI 0), some (aI (x3 + 1))] [] GG M37 (uc + 6) (us + 36))) (fun X9 M9 => Q (.inr X9) GG M9))) (fun X9 M9 => Q (.inr X9) GG M9))) ∧ (¬ wr b23 = wr b27 → WM K fL_areAlike (EM K fL_areAlike 126 Q) 30 [some (aR 0), some (aR 63), some (aI 0), some (aI (x3 + 1))] [] GG M26 (uc + 4) (us + 24))) (fun X9 M9 => Q (.inr X9) GG M9))) (fun X9 M9 => Q (.inr X9) GG M9))) ∧ (¬ wr b12 = wr b16 → WM K fL_areAlike (EM K fL_areAlike 126 Q) 30 [some (aR 0), some (aR 63), some (aI 0), some (aI (x3 + 1))] [] GG M15 (uc + 2) (us + 12))) (fun X9 M9 => Q (.inr X9) GG M9))) (fun X9 M9 => Q (.inr X9) GG M9))))) noX)) :
    WM K fL_areAlike (EM K fL_areAlike 126 Q) 30 [some (aR 0), some (aR 63), some (aI x2), some (aI x3)] [] GG M uc us := by
  refine s_iload_n (i := 3) (by decide +kernel) rfl ?_
  refine s_aload_n (i := 0) (by decide +kernel) rfl ?_
  refine s_callV (Fc := fZ_vehicles) (index := 80) (ci := 4) (as := []) (rest := [aI x3]) rfl h rfl rfl (by decide) rfl ⟨g_492, hZ_vehicles, g_1, by decide, (show (parseMethodDescriptor fZ_vehicles.1.desc).map (fun d => d.parameters.length) = some 0 from by decide +kernel), by decide, by decide, (show uc ≤ 60 by omega), (show us ≤ 400 by omega)⟩ g_493 g_494 rfl rfl (Nat.le_of_ble_eq_true rfl) (by decide +kernel) (q_cI (fun b2 M1 h3 => ?_) (fun _ _ q => q.elim))
  refine s_icmp_ge (off := 71) (tgt := 106) (by decide +kernel) (by decide) (fun c5 => ?_) (fun c5 => ?_)
  · have h6 := h3.1 c5
    refine s_iload_n (i := 2) (by decide +kernel) rfl ?_
    exact s_zret h6.1 rfl (by decide +kernel) (show uc ≤ 60 by omega) (show us ≤ 400 by omega) h6.2
  · have h7 := h3.2 c5
    refine s_iload_n (i := 2) (by decide +kernel) rfl ?_
    refine s_if_eq (off := 67) (tgt := 106) (by decide +kernel) (by decide) (fun c8 => ?_) (fun c8 => ?_)
    · have h9 := h7.1 c8
      refine s_iload_n (i := 2) (by decide +kernel) rfl ?_
      exact s_zret h9.1 rfl (by decide +kernel) (show uc ≤ 60 by omega) (show us ≤ 400 by omega) h9.2
    · have h10 := h7.2 c8
      refine s_aload_n (i := 0) (by decide +kernel) rfl ?_
      refine s_iload_n (i := 3) (by decide +kernel) rfl ?_
      refine s_callV (Fc := fZ_zoneOf) (index := 86) (ci := 4) (as := [aI x3]) (rest := []) rfl h10 rfl rfl (by decide) rfl ⟨g_500, hZ_zoneOf, g_1, by decide, (show (parseMethodDescriptor fZ_zoneOf.1.desc).map (fun d => d.parameters.length) = some 1 from by decide +kernel), by decide, by decide, (show uc + 1 ≤ 60 by omega), (show us + 6 ≤ 400 by omega)⟩ g_501 g_502 rfl rfl (Nat.le_of_ble_eq_true rfl) (by decide +kernel) (q_cI (fun b12 M11 h13 => ?_) (fun X9 M9 q => x_out rfl rfl (show uc + 1 ≤ 60 by omega) (show us + 6 ≤ 400 by omega) q))
      refine s_aload_n (i := 1) (by decide +kernel) rfl ?_
      refine s_iload_n (i := 3) (by decide +kernel) rfl ?_
      refine s_callV (Fc := fZ_zoneOf) (index := 86) (ci := 4) (as := [aI x3]) (rest := [aI b12]) rfl h13 rfl rfl (by decide) rfl ⟨g_500, hZ_zoneOf, g_1, by decide, (show (parseMethodDescriptor fZ_zoneOf.1.desc).map (fun d => d.parameters.length) = some 1 from by decide +kernel), by decide, by decide, (show uc + 1 + 1 ≤ 60 by omega), (show us + 6 + 6 ≤ 400 by omega)⟩ g_501 g_502 rfl rfl (Nat.le_of_ble_eq_true rfl) (by decide +kernel) (q_cI (fun b16 M15 h17 => ?_) (fun X9 M9 q => x_out rfl rfl (show uc + 2 ≤ 60 by omega) (show us + 12 ≤ 400 by omega) q))
      refine s_icmp_ne (off := 46) (tgt := 98) (by decide +kernel) (by decide) (fun c19 => ?_) (fun c19 => ?_)
      · have h20 := h17.2 c19
        refine s_iconst (n := 0) (by decide +kernel) ?_
        refine s_istore_n (i := 2) (by decide +kernel) (by decide) ?_
        refine s_iinc (i := 3) (n := 1) (by decide +kernel) rfl (by decide) ?_
        refine s_goto (off := -73) (tgt := 30) (by decide +kernel) (by decide) ?_
        exact h20
      · have h21 := h17.1 c19
        refine s_aload_n (i := 0) (by decide +kernel) rfl ?_
        refine s_iload_n (i := 3) (by decide +kernel) rfl ?_
        refine s_callV (Fc := fZ_energy) (index := 89) (ci := 4) (as := [aI x3]) (rest := []) rfl h21 rfl rfl (by decide) rfl ⟨g_504, hZ_energy, g_1, by decide, (show (parseMethodDescriptor fZ_energy.1.desc).map (fun d => d.parameters.length) = some 1 from by decide +kernel), by decide, by decide, (show uc + 2 + 1 ≤ 60 by omega), (show us + 12 + 6 ≤ 400 by omega)⟩ g_505 g_506 rfl rfl (Nat.le_of_ble_eq_true rfl) (by decide +kernel) (q_cI (fun b23 M22 h24 => ?_) (fun X9 M9 q => x_out rfl rfl (show uc + 3 ≤ 60 by omega) (show us + 18 ≤ 400 by omega) q))
        refine s_aload_n (i := 1) (by decide +kernel) rfl ?_
        refine s_iload_n (i := 3) (by decide +kernel) rfl ?_
        refine s_callV (Fc := fZ_energy) (index := 89) (ci := 4) (as := [aI x3]) (rest := [aI b23]) rfl h24 rfl rfl (by decide) rfl ⟨g_504, hZ_energy, g_1, by decide, (show (parseMethodDescriptor fZ_energy.1.desc).map (fun d => d.parameters.length) = some 1 from by decide +kernel), by decide, by decide, (show uc + 3 + 1 ≤ 60 by omega), (show us + 18 + 6 ≤ 400 by omega)⟩ g_505 g_506 rfl rfl (Nat.le_of_ble_eq_true rfl) (by decide +kernel) (q_cI (fun b27 M26 h28 => ?_) (fun X9 M9 q => x_out rfl rfl (show uc + 4 ≤ 60 by omega) (show us + 24 ≤ 400 by omega) q))
        refine s_icmp_ne (off := 33) (tgt := 98) (by decide +kernel) (by decide) (fun c30 => ?_) (fun c30 => ?_)
        · have h31 := h28.2 c30
          refine s_iconst (n := 0) (by decide +kernel) ?_
          refine s_istore_n (i := 2) (by decide +kernel) (by decide) ?_
          refine s_iinc (i := 3) (n := 1) (by decide +kernel) rfl (by decide) ?_
          refine s_goto (off := -73) (tgt := 30) (by decide +kernel) (by decide) ?_
          exact h31
        · have h32 := h28.1 c30
          refine s_aload_n (i := 0) (by decide +kernel) rfl ?_
          refine s_iload_n (i := 3) (by decide +kernel) rfl ?_
          refine s_callV (Fc := fZ_routeLength) (index := 92) (ci := 4) (as := [aI x3]) (rest := []) rfl h32 rfl rfl (by decide) rfl ⟨g_508, hZ_routeLength, g_1, by decide, (show (parseMethodDescriptor fZ_routeLength.1.desc).map (fun d => d.parameters.length) = some 1 from by decide +kernel), by decide, by decide, (show uc + 4 + 1 ≤ 60 by omega), (show us + 24 + 6 ≤ 400 by omega)⟩ g_509 g_510 rfl rfl (Nat.le_of_ble_eq_true rfl) (by decide +kernel) (q_cI (fun b34 M33 h35 => ?_) (fun X9 M9 q => x_out rfl rfl (show uc + 5 ≤ 60 by omega) (show us + 30 ≤ 400 by omega) q))
          refine s_aload_n (i := 1) (by decide +kernel) rfl ?_
          refine s_iload_n (i := 3) (by decide +kernel) rfl ?_
          refine s_callV (Fc := fZ_routeLength) (index := 92) (ci := 4) (as := [aI x3]) (rest := [aI b34]) rfl h35 rfl rfl (by decide) rfl ⟨g_508, hZ_routeLength, g_1, by decide, (show (parseMethodDescriptor fZ_routeLength.1.desc).map (fun d => d.parameters.length) = some 1 from by decide +kernel), by decide, by decide, (show uc + 5 + 1 ≤ 60 by omega), (show us + 30 + 6 ≤ 400 by omega)⟩ g_509 g_510 rfl rfl (Nat.le_of_ble_eq_true rfl) (by decide +kernel) (q_cI (fun b38 M37 h39 => ?_) (fun X9 M9 q => x_out rfl rfl (show uc + 6 ≤ 60 by omega) (show us + 36 ≤ 400 by omega) q))
          refine s_icmp_ne (off := 20) (tgt := 98) (by decide +kernel) (by decide) (fun c41 => ?_) (fun c41 => ?_)
          · have h42 := h39.2 c41
            refine s_iconst (n := 0) (by decide +kernel) ?_
            refine s_istore_n (i := 2) (by decide +kernel) (by decide) ?_
            refine s_iinc (i := 3) (n := 1) (by decide +kernel) rfl (by decide) ?_
            refine s_goto (off := -73) (tgt := 30) (by decide +kernel) (by decide) ?_
            exact h42
          · have h43 := h39.1 c41
            refine s_aload_n (i := 0) (by decide +kernel) rfl ?_
            refine s_iload_n (i := 3) (by decide +kernel) rfl ?_
            refine s_callV (Fc := fZ_waited) (index := 95) (ci := 4) (as := [aI x3]) (rest := []) rfl h43 rfl rfl (by decide) rfl ⟨g_512, hZ_waited, g_1, by decide, (show (parseMethodDescriptor fZ_waited.1.desc).map (fun d => d.parameters.length) = some 1 from by decide +kernel), by decide, by decide, (show uc + 6 + 1 ≤ 60 by omega), (show us + 36 + 6 ≤ 400 by omega)⟩ g_513 g_514 rfl rfl (Nat.le_of_ble_eq_true rfl) (by decide +kernel) (q_cI (fun b45 M44 h46 => ?_) (fun X9 M9 q => x_out rfl rfl (show uc + 7 ≤ 60 by omega) (show us + 42 ≤ 400 by omega) q))
            refine s_aload_n (i := 1) (by decide +kernel) rfl ?_
            refine s_iload_n (i := 3) (by decide +kernel) rfl ?_
            refine s_callV (Fc := fZ_waited) (index := 95) (ci := 4) (as := [aI x3]) (rest := [aI b45]) rfl h46 rfl rfl (by decide) rfl ⟨g_512, hZ_waited, g_1, by decide, (show (parseMethodDescriptor fZ_waited.1.desc).map (fun d => d.parameters.length) = some 1 from by decide +kernel), by decide, by decide, (show uc + 7 + 1 ≤ 60 by omega), (show us + 42 + 6 ≤ 400 by omega)⟩ g_513 g_514 rfl rfl (Nat.le_of_ble_eq_true rfl) (by decide +kernel) (q_cI (fun b49 M48 h50 => ?_) (fun X9 M9 q => x_out rfl rfl (show uc + 8 ≤ 60 by omega) (show us + 48 ≤ 400 by omega) q))
            refine s_icmp_ne (off := 7) (tgt := 98) (by decide +kernel) (by decide) (fun c52 => ?_) (fun c52 => ?_)
            · have h53 := h50.2 c52
              refine s_iconst (n := 0) (by decide +kernel) ?_
              refine s_istore_n (i := 2) (by decide +kernel) (by decide) ?_
              refine s_iinc (i := 3) (n := 1) (by decide +kernel) rfl (by decide) ?_
              refine s_goto (off := -73) (tgt := 30) (by decide +kernel) (by decide) ?_
              exact h53
            · have h54 := h50.1 c52
              refine s_iconst (n := 1) (by decide +kernel) ?_
              refine s_goto (off := 4) (tgt := 99) (by decide +kernel) (by decide) ?_
              refine s_istore_n (i := 2) (by decide +kernel) (by decide) ?_
              refine s_iinc (i := 3) (n := 1) (by decide +kernel) rfl (by decide) ?_
              refine s_goto (off := -73) (tgt := 30) (by decide +kernel) (by decide) ?_
              exact h54

set_option maxRecDepth 20000 in
theorem BL_areVehiclesSo_0 {K : KX} {Q : Res → AG → AM → Prop} {M : AM} {uc us : Nat} (hu : uc + 0 ≤ 1000) (hw : us + 0 ≤ 6000)
    (h : WM K fL_areVehiclesSo (EM K fL_areVehiclesSo 126 Q) 6 [some (aR 0), some (aI 0), some (aI 0), some (aI 0), none, none, none, none] [] GG M uc us) :
    WM K fL_areVehiclesSo (EM K fL_areVehiclesSo 126 Q) 0 [some (aR 0), none, none, none, none, none, none, none] [] GG M uc us := by
  refine s_iconst (n := 0) (by decide +kernel) ?_
  refine s_istore_n (i := 1) (by decide +kernel) (by decide) ?_
  refine s_iconst (n := 0) (by decide +kernel) ?_
  refine s_istore_n (i := 2) (by decide +kernel) (by decide) ?_
  refine s_iconst (n := 0) (by decide +kernel) ?_
  refine s_istore_n (i := 3) (by decide +kernel) (by decide) ?_
  exact h

set_option maxRecDepth 20000 in
theorem BL_areVehiclesSo_6 {K : KX} {Q : Res → AG → AM → Prop} {M : AM} (x1 x2 x3 : Int) {uc us : Nat} (hu : uc + 5 ≤ 1000) (hw : us + 30 ≤ 6000)
    (h : MetA K fZ_vehicles [aR 0] GG M (cI GG (fun b2 M1 => (wr b2 ≤ wr x3 → WM K fL_areVehiclesSo (EM K fL_areVehiclesSo 126 Q) 142 [some (aR 0), some (aI x1), some (aI x2), some (aI 0), none, none, none, none] [] GG M1 uc us) ∧ (¬ wr b2 ≤ wr x3 → MetA K fZ_zoneOf [aR 0, aI x3] GG M1 (cI GG (fun b9 M8 => MetA K fZ_routeLength [aR 0, aI x3] GG M8 (cI GG (fun b13 M12 => MetA K fZ_vehicleIn [aR 0, aI b9] GG M12 (cI GG (fun b17 M16 => (wr b17 = wr x3 → MetA K fZ_energy [aR 0, aI x3] GG M16 (cI GG (fun b24 M23 => (wr b24 < wr b13 → Q (.inl (some (aI 0))) GG M23) ∧ (¬ wr b24 < wr b13 → MetA K fZ_energy [aR 0, aI x3] GG M23 (cI GG (fun b31 M30 => (wr b31 ≤ wr 60 → WM K fL_areVehiclesSo (EM K fL_areVehiclesSo 126 Q) 63 [some (aR 0), some (aI x1), some (aI x2), some (aI x3), some (aI b9), some (aI b13), some (aI 0), none] [] GG M30 (uc + 5) (us + 30)) ∧ (¬ wr b31 ≤ wr 60 → Q (.inl (some (aI 0))) GG M30)) (fun X9 M9 => Q (.inr X9) GG M9)))) (fun X9 M9 => Q (.inr X9) GG M9))) ∧ (¬ wr b17 = wr x3 → Q (.inl (some (aI 0))) GG M16)) (fun X9 M9 => Q (.inr X9) GG M9))) (fun X9 M9 => Q (.inr X9) GG M9))) (fun X9 M9 => Q (.inr X9) GG M9)))) noX)) :
    WM K fL_areVehiclesSo (EM K fL_areVehiclesSo 126 Q) 6 [some (aR 0), some (aI x1), some (aI x2), some (aI x3), none, none, none, none] [] GG M uc us := by
  refine s_iload_n (i := 3) (by decide +kernel) rfl ?_
  refine s_aload_n (i := 0) (by decide +kernel) rfl ?_
  refine s_callV (Fc := fZ_vehicles) (index := 80) (ci := 4) (as := []) (rest := [aI x3]) rfl h rfl rfl (by decide) rfl ⟨g_492, hZ_vehicles, g_1, by decide, (show (parseMethodDescriptor fZ_vehicles.1.desc).map (fun d => d.parameters.length) = some 0 from by decide +kernel), by decide, by decide, (show uc ≤ 1000 by omega), (show us ≤ 6000 by omega)⟩ g_493 g_494 rfl rfl (Nat.le_of_ble_eq_true rfl) (by decide +kernel) (q_cI (fun b2 M1 h3 => ?_) (fun _ _ q => q.elim))
  refine s_icmp_ge (off := 129) (tgt := 140) (by decide +kernel) (by decide) (fun c5 => ?_) (fun c5 => ?_)
  · have h6 := h3.1 c5
    refine s_iconst (n := 0) (by decide +kernel) ?_
    refine s_istore_n (i := 3) (by decide +kernel) (by decide) ?_
    exact h6
  · have h7 := h3.2 c5
    refine s_aload_n (i := 0) (by decide +kernel) rfl ?_
    refine s_iload_n (i := 3) (by decide +kernel) rfl ?_
    refine s_callV (Fc := fZ_zoneOf) (index := 86) (ci := 4) (as := [aI x3]) (rest := []) rfl h7 rfl rfl (by decide) rfl ⟨g_500, hZ_zoneOf, g_1, by decide, (show (parseMethodDescriptor fZ_zoneOf.1.desc).map (fun d => d.parameters.length) = some 1 from by decide +kernel), by decide, by decide, (show uc + 1 ≤ 1000 by omega), (show us + 6 ≤ 6000 by omega)⟩ g_501 g_502 rfl rfl (Nat.le_of_ble_eq_true rfl) (by decide +kernel) (q_cI (fun b9 M8 h10 => ?_) (fun X9 M9 q => x_out rfl rfl (show uc + 1 ≤ 1000 by omega) (show us + 6 ≤ 6000 by omega) q))
    refine s_istore (i := 4) (by decide +kernel) (by decide) ?_
    refine s_aload_n (i := 0) (by decide +kernel) rfl ?_
    refine s_iload_n (i := 3) (by decide +kernel) rfl ?_
    refine s_callV (Fc := fZ_routeLength) (index := 92) (ci := 4) (as := [aI x3]) (rest := []) rfl h10 rfl rfl (by decide) rfl ⟨g_508, hZ_routeLength, g_1, by decide, (show (parseMethodDescriptor fZ_routeLength.1.desc).map (fun d => d.parameters.length) = some 1 from by decide +kernel), by decide, by decide, (show uc + 1 + 1 ≤ 1000 by omega), (show us + 6 + 6 ≤ 6000 by omega)⟩ g_509 g_510 rfl rfl (Nat.le_of_ble_eq_true rfl) (by decide +kernel) (q_cI (fun b13 M12 h14 => ?_) (fun X9 M9 q => x_out rfl rfl (show uc + 2 ≤ 1000 by omega) (show us + 12 ≤ 6000 by omega) q))
    refine s_istore (i := 5) (by decide +kernel) (by decide) ?_
    refine s_aload_n (i := 0) (by decide +kernel) rfl ?_
    refine s_iload (i := 4) (by decide +kernel) rfl ?_
    refine s_callV (Fc := fZ_vehicleIn) (index := 98) (ci := 4) (as := [aI b9]) (rest := []) rfl h14 rfl rfl (by decide) rfl ⟨g_519, hZ_vehicleIn, g_1, by decide, (show (parseMethodDescriptor fZ_vehicleIn.1.desc).map (fun d => d.parameters.length) = some 1 from by decide +kernel), by decide, by decide, (show uc + 2 + 1 ≤ 1000 by omega), (show us + 12 + 6 ≤ 6000 by omega)⟩ g_520 g_521 rfl rfl (Nat.le_of_ble_eq_true rfl) (by decide +kernel) (q_cI (fun b17 M16 h18 => ?_) (fun X9 M9 q => x_out rfl rfl (show uc + 3 ≤ 1000 by omega) (show us + 18 ≤ 6000 by omega) q))
    refine s_iload_n (i := 3) (by decide +kernel) rfl ?_
    refine s_icmp_ne (off := 23) (tgt := 58) (by decide +kernel) (by decide) (fun c20 => ?_) (fun c20 => ?_)
    · have h21 := h18.2 c20
      refine s_iconst (n := 0) (by decide +kernel) ?_
      exact s_zret (Or.inl rfl) rfl (by decide +kernel) (show uc + 3 ≤ 1000 by omega) (show us + 18 ≤ 6000 by omega) h21
    · have h22 := h18.1 c20
      refine s_aload_n (i := 0) (by decide +kernel) rfl ?_
      refine s_iload_n (i := 3) (by decide +kernel) rfl ?_
      refine s_callV (Fc := fZ_energy) (index := 89) (ci := 4) (as := [aI x3]) (rest := []) rfl h22 rfl rfl (by decide) rfl ⟨g_504, hZ_energy, g_1, by decide, (show (parseMethodDescriptor fZ_energy.1.desc).map (fun d => d.parameters.length) = some 1 from by decide +kernel), by decide, by decide, (show uc + 3 + 1 ≤ 1000 by omega), (show us + 18 + 6 ≤ 6000 by omega)⟩ g_505 g_506 rfl rfl (Nat.le_of_ble_eq_true rfl) (by decide +kernel) (q_cI (fun b24 M23 h25 => ?_) (fun X9 M9 q => x_out rfl rfl (show uc + 4 ≤ 1000 by omega) (show us + 24 ≤ 6000 by omega) q))
      refine s_iload (i := 5) (by decide +kernel) rfl ?_
      refine s_icmp_lt (off := 13) (tgt := 58) (by decide +kernel) (by decide) (fun c27 => ?_) (fun c27 => ?_)
      · have h28 := h25.1 c27
        refine s_iconst (n := 0) (by decide +kernel) ?_
        exact s_zret (Or.inl rfl) rfl (by decide +kernel) (show uc + 4 ≤ 1000 by omega) (show us + 24 ≤ 6000 by omega) h28
      · have h29 := h25.2 c27
        refine s_aload_n (i := 0) (by decide +kernel) rfl ?_
        refine s_iload_n (i := 3) (by decide +kernel) rfl ?_
        refine s_callV (Fc := fZ_energy) (index := 89) (ci := 4) (as := [aI x3]) (rest := []) rfl h29 rfl rfl (by decide) rfl ⟨g_504, hZ_energy, g_1, by decide, (show (parseMethodDescriptor fZ_energy.1.desc).map (fun d => d.parameters.length) = some 1 from by decide +kernel), by decide, by decide, (show uc + 4 + 1 ≤ 1000 by omega), (show us + 24 + 6 ≤ 6000 by omega)⟩ g_505 g_506 rfl rfl (Nat.le_of_ble_eq_true rfl) (by decide +kernel) (q_cI (fun b31 M30 h32 => ?_) (fun X9 M9 q => x_out rfl rfl (show uc + 5 ≤ 1000 by omega) (show us + 30 ≤ 6000 by omega) q))
        refine s_bipush (n := 60) (by decide +kernel) (by decide +kernel) ?_
        refine s_icmp_le (off := 5) (tgt := 60) (by decide +kernel) (by decide) (fun c34 => ?_) (fun c34 => ?_)
        · have h35 := h32.1 c34
          refine s_iconst (n := 0) (by decide +kernel) ?_
          refine s_istore (i := 6) (by decide +kernel) (by decide) ?_
          exact h35
        · have h36 := h32.2 c34
          refine s_iconst (n := 0) (by decide +kernel) ?_
          exact s_zret (Or.inl rfl) rfl (by decide +kernel) (show uc + 5 ≤ 1000 by omega) (show us + 30 ≤ 6000 by omega) h36

set_option maxRecDepth 20000 in
theorem BL_areVehiclesSo_63 {K : KX} {Q : Res → AG → AM → Prop} {M : AM} (x1 x2 x3 x4 x5 x6 : Int) {uc us : Nat} (hu : uc + 7 ≤ 1000) (hw : us + 42 ≤ 6000)
    (h : (wr x5 ≤ wr x6 → (wr x5 ≤ 0 → WM K fL_areVehiclesSo (EM K fL_areVehiclesSo 126 Q) 6 [some (aR 0), some (aI (x1 + 0)), some (aI x2), some (aI (x3 + 1)), none, none, none, none] [] GG M uc us) ∧ (¬ wr x5 ≤ 0 → WM K fL_areVehiclesSo (EM K fL_areVehiclesSo 126 Q) 6 [some (aR 0), some (aI (x1 + 1)), some (aI x2), some (aI (x3 + 1)), none, none, none, none] [] GG M uc us)) ∧ (¬ wr x5 ≤ wr x6 → MetA K fZ_routeZone [aR 0, aI x3, aI x6] GG M (cI GG (fun b8 M7 => MetA K fZ_distance [aR 0, aI x4, aI b8] GG M7 (cI GG (fun b12 M11 => (wr b12 = wr 1 → MetA K fZ_zoneOf [aR 0, aI x3] GG M11 (cI GG (fun b19 M18 => MetA K fZ_distance [aR 0, aI b19, aI b8] GG M18 (cI GG (fun b23 M22 => (wr b23 ≤ wr (x6 + 1) → WM K fL_areVehiclesSo (EM K fL_areVehiclesSo 126 Q) 63 [some (aR 0), some (aI x1), some (aI x2), some (aI x3), some (aI b8), some (aI x5), some (aI (x6 + 1)), none] [] GG M22 (uc + 7) (us + 42)) ∧ (¬ wr b23 ≤ wr (x6 + 1) → Q (.inl (some (aI 0))) GG M22)) (fun X9 M9 => Q (.inr X9) GG M9))) (fun X9 M9 => Q (.inr X9) GG M9))) ∧ (¬ wr b12 = wr 1 → Q (.inl (some (aI 0))) GG M11)) (fun X9 M9 => Q (.inr X9) GG M9))) (fun X9 M9 => Q (.inr X9) GG M9)))) :
    WM K fL_areVehiclesSo (EM K fL_areVehiclesSo 126 Q) 63 [some (aR 0), some (aI x1), some (aI x2), some (aI x3), some (aI x4), some (aI x5), some (aI x6), none] [] GG M uc us := by
  refine s_iload (i := 6) (by decide +kernel) rfl ?_
  refine s_iload (i := 5) (by decide +kernel) rfl ?_
  refine s_icmp_ge (off := 54) (tgt := 121) (by decide +kernel) (by decide) (fun c1 => ?_) (fun c1 => ?_)
  · have h2 := h.1 c1
    refine s_iload_n (i := 1) (by decide +kernel) rfl ?_
    refine s_iload (i := 5) (by decide +kernel) rfl ?_
    refine s_if_le (off := 7) (tgt := 131) (by decide +kernel) (by decide) (fun c3 => ?_) (fun c3 => ?_)
    · have h4 := h2.1 c3
      refine s_iconst (n := 0) (by decide +kernel) ?_
      refine s_iadd (by decide +kernel) ?_
      refine s_istore_n (i := 1) (by decide +kernel) (by decide) ?_
      refine s_iinc (i := 3) (n := 1) (by decide +kernel) rfl (by decide) ?_
      refine s_goto (off := -131) (tgt := 6) (by decide +kernel) (by decide) ?_
      exact s_loc (L' := [some (aR 0), some (aI (x1 + 0)), some (aI x2), some (aI (x3 + 1)), none, none, none, none]) (ll_s (ll_s (ll_s (ll_s (ll_n (ll_n (ll_n (ll_s ll_nil)))))))) h4
    · have h5 := h2.2 c3
      refine s_iconst (n := 1) (by decide +kernel) ?_
      refine s_goto (off := 4) (tgt := 132) (by decide +kernel) (by decide) ?_
      refine s_iadd (by decide +kernel) ?_
      refine s_istore_n (i := 1) (by decide +kernel) (by decide) ?_
      refine s_iinc (i := 3) (n := 1) (by decide +kernel) rfl (by decide) ?_
      refine s_goto (off := -131) (tgt := 6) (by decide +kernel) (by decide) ?_
      exact s_loc (L' := [some (aR 0), some (aI (x1 + 1)), some (aI x2), some (aI (x3 + 1)), none, none, none, none]) (ll_s (ll_s (ll_s (ll_s (ll_n (ll_n (ll_n (ll_s ll_nil)))))))) h5
  · have h6 := h.2 c1
    refine s_aload_n (i := 0) (by decide +kernel) rfl ?_
    refine s_iload_n (i := 3) (by decide +kernel) rfl ?_
    refine s_iload (i := 6) (by decide +kernel) rfl ?_
    refine s_callV (Fc := fZ_routeZone) (index := 101) (ci := 4) (as := [aI x3, aI x6]) (rest := []) rfl h6 rfl rfl (by decide) rfl ⟨g_523, hZ_routeZone, g_1, by decide, (show (parseMethodDescriptor fZ_routeZone.1.desc).map (fun d => d.parameters.length) = some 2 from by decide +kernel), by decide, by decide, (show uc + 2 ≤ 1000 by omega), (show us + 12 ≤ 6000 by omega)⟩ g_524 g_525 rfl rfl (Nat.le_of_ble_eq_true rfl) (by decide +kernel) (q_cI (fun b8 M7 h9 => ?_) (fun X9 M9 q => x_out rfl rfl (show uc + 2 ≤ 1000 by omega) (show us + 12 ≤ 6000 by omega) q))
    refine s_istore (i := 7) (by decide +kernel) (by decide) ?_
    refine s_aload_n (i := 0) (by decide +kernel) rfl ?_
    refine s_iload (i := 4) (by decide +kernel) rfl ?_
    refine s_iload (i := 7) (by decide +kernel) rfl ?_
    refine s_callV (Fc := fZ_distance) (index := 104) (ci := 4) (as := [aI x4, aI b8]) (rest := []) rfl h9 rfl rfl (by decide) rfl ⟨g_528, hZ_distance, g_1, by decide, (show (parseMethodDescriptor fZ_distance.1.desc).map (fun d => d.parameters.length) = some 2 from by decide +kernel), by decide, by decide, (show uc + 2 + 2 ≤ 1000 by omega), (show us + 12 + 12 ≤ 6000 by omega)⟩ g_529 g_530 rfl rfl (Nat.le_of_ble_eq_true rfl) (by decide +kernel) (q_cI (fun b12 M11 h13 => ?_) (fun X9 M9 q => x_out rfl rfl (show uc + 4 ≤ 1000 by omega) (show us + 24 ≤ 6000 by omega) q))
    refine s_iconst (n := 1) (by decide +kernel) ?_
    refine s_icmp_ne (off := 21) (tgt := 109) (by decide +kernel) (by decide) (fun c15 => ?_) (fun c15 => ?_)
    · have h16 := h13.2 c15
      refine s_iconst (n := 0) (by decide +kernel) ?_
      exact s_zret (Or.inl rfl) rfl (by decide +kernel) (show uc + 4 ≤ 1000 by omega) (show us + 24 ≤ 6000 by omega) h16
    · have h17 := h13.1 c15
      refine s_aload_n (i := 0) (by decide +kernel) rfl ?_
      refine s_aload_n (i := 0) (by decide +kernel) rfl ?_
      refine s_iload_n (i := 3) (by decide +kernel) rfl ?_
      refine s_callV (Fc := fZ_zoneOf) (index := 86) (ci := 4) (as := [aI x3]) (rest := [aR 0]) rfl h17 rfl rfl (by decide) rfl ⟨g_500, hZ_zoneOf, g_1, by decide, (show (parseMethodDescriptor fZ_zoneOf.1.desc).map (fun d => d.parameters.length) = some 1 from by decide +kernel), by decide, by decide, (show uc + 4 + 1 ≤ 1000 by omega), (show us + 24 + 6 ≤ 6000 by omega)⟩ g_501 g_502 rfl rfl (Nat.le_of_ble_eq_true rfl) (by decide +kernel) (q_cI (fun b19 M18 h20 => ?_) (fun X9 M9 q => x_out rfl rfl (show uc + 5 ≤ 1000 by omega) (show us + 30 ≤ 6000 by omega) q))
      refine s_iload (i := 7) (by decide +kernel) rfl ?_
      refine s_callV (Fc := fZ_distance) (index := 104) (ci := 4) (as := [aI b19, aI b8]) (rest := []) rfl h20 rfl rfl (by decide) rfl ⟨g_528, hZ_distance, g_1, by decide, (show (parseMethodDescriptor fZ_distance.1.desc).map (fun d => d.parameters.length) = some 2 from by decide +kernel), by decide, by decide, (show uc + 5 + 2 ≤ 1000 by omega), (show us + 30 + 12 ≤ 6000 by omega)⟩ g_529 g_530 rfl rfl (Nat.le_of_ble_eq_true rfl) (by decide +kernel) (q_cI (fun b23 M22 h24 => ?_) (fun X9 M9 q => x_out rfl rfl (show uc + 7 ≤ 1000 by omega) (show us + 42 ≤ 6000 by omega) q))
      refine s_iload (i := 6) (by decide +kernel) rfl ?_
      refine s_iconst (n := 1) (by decide +kernel) ?_
      refine s_iadd (by decide +kernel) ?_
      refine s_icmp_le (off := 5) (tgt := 111) (by decide +kernel) (by decide) (fun c26 => ?_) (fun c26 => ?_)
      · have h27 := h24.1 c26
        refine s_iload (i := 7) (by decide +kernel) rfl ?_
        refine s_istore (i := 4) (by decide +kernel) (by decide) ?_
        refine s_iinc (i := 6) (n := 1) (by decide +kernel) rfl (by decide) ?_
        refine s_goto (off := -55) (tgt := 63) (by decide +kernel) (by decide) ?_
        exact s_loc (L' := [some (aR 0), some (aI x1), some (aI x2), some (aI x3), some (aI b8), some (aI x5), some (aI (x6 + 1)), none]) (ll_s (ll_s (ll_s (ll_s (ll_s (ll_s (ll_s (ll_n ll_nil)))))))) h27
      · have h28 := h24.2 c26
        refine s_iconst (n := 0) (by decide +kernel) ?_
        exact s_zret (Or.inl rfl) rfl (by decide +kernel) (show uc + 7 ≤ 1000 by omega) (show us + 42 ≤ 6000 by omega) h28

set_option maxRecDepth 20000 in
theorem BL_areVehiclesSo_142 {K : KX} {Q : Res → AG → AM → Prop} {M : AM} (x1 x2 x3 : Int) {uc us : Nat} (hu : uc + 2 ≤ 1000) (hw : us + 12 ≤ 6000)
    (h : (wr x1 ≤ wr x3 → MetA K fZ_orders [aR 0] GG M (cI GG (fun b4 M3 => (wr b4 < wr 1 → Q (.inl (some (aI 0))) GG M3) ∧ (¬ wr b4 < wr 1 → MetA K fL_finisher [aR 0, aI x1] GG M3 (cI GG (fun b11 M10 => (wr b11 = wr ((-1)) → (0 < wr x1 → Q (.inl (some (aI 1))) GG M10) ∧ (¬ 0 < wr x1 → MetA K fZ_orders [aR 0] GG M10 (cI GG (fun b21 M20 => (wr b21 = wr 1 → Q (.inl (some (aI 1))) GG M20) ∧ (¬ wr b21 = wr 1 → Q (.inl (some (aI 0))) GG M20)) noX))) ∧ (¬ wr b11 = wr ((-1)) → Q (.inl (some (aI 0))) GG M10)) (fun X9 M9 => Q (.inr X9) GG M9)))) noX)) ∧ (¬ wr x1 ≤ wr x3 → MetA K fL_finisher [aR 0, aI x3] GG M (cI GG (fun b29 M28 => (wr b29 < 0 → Q (.inl (some (aI 0))) GG M28) ∧ (¬ wr b29 < 0 → (wr (wia (wsr x2 b29) 1) = wr 1 → Q (.inl (some (aI 0))) GG M28) ∧ (¬ wr (wia (wsr x2 b29) 1) = wr 1 → MetA K fZ_routeLength [aR 0, aI b29] GG M28 (cI GG (fun b39 M38 => (wr b39 = 0 → Q (.inl (some (aI 0))) GG M38) ∧ (¬ wr b39 = 0 → WM K fL_areVehiclesSo (EM K fL_areVehiclesSo 126 Q) 142 [some (aR 0), some (aI x1), some (aI (wio x2 (wsl 1 b29))), some (aI (x3 + 1)), none, none, none, none] [] GG M38 (uc + 2) (us + 12))) (fun X9 M9 => Q (.inr X9) GG M9))))) (fun X9 M9 => Q (.inr X9) GG M9)))) :
    WM K fL_areVehiclesSo (EM K fL_areVehiclesSo 126 Q) 142 [some (aR 0), some (aI x1), some (aI x2), some (aI x3), none, none, none, none] [] GG M uc us := by
  refine s_iload_n (i := 3) (by decide +kernel) rfl ?_
  refine s_iload_n (i := 1) (by decide +kernel) rfl ?_
  refine s_icmp_ge (off := 49) (tgt := 193) (by decide +kernel) (by decide) (fun c1 => ?_) (fun c1 => ?_)
  · have h2 := h.1 c1
    refine s_aload_n (i := 0) (by decide +kernel) rfl ?_
    refine s_callV (Fc := fZ_orders) (index := 83) (ci := 4) (as := []) (rest := []) rfl h2 rfl rfl (by decide) rfl ⟨g_496, hZ_orders, g_1, by decide, (show (parseMethodDescriptor fZ_orders.1.desc).map (fun d => d.parameters.length) = some 0 from by decide +kernel), by decide, by decide, (show uc ≤ 1000 by omega), (show us ≤ 6000 by omega)⟩ g_497 g_498 rfl rfl (Nat.le_of_ble_eq_true rfl) (by decide +kernel) (q_cI (fun b4 M3 h5 => ?_) (fun _ _ q => q.elim))
    refine s_iconst (n := 1) (by decide +kernel) ?_
    refine s_icmp_lt (off := 28) (tgt := 226) (by decide +kernel) (by decide) (fun c7 => ?_) (fun c7 => ?_)
    · have h8 := h5.1 c7
      refine s_iconst (n := 0) (by decide +kernel) ?_
      exact s_zret (Or.inl rfl) rfl (by decide +kernel) (show uc ≤ 1000 by omega) (show us ≤ 6000 by omega) h8
    · have h9 := h5.2 c7
      refine s_aload_n (i := 0) (by decide +kernel) rfl ?_
      refine s_iload_n (i := 1) (by decide +kernel) rfl ?_
      refine s_callSH (Fc := fL_finisher) (index := 107) (as := [aR 0, aI x1]) (rest := []) rfl h9 ⟨g_532, hL_finisher, g_0, by decide, (show (parseMethodDescriptor fL_finisher.1.desc).map (fun d => d.parameters.length) = some 2 from by decide +kernel), by decide, by decide, (show uc + 1 ≤ 1000 by omega), (show us + 6 ≤ 6000 by omega)⟩ g_533 (by decide) rfl (Nat.le_of_ble_eq_true rfl) (by decide +kernel) (q_cI (fun b11 M10 h12 => ?_) (fun X9 M9 q => x_out rfl rfl (show uc + 1 ≤ 1000 by omega) (show us + 6 ≤ 6000 by omega) q))
      refine s_iconst (n := -1) (by decide +kernel) ?_
      refine s_icmp_ne (off := 19) (tgt := 226) (by decide +kernel) (by decide) (fun c14 => ?_) (fun c14 => ?_)
      · have h15 := h12.2 c14
        refine s_iconst (n := 0) (by decide +kernel) ?_
        exact s_zret (Or.inl rfl) rfl (by decide +kernel) (show uc + 1 ≤ 1000 by omega) (show us + 6 ≤ 6000 by omega) h15
      · have h16 := h12.1 c14
        refine s_iload_n (i := 1) (by decide +kernel) rfl ?_
        refine s_if_gt (off := 11) (tgt := 222) (by decide +kernel) (by decide) (fun c17 => ?_) (fun c17 => ?_)
        · have h18 := h16.1 c17
          refine s_iconst (n := 1) (by decide +kernel) ?_
          refine s_goto (off := 4) (tgt := 227) (by decide +kernel) (by decide) ?_
          exact s_zret (Or.inr rfl) rfl (by decide +kernel) (show uc + 1 ≤ 1000 by omega) (show us + 6 ≤ 6000 by omega) h18
        · have h19 := h16.2 c17
          refine s_aload_n (i := 0) (by decide +kernel) rfl ?_
          refine s_callV (Fc := fZ_orders) (index := 83) (ci := 4) (as := []) (rest := []) rfl h19 rfl rfl (by decide) rfl ⟨g_496, hZ_orders, g_1, by decide, (show (parseMethodDescriptor fZ_orders.1.desc).map (fun d => d.parameters.length) = some 0 from by decide +kernel), by decide, by decide, (show uc + 1 ≤ 1000 by omega), (show us + 6 ≤ 6000 by omega)⟩ g_497 g_498 rfl rfl (Nat.le_of_ble_eq_true rfl) (by decide +kernel) (q_cI (fun b21 M20 h22 => ?_) (fun _ _ q => q.elim))
          refine s_iconst (n := 1) (by decide +kernel) ?_
          refine s_icmp_ne (off := 7) (tgt := 226) (by decide +kernel) (by decide) (fun c24 => ?_) (fun c24 => ?_)
          · have h25 := h22.2 c24
            refine s_iconst (n := 0) (by decide +kernel) ?_
            exact s_zret (Or.inl rfl) rfl (by decide +kernel) (show uc + 1 ≤ 1000 by omega) (show us + 6 ≤ 6000 by omega) h25
          · have h26 := h22.1 c24
            refine s_iconst (n := 1) (by decide +kernel) ?_
            refine s_goto (off := 4) (tgt := 227) (by decide +kernel) (by decide) ?_
            exact s_zret (Or.inr rfl) rfl (by decide +kernel) (show uc + 1 ≤ 1000 by omega) (show us + 6 ≤ 6000 by omega) h26
  · have h27 := h.2 c1
    refine s_aload_n (i := 0) (by decide +kernel) rfl ?_
    refine s_iload_n (i := 3) (by decide +kernel) rfl ?_
    refine s_callSH (Fc := fL_finisher) (index := 107) (as := [aR 0, aI x3]) (rest := []) rfl h27 ⟨g_532, hL_finisher, g_0, by decide, (show (parseMethodDescriptor fL_finisher.1.desc).map (fun d => d.parameters.length) = some 2 from by decide +kernel), by decide, by decide, (show uc + 1 ≤ 1000 by omega), (show us + 6 ≤ 6000 by omega)⟩ g_533 (by decide) rfl (Nat.le_of_ble_eq_true rfl) (by decide +kernel) (q_cI (fun b29 M28 h30 => ?_) (fun X9 M9 q => x_out rfl rfl (show uc + 1 ≤ 1000 by omega) (show us + 6 ≤ 6000 by omega) q))
    refine s_istore (i := 4) (by decide +kernel) (by decide) ?_
    refine s_iload (i := 4) (by decide +kernel) rfl ?_
    refine s_if_lt (off := 22) (tgt := 178) (by decide +kernel) (by decide) (fun c32 => ?_) (fun c32 => ?_)
    · have h33 := h30.1 c32
      refine s_iconst (n := 0) (by decide +kernel) ?_
      exact s_zret (Or.inl rfl) rfl (by decide +kernel) (show uc + 1 ≤ 1000 by omega) (show us + 6 ≤ 6000 by omega) h33
    · have h34 := h30.2 c32
      refine s_iload_n (i := 2) (by decide +kernel) rfl ?_
      refine s_iload (i := 4) (by decide +kernel) rfl ?_
      refine s_ishr (by decide +kernel) ?_
      refine s_iconst (n := 1) (by decide +kernel) ?_
      refine s_iand (by decide +kernel) ?_
      refine s_iconst (n := 1) (by decide +kernel) ?_
      refine s_icmp_eq (off := 12) (tgt := 178) (by decide +kernel) (by decide) (fun c35 => ?_) (fun c35 => ?_)
      · have h36 := h34.1 c35
        refine s_iconst (n := 0) (by decide +kernel) ?_
        exact s_zret (Or.inl rfl) rfl (by decide +kernel) (show uc + 1 ≤ 1000 by omega) (show us + 6 ≤ 6000 by omega) h36
      · have h37 := h34.2 c35
        refine s_aload_n (i := 0) (by decide +kernel) rfl ?_
        refine s_iload (i := 4) (by decide +kernel) rfl ?_
        refine s_callV (Fc := fZ_routeLength) (index := 92) (ci := 4) (as := [aI b29]) (rest := []) rfl h37 rfl rfl (by decide) rfl ⟨g_508, hZ_routeLength, g_1, by decide, (show (parseMethodDescriptor fZ_routeLength.1.desc).map (fun d => d.parameters.length) = some 1 from by decide +kernel), by decide, by decide, (show uc + 1 + 1 ≤ 1000 by omega), (show us + 6 + 6 ≤ 6000 by omega)⟩ g_509 g_510 rfl rfl (Nat.le_of_ble_eq_true rfl) (by decide +kernel) (q_cI (fun b39 M38 h40 => ?_) (fun X9 M9 q => x_out rfl rfl (show uc + 2 ≤ 1000 by omega) (show us + 12 ≤ 6000 by omega) q))
        refine s_if_ne (off := 5) (tgt := 180) (by decide +kernel) (by decide) (fun c42 => ?_) (fun c42 => ?_)
        · have h43 := h40.2 c42
          refine s_iload_n (i := 2) (by decide +kernel) rfl ?_
          refine s_iconst (n := 1) (by decide +kernel) ?_
          refine s_iload (i := 4) (by decide +kernel) rfl ?_
          refine s_ishl (by decide +kernel) ?_
          refine s_ior (by decide +kernel) ?_
          refine s_istore_n (i := 2) (by decide +kernel) (by decide) ?_
          refine s_iinc (i := 3) (n := 1) (by decide +kernel) rfl (by decide) ?_
          refine s_goto (off := -48) (tgt := 142) (by decide +kernel) (by decide) ?_
          exact s_loc (L' := [some (aR 0), some (aI x1), some (aI (wio x2 (wsl 1 b29))), some (aI (x3 + 1)), none, none, none, none]) (ll_s (ll_s (ll_s (ll_s (ll_n (ll_s (ll_s (ll_s ll_nil)))))))) h43
        · have h44 := h40.1 c42
          refine s_iconst (n := 0) (by decide +kernel) ?_
          exact s_zret (Or.inl rfl) rfl (by decide +kernel) (show uc + 2 ≤ 1000 by omega) (show us + 12 ≤ 6000 by omega) h44

set_option maxRecDepth 20000 in
theorem BL_isRunSo_0 {K : KX} {Q : Res → AG → AM → Prop} {M : AM} {uc us : Nat} (hu : uc + 0 ≤ 1000) (hw : us + 0 ≤ 6000)
    (h : WM K fL_isRunSo (EM K fL_isRunSo 126 Q) 4 [some (aR 0), some (aR 63), some (aI 0), some (aI 0), none, none, none, none, none] [] GG M uc us) :
    WM K fL_isRunSo (EM K fL_isRunSo 126 Q) 0 [some (aR 0), some (aR 63), none, none, none, none, none, none, none] [] GG M uc us := by
  refine s_iconst (n := 0) (by decide +kernel) ?_
  refine s_istore_n (i := 2) (by decide +kernel) (by decide) ?_
  refine s_iconst (n := 0) (by decide +kernel) ?_
  refine s_istore_n (i := 3) (by decide +kernel) (by decide) ?_
  exact h

set_option maxRecDepth 20000 in
theorem BL_isRunSo_4 {K : KX} {Q : Res → AG → AM → Prop} {M : AM} (x2 x3 : Int) {uc us : Nat} (hu : uc + 1 ≤ 1000) (hw : us + 6 ≤ 6000)
    (h : MetA K fZ_vehicles [aR 0] GG M (cI GG (fun b2 M1 => (wr b2 ≤ wr x3 → WM K fL_isRunSo (EM K fL_isRunSo 126 Q) 36 [some (aR 0), some (aR 63), some (aI x2), some (aI 0), none, none, none, none, none] [] GG M1 uc us) ∧ (¬ wr b2 ≤ wr x3 → MetA K fZ_routeLength [aR 0, aI x3] GG M1 (cI GG (fun b9 M8 => (wr b9 ≤ 0 → WM K fL_isRunSo (EM K fL_isRunSo 126 Q) 4 [some (aR 0), some (aR 63), some (aI (x2 + 0)), some (aI (x3 + 1)), none, none, none, none, none] [] GG M8 (uc + 1) (us + 6)) ∧ (¬ wr b9 ≤ 0 → WM K fL_isRunSo (EM K fL_isRunSo 126 Q) 4 [some (aR 0), some (aR 63), some (aI (x2 + 1)), some (aI (x3 + 1)), none, none, none, none, none] [] GG M8 (uc + 1) (us + 6))) (fun X9 M9 => Q (.inr X9) GG M9)))) noX)) :
    WM K fL_isRunSo (EM K fL_isRunSo 126 Q) 4 [some (aR 0), some (aR 63), some (aI x2), some (aI x3), none, none, none, none, none] [] GG M uc us := by
  refine s_iload_n (i := 3) (by decide +kernel) rfl ?_
  refine s_aload_n (i := 0) (by decide +kernel) rfl ?_
  refine s_callV (Fc := fZ_vehicles) (index := 80) (ci := 4) (as := []) (rest := [aI x3]) rfl h rfl rfl (by decide) rfl ⟨g_492, hZ_vehicles, g_1, by decide, (show (parseMethodDescriptor fZ_vehicles.1.desc).map (fun d => d.parameters.length) = some 0 from by decide +kernel), by decide, by decide, (show uc ≤ 1000 by omega), (show us ≤ 6000 by omega)⟩ g_493 g_494 rfl rfl (Nat.le_of_ble_eq_true rfl) (by decide +kernel) (q_cI (fun b2 M1 h3 => ?_) (fun _ _ q => q.elim))
  refine s_icmp_ge (off := 25) (tgt := 34) (by decide +kernel) (by decide) (fun c5 => ?_) (fun c5 => ?_)
  · have h6 := h3.1 c5
    refine s_iconst (n := 0) (by decide +kernel) ?_
    refine s_istore_n (i := 3) (by decide +kernel) (by decide) ?_
    exact h6
  · have h7 := h3.2 c5
    refine s_iload_n (i := 2) (by decide +kernel) rfl ?_
    refine s_aload_n (i := 0) (by decide +kernel) rfl ?_
    refine s_iload_n (i := 3) (by decide +kernel) rfl ?_
    refine s_callV (Fc := fZ_routeLength) (index := 92) (ci := 4) (as := [aI x3]) (rest := [aI x2]) rfl h7 rfl rfl (by decide) rfl ⟨g_508, hZ_routeLength, g_1, by decide, (show (parseMethodDescriptor fZ_routeLength.1.desc).map (fun d => d.parameters.length) = some 1 from by decide +kernel), by decide, by decide, (show uc + 1 ≤ 1000 by omega), (show us + 6 ≤ 6000 by omega)⟩ g_509 g_510 rfl rfl (Nat.le_of_ble_eq_true rfl) (by decide +kernel) (q_cI (fun b9 M8 h10 => ?_) (fun X9 M9 q => x_out rfl rfl (show uc + 1 ≤ 1000 by omega) (show us + 6 ≤ 6000 by omega) q))
    refine s_if_le (off := 7) (tgt := 25) (by decide +kernel) (by decide) (fun c12 => ?_) (fun c12 => ?_)
    · have h13 := h10.1 c12
      refine s_iconst (n := 0) (by decide +kernel) ?_
      refine s_iadd (by decide +kernel) ?_
      refine s_istore_n (i := 2) (by decide +kernel) (by decide) ?_
      refine s_iinc (i := 3) (n := 1) (by decide +kernel) rfl (by decide) ?_
      refine s_goto (off := -27) (tgt := 4) (by decide +kernel) (by decide) ?_
      exact h13
    · have h14 := h10.2 c12
      refine s_iconst (n := 1) (by decide +kernel) ?_
      refine s_goto (off := 4) (tgt := 26) (by decide +kernel) (by decide) ?_
      refine s_iadd (by decide +kernel) ?_
      refine s_istore_n (i := 2) (by decide +kernel) (by decide) ?_
      refine s_iinc (i := 3) (n := 1) (by decide +kernel) rfl (by decide) ?_
      refine s_goto (off := -27) (tgt := 4) (by decide +kernel) (by decide) ?_
      exact h14

set_option maxRecDepth 20000 in
theorem BL_isRunSo_36 {K : KX} {Q : Res → AG → AM → Prop} {M : AM} (x2 x3 : Int) {uc us : Nat} (hu : uc + 4 ≤ 1000) (hw : us + 24 ≤ 6000)
    (h : (wr x2 ≤ wr x3 → MetA K fZ_orders [aR 0] GG M (cI GG (fun b4 M3 => (wr b4 = wr 1 → MetA K fL_tick [aR 0, aI 3] GG M3 (cI GG (fun b11 M10 => (wr b11 = 0 → MetA K fL_tick [aR 63, aI 3] GG M10 (cI GG (fun b18 M17 => (wr b18 = 0 → Q (.inl (some (aI 1))) GG M17) ∧ (¬ wr b18 = 0 → Q (.inl (some (aI 0))) GG M17)) (fun X9 M9 => Q (.inr X9) GG M9))) ∧ (¬ wr b11 = 0 → Q (.inl (some (aI 0))) GG M10)) (fun X9 M9 => Q (.inr X9) GG M9))) ∧ (¬ wr b4 = wr 1 → Q (.inl (some (aI 0))) GG M3)) noX)) ∧ (¬ wr x2 ≤ wr x3 → MetA K fZ_finisher [aR 0, aI 0] GG M (cI GG (fun b26 M25 => MetA K fZ_routeLength [aR 0, aI b26] GG M25 (cI GG (fun b30 M29 => MetA K fZ_routeZone [aR 0, aI b26, aI (b30 - 1)] GG M29 (cI GG (fun b34 M33 => WM K fL_isRunSo (EM K fL_isRunSo 126 Q) 71 [some (aR 0), some (aR 63), some (aI x2), some (aI x3), some (aI b26), some (aI b30), some (aI b34), some (aI 0), none] [] GG M33 (uc + 4) (us + 24)) (fun X9 M9 => Q (.inr X9) GG M9))) (fun X9 M9 => Q (.inr X9) GG M9))) (fun X9 M9 => Q (.inr X9) GG M9)))) :
    WM K fL_isRunSo (EM K fL_isRunSo 126 Q) 36 [some (aR 0), some (aR 63), some (aI x2), some (aI x3), none, none, none, none, none] [] GG M uc us := by
  refine s_iload_n (i := 3) (by decide +kernel) rfl ?_
  refine s_iload_n (i := 2) (by decide +kernel) rfl ?_
  refine s_icmp_ge (off := 116) (tgt := 154) (by decide +kernel) (by decide) (fun c1 => ?_) (fun c1 => ?_)
  · have h2 := h.1 c1
    refine s_aload_n (i := 0) (by decide +kernel) rfl ?_
    refine s_callV (Fc := fZ_orders) (index := 83) (ci := 4) (as := []) (rest := []) rfl h2 rfl rfl (by decide) rfl ⟨g_496, hZ_orders, g_1, by decide, (show (parseMethodDescriptor fZ_orders.1.desc).map (fun d => d.parameters.length) = some 0 from by decide +kernel), by decide, by decide, (show uc ≤ 1000 by omega), (show us ≤ 6000 by omega)⟩ g_497 g_498 rfl rfl (Nat.le_of_ble_eq_true rfl) (by decide +kernel) (q_cI (fun b4 M3 h5 => ?_) (fun _ _ q => q.elim))
    refine s_iconst (n := 1) (by decide +kernel) ?_
    refine s_icmp_ne (off := 23) (tgt := 182) (by decide +kernel) (by decide) (fun c7 => ?_) (fun c7 => ?_)
    · have h8 := h5.2 c7
      refine s_iconst (n := 0) (by decide +kernel) ?_
      exact s_zret (Or.inl rfl) rfl (by decide +kernel) (show uc ≤ 1000 by omega) (show us ≤ 6000 by omega) h8
    · have h9 := h5.1 c7
      refine s_aload_n (i := 0) (by decide +kernel) rfl ?_
      refine s_iconst (n := 3) (by decide +kernel) ?_
      refine s_callSH (Fc := fL_tick) (index := 72) (as := [aR 0, aI 3]) (rest := []) rfl h9 ⟨g_457, hL_tick, g_0, by decide, (show (parseMethodDescriptor fL_tick.1.desc).map (fun d => d.parameters.length) = some 2 from by decide +kernel), by decide, by decide, (show uc + 1 ≤ 1000 by omega), (show us + 6 ≤ 6000 by omega)⟩ g_458 (by decide) rfl (Nat.le_of_ble_eq_true rfl) (by decide +kernel) (q_cI (fun b11 M10 h12 => ?_) (fun X9 M9 q => x_out rfl rfl (show uc + 1 ≤ 1000 by omega) (show us + 6 ≤ 6000 by omega) q))
      refine s_if_ne (off := 15) (tgt := 182) (by decide +kernel) (by decide) (fun c14 => ?_) (fun c14 => ?_)
      · have h15 := h12.2 c14
        refine s_iconst (n := 0) (by decide +kernel) ?_
        exact s_zret (Or.inl rfl) rfl (by decide +kernel) (show uc + 1 ≤ 1000 by omega) (show us + 6 ≤ 6000 by omega) h15
      · have h16 := h12.1 c14
        refine s_aload_n (i := 1) (by decide +kernel) rfl ?_
        refine s_iconst (n := 3) (by decide +kernel) ?_
        refine s_callSH (Fc := fL_tick) (index := 72) (as := [aR 63, aI 3]) (rest := []) rfl h16 ⟨g_457, hL_tick, g_0, by decide, (show (parseMethodDescriptor fL_tick.1.desc).map (fun d => d.parameters.length) = some 2 from by decide +kernel), by decide, by decide, (show uc + 1 + 1 ≤ 1000 by omega), (show us + 6 + 6 ≤ 6000 by omega)⟩ g_458 (by decide) rfl (Nat.le_of_ble_eq_true rfl) (by decide +kernel) (q_cI (fun b18 M17 h19 => ?_) (fun X9 M9 q => x_out rfl rfl (show uc + 2 ≤ 1000 by omega) (show us + 12 ≤ 6000 by omega) q))
        refine s_if_ne (off := 7) (tgt := 182) (by decide +kernel) (by decide) (fun c21 => ?_) (fun c21 => ?_)
        · have h22 := h19.2 c21
          refine s_iconst (n := 0) (by decide +kernel) ?_
          exact s_zret (Or.inl rfl) rfl (by decide +kernel) (show uc + 2 ≤ 1000 by omega) (show us + 12 ≤ 6000 by omega) h22
        · have h23 := h19.1 c21
          refine s_iconst (n := 1) (by decide +kernel) ?_
          refine s_goto (off := 4) (tgt := 183) (by decide +kernel) (by decide) ?_
          exact s_zret (Or.inr rfl) rfl (by decide +kernel) (show uc + 2 ≤ 1000 by omega) (show us + 12 ≤ 6000 by omega) h23
  · have h24 := h.2 c1
    refine s_aload_n (i := 0) (by decide +kernel) rfl ?_
    refine s_iconst (n := 0) (by decide +kernel) ?_
    refine s_callV (Fc := fZ_finisher) (index := 47) (ci := 4) (as := [aI 0]) (rest := []) rfl h24 rfl rfl (by decide) rfl ⟨g_535, hZ_finisher, g_1, by decide, (show (parseMethodDescriptor fZ_finisher.1.desc).map (fun d => d.parameters.length) = some 1 from by decide +kernel), by decide, by decide, (show uc + 1 ≤ 1000 by omega), (show us + 6 ≤ 6000 by omega)⟩ g_536 g_537 rfl rfl (Nat.le_of_ble_eq_true rfl) (by decide +kernel) (q_cI (fun b26 M25 h27 => ?_) (fun X9 M9 q => x_out rfl rfl (show uc + 1 ≤ 1000 by omega) (show us + 6 ≤ 6000 by omega) q))
    refine s_istore (i := 4) (by decide +kernel) (by decide) ?_
    refine s_aload_n (i := 0) (by decide +kernel) rfl ?_
    refine s_iload (i := 4) (by decide +kernel) rfl ?_
    refine s_callV (Fc := fZ_routeLength) (index := 92) (ci := 4) (as := [aI b26]) (rest := []) rfl h27 rfl rfl (by decide) rfl ⟨g_508, hZ_routeLength, g_1, by decide, (show (parseMethodDescriptor fZ_routeLength.1.desc).map (fun d => d.parameters.length) = some 1 from by decide +kernel), by decide, by decide, (show uc + 1 + 1 ≤ 1000 by omega), (show us + 6 + 6 ≤ 6000 by omega)⟩ g_509 g_510 rfl rfl (Nat.le_of_ble_eq_true rfl) (by decide +kernel) (q_cI (fun b30 M29 h31 => ?_) (fun X9 M9 q => x_out rfl rfl (show uc + 2 ≤ 1000 by omega) (show us + 12 ≤ 6000 by omega) q))
    refine s_istore (i := 5) (by decide +kernel) (by decide) ?_
    refine s_aload_n (i := 0) (by decide +kernel) rfl ?_
    refine s_iload (i := 4) (by decide +kernel) rfl ?_
    refine s_iload (i := 5) (by decide +kernel) rfl ?_
    refine s_iconst (n := 1) (by decide +kernel) ?_
    refine s_isub (by decide +kernel) ?_
    refine s_callV (Fc := fZ_routeZone) (index := 101) (ci := 4) (as := [aI b26, aI (b30 - 1)]) (rest := []) rfl h31 rfl rfl (by decide) rfl ⟨g_523, hZ_routeZone, g_1, by decide, (show (parseMethodDescriptor fZ_routeZone.1.desc).map (fun d => d.parameters.length) = some 2 from by decide +kernel), by decide, by decide, (show uc + 2 + 2 ≤ 1000 by omega), (show us + 12 + 12 ≤ 6000 by omega)⟩ g_524 g_525 rfl rfl (Nat.le_of_ble_eq_true rfl) (by decide +kernel) (q_cI (fun b34 M33 h35 => ?_) (fun X9 M9 q => x_out rfl rfl (show uc + 4 ≤ 1000 by omega) (show us + 24 ≤ 6000 by omega) q))
    refine s_istore (i := 6) (by decide +kernel) (by decide) ?_
    refine s_iconst (n := 0) (by decide +kernel) ?_
    refine s_istore (i := 7) (by decide +kernel) (by decide) ?_
    exact h35

set_option maxRecDepth 20000 in
theorem BL_isRunSo_71 {K : KX} {Q : Res → AG → AM → Prop} {M : AM} (x2 x3 x4 x5 x6 x7 : Int) {uc us : Nat} (hu : uc + 7 ≤ 1000) (hw : us + 42 ≤ 6000)
    (h : (wr x5 ≤ wr x7 → MetA K fZ_zoneOf [aR 0, aI x4] GG M (cI GG (fun b4 M3 => (wr b4 = wr x6 → MetA K fZ_routeLength [aR 0, aI x4] GG M3 (cI GG (fun b11 M10 => (wr b11 = 0 → WM K fL_isRunSo (EM K fL_isRunSo 126 Q) 36 [some (aR 0), some (aR 63), some (aI x2), some (aI (x3 + 1)), none, none, none, none, none] [] GG M10 (uc + 2) (us + 12)) ∧ (¬ wr b11 = 0 → Q (.inl (some (aI 0))) GG M10)) (fun X9 M9 => Q (.inr X9) GG M9))) ∧ (¬ wr b4 = wr x6 → Q (.inl (some (aI 0))) GG M3)) (fun X9 M9 => Q (.inr X9) GG M9))) ∧ (¬ wr x5 ≤ wr x7 → MetA K fZ_routeZone [aR 0, aI x4, aI 0] GG M (cI GG (fun b19 M18 => MetA K fZ_canStep [aR 0, aI x4] GG M18 (cI GG (fun b23 M22 => (wr b23 = 0 → Q (.inl (some (aI 0))) GG M22) ∧ (¬ wr b23 = 0 → MetA K fL_step [aR 0, aI x4] GG M22 (cI GG (fun b30 M29 => (wr b30 = wr b19 → MetA K fL_step [aR 63, aI x4] GG M29 (cI GG (fun b37 M36 => (wr b37 = wr b19 → WM K fL_isRunSo (EM K fL_isRunSo 126 Q) 71 [some (aR 0), some (aR 63), some (aI x2), some (aI x3), some (aI x4), some (aI x5), some (aI x6), some (aI (x7 + 1)), none] [] GG M36 (uc + 7) (us + 42)) ∧ (¬ wr b37 = wr b19 → Q (.inl (some (aI 0))) GG M36)) (fun X9 M9 => Q (.inr X9) GG M9))) ∧ (¬ wr b30 = wr b19 → Q (.inl (some (aI 0))) GG M29)) (fun X9 M9 => Q (.inr X9) GG M9)))) (fun X9 M9 => Q (.inr X9) GG M9))) (fun X9 M9 => Q (.inr X9) GG M9)))) :
    WM K fL_isRunSo (EM K fL_isRunSo 126 Q) 71 [some (aR 0), some (aR 63), some (aI x2), some (aI x3), some (aI x4), some (aI x5), some (aI x6), some (aI x7), none] [] GG M uc us := by
  refine s_iload (i := 7) (by decide +kernel) rfl ?_
  refine s_iload (i := 5) (by decide +kernel) rfl ?_
  refine s_icmp_ge (off := 51) (tgt := 126) (by decide +kernel) (by decide) (fun c1 => ?_) (fun c1 => ?_)
  · have h2 := h.1 c1
    refine s_aload_n (i := 0) (by decide +kernel) rfl ?_
    refine s_iload (i := 4) (by decide +kernel) rfl ?_
    refine s_callV (Fc := fZ_zoneOf) (index := 86) (ci := 4) (as := [aI x4]) (rest := []) rfl h2 rfl rfl (by decide) rfl ⟨g_500, hZ_zoneOf, g_1, by decide, (show (parseMethodDescriptor fZ_zoneOf.1.desc).map (fun d => d.parameters.length) = some 1 from by decide +kernel), by decide, by decide, (show uc + 1 ≤ 1000 by omega), (show us + 6 ≤ 6000 by omega)⟩ g_501 g_502 rfl rfl (Nat.le_of_ble_eq_true rfl) (by decide +kernel) (q_cI (fun b4 M3 h5 => ?_) (fun X9 M9 q => x_out rfl rfl (show uc + 1 ≤ 1000 by omega) (show us + 6 ≤ 6000 by omega) q))
    refine s_iload (i := 6) (by decide +kernel) rfl ?_
    refine s_icmp_ne (off := 12) (tgt := 146) (by decide +kernel) (by decide) (fun c7 => ?_) (fun c7 => ?_)
    · have h8 := h5.2 c7
      refine s_iconst (n := 0) (by decide +kernel) ?_
      exact s_zret (Or.inl rfl) rfl (by decide +kernel) (show uc + 1 ≤ 1000 by omega) (show us + 6 ≤ 6000 by omega) h8
    · have h9 := h5.1 c7
      refine s_aload_n (i := 0) (by decide +kernel) rfl ?_
      refine s_iload (i := 4) (by decide +kernel) rfl ?_
      refine s_callV (Fc := fZ_routeLength) (index := 92) (ci := 4) (as := [aI x4]) (rest := []) rfl h9 rfl rfl (by decide) rfl ⟨g_508, hZ_routeLength, g_1, by decide, (show (parseMethodDescriptor fZ_routeLength.1.desc).map (fun d => d.parameters.length) = some 1 from by decide +kernel), by decide, by decide, (show uc + 1 + 1 ≤ 1000 by omega), (show us + 6 + 6 ≤ 6000 by omega)⟩ g_509 g_510 rfl rfl (Nat.le_of_ble_eq_true rfl) (by decide +kernel) (q_cI (fun b11 M10 h12 => ?_) (fun X9 M9 q => x_out rfl rfl (show uc + 2 ≤ 1000 by omega) (show us + 12 ≤ 6000 by omega) q))
      refine s_if_eq (off := 5) (tgt := 148) (by decide +kernel) (by decide) (fun c14 => ?_) (fun c14 => ?_)
      · have h15 := h12.1 c14
        refine s_iinc (i := 3) (n := 1) (by decide +kernel) rfl (by decide) ?_
        refine s_goto (off := -115) (tgt := 36) (by decide +kernel) (by decide) ?_
        exact s_loc (L' := [some (aR 0), some (aR 63), some (aI x2), some (aI (x3 + 1)), none, none, none, none, none]) (ll_s (ll_s (ll_s (ll_s (ll_n (ll_n (ll_n (ll_n (ll_s ll_nil))))))))) h15
      · have h16 := h12.2 c14
        refine s_iconst (n := 0) (by decide +kernel) ?_
        exact s_zret (Or.inl rfl) rfl (by decide +kernel) (show uc + 2 ≤ 1000 by omega) (show us + 12 ≤ 6000 by omega) h16
  · have h17 := h.2 c1
    refine s_aload_n (i := 0) (by decide +kernel) rfl ?_
    refine s_iload (i := 4) (by decide +kernel) rfl ?_
    refine s_iconst (n := 0) (by decide +kernel) ?_
    refine s_callV (Fc := fZ_routeZone) (index := 101) (ci := 4) (as := [aI x4, aI 0]) (rest := []) rfl h17 rfl rfl (by decide) rfl ⟨g_523, hZ_routeZone, g_1, by decide, (show (parseMethodDescriptor fZ_routeZone.1.desc).map (fun d => d.parameters.length) = some 2 from by decide +kernel), by decide, by decide, (show uc + 2 ≤ 1000 by omega), (show us + 12 ≤ 6000 by omega)⟩ g_524 g_525 rfl rfl (Nat.le_of_ble_eq_true rfl) (by decide +kernel) (q_cI (fun b19 M18 h20 => ?_) (fun X9 M9 q => x_out rfl rfl (show uc + 2 ≤ 1000 by omega) (show us + 12 ≤ 6000 by omega) q))
    refine s_istore (i := 8) (by decide +kernel) (by decide) ?_
    refine s_aload_n (i := 0) (by decide +kernel) rfl ?_
    refine s_iload (i := 4) (by decide +kernel) rfl ?_
    refine s_callV (Fc := fZ_canStep) (index := 109) (ci := 4) (as := [aI x4]) (rest := []) rfl h20 rfl rfl (by decide) rfl ⟨g_557, hZ_canStep, g_1, by decide, (show (parseMethodDescriptor fZ_canStep.1.desc).map (fun d => d.parameters.length) = some 1 from by decide +kernel), by decide, by decide, (show uc + 2 + 1 ≤ 1000 by omega), (show us + 12 + 6 ≤ 6000 by omega)⟩ g_558 g_559 rfl rfl (Nat.le_of_ble_eq_true rfl) (by decide +kernel) (q_cI (fun b23 M22 h24 => ?_) (fun X9 M9 q => x_out rfl rfl (show uc + 3 ≤ 1000 by omega) (show us + 18 ≤ 6000 by omega) q))
    refine s_if_eq (off := 25) (tgt := 118) (by decide +kernel) (by decide) (fun c26 => ?_) (fun c26 => ?_)
    · have h27 := h24.1 c26
      refine s_iconst (n := 0) (by decide +kernel) ?_
      exact s_zret (Or.inl rfl) rfl (by decide +kernel) (show uc + 3 ≤ 1000 by omega) (show us + 18 ≤ 6000 by omega) h27
    · have h28 := h24.2 c26
      refine s_aload_n (i := 0) (by decide +kernel) rfl ?_
      refine s_iload (i := 4) (by decide +kernel) rfl ?_
      refine s_callSH (Fc := fL_step) (index := 70) (as := [aR 0, aI x4]) (rest := []) rfl h28 ⟨g_432, hL_step, g_0, by decide, (show (parseMethodDescriptor fL_step.1.desc).map (fun d => d.parameters.length) = some 2 from by decide +kernel), by decide, by decide, (show uc + 3 + 2 ≤ 1000 by omega), (show us + 18 + 12 ≤ 6000 by omega)⟩ g_433 (by decide) rfl (Nat.le_of_ble_eq_true rfl) (by decide +kernel) (q_cI (fun b30 M29 h31 => ?_) (fun X9 M9 q => x_out rfl rfl (show uc + 5 ≤ 1000 by omega) (show us + 30 ≤ 6000 by omega) q))
      refine s_iload (i := 8) (by decide +kernel) rfl ?_
      refine s_icmp_ne (off := 14) (tgt := 118) (by decide +kernel) (by decide) (fun c33 => ?_) (fun c33 => ?_)
      · have h34 := h31.2 c33
        refine s_iconst (n := 0) (by decide +kernel) ?_
        exact s_zret (Or.inl rfl) rfl (by decide +kernel) (show uc + 5 ≤ 1000 by omega) (show us + 30 ≤ 6000 by omega) h34
      · have h35 := h31.1 c33
        refine s_aload_n (i := 1) (by decide +kernel) rfl ?_
        refine s_iload (i := 4) (by decide +kernel) rfl ?_
        refine s_callSH (Fc := fL_step) (index := 70) (as := [aR 63, aI x4]) (rest := []) rfl h35 ⟨g_432, hL_step, g_0, by decide, (show (parseMethodDescriptor fL_step.1.desc).map (fun d => d.parameters.length) = some 2 from by decide +kernel), by decide, by decide, (show uc + 5 + 2 ≤ 1000 by omega), (show us + 30 + 12 ≤ 6000 by omega)⟩ g_433 (by decide) rfl (Nat.le_of_ble_eq_true rfl) (by decide +kernel) (q_cI (fun b37 M36 h38 => ?_) (fun X9 M9 q => x_out rfl rfl (show uc + 7 ≤ 1000 by omega) (show us + 42 ≤ 6000 by omega) q))
        refine s_iload (i := 8) (by decide +kernel) rfl ?_
        refine s_icmp_eq (off := 5) (tgt := 120) (by decide +kernel) (by decide) (fun c40 => ?_) (fun c40 => ?_)
        · have h41 := h38.1 c40
          refine s_iinc (i := 7) (n := 1) (by decide +kernel) rfl (by decide) ?_
          refine s_goto (off := -52) (tgt := 71) (by decide +kernel) (by decide) ?_
          exact s_loc (L' := [some (aR 0), some (aR 63), some (aI x2), some (aI x3), some (aI x4), some (aI x5), some (aI x6), some (aI (x7 + 1)), none]) (ll_s (ll_s (ll_s (ll_s (ll_s (ll_s (ll_s (ll_s (ll_n ll_nil))))))))) h41
        · have h42 := h38.2 c40
          refine s_iconst (n := 0) (by decide +kernel) ?_
          exact s_zret (Or.inl rfl) rfl (by decide +kernel) (show uc + 7 ≤ 1000 by omega) (show us + 42 ≤ 6000 by omega) h42

