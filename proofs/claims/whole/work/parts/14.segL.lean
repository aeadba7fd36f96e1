set_option maxRecDepth 20000 in
theorem BL_addLane_0 {K : KX} {Q : Res → AG → AM → Prop} {M : AM} (p2 p3 : Int)
    (h : MetA K fZ_addLane [aR 0, aI p2, aI p3] GG M (cI GG (fun b2 M1 => ∃ j5 : Nat, wr 0 = (j5 : Int) ∧ j5 < 1 ∧ (Q (.inl (some (aI 0))) GG (um M1 79 j5 (wr b2)))) (fun X4 M1 => (X4 = "java/lang/IllegalArgumentException" ∧ (Q (.inl (some (aI 1))) GG M1)) ∨ (X4 = "java/lang/IllegalStateException" ∧ (Q (.inl (some (aI 2))) GG M1))))) :
    WM K fL_addLane (EM K fL_addLane 80 Q) 0 [some (aR 0), some (aI p2), some (aI p3), some (aR 79), none] [] GG M 0 0 := by
  refine s_aload_n (i := 3) (by decide +kernel) rfl ?_
  refine s_iconst (n := 0) (by decide +kernel) ?_
  refine s_aload_n (i := 0) (by decide +kernel) rfl ?_
  refine s_iload_n (i := 1) (by decide +kernel) rfl ?_
  refine s_iload_n (i := 2) (by decide +kernel) rfl ?_
  refine s_callV (Fc := fZ_addLane) (index := 7) (ci := 4) (as := [aI p2, aI p3]) (rest := [aI 0, aR 79]) rfl h rfl rfl (by decide) rfl ⟨g_244, hZ_addLane, g_1, by decide, (show (parseMethodDescriptor fZ_addLane.1.desc).map (fun d => d.parameters.length) = some 2 from by decide +kernel), by decide, by decide, by decide, by decide⟩ g_245 g_246 rfl rfl (Nat.le_of_ble_eq_true rfl) (by decide +kernel) (q_cI (fun b2 M1 h3 => ?_) (fun X4 M1 h3 => ?_))
  · skip
    refine s_i2l (by decide +kernel) ?_
    obtain ⟨j5, e6, e7, h8⟩ := h3
    refine s_last (j := j5) rfl e6 e7 (by decide +kernel) ?_
    refine s_goto (off := 11) (tgt := 21) (by decide +kernel) (by decide) ?_
    refine s_iconst (n := 0) (by decide +kernel) ?_
    exact s_iret rfl (by decide +kernel) (by decide) (by decide) h8
  · rcases h3 with ⟨rfl, h3⟩ | ⟨rfl, h3⟩
    · refine x_catch [] (0, 10, 13, 13) [(0, 10, 17, 15)] rfl (fun n =>  "") (fun z hz => nomatch hz) (by decide) (by decide) g_242 (by decide) (fun q9 => ?_)
      refine s_astoreX (i := 4) (by decide +kernel) (by decide) ?_
      refine s_iconst (n := 1) (by decide +kernel) ?_
      exact s_iret rfl (by decide +kernel) (by decide) (by decide) h3
    · refine x_catch [(0, 10, 13, 13)] (0, 10, 17, 15) [] rfl (fun n => if n = 13 then "java/lang/IllegalArgumentException" else "") (by intro z hz; rcases List.mem_cons.mp hz with rfl | hz; exact ⟨by decide, g_242, by decide⟩; exact nomatch hz) (by decide) (by decide) g_243 (by decide) (fun q9 => ?_)
      refine s_astoreX (i := 4) (by decide +kernel) (by decide) ?_
      refine s_iconst (n := 2) (by decide +kernel) ?_
      exact s_iret rfl (by decide +kernel) (by decide) (by decide) h3

set_option maxRecDepth 20000 in
theorem BL_setCharger_0 {K : KX} {Q : Res → AG → AM → Prop} {M : AM} (p2 p3 : Int)
    (h : MetA K fZ_setCharger [aR 0, aI p2, aI p3] GG M (cI GG (fun b2 M1 => (wr b2 = 0 → ∃ j7 : Nat, wr 0 = (j7 : Int) ∧ j7 < 1 ∧ (Q (.inl (some (aI 0))) GG (um M1 79 j7 0))) ∧ (¬ wr b2 = 0 → ∃ j12 : Nat, wr 0 = (j12 : Int) ∧ j12 < 1 ∧ (Q (.inl (some (aI 0))) GG (um M1 79 j12 1)))) (fun X4 M1 => (X4 = "java/lang/IllegalArgumentException" ∧ (Q (.inl (some (aI 1))) GG M1))))) :
    WM K fL_setCharger (EM K fL_setCharger 80 Q) 0 [some (aR 0), some (aI p2), some (aI p3), some (aR 79), none] [] GG M 0 0 := by
  refine s_aload_n (i := 3) (by decide +kernel) rfl ?_
  refine s_iconst (n := 0) (by decide +kernel) ?_
  refine s_aload_n (i := 0) (by decide +kernel) rfl ?_
  refine s_iload_n (i := 1) (by decide +kernel) rfl ?_
  refine s_iload_n (i := 2) (by decide +kernel) rfl ?_
  refine s_callV (Fc := fZ_setCharger) (index := 17) (ci := 4) (as := [aI p2, aI p3]) (rest := [aI 0, aR 79]) rfl h rfl rfl (by decide) rfl ⟨g_344, hZ_setCharger, g_1, by decide, (show (parseMethodDescriptor fZ_setCharger.1.desc).map (fun d => d.parameters.length) = some 2 from by decide +kernel), by decide, by decide, by decide, by decide⟩ g_345 g_346 rfl rfl (Nat.le_of_ble_eq_true rfl) (by decide +kernel) (q_cI (fun b2 M1 h3 => ?_) (fun X4 M1 h3 => ?_))
  · skip
    refine s_if_eq (off := 7) (tgt := 15) (by decide +kernel) (by decide) (fun c5 => ?_) (fun c5 => ?_)
    · have h6 := h3.1 c5
      refine s_lconst (n := 0) (z := 0) (by decide +kernel) (by decide) ?_
      obtain ⟨j7, e8, e9, h10⟩ := h6
      refine s_last (j := j7) rfl e8 e9 (by decide +kernel) ?_
      refine s_goto (off := 7) (tgt := 24) (by decide +kernel) (by decide) ?_
      refine s_iconst (n := 0) (by decide +kernel) ?_
      exact s_iret rfl (by decide +kernel) (by decide) (by decide) h10
    · have h11 := h3.2 c5
      refine s_lconst (n := 1) (z := 1) (by decide +kernel) (by decide) ?_
      refine s_goto (off := 4) (tgt := 16) (by decide +kernel) (by decide) ?_
      obtain ⟨j12, e13, e14, h15⟩ := h11
      refine s_last (j := j12) rfl e13 e14 (by decide +kernel) ?_
      refine s_goto (off := 7) (tgt := 24) (by decide +kernel) (by decide) ?_
      refine s_iconst (n := 0) (by decide +kernel) ?_
      exact s_iret rfl (by decide +kernel) (by decide) (by decide) h15
  · rcases h3 with ⟨rfl, h3⟩
    · refine x_catch [] (0, 17, 20, 13) [] rfl (fun n =>  "") (fun z hz => nomatch hz) (by decide) (by decide) g_242 (by decide) (fun q9 => ?_)
      refine s_astoreX (i := 4) (by decide +kernel) (by decide) ?_
      refine s_iconst (n := 1) (by decide +kernel) ?_
      exact s_iret rfl (by decide +kernel) (by decide) (by decide) h3

set_option maxRecDepth 20000 in
theorem BL_distance_0 {K : KX} {Q : Res → AG → AM → Prop} {M : AM} (p2 p3 : Int)
    (h : MetA K fZ_distance [aR 0, aI p2, aI p3] GG M (cI GG (fun b2 M1 => ∃ j5 : Nat, wr 0 = (j5 : Int) ∧ j5 < 1 ∧ (Q (.inl (some (aI 0))) GG (um M1 79 j5 (wr b2)))) (fun X4 M1 => (X4 = "java/lang/IllegalArgumentException" ∧ (Q (.inl (some (aI 1))) GG M1))))) :
    WM K fL_distance (EM K fL_distance 80 Q) 0 [some (aR 0), some (aI p2), some (aI p3), some (aR 79), none] [] GG M 0 0 := by
  refine s_aload_n (i := 3) (by decide +kernel) rfl ?_
  refine s_iconst (n := 0) (by decide +kernel) ?_
  refine s_aload_n (i := 0) (by decide +kernel) rfl ?_
  refine s_iload_n (i := 1) (by decide +kernel) rfl ?_
  refine s_iload_n (i := 2) (by decide +kernel) rfl ?_
  refine s_callV (Fc := fZ_distance) (index := 21) (ci := 4) (as := [aI p2, aI p3]) (rest := [aI 0, aR 79]) rfl h rfl rfl (by decide) rfl ⟨g_351, hZ_distance, g_1, by decide, (show (parseMethodDescriptor fZ_distance.1.desc).map (fun d => d.parameters.length) = some 2 from by decide +kernel), by decide, by decide, by decide, by decide⟩ g_352 g_353 rfl rfl (Nat.le_of_ble_eq_true rfl) (by decide +kernel) (q_cI (fun b2 M1 h3 => ?_) (fun X4 M1 h3 => ?_))
  · skip
    refine s_i2l (by decide +kernel) ?_
    obtain ⟨j5, e6, e7, h8⟩ := h3
    refine s_last (j := j5) rfl e6 e7 (by decide +kernel) ?_
    refine s_goto (off := 7) (tgt := 17) (by decide +kernel) (by decide) ?_
    refine s_iconst (n := 0) (by decide +kernel) ?_
    exact s_iret rfl (by decide +kernel) (by decide) (by decide) h8
  · rcases h3 with ⟨rfl, h3⟩
    · refine x_catch [] (0, 10, 13, 13) [] rfl (fun n =>  "") (fun z hz => nomatch hz) (by decide) (by decide) g_242 (by decide) (fun q9 => ?_)
      refine s_astoreX (i := 4) (by decide +kernel) (by decide) ?_
      refine s_iconst (n := 1) (by decide +kernel) ?_
      exact s_iret rfl (by decide +kernel) (by decide) (by decide) h3

set_option maxRecDepth 20000 in
theorem BL_addVehicle_0 {K : KX} {Q : Res → AG → AM → Prop} {M : AM} (p2 p3 : Int)
    (h : MetA K fZ_addVehicle [aR 0, aI p2, aI p3] GG M (cI GG (fun b2 M1 => ∃ j5 : Nat, wr 0 = (j5 : Int) ∧ j5 < 1 ∧ (Q (.inl (some (aI 0))) GG (um M1 79 j5 (wr b2)))) (fun X4 M1 => (X4 = "java/lang/IllegalArgumentException" ∧ (Q (.inl (some (aI 1))) GG M1)) ∨ (X4 = "java/lang/IllegalStateException" ∧ (Q (.inl (some (aI 2))) GG M1))))) :
    WM K fL_addVehicle (EM K fL_addVehicle 80 Q) 0 [some (aR 0), some (aI p2), some (aI p3), some (aR 79), none] [] GG M 0 0 := by
  refine s_aload_n (i := 3) (by decide +kernel) rfl ?_
  refine s_iconst (n := 0) (by decide +kernel) ?_
  refine s_aload_n (i := 0) (by decide +kernel) rfl ?_
  refine s_iload_n (i := 1) (by decide +kernel) rfl ?_
  refine s_iload_n (i := 2) (by decide +kernel) rfl ?_
  refine s_callV (Fc := fZ_addVehicle) (index := 24) (ci := 4) (as := [aI p2, aI p3]) (rest := [aI 0, aR 79]) rfl h rfl rfl (by decide) rfl ⟨g_358, hZ_addVehicle, g_1, by decide, (show (parseMethodDescriptor fZ_addVehicle.1.desc).map (fun d => d.parameters.length) = some 2 from by decide +kernel), by decide, by decide, by decide, by decide⟩ g_359 g_360 rfl rfl (Nat.le_of_ble_eq_true rfl) (by decide +kernel) (q_cI (fun b2 M1 h3 => ?_) (fun X4 M1 h3 => ?_))
  · skip
    refine s_i2l (by decide +kernel) ?_
    obtain ⟨j5, e6, e7, h8⟩ := h3
    refine s_last (j := j5) rfl e6 e7 (by decide +kernel) ?_
    refine s_goto (off := 11) (tgt := 21) (by decide +kernel) (by decide) ?_
    refine s_iconst (n := 0) (by decide +kernel) ?_
    exact s_iret rfl (by decide +kernel) (by decide) (by decide) h8
  · rcases h3 with ⟨rfl, h3⟩ | ⟨rfl, h3⟩
    · refine x_catch [] (0, 10, 13, 13) [(0, 10, 17, 15)] rfl (fun n =>  "") (fun z hz => nomatch hz) (by decide) (by decide) g_242 (by decide) (fun q9 => ?_)
      refine s_astoreX (i := 4) (by decide +kernel) (by decide) ?_
      refine s_iconst (n := 1) (by decide +kernel) ?_
      exact s_iret rfl (by decide +kernel) (by decide) (by decide) h3
    · refine x_catch [(0, 10, 13, 13)] (0, 10, 17, 15) [] rfl (fun n => if n = 13 then "java/lang/IllegalArgumentException" else "") (by intro z hz; rcases List.mem_cons.mp hz with rfl | hz; exact ⟨by decide, g_242, by decide⟩; exact nomatch hz) (by decide) (by decide) g_243 (by decide) (fun q9 => ?_)
      refine s_astoreX (i := 4) (by decide +kernel) (by decide) ?_
      refine s_iconst (n := 2) (by decide +kernel) ?_
      exact s_iret rfl (by decide +kernel) (by decide) (by decide) h3

set_option maxRecDepth 20000 in
theorem BL_assign_0 {K : KX} {Q : Res → AG → AM → Prop} {M : AM} (p2 p3 : Int)
    (h : MetA K fZ_assign [aR 0, aI p2, aI p3] GG M (cI GG (fun b2 M1 => ∃ j5 : Nat, wr 0 = (j5 : Int) ∧ j5 < 1 ∧ (Q (.inl (some (aI 0))) GG (um M1 79 j5 (wr b2)))) (fun X4 M1 => (X4 = "java/lang/IndexOutOfBoundsException" ∧ (Q (.inl (some (aI 1))) GG M1)) ∨ (X4 = "java/lang/IllegalArgumentException" ∧ (Q (.inl (some (aI 2))) GG M1)) ∨ (X4 = "java/lang/IllegalStateException" ∧ (Q (.inl (some (aI 3))) GG M1))))) :
    WM K fL_assign (EM K fL_assign 80 Q) 0 [some (aR 0), some (aI p2), some (aI p3), some (aR 79), none] [] GG M 0 0 := by
  refine s_aload_n (i := 3) (by decide +kernel) rfl ?_
  refine s_iconst (n := 0) (by decide +kernel) ?_
  refine s_aload_n (i := 0) (by decide +kernel) rfl ?_
  refine s_iload_n (i := 1) (by decide +kernel) rfl ?_
  refine s_iload_n (i := 2) (by decide +kernel) rfl ?_
  refine s_callV (Fc := fZ_assign) (index := 27) (ci := 4) (as := [aI p2, aI p3]) (rest := [aI 0, aR 79]) rfl h rfl rfl (by decide) rfl ⟨g_378, hZ_assign, g_1, by decide, (show (parseMethodDescriptor fZ_assign.1.desc).map (fun d => d.parameters.length) = some 2 from by decide +kernel), by decide, by decide, by decide, by decide⟩ g_379 g_380 rfl rfl (Nat.le_of_ble_eq_true rfl) (by decide +kernel) (q_cI (fun b2 M1 h3 => ?_) (fun X4 M1 h3 => ?_))
  · skip
    refine s_i2l (by decide +kernel) ?_
    obtain ⟨j5, e6, e7, h8⟩ := h3
    refine s_last (j := j5) rfl e6 e7 (by decide +kernel) ?_
    refine s_goto (off := 15) (tgt := 25) (by decide +kernel) (by decide) ?_
    refine s_iconst (n := 0) (by decide +kernel) ?_
    exact s_iret rfl (by decide +kernel) (by decide) (by decide) h8
  · rcases h3 with ⟨rfl, h3⟩ | ⟨rfl, h3⟩ | ⟨rfl, h3⟩
    · refine x_catch [] (0, 10, 13, 30) [(0, 10, 17, 13), (0, 10, 21, 15)] rfl (fun n =>  "") (fun z hz => nomatch hz) (by decide) (by decide) g_377 (by decide) (fun q9 => ?_)
      refine s_astoreX (i := 4) (by decide +kernel) (by decide) ?_
      refine s_iconst (n := 1) (by decide +kernel) ?_
      exact s_iret rfl (by decide +kernel) (by decide) (by decide) h3
    · refine x_catch [(0, 10, 13, 30)] (0, 10, 17, 13) [(0, 10, 21, 15)] rfl (fun n => if n = 30 then "java/lang/IndexOutOfBoundsException" else "") (by intro z hz; rcases List.mem_cons.mp hz with rfl | hz; exact ⟨by decide, g_377, by decide⟩; exact nomatch hz) (by decide) (by decide) g_242 (by decide) (fun q9 => ?_)
      refine s_astoreX (i := 4) (by decide +kernel) (by decide) ?_
      refine s_iconst (n := 2) (by decide +kernel) ?_
      exact s_iret rfl (by decide +kernel) (by decide) (by decide) h3
    · refine x_catch [(0, 10, 13, 30), (0, 10, 17, 13)] (0, 10, 21, 15) [] rfl (fun n => if n = 30 then "java/lang/IndexOutOfBoundsException" else if n = 13 then "java/lang/IllegalArgumentException" else "") (by intro z hz; rcases List.mem_cons.mp hz with rfl | hz; exact ⟨by decide, g_377, by decide⟩; rcases List.mem_cons.mp hz with rfl | hz; exact ⟨by decide, g_242, by decide⟩; exact nomatch hz) (by decide) (by decide) g_243 (by decide) (fun q9 => ?_)
      refine s_astoreX (i := 4) (by decide +kernel) (by decide) ?_
      refine s_iconst (n := 3) (by decide +kernel) ?_
      exact s_iret rfl (by decide +kernel) (by decide) (by decide) h3

set_option maxRecDepth 20000 in
theorem BL_cancel_0 {K : KX} {Q : Res → AG → AM → Prop} {M : AM} (p2 : Int)
    (h : MetA K fZ_cancel [aR 0, aI p2] GG M (cI GG (fun b2 M1 => ∃ j5 : Nat, wr 0 = (j5 : Int) ∧ j5 < 1 ∧ (Q (.inl (some (aI 0))) GG (um M1 79 j5 (wr b2)))) (fun X4 M1 => (X4 = "java/lang/IndexOutOfBoundsException" ∧ (Q (.inl (some (aI 1))) GG M1)) ∨ (X4 = "java/lang/IllegalStateException" ∧ (Q (.inl (some (aI 2))) GG M1))))) :
    WM K fL_cancel (EM K fL_cancel 80 Q) 0 [some (aR 0), some (aI p2), some (aR 79), none] [] GG M 0 0 := by
  refine s_aload_n (i := 2) (by decide +kernel) rfl ?_
  refine s_iconst (n := 0) (by decide +kernel) ?_
  refine s_aload_n (i := 0) (by decide +kernel) rfl ?_
  refine s_iload_n (i := 1) (by decide +kernel) rfl ?_
  refine s_callV (Fc := fZ_cancel) (index := 32) (ci := 4) (as := [aI p2]) (rest := [aI 0, aR 79]) rfl h rfl rfl (by decide) rfl ⟨g_406, hZ_cancel, g_1, by decide, (show (parseMethodDescriptor fZ_cancel.1.desc).map (fun d => d.parameters.length) = some 1 from by decide +kernel), by decide, by decide, by decide, by decide⟩ g_407 g_408 rfl rfl (Nat.le_of_ble_eq_true rfl) (by decide +kernel) (q_cI (fun b2 M1 h3 => ?_) (fun X4 M1 h3 => ?_))
  · skip
    refine s_i2l (by decide +kernel) ?_
    obtain ⟨j5, e6, e7, h8⟩ := h3
    refine s_last (j := j5) rfl e6 e7 (by decide +kernel) ?_
    refine s_goto (off := 9) (tgt := 18) (by decide +kernel) (by decide) ?_
    refine s_iconst (n := 0) (by decide +kernel) ?_
    exact s_iret rfl (by decide +kernel) (by decide) (by decide) h8
  · rcases h3 with ⟨rfl, h3⟩ | ⟨rfl, h3⟩
    · refine x_catch [] (0, 9, 12, 30) [(0, 9, 15, 15)] rfl (fun n =>  "") (fun z hz => nomatch hz) (by decide) (by decide) g_377 (by decide) (fun q9 => ?_)
      refine s_astoreX_n (i := 3) (by decide +kernel) (by decide) ?_
      refine s_iconst (n := 1) (by decide +kernel) ?_
      exact s_iret rfl (by decide +kernel) (by decide) (by decide) h3
    · refine x_catch [(0, 9, 12, 30)] (0, 9, 15, 15) [] rfl (fun n => if n = 30 then "java/lang/IndexOutOfBoundsException" else "") (by intro z hz; rcases List.mem_cons.mp hz with rfl | hz; exact ⟨by decide, g_377, by decide⟩; exact nomatch hz) (by decide) (by decide) g_243 (by decide) (fun q9 => ?_)
      refine s_astoreX_n (i := 3) (by decide +kernel) (by decide) ?_
      refine s_iconst (n := 2) (by decide +kernel) ?_
      exact s_iret rfl (by decide +kernel) (by decide) (by decide) h3

set_option maxRecDepth 20000 in
theorem BL_charge_0 {K : KX} {Q : Res → AG → AM → Prop} {M : AM} (p2 : Int)
    (h : MetA K fZ_charge [aR 0, aI p2] GG M (cI GG (fun b2 M1 => ∃ j5 : Nat, wr 0 = (j5 : Int) ∧ j5 < 1 ∧ (Q (.inl (some (aI 0))) GG (um M1 79 j5 (wr b2)))) (fun X4 M1 => (X4 = "java/lang/IndexOutOfBoundsException" ∧ (Q (.inl (some (aI 1))) GG M1)) ∨ (X4 = "java/lang/IllegalStateException" ∧ (Q (.inl (some (aI 2))) GG M1))))) :
    WM K fL_charge (EM K fL_charge 80 Q) 0 [some (aR 0), some (aI p2), some (aR 79), none] [] GG M 0 0 := by
  refine s_aload_n (i := 2) (by decide +kernel) rfl ?_
  refine s_iconst (n := 0) (by decide +kernel) ?_
  refine s_aload_n (i := 0) (by decide +kernel) rfl ?_
  refine s_iload_n (i := 1) (by decide +kernel) rfl ?_
  refine s_callV (Fc := fZ_charge) (index := 36) (ci := 4) (as := [aI p2]) (rest := [aI 0, aR 79]) rfl h rfl rfl (by decide) rfl ⟨g_426, hZ_charge, g_1, by decide, (show (parseMethodDescriptor fZ_charge.1.desc).map (fun d => d.parameters.length) = some 1 from by decide +kernel), by decide, by decide, by decide, by decide⟩ g_427 g_428 rfl rfl (Nat.le_of_ble_eq_true rfl) (by decide +kernel) (q_cI (fun b2 M1 h3 => ?_) (fun X4 M1 h3 => ?_))
  · skip
    refine s_i2l (by decide +kernel) ?_
    obtain ⟨j5, e6, e7, h8⟩ := h3
    refine s_last (j := j5) rfl e6 e7 (by decide +kernel) ?_
    refine s_goto (off := 9) (tgt := 18) (by decide +kernel) (by decide) ?_
    refine s_iconst (n := 0) (by decide +kernel) ?_
    exact s_iret rfl (by decide +kernel) (by decide) (by decide) h8
  · rcases h3 with ⟨rfl, h3⟩ | ⟨rfl, h3⟩
    · refine x_catch [] (0, 9, 12, 30) [(0, 9, 15, 15)] rfl (fun n =>  "") (fun z hz => nomatch hz) (by decide) (by decide) g_377 (by decide) (fun q9 => ?_)
      refine s_astoreX_n (i := 3) (by decide +kernel) (by decide) ?_
      refine s_iconst (n := 1) (by decide +kernel) ?_
      exact s_iret rfl (by decide +kernel) (by decide) (by decide) h3
    · refine x_catch [(0, 9, 12, 30)] (0, 9, 15, 15) [] rfl (fun n => if n = 30 then "java/lang/IndexOutOfBoundsException" else "") (by intro z hz; rcases List.mem_cons.mp hz with rfl | hz; exact ⟨by decide, g_377, by decide⟩; exact nomatch hz) (by decide) (by decide) g_243 (by decide) (fun q9 => ?_)
      refine s_astoreX_n (i := 3) (by decide +kernel) (by decide) ?_
      refine s_iconst (n := 2) (by decide +kernel) ?_
      exact s_iret rfl (by decide +kernel) (by decide) (by decide) h3

set_option maxRecDepth 20000 in
theorem BL_canStep_0 {K : KX} {Q : Res → AG → AM → Prop} {M : AM} (p2 : Int)
    (h : MetA K fZ_canStep [aR 0, aI p2] GG M (cI GG (fun b2 M1 => (wr b2 = 0 → ∃ j7 : Nat, wr 0 = (j7 : Int) ∧ j7 < 1 ∧ (Q (.inl (some (aI 0))) GG (um M1 79 j7 0))) ∧ (¬ wr b2 = 0 → ∃ j12 : Nat, wr 0 = (j12 : Int) ∧ j12 < 1 ∧ (Q (.inl (some (aI 0))) GG (um M1 79 j12 1)))) (fun X4 M1 => (X4 = "java/lang/IndexOutOfBoundsException" ∧ (Q (.inl (some (aI 1))) GG M1))))) :
    WM K fL_canStep (EM K fL_canStep 80 Q) 0 [some (aR 0), some (aI p2), some (aR 79), none] [] GG M 0 0 := by
  refine s_aload_n (i := 2) (by decide +kernel) rfl ?_
  refine s_iconst (n := 0) (by decide +kernel) ?_
  refine s_aload_n (i := 0) (by decide +kernel) rfl ?_
  refine s_iload_n (i := 1) (by decide +kernel) rfl ?_
  refine s_callV (Fc := fZ_canStep) (index := 39) (ci := 4) (as := [aI p2]) (rest := [aI 0, aR 79]) rfl h rfl rfl (by decide) rfl ⟨g_435, hZ_canStep, g_1, by decide, (show (parseMethodDescriptor fZ_canStep.1.desc).map (fun d => d.parameters.length) = some 1 from by decide +kernel), by decide, by decide, by decide, by decide⟩ g_436 g_437 rfl rfl (Nat.le_of_ble_eq_true rfl) (by decide +kernel) (q_cI (fun b2 M1 h3 => ?_) (fun X4 M1 h3 => ?_))
  · skip
    refine s_if_eq (off := 7) (tgt := 14) (by decide +kernel) (by decide) (fun c5 => ?_) (fun c5 => ?_)
    · have h6 := h3.1 c5
      refine s_lconst (n := 0) (z := 0) (by decide +kernel) (by decide) ?_
      obtain ⟨j7, e8, e9, h10⟩ := h6
      refine s_last (j := j7) rfl e8 e9 (by decide +kernel) ?_
      refine s_goto (off := 6) (tgt := 22) (by decide +kernel) (by decide) ?_
      refine s_iconst (n := 0) (by decide +kernel) ?_
      exact s_iret rfl (by decide +kernel) (by decide) (by decide) h10
    · have h11 := h3.2 c5
      refine s_lconst (n := 1) (z := 1) (by decide +kernel) (by decide) ?_
      refine s_goto (off := 4) (tgt := 15) (by decide +kernel) (by decide) ?_
      obtain ⟨j12, e13, e14, h15⟩ := h11
      refine s_last (j := j12) rfl e13 e14 (by decide +kernel) ?_
      refine s_goto (off := 6) (tgt := 22) (by decide +kernel) (by decide) ?_
      refine s_iconst (n := 0) (by decide +kernel) ?_
      exact s_iret rfl (by decide +kernel) (by decide) (by decide) h15
  · rcases h3 with ⟨rfl, h3⟩
    · refine x_catch [] (0, 16, 19, 30) [] rfl (fun n =>  "") (fun z hz => nomatch hz) (by decide) (by decide) g_377 (by decide) (fun q9 => ?_)
      refine s_astoreX_n (i := 3) (by decide +kernel) (by decide) ?_
      refine s_iconst (n := 1) (by decide +kernel) ?_
      exact s_iret rfl (by decide +kernel) (by decide) (by decide) h3

set_option maxRecDepth 20000 in
theorem BL_step_0 {K : KX} {Q : Res → AG → AM → Prop} {M : AM} (p2 : Int)
    (h : MetA K fZ_step [aR 0, aI p2] GG M (cI GG (fun b2 M1 => ∃ j5 : Nat, wr 0 = (j5 : Int) ∧ j5 < 1 ∧ (Q (.inl (some (aI 0))) GG (um M1 79 j5 (wr b2)))) (fun X4 M1 => (X4 = "java/lang/IndexOutOfBoundsException" ∧ (Q (.inl (some (aI 1))) GG M1)) ∨ (X4 = "java/lang/IllegalStateException" ∧ (Q (.inl (some (aI 2))) GG M1))))) :
    WM K fL_step (EM K fL_step 80 Q) 0 [some (aR 0), some (aI p2), some (aR 79), none] [] GG M 0 0 := by
  refine s_aload_n (i := 2) (by decide +kernel) rfl ?_
  refine s_iconst (n := 0) (by decide +kernel) ?_
  refine s_aload_n (i := 0) (by decide +kernel) rfl ?_
  refine s_iload_n (i := 1) (by decide +kernel) rfl ?_
  refine s_callV (Fc := fZ_step) (index := 43) (ci := 4) (as := [aI p2]) (rest := [aI 0, aR 79]) rfl h rfl rfl (by decide) rfl ⟨g_450, hZ_step, g_1, by decide, (show (parseMethodDescriptor fZ_step.1.desc).map (fun d => d.parameters.length) = some 1 from by decide +kernel), by decide, by decide, by decide, by decide⟩ g_451 g_452 rfl rfl (Nat.le_of_ble_eq_true rfl) (by decide +kernel) (q_cI (fun b2 M1 h3 => ?_) (fun X4 M1 h3 => ?_))
  · skip
    refine s_i2l (by decide +kernel) ?_
    obtain ⟨j5, e6, e7, h8⟩ := h3
    refine s_last (j := j5) rfl e6 e7 (by decide +kernel) ?_
    refine s_goto (off := 9) (tgt := 18) (by decide +kernel) (by decide) ?_
    refine s_iconst (n := 0) (by decide +kernel) ?_
    exact s_iret rfl (by decide +kernel) (by decide) (by decide) h8
  · rcases h3 with ⟨rfl, h3⟩ | ⟨rfl, h3⟩
    · refine x_catch [] (0, 9, 12, 30) [(0, 9, 15, 15)] rfl (fun n =>  "") (fun z hz => nomatch hz) (by decide) (by decide) g_377 (by decide) (fun q9 => ?_)
      refine s_astoreX_n (i := 3) (by decide +kernel) (by decide) ?_
      refine s_iconst (n := 1) (by decide +kernel) ?_
      exact s_iret rfl (by decide +kernel) (by decide) (by decide) h3
    · refine x_catch [(0, 9, 12, 30)] (0, 9, 15, 15) [] rfl (fun n => if n = 30 then "java/lang/IndexOutOfBoundsException" else "") (by intro z hz; rcases List.mem_cons.mp hz with rfl | hz; exact ⟨by decide, g_377, by decide⟩; exact nomatch hz) (by decide) (by decide) g_243 (by decide) (fun q9 => ?_)
      refine s_astoreX_n (i := 3) (by decide +kernel) (by decide) ?_
      refine s_iconst (n := 2) (by decide +kernel) ?_
      exact s_iret rfl (by decide +kernel) (by decide) (by decide) h3

set_option maxRecDepth 20000 in
theorem BL_tick_0 {K : KX} {Q : Res → AG → AM → Prop} {M : AM} (p2 : Int)
    (h : MetA K fZ_tick [aR 0, aI p2] GG M (cI GG (fun b2 M1 => ∃ j5 : Nat, wr 0 = (j5 : Int) ∧ j5 < 1 ∧ (Q (.inl (some (aI 0))) GG (um M1 79 j5 (wr b2)))) (fun X4 M1 => (X4 = "java/lang/IllegalArgumentException" ∧ (Q (.inl (some (aI 1))) GG M1))))) :
    WM K fL_tick (EM K fL_tick 80 Q) 0 [some (aR 0), some (aI p2), some (aR 79), none] [] GG M 0 0 := by
  refine s_aload_n (i := 2) (by decide +kernel) rfl ?_
  refine s_iconst (n := 0) (by decide +kernel) ?_
  refine s_aload_n (i := 0) (by decide +kernel) rfl ?_
  refine s_iload_n (i := 1) (by decide +kernel) rfl ?_
  refine s_callV (Fc := fZ_tick) (index := 46) (ci := 4) (as := [aI p2]) (rest := [aI 0, aR 79]) rfl h rfl rfl (by decide) rfl ⟨g_467, hZ_tick, g_1, by decide, (show (parseMethodDescriptor fZ_tick.1.desc).map (fun d => d.parameters.length) = some 1 from by decide +kernel), by decide, by decide, by decide, by decide⟩ g_468 g_469 rfl rfl (Nat.le_of_ble_eq_true rfl) (by decide +kernel) (q_cI (fun b2 M1 h3 => ?_) (fun X4 M1 h3 => ?_))
  · skip
    refine s_i2l (by decide +kernel) ?_
    obtain ⟨j5, e6, e7, h8⟩ := h3
    refine s_last (j := j5) rfl e6 e7 (by decide +kernel) ?_
    refine s_goto (off := 6) (tgt := 15) (by decide +kernel) (by decide) ?_
    refine s_iconst (n := 0) (by decide +kernel) ?_
    exact s_iret rfl (by decide +kernel) (by decide) (by decide) h8
  · rcases h3 with ⟨rfl, h3⟩
    · refine x_catch [] (0, 9, 12, 13) [] rfl (fun n =>  "") (fun z hz => nomatch hz) (by decide) (by decide) g_242 (by decide) (fun q9 => ?_)
      refine s_astoreX_n (i := 3) (by decide +kernel) (by decide) ?_
      refine s_iconst (n := 1) (by decide +kernel) ?_
      exact s_iret rfl (by decide +kernel) (by decide) (by decide) h3

set_option maxRecDepth 20000 in
theorem BL_addJob_0 {K : KX} {Q : Res → AG → AM → Prop} {M : AM} (p2 : Int)
    (h : MetA K fZ_addJob [aR 0, aI p2] GG M (cI GG (fun b2 M1 => ∃ j5 : Nat, wr 0 = (j5 : Int) ∧ j5 < 1 ∧ (Q (.inl (some (aI 0))) GG (um M1 79 j5 (wr b2)))) (fun X4 M1 => (X4 = "java/lang/IllegalArgumentException" ∧ (Q (.inl (some (aI 1))) GG M1)) ∨ (X4 = "java/lang/IllegalStateException" ∧ (Q (.inl (some (aI 2))) GG M1))))) :
    WM K fL_addJob (EM K fL_addJob 80 Q) 0 [some (aR 0), some (aI p2), some (aR 79), none] [] GG M 0 0 := by
  refine s_aload_n (i := 2) (by decide +kernel) rfl ?_
  refine s_iconst (n := 0) (by decide +kernel) ?_
  refine s_aload_n (i := 0) (by decide +kernel) rfl ?_
  refine s_iload_n (i := 1) (by decide +kernel) rfl ?_
  refine s_callV (Fc := fZ_addJob) (index := 49) (ci := 4) (as := [aI p2]) (rest := [aI 0, aR 79]) rfl h rfl rfl (by decide) rfl ⟨g_479, hZ_addJob, g_1, by decide, (show (parseMethodDescriptor fZ_addJob.1.desc).map (fun d => d.parameters.length) = some 1 from by decide +kernel), by decide, by decide, by decide, by decide⟩ g_480 g_481 rfl rfl (Nat.le_of_ble_eq_true rfl) (by decide +kernel) (q_cI (fun b2 M1 h3 => ?_) (fun X4 M1 h3 => ?_))
  · skip
    refine s_i2l (by decide +kernel) ?_
    obtain ⟨j5, e6, e7, h8⟩ := h3
    refine s_last (j := j5) rfl e6 e7 (by decide +kernel) ?_
    refine s_goto (off := 9) (tgt := 18) (by decide +kernel) (by decide) ?_
    refine s_iconst (n := 0) (by decide +kernel) ?_
    exact s_iret rfl (by decide +kernel) (by decide) (by decide) h8
  · rcases h3 with ⟨rfl, h3⟩ | ⟨rfl, h3⟩
    · refine x_catch [] (0, 9, 12, 13) [(0, 9, 15, 15)] rfl (fun n =>  "") (fun z hz => nomatch hz) (by decide) (by decide) g_242 (by decide) (fun q9 => ?_)
      refine s_astoreX_n (i := 3) (by decide +kernel) (by decide) ?_
      refine s_iconst (n := 1) (by decide +kernel) ?_
      exact s_iret rfl (by decide +kernel) (by decide) (by decide) h3
    · refine x_catch [(0, 9, 12, 13)] (0, 9, 15, 15) [] rfl (fun n => if n = 13 then "java/lang/IllegalArgumentException" else "") (by intro z hz; rcases List.mem_cons.mp hz with rfl | hz; exact ⟨by decide, g_242, by decide⟩; exact nomatch hz) (by decide) (by decide) g_243 (by decide) (fun q9 => ?_)
      refine s_astoreX_n (i := 3) (by decide +kernel) (by decide) ?_
      refine s_iconst (n := 2) (by decide +kernel) ?_
      exact s_iret rfl (by decide +kernel) (by decide) (by decide) h3

set_option maxRecDepth 20000 in
theorem BL_jobState_0 {K : KX} {Q : Res → AG → AM → Prop} {M : AM} (p2 : Int)
    (h : MetA K fZ_jobState [aR 0, aI p2] GG M (cI GG (fun b2 M1 => ∃ j5 : Nat, wr 0 = (j5 : Int) ∧ j5 < 1 ∧ (Q (.inl (some (aI 0))) GG (um M1 79 j5 (wr b2)))) (fun X4 M1 => (X4 = "java/lang/IndexOutOfBoundsException" ∧ (Q (.inl (some (aI 1))) GG M1))))) :
    WM K fL_jobState (EM K fL_jobState 80 Q) 0 [some (aR 0), some (aI p2), some (aR 79), none] [] GG M 0 0 := by
  refine s_aload_n (i := 2) (by decide +kernel) rfl ?_
  refine s_iconst (n := 0) (by decide +kernel) ?_
  refine s_aload_n (i := 0) (by decide +kernel) rfl ?_
  refine s_iload_n (i := 1) (by decide +kernel) rfl ?_
  refine s_callV (Fc := fZ_jobState) (index := 52) (ci := 4) (as := [aI p2]) (rest := [aI 0, aR 79]) rfl h rfl rfl (by decide) rfl ⟨g_487, hZ_jobState, g_1, by decide, (show (parseMethodDescriptor fZ_jobState.1.desc).map (fun d => d.parameters.length) = some 1 from by decide +kernel), by decide, by decide, by decide, by decide⟩ g_488 g_489 rfl rfl (Nat.le_of_ble_eq_true rfl) (by decide +kernel) (q_cI (fun b2 M1 h3 => ?_) (fun X4 M1 h3 => ?_))
  · skip
    refine s_i2l (by decide +kernel) ?_
    obtain ⟨j5, e6, e7, h8⟩ := h3
    refine s_last (j := j5) rfl e6 e7 (by decide +kernel) ?_
    refine s_goto (off := 6) (tgt := 15) (by decide +kernel) (by decide) ?_
    refine s_iconst (n := 0) (by decide +kernel) ?_
    exact s_iret rfl (by decide +kernel) (by decide) (by decide) h8
  · rcases h3 with ⟨rfl, h3⟩
    · refine x_catch [] (0, 9, 12, 30) [] rfl (fun n =>  "") (fun z hz => nomatch hz) (by decide) (by decide) g_377 (by decide) (fun q9 => ?_)
      refine s_astoreX_n (i := 3) (by decide +kernel) (by decide) ?_
      refine s_iconst (n := 1) (by decide +kernel) ?_
      exact s_iret rfl (by decide +kernel) (by decide) (by decide) h3

set_option maxRecDepth 20000 in
theorem BL_jobVehicle_0 {K : KX} {Q : Res → AG → AM → Prop} {M : AM} (p2 : Int)
    (h : MetA K fZ_jobVehicle [aR 0, aI p2] GG M (cI GG (fun b2 M1 => ∃ j5 : Nat, wr 0 = (j5 : Int) ∧ j5 < 1 ∧ (Q (.inl (some (aI 0))) GG (um M1 79 j5 (wr b2)))) (fun X4 M1 => (X4 = "java/lang/IndexOutOfBoundsException" ∧ (Q (.inl (some (aI 1))) GG M1))))) :
    WM K fL_jobVehicle (EM K fL_jobVehicle 80 Q) 0 [some (aR 0), some (aI p2), some (aR 79), none] [] GG M 0 0 := by
  refine s_aload_n (i := 2) (by decide +kernel) rfl ?_
  refine s_iconst (n := 0) (by decide +kernel) ?_
  refine s_aload_n (i := 0) (by decide +kernel) rfl ?_
  refine s_iload_n (i := 1) (by decide +kernel) rfl ?_
  refine s_callV (Fc := fZ_jobVehicle) (index := 55) (ci := 4) (as := [aI p2]) (rest := [aI 0, aR 79]) rfl h rfl rfl (by decide) rfl ⟨g_499, hZ_jobVehicle, g_1, by decide, (show (parseMethodDescriptor fZ_jobVehicle.1.desc).map (fun d => d.parameters.length) = some 1 from by decide +kernel), by decide, by decide, by decide, by decide⟩ g_500 g_501 rfl rfl (Nat.le_of_ble_eq_true rfl) (by decide +kernel) (q_cI (fun b2 M1 h3 => ?_) (fun X4 M1 h3 => ?_))
  · skip
    refine s_i2l (by decide +kernel) ?_
    obtain ⟨j5, e6, e7, h8⟩ := h3
    refine s_last (j := j5) rfl e6 e7 (by decide +kernel) ?_
    refine s_goto (off := 6) (tgt := 15) (by decide +kernel) (by decide) ?_
    refine s_iconst (n := 0) (by decide +kernel) ?_
    exact s_iret rfl (by decide +kernel) (by decide) (by decide) h8
  · rcases h3 with ⟨rfl, h3⟩
    · refine x_catch [] (0, 9, 12, 30) [] rfl (fun n =>  "") (fun z hz => nomatch hz) (by decide) (by decide) g_377 (by decide) (fun q9 => ?_)
      refine s_astoreX_n (i := 3) (by decide +kernel) (by decide) ?_
      refine s_iconst (n := 1) (by decide +kernel) ?_
      exact s_iret rfl (by decide +kernel) (by decide) (by decide) h3

set_option maxRecDepth 20000 in
theorem BL_regret_0 {K : KX} {Q : Res → AG → AM → Prop} {M : AM} (p2 : Int)
    (h : MetA K fZ_regret [aR 0, aI p2] GG M (cI GG (fun b2 M1 => ∃ j5 : Nat, wr 0 = (j5 : Int) ∧ j5 < 1 ∧ (Q (.inl (some (aI 0))) GG (um M1 79 j5 (wr b2)))) (fun X4 M1 => (X4 = "java/lang/IndexOutOfBoundsException" ∧ (Q (.inl (some (aI 1))) GG M1))))) :
    WM K fL_regret (EM K fL_regret 80 Q) 0 [some (aR 0), some (aI p2), some (aR 79), none] [] GG M 0 0 := by
  refine s_aload_n (i := 2) (by decide +kernel) rfl ?_
  refine s_iconst (n := 0) (by decide +kernel) ?_
  refine s_aload_n (i := 0) (by decide +kernel) rfl ?_
  refine s_iload_n (i := 1) (by decide +kernel) rfl ?_
  refine s_callV (Fc := fZ_regret) (index := 58) (ci := 4) (as := [aI p2]) (rest := [aI 0, aR 79]) rfl h rfl rfl (by decide) rfl ⟨g_506, hZ_regret, g_1, by decide, (show (parseMethodDescriptor fZ_regret.1.desc).map (fun d => d.parameters.length) = some 1 from by decide +kernel), by decide, by decide, by decide, by decide⟩ g_507 g_508 rfl rfl (Nat.le_of_ble_eq_true rfl) (by decide +kernel) (q_cI (fun b2 M1 h3 => ?_) (fun X4 M1 h3 => ?_))
  · skip
    refine s_i2l (by decide +kernel) ?_
    obtain ⟨j5, e6, e7, h8⟩ := h3
    refine s_last (j := j5) rfl e6 e7 (by decide +kernel) ?_
    refine s_goto (off := 6) (tgt := 15) (by decide +kernel) (by decide) ?_
    refine s_iconst (n := 0) (by decide +kernel) ?_
    exact s_iret rfl (by decide +kernel) (by decide) (by decide) h8
  · rcases h3 with ⟨rfl, h3⟩
    · refine x_catch [] (0, 9, 12, 30) [] rfl (fun n =>  "") (fun z hz => nomatch hz) (by decide) (by decide) g_377 (by decide) (fun q9 => ?_)
      refine s_astoreX_n (i := 3) (by decide +kernel) (by decide) ?_
      refine s_iconst (n := 1) (by decide +kernel) ?_
      exact s_iret rfl (by decide +kernel) (by decide) (by decide) h3

set_option maxRecDepth 20000 in
theorem BL_zoneOf_0 {K : KX} {Q : Res → AG → AM → Prop} {M : AM} (p2 : Int)
    (h : MetA K fZ_zoneOf [aR 0, aI p2] GG M (cI GG (fun b2 M1 => ∃ j5 : Nat, wr 0 = (j5 : Int) ∧ j5 < 1 ∧ (Q (.inl (some (aI 0))) GG (um M1 79 j5 (wr b2)))) (fun X4 M1 => (X4 = "java/lang/IndexOutOfBoundsException" ∧ (Q (.inl (some (aI 1))) GG M1))))) :
    WM K fL_zoneOf (EM K fL_zoneOf 80 Q) 0 [some (aR 0), some (aI p2), some (aR 79), none] [] GG M 0 0 := by
  refine s_aload_n (i := 2) (by decide +kernel) rfl ?_
  refine s_iconst (n := 0) (by decide +kernel) ?_
  refine s_aload_n (i := 0) (by decide +kernel) rfl ?_
  refine s_iload_n (i := 1) (by decide +kernel) rfl ?_
  refine s_callV (Fc := fZ_zoneOf) (index := 61) (ci := 4) (as := [aI p2]) (rest := [aI 0, aR 79]) rfl h rfl rfl (by decide) rfl ⟨g_513, hZ_zoneOf, g_1, by decide, (show (parseMethodDescriptor fZ_zoneOf.1.desc).map (fun d => d.parameters.length) = some 1 from by decide +kernel), by decide, by decide, by decide, by decide⟩ g_514 g_515 rfl rfl (Nat.le_of_ble_eq_true rfl) (by decide +kernel) (q_cI (fun b2 M1 h3 => ?_) (fun X4 M1 h3 => ?_))
  · skip
    refine s_i2l (by decide +kernel) ?_
    obtain ⟨j5, e6, e7, h8⟩ := h3
    refine s_last (j := j5) rfl e6 e7 (by decide +kernel) ?_
    refine s_goto (off := 6) (tgt := 15) (by decide +kernel) (by decide) ?_
    refine s_iconst (n := 0) (by decide +kernel) ?_
    exact s_iret rfl (by decide +kernel) (by decide) (by decide) h8
  · rcases h3 with ⟨rfl, h3⟩
    · refine x_catch [] (0, 9, 12, 30) [] rfl (fun n =>  "") (fun z hz => nomatch hz) (by decide) (by decide) g_377 (by decide) (fun q9 => ?_)
      refine s_astoreX_n (i := 3) (by decide +kernel) (by decide) ?_
      refine s_iconst (n := 1) (by decide +kernel) ?_
      exact s_iret rfl (by decide +kernel) (by decide) (by decide) h3

set_option maxRecDepth 20000 in
theorem BL_vehicleIn_0 {K : KX} {Q : Res → AG → AM → Prop} {M : AM} (p2 : Int)
    (h : MetA K fZ_vehicleIn [aR 0, aI p2] GG M (cI GG (fun b2 M1 => ∃ j5 : Nat, wr 0 = (j5 : Int) ∧ j5 < 1 ∧ (Q (.inl (some (aI 0))) GG (um M1 79 j5 (wr b2)))) (fun X4 M1 => (X4 = "java/lang/IllegalArgumentException" ∧ (Q (.inl (some (aI 1))) GG M1))))) :
    WM K fL_vehicleIn (EM K fL_vehicleIn 80 Q) 0 [some (aR 0), some (aI p2), some (aR 79), none] [] GG M 0 0 := by
  refine s_aload_n (i := 2) (by decide +kernel) rfl ?_
  refine s_iconst (n := 0) (by decide +kernel) ?_
  refine s_aload_n (i := 0) (by decide +kernel) rfl ?_
  refine s_iload_n (i := 1) (by decide +kernel) rfl ?_
  refine s_callV (Fc := fZ_vehicleIn) (index := 64) (ci := 4) (as := [aI p2]) (rest := [aI 0, aR 79]) rfl h rfl rfl (by decide) rfl ⟨g_520, hZ_vehicleIn, g_1, by decide, (show (parseMethodDescriptor fZ_vehicleIn.1.desc).map (fun d => d.parameters.length) = some 1 from by decide +kernel), by decide, by decide, by decide, by decide⟩ g_521 g_522 rfl rfl (Nat.le_of_ble_eq_true rfl) (by decide +kernel) (q_cI (fun b2 M1 h3 => ?_) (fun X4 M1 h3 => ?_))
  · skip
    refine s_i2l (by decide +kernel) ?_
    obtain ⟨j5, e6, e7, h8⟩ := h3
    refine s_last (j := j5) rfl e6 e7 (by decide +kernel) ?_
    refine s_goto (off := 6) (tgt := 15) (by decide +kernel) (by decide) ?_
    refine s_iconst (n := 0) (by decide +kernel) ?_
    exact s_iret rfl (by decide +kernel) (by decide) (by decide) h8
  · rcases h3 with ⟨rfl, h3⟩
    · refine x_catch [] (0, 9, 12, 13) [] rfl (fun n =>  "") (fun z hz => nomatch hz) (by decide) (by decide) g_242 (by decide) (fun q9 => ?_)
      refine s_astoreX_n (i := 3) (by decide +kernel) (by decide) ?_
      refine s_iconst (n := 1) (by decide +kernel) ?_
      exact s_iret rfl (by decide +kernel) (by decide) (by decide) h3

set_option maxRecDepth 20000 in
theorem BL_routeLength_0 {K : KX} {Q : Res → AG → AM → Prop} {M : AM} (p2 : Int)
    (h : MetA K fZ_routeLength [aR 0, aI p2] GG M (cI GG (fun b2 M1 => ∃ j5 : Nat, wr 0 = (j5 : Int) ∧ j5 < 1 ∧ (Q (.inl (some (aI 0))) GG (um M1 79 j5 (wr b2)))) (fun X4 M1 => (X4 = "java/lang/IndexOutOfBoundsException" ∧ (Q (.inl (some (aI 1))) GG M1))))) :
    WM K fL_routeLength (EM K fL_routeLength 80 Q) 0 [some (aR 0), some (aI p2), some (aR 79), none] [] GG M 0 0 := by
  refine s_aload_n (i := 2) (by decide +kernel) rfl ?_
  refine s_iconst (n := 0) (by decide +kernel) ?_
  refine s_aload_n (i := 0) (by decide +kernel) rfl ?_
  refine s_iload_n (i := 1) (by decide +kernel) rfl ?_
  refine s_callV (Fc := fZ_routeLength) (index := 67) (ci := 4) (as := [aI p2]) (rest := [aI 0, aR 79]) rfl h rfl rfl (by decide) rfl ⟨g_527, hZ_routeLength, g_1, by decide, (show (parseMethodDescriptor fZ_routeLength.1.desc).map (fun d => d.parameters.length) = some 1 from by decide +kernel), by decide, by decide, by decide, by decide⟩ g_528 g_529 rfl rfl (Nat.le_of_ble_eq_true rfl) (by decide +kernel) (q_cI (fun b2 M1 h3 => ?_) (fun X4 M1 h3 => ?_))
  · skip
    refine s_i2l (by decide +kernel) ?_
    obtain ⟨j5, e6, e7, h8⟩ := h3
    refine s_last (j := j5) rfl e6 e7 (by decide +kernel) ?_
    refine s_goto (off := 6) (tgt := 15) (by decide +kernel) (by decide) ?_
    refine s_iconst (n := 0) (by decide +kernel) ?_
    exact s_iret rfl (by decide +kernel) (by decide) (by decide) h8
  · rcases h3 with ⟨rfl, h3⟩
    · refine x_catch [] (0, 9, 12, 30) [] rfl (fun n =>  "") (fun z hz => nomatch hz) (by decide) (by decide) g_377 (by decide) (fun q9 => ?_)
      refine s_astoreX_n (i := 3) (by decide +kernel) (by decide) ?_
      refine s_iconst (n := 1) (by decide +kernel) ?_
      exact s_iret rfl (by decide +kernel) (by decide) (by decide) h3

set_option maxRecDepth 20000 in
theorem BL_routeZone_0 {K : KX} {Q : Res → AG → AM → Prop} {M : AM} (p2 p3 : Int)
    (h : MetA K fZ_routeZone [aR 0, aI p2, aI p3] GG M (cI GG (fun b2 M1 => ∃ j5 : Nat, wr 0 = (j5 : Int) ∧ j5 < 1 ∧ (Q (.inl (some (aI 0))) GG (um M1 79 j5 (wr b2)))) (fun X4 M1 => (X4 = "java/lang/IndexOutOfBoundsException" ∧ (Q (.inl (some (aI 1))) GG M1)) ∨ (X4 = "java/lang/IllegalArgumentException" ∧ (Q (.inl (some (aI 2))) GG M1))))) :
    WM K fL_routeZone (EM K fL_routeZone 80 Q) 0 [some (aR 0), some (aI p2), some (aI p3), some (aR 79), none] [] GG M 0 0 := by
  refine s_aload_n (i := 3) (by decide +kernel) rfl ?_
  refine s_iconst (n := 0) (by decide +kernel) ?_
  refine s_aload_n (i := 0) (by decide +kernel) rfl ?_
  refine s_iload_n (i := 1) (by decide +kernel) rfl ?_
  refine s_iload_n (i := 2) (by decide +kernel) rfl ?_
  refine s_callV (Fc := fZ_routeZone) (index := 70) (ci := 4) (as := [aI p2, aI p3]) (rest := [aI 0, aR 79]) rfl h rfl rfl (by decide) rfl ⟨g_534, hZ_routeZone, g_1, by decide, (show (parseMethodDescriptor fZ_routeZone.1.desc).map (fun d => d.parameters.length) = some 2 from by decide +kernel), by decide, by decide, by decide, by decide⟩ g_535 g_536 rfl rfl (Nat.le_of_ble_eq_true rfl) (by decide +kernel) (q_cI (fun b2 M1 h3 => ?_) (fun X4 M1 h3 => ?_))
  · skip
    refine s_i2l (by decide +kernel) ?_
    obtain ⟨j5, e6, e7, h8⟩ := h3
    refine s_last (j := j5) rfl e6 e7 (by decide +kernel) ?_
    refine s_goto (off := 11) (tgt := 21) (by decide +kernel) (by decide) ?_
    refine s_iconst (n := 0) (by decide +kernel) ?_
    exact s_iret rfl (by decide +kernel) (by decide) (by decide) h8
  · rcases h3 with ⟨rfl, h3⟩ | ⟨rfl, h3⟩
    · refine x_catch [] (0, 10, 13, 30) [(0, 10, 17, 13)] rfl (fun n =>  "") (fun z hz => nomatch hz) (by decide) (by decide) g_377 (by decide) (fun q9 => ?_)
      refine s_astoreX (i := 4) (by decide +kernel) (by decide) ?_
      refine s_iconst (n := 1) (by decide +kernel) ?_
      exact s_iret rfl (by decide +kernel) (by decide) (by decide) h3
    · refine x_catch [(0, 10, 13, 30)] (0, 10, 17, 13) [] rfl (fun n => if n = 30 then "java/lang/IndexOutOfBoundsException" else "") (by intro z hz; rcases List.mem_cons.mp hz with rfl | hz; exact ⟨by decide, g_377, by decide⟩; exact nomatch hz) (by decide) (by decide) g_242 (by decide) (fun q9 => ?_)
      refine s_astoreX (i := 4) (by decide +kernel) (by decide) ?_
      refine s_iconst (n := 2) (by decide +kernel) ?_
      exact s_iret rfl (by decide +kernel) (by decide) (by decide) h3

set_option maxRecDepth 20000 in
theorem BL_energy_0 {K : KX} {Q : Res → AG → AM → Prop} {M : AM} (p2 : Int)
    (h : MetA K fZ_energy [aR 0, aI p2] GG M (cI GG (fun b2 M1 => ∃ j5 : Nat, wr 0 = (j5 : Int) ∧ j5 < 1 ∧ (Q (.inl (some (aI 0))) GG (um M1 79 j5 (wr b2)))) (fun X4 M1 => (X4 = "java/lang/IndexOutOfBoundsException" ∧ (Q (.inl (some (aI 1))) GG M1))))) :
    WM K fL_energy (EM K fL_energy 80 Q) 0 [some (aR 0), some (aI p2), some (aR 79), none] [] GG M 0 0 := by
  refine s_aload_n (i := 2) (by decide +kernel) rfl ?_
  refine s_iconst (n := 0) (by decide +kernel) ?_
  refine s_aload_n (i := 0) (by decide +kernel) rfl ?_
  refine s_iload_n (i := 1) (by decide +kernel) rfl ?_
  refine s_callV (Fc := fZ_energy) (index := 73) (ci := 4) (as := [aI p2]) (rest := [aI 0, aR 79]) rfl h rfl rfl (by decide) rfl ⟨g_542, hZ_energy, g_1, by decide, (show (parseMethodDescriptor fZ_energy.1.desc).map (fun d => d.parameters.length) = some 1 from by decide +kernel), by decide, by decide, by decide, by decide⟩ g_543 g_544 rfl rfl (Nat.le_of_ble_eq_true rfl) (by decide +kernel) (q_cI (fun b2 M1 h3 => ?_) (fun X4 M1 h3 => ?_))
  · skip
    refine s_i2l (by decide +kernel) ?_
    obtain ⟨j5, e6, e7, h8⟩ := h3
    refine s_last (j := j5) rfl e6 e7 (by decide +kernel) ?_
    refine s_goto (off := 6) (tgt := 15) (by decide +kernel) (by decide) ?_
    refine s_iconst (n := 0) (by decide +kernel) ?_
    exact s_iret rfl (by decide +kernel) (by decide) (by decide) h8
  · rcases h3 with ⟨rfl, h3⟩
    · refine x_catch [] (0, 9, 12, 30) [] rfl (fun n =>  "") (fun z hz => nomatch hz) (by decide) (by decide) g_377 (by decide) (fun q9 => ?_)
      refine s_astoreX_n (i := 3) (by decide +kernel) (by decide) ?_
      refine s_iconst (n := 1) (by decide +kernel) ?_
      exact s_iret rfl (by decide +kernel) (by decide) (by decide) h3

set_option maxRecDepth 20000 in
theorem BL_waited_0 {K : KX} {Q : Res → AG → AM → Prop} {M : AM} (p2 : Int)
    (h : MetA K fZ_waited [aR 0, aI p2] GG M (cI GG (fun b2 M1 => ∃ j5 : Nat, wr 0 = (j5 : Int) ∧ j5 < 1 ∧ (Q (.inl (some (aI 0))) GG (um M1 79 j5 (wr b2)))) (fun X4 M1 => (X4 = "java/lang/IndexOutOfBoundsException" ∧ (Q (.inl (some (aI 1))) GG M1))))) :
    WM K fL_waited (EM K fL_waited 80 Q) 0 [some (aR 0), some (aI p2), some (aR 79), none] [] GG M 0 0 := by
  refine s_aload_n (i := 2) (by decide +kernel) rfl ?_
  refine s_iconst (n := 0) (by decide +kernel) ?_
  refine s_aload_n (i := 0) (by decide +kernel) rfl ?_
  refine s_iload_n (i := 1) (by decide +kernel) rfl ?_
  refine s_callV (Fc := fZ_waited) (index := 76) (ci := 4) (as := [aI p2]) (rest := [aI 0, aR 79]) rfl h rfl rfl (by decide) rfl ⟨g_549, hZ_waited, g_1, by decide, (show (parseMethodDescriptor fZ_waited.1.desc).map (fun d => d.parameters.length) = some 1 from by decide +kernel), by decide, by decide, by decide, by decide⟩ g_550 g_551 rfl rfl (Nat.le_of_ble_eq_true rfl) (by decide +kernel) (q_cI (fun b2 M1 h3 => ?_) (fun X4 M1 h3 => ?_))
  · skip
    refine s_i2l (by decide +kernel) ?_
    obtain ⟨j5, e6, e7, h8⟩ := h3
    refine s_last (j := j5) rfl e6 e7 (by decide +kernel) ?_
    refine s_goto (off := 6) (tgt := 15) (by decide +kernel) (by decide) ?_
    refine s_iconst (n := 0) (by decide +kernel) ?_
    exact s_iret rfl (by decide +kernel) (by decide) (by decide) h8
  · rcases h3 with ⟨rfl, h3⟩
    · refine x_catch [] (0, 9, 12, 30) [] rfl (fun n =>  "") (fun z hz => nomatch hz) (by decide) (by decide) g_377 (by decide) (fun q9 => ?_)
      refine s_astoreX_n (i := 3) (by decide +kernel) (by decide) ?_
      refine s_iconst (n := 1) (by decide +kernel) ?_
      exact s_iret rfl (by decide +kernel) (by decide) (by decide) h3

set_option maxRecDepth 20000 in
theorem BL_finisher_0 {K : KX} {Q : Res → AG → AM → Prop} {M : AM} (p2 : Int)
    (h : MetA K fZ_finisher [aR 0, aI p2] GG M (cI GG (fun b2 M1 => ∃ j5 : Nat, wr 0 = (j5 : Int) ∧ j5 < 1 ∧ (Q (.inl (some (aI 0))) GG (um M1 79 j5 (wr b2)))) (fun X4 M1 => (X4 = "java/lang/IllegalArgumentException" ∧ (Q (.inl (some (aI 1))) GG M1))))) :
    WM K fL_finisher (EM K fL_finisher 80 Q) 0 [some (aR 0), some (aI p2), some (aR 79), none] [] GG M 0 0 := by
  refine s_aload_n (i := 2) (by decide +kernel) rfl ?_
  refine s_iconst (n := 0) (by decide +kernel) ?_
  refine s_aload_n (i := 0) (by decide +kernel) rfl ?_
  refine s_iload_n (i := 1) (by decide +kernel) rfl ?_
  refine s_callV (Fc := fZ_finisher) (index := 79) (ci := 4) (as := [aI p2]) (rest := [aI 0, aR 79]) rfl h rfl rfl (by decide) rfl ⟨g_556, hZ_finisher, g_1, by decide, (show (parseMethodDescriptor fZ_finisher.1.desc).map (fun d => d.parameters.length) = some 1 from by decide +kernel), by decide, by decide, by decide, by decide⟩ g_557 g_558 rfl rfl (Nat.le_of_ble_eq_true rfl) (by decide +kernel) (q_cI (fun b2 M1 h3 => ?_) (fun X4 M1 h3 => ?_))
  · skip
    refine s_i2l (by decide +kernel) ?_
    obtain ⟨j5, e6, e7, h8⟩ := h3
    refine s_last (j := j5) rfl e6 e7 (by decide +kernel) ?_
    refine s_goto (off := 6) (tgt := 15) (by decide +kernel) (by decide) ?_
    refine s_iconst (n := 0) (by decide +kernel) ?_
    exact s_iret rfl (by decide +kernel) (by decide) (by decide) h8
  · rcases h3 with ⟨rfl, h3⟩
    · refine x_catch [] (0, 9, 12, 13) [] rfl (fun n =>  "") (fun z hz => nomatch hz) (by decide) (by decide) g_242 (by decide) (fun q9 => ?_)
      refine s_astoreX_n (i := 3) (by decide +kernel) (by decide) ?_
      refine s_iconst (n := 1) (by decide +kernel) ?_
      exact s_iret rfl (by decide +kernel) (by decide) (by decide) h3

