/-! the methods' own words (printed by wip/whole/gen/gen09.py) -/
theorem hZ_init : hwd fZ_init ∈ gw := hwd_c (F := fZ_init) rfl g_18
theorem hZ_addLane : hwd fZ_addLane ∈ gw := hwd_c (F := fZ_addLane) rfl g_314
theorem hZ_setCharger : hwd fZ_setCharger ∈ gw := hwd_c (F := fZ_setCharger) rfl g_363
theorem hZ_distance : hwd fZ_distance ∈ gw := hwd_c (F := fZ_distance) rfl g_531
theorem hZ_addVehicle : hwd fZ_addVehicle ∈ gw := hwd_c (F := fZ_addVehicle) rfl g_370
theorem hZ_assign : hwd fZ_assign ∈ gw := hwd_c (F := fZ_assign) rfl g_390
theorem hZ_cancel : hwd fZ_cancel ∈ gw := hwd_c (F := fZ_cancel) rfl g_409
theorem hZ_charge : hwd fZ_charge ∈ gw := hwd_c (F := fZ_charge) rfl g_429
theorem hZ_canStep : hwd fZ_canStep ∈ gw := hwd_c (F := fZ_canStep) rfl g_560
theorem hZ_step : hwd fZ_step ∈ gw := hwd_c (F := fZ_step) rfl g_438
theorem hZ_tick : hwd fZ_tick ∈ gw := hwd_c (F := fZ_tick) rfl g_463
theorem hZ_addJob : hwd fZ_addJob ∈ gw := hwd_c (F := fZ_addJob) rfl g_475
theorem hZ_dispatch : hwd fZ_dispatch ∈ gw := hwd_c (F := fZ_dispatch) rfl g_480
theorem hZ_jobState : hwd fZ_jobState ∈ gw := hwd_c (F := fZ_jobState) rfl g_148
theorem hZ_jobVehicle : hwd fZ_jobVehicle ∈ gw := hwd_c (F := fZ_jobVehicle) rfl g_224
theorem hZ_regret : hwd fZ_regret ∈ gw := hwd_c (F := fZ_regret) rfl g_228
theorem hZ_vehicles : hwd fZ_vehicles ∈ gw := hwd_c (F := fZ_vehicles) rfl g_495
theorem hZ_zoneOf : hwd fZ_zoneOf ∈ gw := hwd_c (F := fZ_zoneOf) rfl g_503
theorem hZ_vehicleIn : hwd fZ_vehicleIn ∈ gw := hwd_c (F := fZ_vehicleIn) rfl g_522
theorem hZ_routeLength : hwd fZ_routeLength ∈ gw := hwd_c (F := fZ_routeLength) rfl g_511
theorem hZ_routeZone : hwd fZ_routeZone ∈ gw := hwd_c (F := fZ_routeZone) rfl g_526
theorem hZ_energy : hwd fZ_energy ∈ gw := hwd_c (F := fZ_energy) rfl g_507
theorem hZ_waited : hwd fZ_waited ∈ gw := hwd_c (F := fZ_waited) rfl g_515
theorem hZ_orders : hwd fZ_orders ∈ gw := hwd_c (F := fZ_orders) rfl g_499
theorem hZ_finisher : hwd fZ_finisher ∈ gw := hwd_c (F := fZ_finisher) rfl g_538
theorem hZ_requireZone : hwd fZ_requireZone ∈ gw := hwd_c (F := fZ_requireZone) rfl g_317
theorem hZ_requireVehicle : hwd fZ_requireVehicle ∈ gw := hwd_c (F := fZ_requireVehicle) rfl g_394
theorem hZ_requireJob : hwd fZ_requireJob ∈ gw := hwd_c (F := fZ_requireJob) rfl g_152
theorem hZ_findIn : hwd fZ_findIn ∈ gw := hwd_c (F := fZ_findIn) rfl g_376
theorem hZ_lookAtTraffic : hwd fZ_lookAtTraffic ∈ gw := hwd_c (F := fZ_lookAtTraffic) rfl g_271
theorem hZ_isSafeWith : hwd fZ_isSafeWith ∈ gw := hwd_c (F := fZ_isSafeWith) rfl g_267
theorem hZ_isSafeWithIdle : hwd fZ_isSafeWithIdle ∈ gw := hwd_c (F := fZ_isSafeWithIdle) rfl g_381
theorem hZ_lengthFor : hwd fZ_lengthFor ∈ gw := hwd_c (F := fZ_lengthFor) rfl g_236
theorem hZ_mayMove : hwd fZ_mayMove ∈ gw := hwd_c (F := fZ_mayMove) rfl g_442
theorem hZ_move : hwd fZ_move ∈ gw := hwd_c (F := fZ_move) rfl g_451
theorem hZ_passOneTick : hwd fZ_passOneTick ∈ gw := hwd_c (F := fZ_passOneTick) rfl g_468
theorem hZ_endJobOf : hwd fZ_endJobOf ∈ gw := hwd_c (F := fZ_endJobOf) rfl g_422
theorem hZ_regretOf : hwd fZ_regretOf ∈ gw := hwd_c (F := fZ_regretOf) rfl g_232
theorem hZ_mostRegretted : hwd fZ_mostRegretted ∈ gw := hwd_c (F := fZ_mostRegretted) rfl g_484
theorem hZ_nearestTaker : hwd fZ_nearestTaker ∈ gw := hwd_c (F := fZ_nearestTaker) rfl g_488
theorem hJ_init : hwd fJ_init ∈ gw := hwd_c (F := fJ_init) rfl g_112
theorem hP_init : hwd fP_init ∈ gw := hwd_c (F := fP_init) rfl g_26
theorem hP_hasLane : hwd fP_hasLane ∈ gw := hwd_c (F := fP_hasLane) rfl g_263
theorem hP_hasWay : hwd fP_hasWay ∈ gw := hwd_c (F := fP_hasWay) rfl g_244
theorem hP_lay : hwd fP_lay ∈ gw := hwd_c (F := fP_lay) rfl g_355
theorem hP_energyForWay : hwd fP_energyForWay ∈ gw := hwd_c (F := fP_energyForWay) rfl g_248
theorem hP_nextOnWay : hwd fP_nextOnWay ∈ gw := hwd_c (F := fP_nextOnWay) rfl g_259
theorem hP_wayBits : hwd fP_wayBits ∈ gw := hwd_c (F := fP_wayBits) rfl g_255
theorem hT_init : hwd fT_init ∈ gw := hwd_c (F := fT_init) rfl g_50
theorem hT_clear : hwd fT_clear ∈ gw := hwd_c (F := fT_clear) rfl g_275
theorem hT_put : hwd fT_put ∈ gw := hwd_c (F := fT_put) rfl g_283
theorem hT_countOrders : hwd fT_countOrders ∈ gw := hwd_c (F := fT_countOrders) rfl g_287
theorem hT_sumBehind : hwd fT_sumBehind ∈ gw := hwd_c (F := fT_sumBehind) rfl g_295
theorem hT_runnersBehind : hwd fT_runnersBehind ∈ gw := hwd_c (F := fT_runnersBehind) rfl g_291
theorem hT_runnerInFirstOrder : hwd fT_runnerInFirstOrder ∈ gw := hwd_c (F := fT_runnerInFirstOrder) rfl g_549
theorem hT_firstToRun : hwd fT_firstToRun ∈ gw := hwd_c (F := fT_firstToRun) rfl g_553
theorem hV_init : hwd fV_init ∈ gw := hwd_c (F := fV_init) rfl g_74
theorem hV_isIdle : hwd fV_isIdle ∈ gw := hwd_c (F := fV_isIdle) rfl g_240
theorem hV_zonesLeft : hwd fV_zonesLeft ∈ gw := hwd_c (F := fV_zonesLeft) rfl g_414
theorem hV_nextZone : hwd fV_nextZone ∈ gw := hwd_c (F := fV_nextZone) rfl g_446
theorem hV_lastZone : hwd fV_lastZone ∈ gw := hwd_c (F := fV_lastZone) rfl g_279
theorem hV_takeWay : hwd fV_takeWay ∈ gw := hwd_c (F := fV_takeWay) rfl g_400
theorem hV_dropRoute : hwd fV_dropRoute ∈ gw := hwd_c (F := fV_dropRoute) rfl g_418
theorem hV_advance : hwd fV_advance ∈ gw := hwd_c (F := fV_advance) rfl g_455
theorem hL_cell : hwd fL_cell ∈ gw := hwd_c (F := fL_cell) rfl g_298
theorem hL_low : hwd fL_low ∈ gw := hwd_c (F := fL_low) rfl g_301
theorem hL_addLane : hwd fL_addLane ∈ gw := hwd_h (F := fL_addLane) (by decide) g_308
theorem hL_setCharger : hwd fL_setCharger ∈ gw := hwd_h (F := fL_setCharger) (by decide) g_359
theorem hL_addVehicle : hwd fL_addVehicle ∈ gw := hwd_h (F := fL_addVehicle) (by decide) g_366
theorem hL_assign : hwd fL_assign ∈ gw := hwd_h (F := fL_assign) (by decide) g_385
theorem hL_cancel : hwd fL_cancel ∈ gw := hwd_h (F := fL_cancel) (by decide) g_405
theorem hL_charge : hwd fL_charge ∈ gw := hwd_h (F := fL_charge) (by decide) g_425
theorem hL_step : hwd fL_step ∈ gw := hwd_h (F := fL_step) (by decide) g_434
theorem hL_tick : hwd fL_tick ∈ gw := hwd_h (F := fL_tick) (by decide) g_459
theorem hL_addJob : hwd fL_addJob ∈ gw := hwd_h (F := fL_addJob) (by decide) g_471
theorem hL_finisher : hwd fL_finisher ∈ gw := hwd_h (F := fL_finisher) (by decide) g_534
theorem hL_act : hwd fL_act ∈ gw := hwd_c (F := fL_act) rfl g_305
theorem hL_areAlike : hwd fL_areAlike ∈ gw := hwd_c (F := fL_areAlike) rfl g_491
theorem hL_areVehiclesSo : hwd fL_areVehiclesSo ∈ gw := hwd_c (F := fL_areVehiclesSo) rfl g_518
theorem hL_isRunSo : hwd fL_isRunSo ∈ gw := hwd_c (F := fL_isRunSo) rfl g_556
theorem hX_bitCount : hwd fX_bitCount ∈ gw := hwd_c (F := fX_bitCount) rfl g_541
set_option maxRecDepth 20000 in
theorem BX_bitCount_0 {K : KX} {Q : Res → AG → AM → Prop} {M : AM} (p1 : Int)
    (h : Q (.inl (some (aI (wia (((wia (((wia (p1 - (wia (wus p1 1) 1431655765)) 858993459) + (wia (wus (p1 - (wia (wus p1 1) 1431655765)) 2) 858993459)) + (wus ((wia (p1 - (wia (wus p1 1) 1431655765)) 858993459) + (wia (wus (p1 - (wia (wus p1 1) 1431655765)) 2) 858993459)) 4)) 252645135) + (wus (wia (((wia (p1 - (wia (wus p1 1) 1431655765)) 858993459) + (wia (wus (p1 - (wia (wus p1 1) 1431655765)) 2) 858993459)) + (wus ((wia (p1 - (wia (wus p1 1) 1431655765)) 858993459) + (wia (wus (p1 - (wia (wus p1 1) 1431655765)) 2) 858993459)) 4)) 252645135) 8)) + (wus ((wia (((wia (p1 - (wia (wus p1 1) 1431655765)) 858993459) + (wia (wus (p1 - (wia (wus p1 1) 1431655765)) 2) 858993459)) + (wus ((wia (p1 - (wia (wus p1 1) 1431655765)) 858993459) + (wia (wus (p1 - (wia (wus p1 1) 1431655765)) 2) 858993459)) 4)) 252645135) + (wus (wia (((wia (p1 - (wia (wus p1 1) 1431655765)) 858993459) + (wia (wus (p1 - (wia (wus p1 1) 1431655765)) 2) 858993459)) + (wus ((wia (p1 - (wia (wus p1 1) 1431655765)) 858993459) + (wia (wus (p1 - (wia (wus p1 1) 1431655765)) 2) 858993459)) 4)) 252645135) 8)) 16)) 63)))) GG M) :
    WM K fX_bitCount (EM K fX_bitCount 126 Q) 0 [some (aI p1)] [] GG M 0 0 := by
  refine s_iload_n (i := 0) (by decide +kernel) rfl ?_
  refine s_iload_n (i := 0) (by decide +kernel) rfl ?_
  refine s_iconst (n := 1) (by decide +kernel) ?_
  refine s_iushr (by decide +kernel) ?_
  refine s_ldcw (index := 265) (v := 1431655765) (z := 1431655765) (by decide +kernel) g_542 (by decide) ?_
  refine s_iand (by decide +kernel) ?_
  refine s_isub (by decide +kernel) ?_
  refine s_istore_n (i := 0) (by decide +kernel) (by decide) ?_
  refine s_iload_n (i := 0) (by decide +kernel) rfl ?_
  refine s_ldcw (index := 266) (v := 858993459) (z := 858993459) (by decide +kernel) g_543 (by decide) ?_
  refine s_iand (by decide +kernel) ?_
  refine s_iload_n (i := 0) (by decide +kernel) rfl ?_
  refine s_iconst (n := 2) (by decide +kernel) ?_
  refine s_iushr (by decide +kernel) ?_
  refine s_ldcw (index := 266) (v := 858993459) (z := 858993459) (by decide +kernel) g_543 (by decide) ?_
  refine s_iand (by decide +kernel) ?_
  refine s_iadd (by decide +kernel) ?_
  refine s_istore_n (i := 0) (by decide +kernel) (by decide) ?_
  refine s_iload_n (i := 0) (by decide +kernel) rfl ?_
  refine s_iload_n (i := 0) (by decide +kernel) rfl ?_
  refine s_iconst (n := 4) (by decide +kernel) ?_
  refine s_iushr (by decide +kernel) ?_
  refine s_iadd (by decide +kernel) ?_
  refine s_ldcw (index := 267) (v := 252645135) (z := 252645135) (by decide +kernel) g_544 (by decide) ?_
  refine s_iand (by decide +kernel) ?_
  refine s_istore_n (i := 0) (by decide +kernel) (by decide) ?_
  refine s_iload_n (i := 0) (by decide +kernel) rfl ?_
  refine s_iload_n (i := 0) (by decide +kernel) rfl ?_
  refine s_bipush (n := 8) (by decide +kernel) (by decide +kernel) ?_
  refine s_iushr (by decide +kernel) ?_
  refine s_iadd (by decide +kernel) ?_
  refine s_istore_n (i := 0) (by decide +kernel) (by decide) ?_
  refine s_iload_n (i := 0) (by decide +kernel) rfl ?_
  refine s_iload_n (i := 0) (by decide +kernel) rfl ?_
  refine s_bipush (n := 16) (by decide +kernel) (by decide +kernel) ?_
  refine s_iushr (by decide +kernel) ?_
  refine s_iadd (by decide +kernel) ?_
  refine s_istore_n (i := 0) (by decide +kernel) (by decide) ?_
  refine s_iload_n (i := 0) (by decide +kernel) rfl ?_
  refine s_bipush (n := 63) (by decide +kernel) (by decide +kernel) ?_
  refine s_iand (by decide +kernel) ?_
  exact s_iret rfl (by decide +kernel) (by decide) (by decide) h

set_option maxRecDepth 20000 in
theorem BP_hasLane_0 {K : KX} {Q : Res → AG → AM → Prop} {M : AM} (p1 p2 : Int)
    (h : ∃ j1 : Nat, wr p1 = (j1 : Int) ∧ j1 < 20 ∧ (∃ j5 : Nat, wr p2 = (j5 : Int) ∧ j5 < 20 ∧ ((wr (M (3 + j1) j5) = wr 1 → Q (.inl (some (aI 1))) GG M) ∧ (¬ wr (M (3 + j1) j5) = wr 1 → Q (.inl (some (aI 0))) GG M)))) :
    WM K fP_hasLane (EM K fP_hasLane 126 Q) 0 [some (aR 1), some (aI p1), some (aI p2)] [] GG M 0 0 := by
  refine s_aload_n (i := 0) (by decide +kernel) rfl ?_
  refine s_getR (ci := 1) (k := 0) (index := 11) (r2 := 2) ck1 rfl rfl (by decide) rfl (by decide +kernel) g_30 ?_
  refine s_iload_n (i := 1) (by decide +kernel) rfl ?_
  obtain ⟨j1, e2, e3, h4⟩ := h
  refine s_aaldI (r2 := (3 + j1)) (j := j1) rfl e2 e3 (rg_at e3) (by decide +kernel) ?_
  refine s_iload_n (i := 2) (by decide +kernel) rfl ?_
  obtain ⟨j5, e6, e7, h8⟩ := h4
  refine s_iald (j := j5) (gg_row _ e3) e6 e7 (by decide +kernel) ?_
  refine s_iconst (n := 1) (by decide +kernel) ?_
  refine s_icmp_ne (off := 7) (tgt := 16) (by decide +kernel) (by decide) (fun c9 => ?_) (fun c9 => ?_)
  · have h10 := h8.2 c9
    refine s_iconst (n := 0) (by decide +kernel) ?_
    exact s_zret (Or.inl rfl) rfl (by decide +kernel) (by decide) (by decide) h10
  · have h11 := h8.1 c9
    refine s_iconst (n := 1) (by decide +kernel) ?_
    refine s_goto (off := 4) (tgt := 17) (by decide +kernel) (by decide) ?_
    exact s_zret (Or.inr rfl) rfl (by decide +kernel) (by decide) (by decide) h11

set_option maxRecDepth 20000 in
theorem BP_hasWay_0 {K : KX} {Q : Res → AG → AM → Prop} {M : AM} (p1 p2 : Int)
    (h : ∃ j1 : Nat, wr p1 = (j1 : Int) ∧ j1 < 20 ∧ (∃ j5 : Nat, wr p2 = (j5 : Int) ∧ j5 < 20 ∧ ((wr 1000 ≤ wr (M (3 + j1) j5) → Q (.inl (some (aI 0))) GG M) ∧ (¬ wr 1000 ≤ wr (M (3 + j1) j5) → Q (.inl (some (aI 1))) GG M)))) :
    WM K fP_hasWay (EM K fP_hasWay 126 Q) 0 [some (aR 1), some (aI p1), some (aI p2)] [] GG M 0 0 := by
  refine s_aload_n (i := 0) (by decide +kernel) rfl ?_
  refine s_getR (ci := 1) (k := 0) (index := 11) (r2 := 2) ck1 rfl rfl (by decide) rfl (by decide +kernel) g_30 ?_
  refine s_iload_n (i := 1) (by decide +kernel) rfl ?_
  obtain ⟨j1, e2, e3, h4⟩ := h
  refine s_aaldI (r2 := (3 + j1)) (j := j1) rfl e2 e3 (rg_at e3) (by decide +kernel) ?_
  refine s_iload_n (i := 2) (by decide +kernel) rfl ?_
  obtain ⟨j5, e6, e7, h8⟩ := h4
  refine s_iald (j := j5) (gg_row _ e3) e6 e7 (by decide +kernel) ?_
  refine s_sipush (n := 1000) (by decide +kernel) (by decide +kernel) ?_
  refine s_icmp_ge (off := 7) (tgt := 18) (by decide +kernel) (by decide) (fun c9 => ?_) (fun c9 => ?_)
  · have h10 := h8.1 c9
    refine s_iconst (n := 0) (by decide +kernel) ?_
    exact s_zret (Or.inl rfl) rfl (by decide +kernel) (by decide) (by decide) h10
  · have h11 := h8.2 c9
    refine s_iconst (n := 1) (by decide +kernel) ?_
    refine s_goto (off := 4) (tgt := 19) (by decide +kernel) (by decide) ?_
    exact s_zret (Or.inr rfl) rfl (by decide +kernel) (by decide) (by decide) h11

set_option maxRecDepth 20000 in
theorem BP_lay_0 {K : KX} {Q : Res → AG → AM → Prop} {M : AM} (p1 p2 : Int)
    (h : WM K fP_lay (EM K fP_lay 126 Q) 2 [some (aR 1), some (aI p1), some (aI p2), some (aI 0), none, none, none] [] GG M 0 0) :
    WM K fP_lay (EM K fP_lay 126 Q) 0 [some (aR 1), some (aI p1), some (aI p2), none, none, none, none] [] GG M 0 0 := by
  refine s_iconst (n := 0) (by decide +kernel) ?_
  refine s_istore_n (i := 3) (by decide +kernel) (by decide) ?_
  exact h

set_option maxRecDepth 20000 in
theorem BP_lay_2 {K : KX} {Q : Res → AG → AM → Prop} {M : AM} (x1 x2 x3 : Int)
    (h : (wr 20 ≤ wr x3 → Q (.inl none) GG (um M 1 2 ((M 1 2) + 1))) ∧ (¬ wr 20 ≤ wr x3 → WM K fP_lay (EM K fP_lay 126 Q) 11 [some (aR 1), some (aI x1), some (aI x2), some (aI x3), some (aI 0), none, none] [] GG M 0 0)) :
    WM K fP_lay (EM K fP_lay 126 Q) 2 [some (aR 1), some (aI x1), some (aI x2), some (aI x3), none, none, none] [] GG M 0 0 := by
  refine s_iload_n (i := 3) (by decide +kernel) rfl ?_
  refine s_bipush (n := 20) (by decide +kernel) (by decide +kernel) ?_
  refine s_icmp_ge (off := 97) (tgt := 102) (by decide +kernel) (by decide) (fun c1 => ?_) (fun c1 => ?_)
  · have h2 := h.1 c1
    refine s_aload_n (i := 0) (by decide +kernel) rfl ?_
    refine s_dupR (by decide +kernel) ?_
    refine s_getI (ci := 1) (k := 2) (index := 26) ck1 rfl (by decide) rfl (by decide +kernel) g_36 ?_
    refine s_iconst (n := 1) (by decide +kernel) ?_
    refine s_iadd (by decide +kernel) ?_
    refine s_putI (ci := 1) (k := 2) (index := 26) ck1 rfl (by decide) rfl rfl rfl (by decide +kernel) g_36 ?_
    exact s_vret rfl (by decide +kernel) (by decide) (by decide) h2
  · have h3 := h.2 c1
    refine s_iconst (n := 0) (by decide +kernel) ?_
    refine s_istore (i := 4) (by decide +kernel) (by decide) ?_
    exact h3

set_option maxRecDepth 20000 in
theorem BP_lay_11 {K : KX} {Q : Res → AG → AM → Prop} {M : AM} (x1 x2 x3 x4 : Int)
    (h : (wr 20 ≤ wr x4 → WM K fP_lay (EM K fP_lay 126 Q) 2 [some (aR 1), some (aI x1), some (aI x2), some (aI (x3 + 1)), none, none, none] [] GG M 0 0) ∧ (¬ wr 20 ≤ wr x4 → ∃ j4 : Nat, wr x3 = (j4 : Int) ∧ j4 < 20 ∧ (∃ j8 : Nat, wr x1 = (j8 : Int) ∧ j8 < 20 ∧ (∃ j12 : Nat, wr x2 = (j12 : Int) ∧ j12 < 20 ∧ (∃ j16 : Nat, wr x4 = (j16 : Int) ∧ j16 < 20 ∧ (∃ j20 : Nat, wr x3 = (j20 : Int) ∧ j20 < 20 ∧ (∃ j24 : Nat, wr x2 = (j24 : Int) ∧ j24 < 20 ∧ (∃ j28 : Nat, wr x1 = (j28 : Int) ∧ j28 < 20 ∧ (∃ j32 : Nat, wr x4 = (j32 : Int) ∧ j32 < 20 ∧ (∃ j36 : Nat, wr x3 = (j36 : Int) ∧ j36 < 20 ∧ (∃ j40 : Nat, wr x3 = (j40 : Int) ∧ j40 < 20 ∧ (∃ j44 : Nat, wr x4 = (j44 : Int) ∧ j44 < 20 ∧ (∃ j48 : Nat, wr x4 = (j48 : Int) ∧ j48 < 20 ∧ (WM K fP_lay (EM K fP_lay 126 Q) 11 [some (aR 1), some (aI x1), some (aI x2), some (aI x3), some (aI (x4 + 1)), none, none] [] GG (um M (3 + j36) j48 (mn (M (3 + j40) j44) (mn (((M (3 + j4) j8) + 1) + (M (3 + j12) j16)) (((M (3 + j20) j24) + 1) + (M (3 + j28) j32))))) 0 0)))))))))))))) :
    WM K fP_lay (EM K fP_lay 126 Q) 11 [some (aR 1), some (aI x1), some (aI x2), some (aI x3), some (aI x4), none, none] [] GG M 0 0 := by
  refine s_iload (i := 4) (by decide +kernel) rfl ?_
  refine s_bipush (n := 20) (by decide +kernel) (by decide +kernel) ?_
  refine s_icmp_ge (off := 81) (tgt := 96) (by decide +kernel) (by decide) (fun c1 => ?_) (fun c1 => ?_)
  · have h2 := h.1 c1
    refine s_iinc (i := 3) (n := 1) (by decide +kernel) rfl (by decide) ?_
    refine s_goto (off := -97) (tgt := 2) (by decide +kernel) (by decide) ?_
    exact s_loc (L' := [some (aR 1), some (aI x1), some (aI x2), some (aI (x3 + 1)), none, none, none]) (ll_s (ll_s (ll_s (ll_s (ll_n (ll_s (ll_s ll_nil))))))) h2
  · have h3 := h.2 c1
    refine s_aload_n (i := 0) (by decide +kernel) rfl ?_
    refine s_getR (ci := 1) (k := 0) (index := 11) (r2 := 2) ck1 rfl rfl (by decide) rfl (by decide +kernel) g_30 ?_
    refine s_iload_n (i := 3) (by decide +kernel) rfl ?_
    obtain ⟨j4, e5, e6, h7⟩ := h3
    refine s_aaldI (r2 := (3 + j4)) (j := j4) rfl e5 e6 (rg_at e6) (by decide +kernel) ?_
    refine s_iload_n (i := 1) (by decide +kernel) rfl ?_
    obtain ⟨j8, e9, e10, h11⟩ := h7
    refine s_iald (j := j8) (gg_row _ e6) e9 e10 (by decide +kernel) ?_
    refine s_iconst (n := 1) (by decide +kernel) ?_
    refine s_iadd (by decide +kernel) ?_
    refine s_aload_n (i := 0) (by decide +kernel) rfl ?_
    refine s_getR (ci := 1) (k := 0) (index := 11) (r2 := 2) ck1 rfl rfl (by decide) rfl (by decide +kernel) g_30 ?_
    refine s_iload_n (i := 2) (by decide +kernel) rfl ?_
    obtain ⟨j12, e13, e14, h15⟩ := h11
    refine s_aaldI (r2 := (3 + j12)) (j := j12) rfl e13 e14 (rg_at e14) (by decide +kernel) ?_
    refine s_iload (i := 4) (by decide +kernel) rfl ?_
    obtain ⟨j16, e17, e18, h19⟩ := h15
    refine s_iald (j := j16) (gg_row _ e14) e17 e18 (by decide +kernel) ?_
    refine s_iadd (by decide +kernel) ?_
    refine s_istore (i := 5) (by decide +kernel) (by decide) ?_
    refine s_aload_n (i := 0) (by decide +kernel) rfl ?_
    refine s_getR (ci := 1) (k := 0) (index := 11) (r2 := 2) ck1 rfl rfl (by decide) rfl (by decide +kernel) g_30 ?_
    refine s_iload_n (i := 3) (by decide +kernel) rfl ?_
    obtain ⟨j20, e21, e22, h23⟩ := h19
    refine s_aaldI (r2 := (3 + j20)) (j := j20) rfl e21 e22 (rg_at e22) (by decide +kernel) ?_
    refine s_iload_n (i := 2) (by decide +kernel) rfl ?_
    obtain ⟨j24, e25, e26, h27⟩ := h23
    refine s_iald (j := j24) (gg_row _ e22) e25 e26 (by decide +kernel) ?_
    refine s_iconst (n := 1) (by decide +kernel) ?_
    refine s_iadd (by decide +kernel) ?_
    refine s_aload_n (i := 0) (by decide +kernel) rfl ?_
    refine s_getR (ci := 1) (k := 0) (index := 11) (r2 := 2) ck1 rfl rfl (by decide) rfl (by decide +kernel) g_30 ?_
    refine s_iload_n (i := 1) (by decide +kernel) rfl ?_
    obtain ⟨j28, e29, e30, h31⟩ := h27
    refine s_aaldI (r2 := (3 + j28)) (j := j28) rfl e29 e30 (rg_at e30) (by decide +kernel) ?_
    refine s_iload (i := 4) (by decide +kernel) rfl ?_
    obtain ⟨j32, e33, e34, h35⟩ := h31
    refine s_iald (j := j32) (gg_row _ e30) e33 e34 (by decide +kernel) ?_
    refine s_iadd (by decide +kernel) ?_
    refine s_istore (i := 6) (by decide +kernel) (by decide) ?_
    refine s_aload_n (i := 0) (by decide +kernel) rfl ?_
    refine s_getR (ci := 1) (k := 0) (index := 11) (r2 := 2) ck1 rfl rfl (by decide) rfl (by decide +kernel) g_30 ?_
    refine s_iload_n (i := 3) (by decide +kernel) rfl ?_
    obtain ⟨j36, e37, e38, h39⟩ := h35
    refine s_aaldI (r2 := (3 + j36)) (j := j36) rfl e37 e38 (rg_at e38) (by decide +kernel) ?_
    refine s_iload (i := 4) (by decide +kernel) rfl ?_
    refine s_aload_n (i := 0) (by decide +kernel) rfl ?_
    refine s_getR (ci := 1) (k := 0) (index := 11) (r2 := 2) ck1 rfl rfl (by decide) rfl (by decide +kernel) g_30 ?_
    refine s_iload_n (i := 3) (by decide +kernel) rfl ?_
    obtain ⟨j40, e41, e42, h43⟩ := h39
    refine s_aaldI (r2 := (3 + j40)) (j := j40) rfl e41 e42 (rg_at e42) (by decide +kernel) ?_
    refine s_iload (i := 4) (by decide +kernel) rfl ?_
    obtain ⟨j44, e45, e46, h47⟩ := h43
    refine s_iald (j := j44) (gg_row _ e42) e45 e46 (by decide +kernel) ?_
    refine s_iload (i := 5) (by decide +kernel) rfl ?_
    refine s_iload (i := 6) (by decide +kernel) rfl ?_
    refine s_min (index := 20) (by decide +kernel) gm_linkP (Nat.le_of_ble_eq_true rfl) (by decide) ?_
    refine s_min (index := 20) (by decide +kernel) gm_linkP (Nat.le_of_ble_eq_true rfl) (by decide) ?_
    obtain ⟨j48, e49, e50, h51⟩ := h47
    refine s_iast (j := j48) (gg_row _ e38) e49 e50 (by decide +kernel) ?_
    refine s_iinc (i := 4) (n := 1) (by decide +kernel) rfl (by decide) ?_
    refine s_goto (off := -82) (tgt := 11) (by decide +kernel) (by decide) ?_
    exact s_loc (L' := [some (aR 1), some (aI x1), some (aI x2), some (aI x3), some (aI (x4 + 1)), none, none]) (ll_s (ll_s (ll_s (ll_s (ll_s (ll_n (ll_n ll_nil))))))) h51

set_option maxRecDepth 20000 in
theorem BP_energyForWay_0 {K : KX} {Q : Res → AG → AM → Prop} {M : AM} (p1 p2 : Int)
    (h : WM K fP_energyForWay (EM K fP_energyForWay 126 Q) 7 [some (aR 1), some (aI p1), some (aI p2), some (aI 1000), some (aI 0)] [] GG M 0 0) :
    WM K fP_energyForWay (EM K fP_energyForWay 126 Q) 0 [some (aR 1), some (aI p1), some (aI p2), none, none] [] GG M 0 0 := by
  refine s_sipush (n := 1000) (by decide +kernel) (by decide +kernel) ?_
  refine s_istore_n (i := 3) (by decide +kernel) (by decide) ?_
  refine s_iconst (n := 0) (by decide +kernel) ?_
  refine s_istore (i := 4) (by decide +kernel) (by decide) ?_
  exact h

set_option maxRecDepth 20000 in
theorem BP_energyForWay_7 {K : KX} {Q : Res → AG → AM → Prop} {M : AM} (x1 x2 x3 x4 : Int)
    (h : (wr 20 ≤ wr x4 → (wr 1000 ≤ wr x3 → ∃ j5 : Nat, wr x1 = (j5 : Int) ∧ j5 < 20 ∧ (∃ j9 : Nat, wr x2 = (j9 : Int) ∧ j9 < 20 ∧ (Q (.inl (some (aI (M (3 + j5) j9)))) GG M))) ∧ (¬ wr 1000 ≤ wr x3 → ∃ j14 : Nat, wr x1 = (j14 : Int) ∧ j14 < 20 ∧ (∃ j18 : Nat, wr x2 = (j18 : Int) ∧ j18 < 20 ∧ (Q (.inl (some (aI ((M (3 + j14) j18) + x3)))) GG M)))) ∧ (¬ wr 20 ≤ wr x4 → ∃ j23 : Nat, wr x4 = (j23 : Int) ∧ j23 < 20 ∧ ((wr (M 23 j23) = 0 → WM K fP_energyForWay (EM K fP_energyForWay 126 Q) 7 [some (aR 1), some (aI x1), some (aI x2), some (aI x3), some (aI (x4 + 1))] [] GG M 0 0) ∧ (¬ wr (M 23 j23) = 0 → ∃ j30 : Nat, wr x2 = (j30 : Int) ∧ j30 < 20 ∧ (∃ j34 : Nat, wr x4 = (j34 : Int) ∧ j34 < 20 ∧ (WM K fP_energyForWay (EM K fP_energyForWay 126 Q) 7 [some (aR 1), some (aI x1), some (aI x2), some (aI (mn x3 (M (3 + j30) j34))), some (aI (x4 + 1))] [] GG M 0 0)))))) :
    WM K fP_energyForWay (EM K fP_energyForWay 126 Q) 7 [some (aR 1), some (aI x1), some (aI x2), some (aI x3), some (aI x4)] [] GG M 0 0 := by
  refine s_iload (i := 4) (by decide +kernel) rfl ?_
  refine s_bipush (n := 20) (by decide +kernel) (by decide +kernel) ?_
  refine s_icmp_ge (off := 33) (tgt := 44) (by decide +kernel) (by decide) (fun c1 => ?_) (fun c1 => ?_)
  · have h2 := h.1 c1
    refine s_iload_n (i := 3) (by decide +kernel) rfl ?_
    refine s_sipush (n := 1000) (by decide +kernel) (by decide +kernel) ?_
    refine s_icmp_ge (off := 16) (tgt := 64) (by decide +kernel) (by decide) (fun c3 => ?_) (fun c3 => ?_)
    · have h4 := h2.1 c3
      refine s_aload_n (i := 0) (by decide +kernel) rfl ?_
      refine s_getR (ci := 1) (k := 0) (index := 11) (r2 := 2) ck1 rfl rfl (by decide) rfl (by decide +kernel) g_30 ?_
      refine s_iload_n (i := 1) (by decide +kernel) rfl ?_
      obtain ⟨j5, e6, e7, h8⟩ := h4
      refine s_aaldI (r2 := (3 + j5)) (j := j5) rfl e6 e7 (rg_at e7) (by decide +kernel) ?_
      refine s_iload_n (i := 2) (by decide +kernel) rfl ?_
      obtain ⟨j9, e10, e11, h12⟩ := h8
      refine s_iald (j := j9) (gg_row _ e7) e10 e11 (by decide +kernel) ?_
      exact s_iret rfl (by decide +kernel) (by decide) (by decide) h12
    · have h13 := h2.2 c3
      refine s_aload_n (i := 0) (by decide +kernel) rfl ?_
      refine s_getR (ci := 1) (k := 0) (index := 11) (r2 := 2) ck1 rfl rfl (by decide) rfl (by decide +kernel) g_30 ?_
      refine s_iload_n (i := 1) (by decide +kernel) rfl ?_
      obtain ⟨j14, e15, e16, h17⟩ := h13
      refine s_aaldI (r2 := (3 + j14)) (j := j14) rfl e15 e16 (rg_at e16) (by decide +kernel) ?_
      refine s_iload_n (i := 2) (by decide +kernel) rfl ?_
      obtain ⟨j18, e19, e20, h21⟩ := h17
      refine s_iald (j := j18) (gg_row _ e16) e19 e20 (by decide +kernel) ?_
      refine s_iload_n (i := 3) (by decide +kernel) rfl ?_
      refine s_iadd (by decide +kernel) ?_
      refine s_goto (off := 11) (tgt := 72) (by decide +kernel) (by decide) ?_
      exact s_iret rfl (by decide +kernel) (by decide) (by decide) h21
  · have h22 := h.2 c1
    refine s_aload_n (i := 0) (by decide +kernel) rfl ?_
    refine s_getR (ci := 1) (k := 1) (index := 16) (r2 := 23) ck1 rfl rfl (by decide) rfl (by decide +kernel) g_33 ?_
    refine s_iload (i := 4) (by decide +kernel) rfl ?_
    obtain ⟨j23, e24, e25, h26⟩ := h22
    refine s_zald (j := j23) rfl e24 e25 (by decide +kernel) ?_
    refine s_if_eq (off := 17) (tgt := 38) (by decide +kernel) (by decide) (fun c27 => ?_) (fun c27 => ?_)
    · have h28 := h26.1 c27
      refine s_iinc (i := 4) (n := 1) (by decide +kernel) rfl (by decide) ?_
      refine s_goto (off := -34) (tgt := 7) (by decide +kernel) (by decide) ?_
      exact h28
    · have h29 := h26.2 c27
      refine s_iload_n (i := 3) (by decide +kernel) rfl ?_
      refine s_aload_n (i := 0) (by decide +kernel) rfl ?_
      refine s_getR (ci := 1) (k := 0) (index := 11) (r2 := 2) ck1 rfl rfl (by decide) rfl (by decide +kernel) g_30 ?_
      refine s_iload_n (i := 2) (by decide +kernel) rfl ?_
      obtain ⟨j30, e31, e32, h33⟩ := h29
      refine s_aaldI (r2 := (3 + j30)) (j := j30) rfl e31 e32 (rg_at e32) (by decide +kernel) ?_
      refine s_iload (i := 4) (by decide +kernel) rfl ?_
      obtain ⟨j34, e35, e36, h37⟩ := h33
      refine s_iald (j := j34) (gg_row _ e32) e35 e36 (by decide +kernel) ?_
      refine s_min (index := 20) (by decide +kernel) gm_linkP (Nat.le_of_ble_eq_true rfl) (by decide) ?_
      refine s_istore_n (i := 3) (by decide +kernel) (by decide) ?_
      refine s_iinc (i := 4) (n := 1) (by decide +kernel) rfl (by decide) ?_
      refine s_goto (off := -34) (tgt := 7) (by decide +kernel) (by decide) ?_
      exact h37

set_option maxRecDepth 20000 in
theorem BP_nextOnWay_0 {K : KX} {Q : Res → AG → AM → Prop} {M : AM} (p1 p2 : Int)
    (h : WM K fP_nextOnWay (EM K fP_nextOnWay 126 Q) 2 [some (aR 1), some (aI p1), some (aI p2), some (aI 0)] [] GG M 0 0) :
    WM K fP_nextOnWay (EM K fP_nextOnWay 126 Q) 0 [some (aR 1), some (aI p1), some (aI p2), none] [] GG M 0 0 := by
  refine s_iconst (n := 0) (by decide +kernel) ?_
  refine s_istore_n (i := 3) (by decide +kernel) (by decide) ?_
  exact h

set_option maxRecDepth 20000 in
theorem BP_nextOnWay_2 {K : KX} {Q : Res → AG → AM → Prop} {M : AM} (x1 x2 x3 : Int)
    (h : (wr 20 ≤ wr x3 → Q (.inl (some (aI x2))) GG M) ∧ (¬ wr 20 ≤ wr x3 → MetA K fP_hasLane [aR 1, aI x1, aI x3] GG M (cI GG (fun b5 M4 => (wr b5 = 0 → WM K fP_nextOnWay (EM K fP_nextOnWay 126 Q) 2 [some (aR 1), some (aI x1), some (aI x2), some (aI (x3 + 1))] [] GG M4 0 0) ∧ (¬ wr b5 = 0 → ∃ j11 : Nat, wr x3 = (j11 : Int) ∧ j11 < 20 ∧ (∃ j15 : Nat, wr x2 = (j15 : Int) ∧ j15 < 20 ∧ (∃ j19 : Nat, wr x1 = (j19 : Int) ∧ j19 < 20 ∧ (∃ j23 : Nat, wr x2 = (j23 : Int) ∧ j23 < 20 ∧ ((wr (M4 (3 + j11) j15) = wr ((M4 (3 + j19) j23) - 1) → Q (.inl (some (aI x3))) GG M4) ∧ (¬ wr (M4 (3 + j11) j15) = wr ((M4 (3 + j19) j23) - 1) → WM K fP_nextOnWay (EM K fP_nextOnWay 126 Q) 2 [some (aR 1), some (aI x1), some (aI x2), some (aI (x3 + 1))] [] GG M4 0 0))))))) noX))) :
    WM K fP_nextOnWay (EM K fP_nextOnWay 126 Q) 2 [some (aR 1), some (aI x1), some (aI x2), some (aI x3)] [] GG M 0 0 := by
  refine s_iload_n (i := 3) (by decide +kernel) rfl ?_
  refine s_bipush (n := 20) (by decide +kernel) (by decide +kernel) ?_
  refine s_icmp_ge (off := 41) (tgt := 46) (by decide +kernel) (by decide) (fun c1 => ?_) (fun c1 => ?_)
  · have h2 := h.1 c1
    refine s_iload_n (i := 2) (by decide +kernel) rfl ?_
    exact s_iret rfl (by decide +kernel) (by decide) (by decide) h2
  · have h3 := h.2 c1
    refine s_aload_n (i := 0) (by decide +kernel) rfl ?_
    refine s_iload_n (i := 1) (by decide +kernel) rfl ?_
    refine s_iload_n (i := 3) (by decide +kernel) rfl ?_
    refine s_callV (Fc := fP_hasLane) (index := 30) (ci := 1) (as := [aI x1, aI x3]) (rest := []) rfl h3 rfl rfl (by decide) rfl ⟨g_260, hP_hasLane, g_2, by decide, (show (parseMethodDescriptor fP_hasLane.1.desc).map (fun d => d.parameters.length) = some 2 from by decide +kernel), by decide, by decide, (by decide), (by decide)⟩ g_261 g_262 rfl rfl (Nat.le_of_ble_eq_true rfl) (by decide +kernel) (q_cI (fun b5 M4 h6 => ?_) (fun _ _ q => q.elim))
    refine s_if_eq (off := 26) (tgt := 40) (by decide +kernel) (by decide) (fun c8 => ?_) (fun c8 => ?_)
    · have h9 := h6.1 c8
      refine s_iinc (i := 3) (n := 1) (by decide +kernel) rfl (by decide) ?_
      refine s_goto (off := -41) (tgt := 2) (by decide +kernel) (by decide) ?_
      exact h9
    · have h10 := h6.2 c8
      refine s_aload_n (i := 0) (by decide +kernel) rfl ?_
      refine s_getR (ci := 1) (k := 0) (index := 11) (r2 := 2) ck1 rfl rfl (by decide) rfl (by decide +kernel) g_30 ?_
      refine s_iload_n (i := 3) (by decide +kernel) rfl ?_
      obtain ⟨j11, e12, e13, h14⟩ := h10
      refine s_aaldI (r2 := (3 + j11)) (j := j11) rfl e12 e13 (rg_at e13) (by decide +kernel) ?_
      refine s_iload_n (i := 2) (by decide +kernel) rfl ?_
      obtain ⟨j15, e16, e17, h18⟩ := h14
      refine s_iald (j := j15) (gg_row _ e13) e16 e17 (by decide +kernel) ?_
      refine s_aload_n (i := 0) (by decide +kernel) rfl ?_
      refine s_getR (ci := 1) (k := 0) (index := 11) (r2 := 2) ck1 rfl rfl (by decide) rfl (by decide +kernel) g_30 ?_
      refine s_iload_n (i := 1) (by decide +kernel) rfl ?_
      obtain ⟨j19, e20, e21, h22⟩ := h18
      refine s_aaldI (r2 := (3 + j19)) (j := j19) rfl e20 e21 (rg_at e21) (by decide +kernel) ?_
      refine s_iload_n (i := 2) (by decide +kernel) rfl ?_
      obtain ⟨j23, e24, e25, h26⟩ := h22
      refine s_iald (j := j23) (gg_row _ e21) e24 e25 (by decide +kernel) ?_
      refine s_iconst (n := 1) (by decide +kernel) ?_
      refine s_isub (by decide +kernel) ?_
      refine s_icmp_ne (off := 5) (tgt := 40) (by decide +kernel) (by decide) (fun c27 => ?_) (fun c27 => ?_)
      · have h28 := h26.2 c27
        refine s_iinc (i := 3) (n := 1) (by decide +kernel) rfl (by decide) ?_
        refine s_goto (off := -41) (tgt := 2) (by decide +kernel) (by decide) ?_
        exact h28
      · have h29 := h26.1 c27
        refine s_iload_n (i := 3) (by decide +kernel) rfl ?_
        exact s_iret rfl (by decide +kernel) (by decide) (by decide) h29

set_option maxRecDepth 20000 in
theorem BP_wayBits_0 {K : KX} {Q : Res → AG → AM → Prop} {M : AM} (p1 p2 : Int)
    (h : ∃ j1 : Nat, wr p1 = (j1 : Int) ∧ j1 < 20 ∧ (∃ j5 : Nat, wr p2 = (j5 : Int) ∧ j5 < 20 ∧ (WM K fP_wayBits (EM K fP_wayBits 126 Q) 18 [some (aR 1), some (aI p1), some (aI p2), some (aI 0), some (aI p1), some (aI (M (3 + j1) j5)), some (aI 0)] [] GG M 0 0))) :
    WM K fP_wayBits (EM K fP_wayBits 126 Q) 0 [some (aR 1), some (aI p1), some (aI p2), none, none, none, none] [] GG M 0 0 := by
  refine s_iconst (n := 0) (by decide +kernel) ?_
  refine s_istore_n (i := 3) (by decide +kernel) (by decide) ?_
  refine s_iload_n (i := 1) (by decide +kernel) rfl ?_
  refine s_istore (i := 4) (by decide +kernel) (by decide) ?_
  refine s_aload_n (i := 0) (by decide +kernel) rfl ?_
  refine s_getR (ci := 1) (k := 0) (index := 11) (r2 := 2) ck1 rfl rfl (by decide) rfl (by decide +kernel) g_30 ?_
  refine s_iload_n (i := 1) (by decide +kernel) rfl ?_
  obtain ⟨j1, e2, e3, h4⟩ := h
  refine s_aaldI (r2 := (3 + j1)) (j := j1) rfl e2 e3 (rg_at e3) (by decide +kernel) ?_
  refine s_iload_n (i := 2) (by decide +kernel) rfl ?_
  obtain ⟨j5, e6, e7, h8⟩ := h4
  refine s_iald (j := j5) (gg_row _ e3) e6 e7 (by decide +kernel) ?_
  refine s_istore (i := 5) (by decide +kernel) (by decide) ?_
  refine s_iconst (n := 0) (by decide +kernel) ?_
  refine s_istore (i := 6) (by decide +kernel) (by decide) ?_
  exact h8

set_option maxRecDepth 20000 in
theorem BP_wayBits_18 {K : KX} {Q : Res → AG → AM → Prop} {M : AM} (x1 x2 x3 x4 x5 x6 : Int)
    (h : (wr x5 ≤ wr x6 → Q (.inl (some (aI x3))) GG M) ∧ (¬ wr x5 ≤ wr x6 → MetA K fP_nextOnWay [aR 1, aI x4, aI x2] GG M (cI GG (fun b5 M4 => WM K fP_wayBits (EM K fP_wayBits 126 Q) 18 [some (aR 1), some (aI x1), some (aI x2), some (aI (wio x3 (wsl 1 b5))), some (aI b5), some (aI x5), some (aI (x6 + 1))] [] GG M4 0 0) noX))) :
    WM K fP_wayBits (EM K fP_wayBits 126 Q) 18 [some (aR 1), some (aI x1), some (aI x2), some (aI x3), some (aI x4), some (aI x5), some (aI x6)] [] GG M 0 0 := by
  refine s_iload (i := 6) (by decide +kernel) rfl ?_
  refine s_iload (i := 5) (by decide +kernel) rfl ?_
  refine s_icmp_ge (off := 25) (tgt := 47) (by decide +kernel) (by decide) (fun c1 => ?_) (fun c1 => ?_)
  · have h2 := h.1 c1
    refine s_iload_n (i := 3) (by decide +kernel) rfl ?_
    exact s_iret rfl (by decide +kernel) (by decide) (by decide) h2
  · have h3 := h.2 c1
    refine s_aload_n (i := 0) (by decide +kernel) rfl ?_
    refine s_iload (i := 4) (by decide +kernel) rfl ?_
    refine s_iload_n (i := 2) (by decide +kernel) rfl ?_
    refine s_callV (Fc := fP_nextOnWay) (index := 34) (ci := 1) (as := [aI x4, aI x2]) (rest := []) rfl h3 rfl rfl (by decide) rfl ⟨g_256, hP_nextOnWay, g_2, by decide, (show (parseMethodDescriptor fP_nextOnWay.1.desc).map (fun d => d.parameters.length) = some 2 from by decide +kernel), by decide, by decide, (by decide), (by decide)⟩ g_257 g_258 rfl rfl (Nat.le_of_ble_eq_true rfl) (by decide +kernel) (q_cI (fun b5 M4 h6 => ?_) (fun _ _ q => q.elim))
    refine s_istore (i := 4) (by decide +kernel) (by decide) ?_
    refine s_iload_n (i := 3) (by decide +kernel) rfl ?_
    refine s_iconst (n := 1) (by decide +kernel) ?_
    refine s_iload (i := 4) (by decide +kernel) rfl ?_
    refine s_ishl (by decide +kernel) ?_
    refine s_ior (by decide +kernel) ?_
    refine s_istore_n (i := 3) (by decide +kernel) (by decide) ?_
    refine s_iinc (i := 6) (n := 1) (by decide +kernel) rfl (by decide) ?_
    refine s_goto (off := -26) (tgt := 18) (by decide +kernel) (by decide) ?_
    exact h6

