/-! contracts out of bodies (printed by gen09.py) -/
theorem EZ_addLane {K : KX} {Q : Res → AG → AM → Prop} {M : AM} (hst : K.1.stackTraces = false) (p1 p2 : Int) (h : WM K fZ_addLane (EM K fZ_addLane 80 Q) 0 [some (aR 0), some (aI p1), some (aI p2)] [] GG M 0 0) : MetA K fZ_addLane [aR 0, aI p1, aI p2] GG M Q :=
  met_of hst (by decide +kernel) rfl rfl (Nat.le_of_ble_eq_true rfl) (gg_len ▸ h)
theorem EZ_setCharger {K : KX} {Q : Res → AG → AM → Prop} {M : AM} (hst : K.1.stackTraces = false) (p1 p2 : Int) (h : WM K fZ_setCharger (EM K fZ_setCharger 80 Q) 0 [some (aR 0), some (aI p1), some (aI p2), none] [] GG M 0 0) : MetA K fZ_setCharger [aR 0, aI p1, aI p2] GG M Q :=
  met_of hst (by decide +kernel) rfl rfl (Nat.le_of_ble_eq_true rfl) (gg_len ▸ h)
theorem EZ_distance {K : KX} {Q : Res → AG → AM → Prop} {M : AM} (hst : K.1.stackTraces = false) (p1 p2 : Int) (h : WM K fZ_distance (EM K fZ_distance 80 Q) 0 [some (aR 0), some (aI p1), some (aI p2)] [] GG M 0 0) : MetA K fZ_distance [aR 0, aI p1, aI p2] GG M Q :=
  met_of hst (by decide +kernel) rfl rfl (Nat.le_of_ble_eq_true rfl) (gg_len ▸ h)
theorem EZ_addVehicle {K : KX} {Q : Res → AG → AM → Prop} {M : AM} (hst : K.1.stackTraces = false) (p1 p2 : Int) (h : WM K fZ_addVehicle (EM K fZ_addVehicle 80 Q) 0 [some (aR 0), some (aI p1), some (aI p2), none] [] GG M 0 0) : MetA K fZ_addVehicle [aR 0, aI p1, aI p2] GG M Q :=
  met_of hst (by decide +kernel) rfl rfl (Nat.le_of_ble_eq_true rfl) (gg_len ▸ h)
theorem EZ_assign {K : KX} {Q : Res → AG → AM → Prop} {M : AM} (hst : K.1.stackTraces = false) (p1 p2 : Int) (h : WM K fZ_assign (EM K fZ_assign 80 Q) 0 [some (aR 0), some (aI p1), some (aI p2), none] [] GG M 0 0) : MetA K fZ_assign [aR 0, aI p1, aI p2] GG M Q :=
  met_of hst (by decide +kernel) rfl rfl (Nat.le_of_ble_eq_true rfl) (gg_len ▸ h)
theorem EZ_cancel {K : KX} {Q : Res → AG → AM → Prop} {M : AM} (hst : K.1.stackTraces = false) (p1 : Int) (h : WM K fZ_cancel (EM K fZ_cancel 80 Q) 0 [some (aR 0), some (aI p1), none, none] [] GG M 0 0) : MetA K fZ_cancel [aR 0, aI p1] GG M Q :=
  met_of hst (by decide +kernel) rfl rfl (Nat.le_of_ble_eq_true rfl) (gg_len ▸ h)
theorem EZ_charge {K : KX} {Q : Res → AG → AM → Prop} {M : AM} (hst : K.1.stackTraces = false) (p1 : Int) (h : WM K fZ_charge (EM K fZ_charge 80 Q) 0 [some (aR 0), some (aI p1), none, none] [] GG M 0 0) : MetA K fZ_charge [aR 0, aI p1] GG M Q :=
  met_of hst (by decide +kernel) rfl rfl (Nat.le_of_ble_eq_true rfl) (gg_len ▸ h)
theorem EZ_canStep {K : KX} {Q : Res → AG → AM → Prop} {M : AM} (hst : K.1.stackTraces = false) (p1 : Int) (h : WM K fZ_canStep (EM K fZ_canStep 80 Q) 0 [some (aR 0), some (aI p1)] [] GG M 0 0) : MetA K fZ_canStep [aR 0, aI p1] GG M Q :=
  met_of hst (by decide +kernel) rfl rfl (Nat.le_of_ble_eq_true rfl) (gg_len ▸ h)
theorem EZ_step {K : KX} {Q : Res → AG → AM → Prop} {M : AM} (hst : K.1.stackTraces = false) (p1 : Int) (h : WM K fZ_step (EM K fZ_step 80 Q) 0 [some (aR 0), some (aI p1)] [] GG M 0 0) : MetA K fZ_step [aR 0, aI p1] GG M Q :=
  met_of hst (by decide +kernel) rfl rfl (Nat.le_of_ble_eq_true rfl) (gg_len ▸ h)
theorem EZ_tick {K : KX} {Q : Res → AG → AM → Prop} {M : AM} (hst : K.1.stackTraces = false) (p1 : Int) (h : WM K fZ_tick (EM K fZ_tick 80 Q) 0 [some (aR 0), some (aI p1), none, none] [] GG M 0 0) : MetA K fZ_tick [aR 0, aI p1] GG M Q :=
  met_of hst (by decide +kernel) rfl rfl (Nat.le_of_ble_eq_true rfl) (gg_len ▸ h)
theorem EZ_addJob {K : KX} {Q : Res → AG → AM → Prop} {M : AM} (hst : K.1.stackTraces = false) (p1 : Int) (h : WM K fZ_addJob (EM K fZ_addJob 80 Q) 0 [some (aR 0), some (aI p1), none] [] GG M 0 0) : MetA K fZ_addJob [aR 0, aI p1] GG M Q :=
  met_of hst (by decide +kernel) rfl rfl (Nat.le_of_ble_eq_true rfl) (gg_len ▸ h)
theorem EZ_dispatch {K : KX} {Q : Res → AG → AM → Prop} {M : AM} (hst : K.1.stackTraces = false) (h : WM K fZ_dispatch (EM K fZ_dispatch 80 Q) 0 [some (aR 0), none, none] [] GG M 0 0) : MetA K fZ_dispatch [aR 0] GG M Q :=
  met_of hst (by decide +kernel) rfl rfl (Nat.le_of_ble_eq_true rfl) (gg_len ▸ h)
theorem EZ_jobState {K : KX} {Q : Res → AG → AM → Prop} {M : AM} (hst : K.1.stackTraces = false) (p1 : Int) (h : WM K fZ_jobState (EM K fZ_jobState 80 Q) 0 [some (aR 0), some (aI p1)] [] GG M 0 0) : MetA K fZ_jobState [aR 0, aI p1] GG M Q :=
  met_of hst (by decide +kernel) rfl rfl (Nat.le_of_ble_eq_true rfl) (gg_len ▸ h)
theorem EZ_jobVehicle {K : KX} {Q : Res → AG → AM → Prop} {M : AM} (hst : K.1.stackTraces = false) (p1 : Int) (h : WM K fZ_jobVehicle (EM K fZ_jobVehicle 80 Q) 0 [some (aR 0), some (aI p1)] [] GG M 0 0) : MetA K fZ_jobVehicle [aR 0, aI p1] GG M Q :=
  met_of hst (by decide +kernel) rfl rfl (Nat.le_of_ble_eq_true rfl) (gg_len ▸ h)
theorem EZ_regret {K : KX} {Q : Res → AG → AM → Prop} {M : AM} (hst : K.1.stackTraces = false) (p1 : Int) (h : WM K fZ_regret (EM K fZ_regret 80 Q) 0 [some (aR 0), some (aI p1)] [] GG M 0 0) : MetA K fZ_regret [aR 0, aI p1] GG M Q :=
  met_of hst (by decide +kernel) rfl rfl (Nat.le_of_ble_eq_true rfl) (gg_len ▸ h)
theorem EZ_vehicles {K : KX} {Q : Res → AG → AM → Prop} {M : AM} (hst : K.1.stackTraces = false) (h : WM K fZ_vehicles (EM K fZ_vehicles 80 Q) 0 [some (aR 0)] [] GG M 0 0) : MetA K fZ_vehicles [aR 0] GG M Q :=
  met_of hst (by decide +kernel) rfl rfl (Nat.le_of_ble_eq_true rfl) (gg_len ▸ h)
theorem EZ_zoneOf {K : KX} {Q : Res → AG → AM → Prop} {M : AM} (hst : K.1.stackTraces = false) (p1 : Int) (h : WM K fZ_zoneOf (EM K fZ_zoneOf 80 Q) 0 [some (aR 0), some (aI p1)] [] GG M 0 0) : MetA K fZ_zoneOf [aR 0, aI p1] GG M Q :=
  met_of hst (by decide +kernel) rfl rfl (Nat.le_of_ble_eq_true rfl) (gg_len ▸ h)
theorem EZ_vehicleIn {K : KX} {Q : Res → AG → AM → Prop} {M : AM} (hst : K.1.stackTraces = false) (p1 : Int) (h : WM K fZ_vehicleIn (EM K fZ_vehicleIn 80 Q) 0 [some (aR 0), some (aI p1)] [] GG M 0 0) : MetA K fZ_vehicleIn [aR 0, aI p1] GG M Q :=
  met_of hst (by decide +kernel) rfl rfl (Nat.le_of_ble_eq_true rfl) (gg_len ▸ h)
theorem EZ_routeLength {K : KX} {Q : Res → AG → AM → Prop} {M : AM} (hst : K.1.stackTraces = false) (p1 : Int) (h : WM K fZ_routeLength (EM K fZ_routeLength 80 Q) 0 [some (aR 0), some (aI p1)] [] GG M 0 0) : MetA K fZ_routeLength [aR 0, aI p1] GG M Q :=
  met_of hst (by decide +kernel) rfl rfl (Nat.le_of_ble_eq_true rfl) (gg_len ▸ h)
theorem EZ_routeZone {K : KX} {Q : Res → AG → AM → Prop} {M : AM} (hst : K.1.stackTraces = false) (p1 p2 : Int) (h : WM K fZ_routeZone (EM K fZ_routeZone 80 Q) 0 [some (aR 0), some (aI p1), some (aI p2), none] [] GG M 0 0) : MetA K fZ_routeZone [aR 0, aI p1, aI p2] GG M Q :=
  met_of hst (by decide +kernel) rfl rfl (Nat.le_of_ble_eq_true rfl) (gg_len ▸ h)
theorem EZ_energy {K : KX} {Q : Res → AG → AM → Prop} {M : AM} (hst : K.1.stackTraces = false) (p1 : Int) (h : WM K fZ_energy (EM K fZ_energy 80 Q) 0 [some (aR 0), some (aI p1)] [] GG M 0 0) : MetA K fZ_energy [aR 0, aI p1] GG M Q :=
  met_of hst (by decide +kernel) rfl rfl (Nat.le_of_ble_eq_true rfl) (gg_len ▸ h)
theorem EZ_waited {K : KX} {Q : Res → AG → AM → Prop} {M : AM} (hst : K.1.stackTraces = false) (p1 : Int) (h : WM K fZ_waited (EM K fZ_waited 80 Q) 0 [some (aR 0), some (aI p1)] [] GG M 0 0) : MetA K fZ_waited [aR 0, aI p1] GG M Q :=
  met_of hst (by decide +kernel) rfl rfl (Nat.le_of_ble_eq_true rfl) (gg_len ▸ h)
theorem EZ_orders {K : KX} {Q : Res → AG → AM → Prop} {M : AM} (hst : K.1.stackTraces = false) (h : WM K fZ_orders (EM K fZ_orders 80 Q) 0 [some (aR 0)] [] GG M 0 0) : MetA K fZ_orders [aR 0] GG M Q :=
  met_of hst (by decide +kernel) rfl rfl (Nat.le_of_ble_eq_true rfl) (gg_len ▸ h)
theorem EZ_finisher {K : KX} {Q : Res → AG → AM → Prop} {M : AM} (hst : K.1.stackTraces = false) (p1 : Int) (h : WM K fZ_finisher (EM K fZ_finisher 80 Q) 0 [some (aR 0), some (aI p1)] [] GG M 0 0) : MetA K fZ_finisher [aR 0, aI p1] GG M Q :=
  met_of hst (by decide +kernel) rfl rfl (Nat.le_of_ble_eq_true rfl) (gg_len ▸ h)
theorem EZ_requireZone {K : KX} {Q : Res → AG → AM → Prop} {M : AM} (hst : K.1.stackTraces = false) (p1 : Int) (h : WM K fZ_requireZone (EM K fZ_requireZone 80 Q) 0 [some (aI p1)] [] GG M 0 0) : MetA K fZ_requireZone [aI p1] GG M Q :=
  met_of hst (by decide +kernel) rfl rfl (Nat.le_of_ble_eq_true rfl) (gg_len ▸ h)
theorem EZ_requireVehicle {K : KX} {Q : Res → AG → AM → Prop} {M : AM} (hst : K.1.stackTraces = false) (p1 : Int) (h : WM K fZ_requireVehicle (EM K fZ_requireVehicle 80 Q) 0 [some (aR 0), some (aI p1)] [] GG M 0 0) : MetA K fZ_requireVehicle [aR 0, aI p1] GG M Q :=
  met_of hst (by decide +kernel) rfl rfl (Nat.le_of_ble_eq_true rfl) (gg_len ▸ h)
theorem EZ_requireJob {K : KX} {Q : Res → AG → AM → Prop} {M : AM} (hst : K.1.stackTraces = false) (p1 : Int) (h : WM K fZ_requireJob (EM K fZ_requireJob 80 Q) 0 [some (aR 0), some (aI p1)] [] GG M 0 0) : MetA K fZ_requireJob [aR 0, aI p1] GG M Q :=
  met_of hst (by decide +kernel) rfl rfl (Nat.le_of_ble_eq_true rfl) (gg_len ▸ h)
theorem EZ_findIn {K : KX} {Q : Res → AG → AM → Prop} {M : AM} (hst : K.1.stackTraces = false) (p1 : Int) (h : WM K fZ_findIn (EM K fZ_findIn 80 Q) 0 [some (aR 0), some (aI p1), none] [] GG M 0 0) : MetA K fZ_findIn [aR 0, aI p1] GG M Q :=
  met_of hst (by decide +kernel) rfl rfl (Nat.le_of_ble_eq_true rfl) (gg_len ▸ h)
theorem EZ_lookAtTraffic {K : KX} {Q : Res → AG → AM → Prop} {M : AM} (hst : K.1.stackTraces = false) (h : WM K fZ_lookAtTraffic (EM K fZ_lookAtTraffic 80 Q) 0 [some (aR 0), none, none] [] GG M 0 0) : MetA K fZ_lookAtTraffic [aR 0] GG M Q :=
  met_of hst (by decide +kernel) rfl rfl (Nat.le_of_ble_eq_true rfl) (gg_len ▸ h)
theorem EZ_isSafeWith {K : KX} {Q : Res → AG → AM → Prop} {M : AM} (hst : K.1.stackTraces = false) (p1 p2 p3 p4 : Int) (h : WM K fZ_isSafeWith (EM K fZ_isSafeWith 80 Q) 0 [some (aR 0), some (aI p1), some (aI p2), some (aI p3), some (aI p4)] [] GG M 0 0) : MetA K fZ_isSafeWith [aR 0, aI p1, aI p2, aI p3, aI p4] GG M Q :=
  met_of hst (by decide +kernel) rfl rfl (Nat.le_of_ble_eq_true rfl) (gg_len ▸ h)
theorem EZ_isSafeWithIdle {K : KX} {Q : Res → AG → AM → Prop} {M : AM} (hst : K.1.stackTraces = false) (p1 p2 : Int) (h : WM K fZ_isSafeWithIdle (EM K fZ_isSafeWithIdle 80 Q) 0 [some (aR 0), some (aI p1), some (aI p2)] [] GG M 0 0) : MetA K fZ_isSafeWithIdle [aR 0, aI p1, aI p2] GG M Q :=
  met_of hst (by decide +kernel) rfl rfl (Nat.le_of_ble_eq_true rfl) (gg_len ▸ h)
theorem EZ_lengthFor {K : KX} {Q : Res → AG → AM → Prop} {M : AM} (hst : K.1.stackTraces = false) (p1 p2 : Int) (h : WM K fZ_lengthFor (EM K fZ_lengthFor 80 Q) 0 [some (aR 0), some (aI p1), some (aI p2), none, none, none] [] GG M 0 0) : MetA K fZ_lengthFor [aR 0, aI p1, aI p2] GG M Q :=
  met_of hst (by decide +kernel) rfl rfl (Nat.le_of_ble_eq_true rfl) (gg_len ▸ h)
theorem EZ_mayMove {K : KX} {Q : Res → AG → AM → Prop} {M : AM} (hst : K.1.stackTraces = false) (p1 : Int) (h : WM K fZ_mayMove (EM K fZ_mayMove 80 Q) 0 [some (aR 0), some (aI p1), none, none] [] GG M 0 0) : MetA K fZ_mayMove [aR 0, aI p1] GG M Q :=
  met_of hst (by decide +kernel) rfl rfl (Nat.le_of_ble_eq_true rfl) (gg_len ▸ h)
theorem EZ_move {K : KX} {Q : Res → AG → AM → Prop} {M : AM} (hst : K.1.stackTraces = false) (p1 : Int) (h : WM K fZ_move (EM K fZ_move 80 Q) 0 [some (aR 0), some (aI p1)] [] GG M 0 0) : MetA K fZ_move [aR 0, aI p1] GG M Q :=
  met_of hst (by decide +kernel) rfl rfl (Nat.le_of_ble_eq_true rfl) (gg_len ▸ h)
theorem EZ_passOneTick {K : KX} {Q : Res → AG → AM → Prop} {M : AM} (hst : K.1.stackTraces = false) (h : WM K fZ_passOneTick (EM K fZ_passOneTick 80 Q) 0 [some (aR 0), none, none] [] GG M 0 0) : MetA K fZ_passOneTick [aR 0] GG M Q :=
  met_of hst (by decide +kernel) rfl rfl (Nat.le_of_ble_eq_true rfl) (gg_len ▸ h)
theorem EZ_endJobOf {K : KX} {Q : Res → AG → AM → Prop} {M : AM} (hst : K.1.stackTraces = false) (p1 p2 p3 : Int) (h : WM K fZ_endJobOf (EM K fZ_endJobOf 80 Q) 0 [some (aR 0), some (aI p1), some (aI p2), some (aI p3), none] [] GG M 0 0) : MetA K fZ_endJobOf [aR 0, aI p1, aI p2, aI p3] GG M Q :=
  met_of hst (by decide +kernel) rfl rfl (Nat.le_of_ble_eq_true rfl) (gg_len ▸ h)
theorem EZ_regretOf {K : KX} {Q : Res → AG → AM → Prop} {M : AM} (hst : K.1.stackTraces = false) (p1 : Int) (h : WM K fZ_regretOf (EM K fZ_regretOf 80 Q) 0 [some (aR 0), some (aI p1), none, none, none, none] [] GG M 0 0) : MetA K fZ_regretOf [aR 0, aI p1] GG M Q :=
  met_of hst (by decide +kernel) rfl rfl (Nat.le_of_ble_eq_true rfl) (gg_len ▸ h)
theorem EZ_mostRegretted {K : KX} {Q : Res → AG → AM → Prop} {M : AM} (hst : K.1.stackTraces = false) (h : WM K fZ_mostRegretted (EM K fZ_mostRegretted 80 Q) 0 [some (aR 0), none, none, none, none] [] GG M 0 0) : MetA K fZ_mostRegretted [aR 0] GG M Q :=
  met_of hst (by decide +kernel) rfl rfl (Nat.le_of_ble_eq_true rfl) (gg_len ▸ h)
theorem EZ_nearestTaker {K : KX} {Q : Res → AG → AM → Prop} {M : AM} (hst : K.1.stackTraces = false) (p1 : Int) (h : WM K fZ_nearestTaker (EM K fZ_nearestTaker 80 Q) 0 [some (aR 0), some (aI p1), none, none, none, none] [] GG M 0 0) : MetA K fZ_nearestTaker [aR 0, aI p1] GG M Q :=
  met_of hst (by decide +kernel) rfl rfl (Nat.le_of_ble_eq_true rfl) (gg_len ▸ h)
theorem EM_thrown {K : KX} {Q : Res → AG → AM → Prop} {M : AM} (hst : K.1.stackTraces = false) (h : WM K fM_thrown (EM K fM_thrown 80 Q) 0 [some (aR 63)] [] GG M 0 0) : MetA K fM_thrown [aR 63] GG M Q :=
  met_of hst (by decide +kernel) rfl rfl (Nat.le_of_ble_eq_true rfl) (gg_len ▸ h)
theorem EM_goesWell {K : KX} {Q : Res → AG → AM → Prop} {M : AM} (hst : K.1.stackTraces = false) (p1 : Int) (h : WM K fM_goesWell (EM K fM_goesWell 80 Q) 0 [some (aR 63), some (aI p1)] [] GG M 0 0) : MetA K fM_goesWell [aR 63, aI p1] GG M Q :=
  met_of hst (by decide +kernel) rfl rfl (Nat.le_of_ble_eq_true rfl) (gg_len ▸ h)
theorem EM_in {K : KX} {Q : Res → AG → AM → Prop} {M : AM} (hst : K.1.stackTraces = false) (p1 p2 p3 : Int) (h : WM K fM_in (EM K fM_in 80 Q) 0 [some (aI p1), some (aI p2), some (aI p3)] [] GG M 0 0) : MetA K fM_in [aI p1, aI p2, aI p3] GG M Q :=
  met_of hst (by decide +kernel) rfl rfl (Nat.le_of_ble_eq_true rfl) (gg_len ▸ h)
theorem EM_isZone {K : KX} {Q : Res → AG → AM → Prop} {M : AM} (hst : K.1.stackTraces = false) (p1 : Int) (h : WM K fM_isZone (EM K fM_isZone 80 Q) 0 [some (aI p1)] [] GG M 0 0) : MetA K fM_isZone [aI p1] GG M Q :=
  met_of hst (by decide +kernel) rfl rfl (Nat.le_of_ble_eq_true rfl) (gg_len ▸ h)
theorem EM_isVehicle {K : KX} {Q : Res → AG → AM → Prop} {M : AM} (hst : K.1.stackTraces = false) (p1 : Int) (h : WM K fM_isVehicle (EM K fM_isVehicle 80 Q) 0 [some (aR 63), some (aI p1)] [] GG M 0 0) : MetA K fM_isVehicle [aR 63, aI p1] GG M Q :=
  met_of hst (by decide +kernel) rfl rfl (Nat.le_of_ble_eq_true rfl) (gg_len ▸ h)
theorem EM_isJob {K : KX} {Q : Res → AG → AM → Prop} {M : AM} (hst : K.1.stackTraces = false) (p1 : Int) (h : WM K fM_isJob (EM K fM_isJob 80 Q) 0 [some (aR 63), some (aI p1)] [] GG M 0 0) : MetA K fM_isJob [aR 63, aI p1] GG M Q :=
  met_of hst (by decide +kernel) rfl rfl (Nat.le_of_ble_eq_true rfl) (gg_len ▸ h)
theorem EM_addLane {K : KX} {Q : Res → AG → AM → Prop} {M : AM} (hst : K.1.stackTraces = false) (p1 p2 : Int) (h : WM K fM_addLane (EM K fM_addLane 80 Q) 0 [some (aR 63), some (aI p1), some (aI p2), none] [] GG M 0 0) : MetA K fM_addLane [aR 63, aI p1, aI p2] GG M Q :=
  met_of hst (by decide +kernel) rfl rfl (Nat.le_of_ble_eq_true rfl) (gg_len ▸ h)
theorem EM_setCharger {K : KX} {Q : Res → AG → AM → Prop} {M : AM} (hst : K.1.stackTraces = false) (p1 p2 : Int) (h : WM K fM_setCharger (EM K fM_setCharger 80 Q) 0 [some (aR 63), some (aI p1), some (aI p2), none] [] GG M 0 0) : MetA K fM_setCharger [aR 63, aI p1, aI p2] GG M Q :=
  met_of hst (by decide +kernel) rfl rfl (Nat.le_of_ble_eq_true rfl) (gg_len ▸ h)
theorem EM_measure {K : KX} {Q : Res → AG → AM → Prop} {M : AM} (hst : K.1.stackTraces = false) (p1 : Int) (h : WM K fM_measure (EM K fM_measure 80 Q) 0 [some (aR 63), some (aI p1), none, none] [] GG M 0 0) : MetA K fM_measure [aR 63, aI p1] GG M Q :=
  met_of hst (by decide +kernel) rfl rfl (Nat.le_of_ble_eq_true rfl) (gg_len ▸ h)
theorem EM_distance {K : KX} {Q : Res → AG → AM → Prop} {M : AM} (hst : K.1.stackTraces = false) (p1 p2 : Int) (h : WM K fM_distance (EM K fM_distance 80 Q) 0 [some (aR 63), some (aI p1), some (aI p2)] [] GG M 0 0) : MetA K fM_distance [aR 63, aI p1, aI p2] GG M Q :=
  met_of hst (by decide +kernel) rfl rfl (Nat.le_of_ble_eq_true rfl) (gg_len ▸ h)
theorem EM_toCharger {K : KX} {Q : Res → AG → AM → Prop} {M : AM} (hst : K.1.stackTraces = false) (p1 : Int) (h : WM K fM_toCharger (EM K fM_toCharger 80 Q) 0 [some (aR 63), some (aI p1), none, none, none] [] GG M 0 0) : MetA K fM_toCharger [aR 63, aI p1] GG M Q :=
  met_of hst (by decide +kernel) rfl rfl (Nat.le_of_ble_eq_true rfl) (gg_len ▸ h)
theorem EM_countBusy {K : KX} {Q : Res → AG → AM → Prop} {M : AM} (hst : K.1.stackTraces = false) (h : WM K fM_countBusy (EM K fM_countBusy 80 Q) 0 [some (aR 63), none, none] [] GG M 0 0) : MetA K fM_countBusy [aR 63] GG M Q :=
  met_of hst (by decide +kernel) rfl rfl (Nat.le_of_ble_eq_true rfl) (gg_len ▸ h)
theorem EM_place {K : KX} {Q : Res → AG → AM → Prop} {M : AM} (hst : K.1.stackTraces = false) (p1 p2 : Int) (h : WM K fM_place (EM K fM_place 80 Q) 0 [some (aR 63), some (aI p1), some (aI p2), none] [] GG M 0 0) : MetA K fM_place [aR 63, aI p1, aI p2] GG M Q :=
  met_of hst (by decide +kernel) rfl rfl (Nat.le_of_ble_eq_true rfl) (gg_len ▸ h)
theorem EM_canRun {K : KX} {Q : Res → AG → AM → Prop} {M : AM} (hst : K.1.stackTraces = false) (p1 p2 : Int) (h : WM K fM_canRun (EM K fM_canRun 80 Q) 0 [some (aR 63), some (aI p1), some (aI p2), none, none, none] [] GG M 0 0) : MetA K fM_canRun [aR 63, aI p1, aI p2] GG M Q :=
  met_of hst (by decide +kernel) rfl rfl (Nat.le_of_ble_eq_true rfl) (gg_len ▸ h)
theorem EM_isSafe {K : KX} {Q : Res → AG → AM → Prop} {M : AM} (hst : K.1.stackTraces = false) (h : WM K fM_isSafe (EM K fM_isSafe 80 Q) 0 [some (aR 63), none, none, none, none] [] GG M 0 0) : MetA K fM_isSafe [aR 63] GG M Q :=
  met_of hst (by decide +kernel) rfl rfl (Nat.le_of_ble_eq_true rfl) (gg_len ▸ h)
theorem EM_find {K : KX} {Q : Res → AG → AM → Prop} {M : AM} (hst : K.1.stackTraces = false) (p1 : Int) (h : WM K fM_find (EM K fM_find 80 Q) 0 [some (aR 63), some (aI p1), none] [] GG M 0 0) : MetA K fM_find [aR 63, aI p1] GG M Q :=
  met_of hst (by decide +kernel) rfl rfl (Nat.le_of_ble_eq_true rfl) (gg_len ▸ h)
theorem EM_addVehicle {K : KX} {Q : Res → AG → AM → Prop} {M : AM} (hst : K.1.stackTraces = false) (p1 p2 : Int) (h : WM K fM_addVehicle (EM K fM_addVehicle 80 Q) 0 [some (aR 63), some (aI p1), some (aI p2), none, none] [] GG M 0 0) : MetA K fM_addVehicle [aR 63, aI p1, aI p2] GG M Q :=
  met_of hst (by decide +kernel) rfl rfl (Nat.le_of_ble_eq_true rfl) (gg_len ▸ h)
theorem EM_findWay {K : KX} {Q : Res → AG → AM → Prop} {M : AM} (hst : K.1.stackTraces = false) (p1 p2 : Int) (h : WM K fM_findWay (EM K fM_findWay 80 Q) 0 [some (aR 63), some (aI p1), some (aI p2), none, none, none, none, none] [] GG M 0 0) : MetA K fM_findWay [aR 63, aI p1, aI p2] GG M Q :=
  met_of hst (by decide +kernel) rfl rfl (Nat.le_of_ble_eq_true rfl) (gg_len ▸ h)
theorem EM_setRoute {K : KX} {Q : Res → AG → AM → Prop} {M : AM} (hst : K.1.stackTraces = false) (p1 p2 : Int) (h : WM K fM_setRoute (EM K fM_setRoute 80 Q) 0 [some (aR 63), some (aI p1), some (aI p2), none] [] GG M 0 0) : MetA K fM_setRoute [aR 63, aI p1, aI p2] GG M Q :=
  met_of hst (by decide +kernel) rfl rfl (Nat.le_of_ble_eq_true rfl) (gg_len ▸ h)
theorem EM_couldGo {K : KX} {Q : Res → AG → AM → Prop} {M : AM} (hst : K.1.stackTraces = false) (p1 p2 : Int) (h : WM K fM_couldGo (EM K fM_couldGo 80 Q) 0 [some (aR 63), some (aI p1), some (aI p2), none, none] [] GG M 0 0) : MetA K fM_couldGo [aR 63, aI p1, aI p2] GG M Q :=
  met_of hst (by decide +kernel) rfl rfl (Nat.le_of_ble_eq_true rfl) (gg_len ▸ h)
theorem EM_assign {K : KX} {Q : Res → AG → AM → Prop} {M : AM} (hst : K.1.stackTraces = false) (p1 p2 : Int) (h : WM K fM_assign (EM K fM_assign 80 Q) 0 [some (aR 63), some (aI p1), some (aI p2), none] [] GG M 0 0) : MetA K fM_assign [aR 63, aI p1, aI p2] GG M Q :=
  met_of hst (by decide +kernel) rfl rfl (Nat.le_of_ble_eq_true rfl) (gg_len ▸ h)
theorem EM_cancel {K : KX} {Q : Res → AG → AM → Prop} {M : AM} (hst : K.1.stackTraces = false) (p1 : Int) (h : WM K fM_cancel (EM K fM_cancel 80 Q) 0 [some (aR 63), some (aI p1), none, none, none] [] GG M 0 0) : MetA K fM_cancel [aR 63, aI p1] GG M Q :=
  met_of hst (by decide +kernel) rfl rfl (Nat.le_of_ble_eq_true rfl) (gg_len ▸ h)
theorem EM_charge {K : KX} {Q : Res → AG → AM → Prop} {M : AM} (hst : K.1.stackTraces = false) (p1 : Int) (h : WM K fM_charge (EM K fM_charge 80 Q) 0 [some (aR 63), some (aI p1), none, none] [] GG M 0 0) : MetA K fM_charge [aR 63, aI p1] GG M Q :=
  met_of hst (by decide +kernel) rfl rfl (Nat.le_of_ble_eq_true rfl) (gg_len ▸ h)
theorem EM_move {K : KX} {Q : Res → AG → AM → Prop} {M : AM} (hst : K.1.stackTraces = false) (p1 : Int) (h : WM K fM_move (EM K fM_move 80 Q) 0 [some (aR 63), some (aI p1), none] [] GG M 0 0) : MetA K fM_move [aR 63, aI p1] GG M Q :=
  met_of hst (by decide +kernel) rfl rfl (Nat.le_of_ble_eq_true rfl) (gg_len ▸ h)
theorem EM_moveBack {K : KX} {Q : Res → AG → AM → Prop} {M : AM} (hst : K.1.stackTraces = false) (p1 p2 : Int) (h : WM K fM_moveBack (EM K fM_moveBack 80 Q) 0 [some (aR 63), some (aI p1), some (aI p2), none] [] GG M 0 0) : MetA K fM_moveBack [aR 63, aI p1, aI p2] GG M Q :=
  met_of hst (by decide +kernel) rfl rfl (Nat.le_of_ble_eq_true rfl) (gg_len ▸ h)
theorem EM_mayStep {K : KX} {Q : Res → AG → AM → Prop} {M : AM} (hst : K.1.stackTraces = false) (p1 : Int) (h : WM K fM_mayStep (EM K fM_mayStep 80 Q) 0 [some (aR 63), some (aI p1), none, none] [] GG M 0 0) : MetA K fM_mayStep [aR 63, aI p1] GG M Q :=
  met_of hst (by decide +kernel) rfl rfl (Nat.le_of_ble_eq_true rfl) (gg_len ▸ h)
theorem EM_canStep {K : KX} {Q : Res → AG → AM → Prop} {M : AM} (hst : K.1.stackTraces = false) (p1 : Int) (h : WM K fM_canStep (EM K fM_canStep 80 Q) 0 [some (aR 63), some (aI p1)] [] GG M 0 0) : MetA K fM_canStep [aR 63, aI p1] GG M Q :=
  met_of hst (by decide +kernel) rfl rfl (Nat.le_of_ble_eq_true rfl) (gg_len ▸ h)
theorem EM_go {K : KX} {Q : Res → AG → AM → Prop} {M : AM} (hst : K.1.stackTraces = false) (p1 : Int) (h : WM K fM_go (EM K fM_go 80 Q) 0 [some (aR 63), some (aI p1)] [] GG M 0 0) : MetA K fM_go [aR 63, aI p1] GG M Q :=
  met_of hst (by decide +kernel) rfl rfl (Nat.le_of_ble_eq_true rfl) (gg_len ▸ h)
theorem EM_step {K : KX} {Q : Res → AG → AM → Prop} {M : AM} (hst : K.1.stackTraces = false) (p1 : Int) (h : WM K fM_step (EM K fM_step 80 Q) 0 [some (aR 63), some (aI p1), none] [] GG M 0 0) : MetA K fM_step [aR 63, aI p1] GG M Q :=
  met_of hst (by decide +kernel) rfl rfl (Nat.le_of_ble_eq_true rfl) (gg_len ▸ h)
theorem EM_tick {K : KX} {Q : Res → AG → AM → Prop} {M : AM} (hst : K.1.stackTraces = false) (p1 : Int) (h : WM K fM_tick (EM K fM_tick 80 Q) 0 [some (aR 63), some (aI p1), none, none, none] [] GG M 0 0) : MetA K fM_tick [aR 63, aI p1] GG M Q :=
  met_of hst (by decide +kernel) rfl rfl (Nat.le_of_ble_eq_true rfl) (gg_len ▸ h)
theorem EM_addJob {K : KX} {Q : Res → AG → AM → Prop} {M : AM} (hst : K.1.stackTraces = false) (p1 : Int) (h : WM K fM_addJob (EM K fM_addJob 80 Q) 0 [some (aR 63), some (aI p1)] [] GG M 0 0) : MetA K fM_addJob [aR 63, aI p1] GG M Q :=
  met_of hst (by decide +kernel) rfl rfl (Nat.le_of_ble_eq_true rfl) (gg_len ▸ h)
theorem EM_takerOf {K : KX} {Q : Res → AG → AM → Prop} {M : AM} (hst : K.1.stackTraces = false) (p1 : Int) (h : WM K fM_takerOf (EM K fM_takerOf 80 Q) 0 [some (aR 63), some (aI p1), none, none, none, none] [] GG M 0 0) : MetA K fM_takerOf [aR 63, aI p1] GG M Q :=
  met_of hst (by decide +kernel) rfl rfl (Nat.le_of_ble_eq_true rfl) (gg_len ▸ h)
theorem EM_regretOf {K : KX} {Q : Res → AG → AM → Prop} {M : AM} (hst : K.1.stackTraces = false) (p1 : Int) (h : WM K fM_regretOf (EM K fM_regretOf 80 Q) 0 [some (aR 63), some (aI p1), none, none, none, none, none] [] GG M 0 0) : MetA K fM_regretOf [aR 63, aI p1] GG M Q :=
  met_of hst (by decide +kernel) rfl rfl (Nat.le_of_ble_eq_true rfl) (gg_len ▸ h)
theorem EM_dispatch {K : KX} {Q : Res → AG → AM → Prop} {M : AM} (hst : K.1.stackTraces = false) (h : WM K fM_dispatch (EM K fM_dispatch 80 Q) 0 [some (aR 63), none, none, none, none] [] GG M 0 0) : MetA K fM_dispatch [aR 63] GG M Q :=
  met_of hst (by decide +kernel) rfl rfl (Nat.le_of_ble_eq_true rfl) (gg_len ▸ h)
theorem EM_jobState {K : KX} {Q : Res → AG → AM → Prop} {M : AM} (hst : K.1.stackTraces = false) (p1 : Int) (h : WM K fM_jobState (EM K fM_jobState 80 Q) 0 [some (aR 63), some (aI p1)] [] GG M 0 0) : MetA K fM_jobState [aR 63, aI p1] GG M Q :=
  met_of hst (by decide +kernel) rfl rfl (Nat.le_of_ble_eq_true rfl) (gg_len ▸ h)
theorem EM_jobVehicle {K : KX} {Q : Res → AG → AM → Prop} {M : AM} (hst : K.1.stackTraces = false) (p1 : Int) (h : WM K fM_jobVehicle (EM K fM_jobVehicle 80 Q) 0 [some (aR 63), some (aI p1)] [] GG M 0 0) : MetA K fM_jobVehicle [aR 63, aI p1] GG M Q :=
  met_of hst (by decide +kernel) rfl rfl (Nat.le_of_ble_eq_true rfl) (gg_len ▸ h)
theorem EM_regret {K : KX} {Q : Res → AG → AM → Prop} {M : AM} (hst : K.1.stackTraces = false) (p1 : Int) (h : WM K fM_regret (EM K fM_regret 80 Q) 0 [some (aR 63), some (aI p1)] [] GG M 0 0) : MetA K fM_regret [aR 63, aI p1] GG M Q :=
  met_of hst (by decide +kernel) rfl rfl (Nat.le_of_ble_eq_true rfl) (gg_len ▸ h)
theorem EM_vehicles {K : KX} {Q : Res → AG → AM → Prop} {M : AM} (hst : K.1.stackTraces = false) (h : WM K fM_vehicles (EM K fM_vehicles 80 Q) 0 [some (aR 63)] [] GG M 0 0) : MetA K fM_vehicles [aR 63] GG M Q :=
  met_of hst (by decide +kernel) rfl rfl (Nat.le_of_ble_eq_true rfl) (gg_len ▸ h)
theorem EM_zoneOf {K : KX} {Q : Res → AG → AM → Prop} {M : AM} (hst : K.1.stackTraces = false) (p1 : Int) (h : WM K fM_zoneOf (EM K fM_zoneOf 80 Q) 0 [some (aR 63), some (aI p1)] [] GG M 0 0) : MetA K fM_zoneOf [aR 63, aI p1] GG M Q :=
  met_of hst (by decide +kernel) rfl rfl (Nat.le_of_ble_eq_true rfl) (gg_len ▸ h)
theorem EM_vehicleIn {K : KX} {Q : Res → AG → AM → Prop} {M : AM} (hst : K.1.stackTraces = false) (p1 : Int) (h : WM K fM_vehicleIn (EM K fM_vehicleIn 80 Q) 0 [some (aR 63), some (aI p1)] [] GG M 0 0) : MetA K fM_vehicleIn [aR 63, aI p1] GG M Q :=
  met_of hst (by decide +kernel) rfl rfl (Nat.le_of_ble_eq_true rfl) (gg_len ▸ h)
theorem EM_routeLength {K : KX} {Q : Res → AG → AM → Prop} {M : AM} (hst : K.1.stackTraces = false) (p1 : Int) (h : WM K fM_routeLength (EM K fM_routeLength 80 Q) 0 [some (aR 63), some (aI p1)] [] GG M 0 0) : MetA K fM_routeLength [aR 63, aI p1] GG M Q :=
  met_of hst (by decide +kernel) rfl rfl (Nat.le_of_ble_eq_true rfl) (gg_len ▸ h)
theorem EM_routeZone {K : KX} {Q : Res → AG → AM → Prop} {M : AM} (hst : K.1.stackTraces = false) (p1 p2 : Int) (h : WM K fM_routeZone (EM K fM_routeZone 80 Q) 0 [some (aR 63), some (aI p1), some (aI p2), none] [] GG M 0 0) : MetA K fM_routeZone [aR 63, aI p1, aI p2] GG M Q :=
  met_of hst (by decide +kernel) rfl rfl (Nat.le_of_ble_eq_true rfl) (gg_len ▸ h)
theorem EM_energy {K : KX} {Q : Res → AG → AM → Prop} {M : AM} (hst : K.1.stackTraces = false) (p1 : Int) (h : WM K fM_energy (EM K fM_energy 80 Q) 0 [some (aR 63), some (aI p1)] [] GG M 0 0) : MetA K fM_energy [aR 63, aI p1] GG M Q :=
  met_of hst (by decide +kernel) rfl rfl (Nat.le_of_ble_eq_true rfl) (gg_len ▸ h)
theorem EM_waited {K : KX} {Q : Res → AG → AM → Prop} {M : AM} (hst : K.1.stackTraces = false) (p1 : Int) (h : WM K fM_waited (EM K fM_waited 80 Q) 0 [some (aR 63), some (aI p1)] [] GG M 0 0) : MetA K fM_waited [aR 63, aI p1] GG M Q :=
  met_of hst (by decide +kernel) rfl rfl (Nat.le_of_ble_eq_true rfl) (gg_len ▸ h)
theorem EM_orders {K : KX} {Q : Res → AG → AM → Prop} {M : AM} (hst : K.1.stackTraces = false) (h : WM K fM_orders (EM K fM_orders 80 Q) 0 [some (aR 63), none] [] GG M 0 0) : MetA K fM_orders [aR 63] GG M Q :=
  met_of hst (by decide +kernel) rfl rfl (Nat.le_of_ble_eq_true rfl) (gg_len ▸ h)
theorem EM_layEnds {K : KX} {Q : Res → AG → AM → Prop} {M : AM} (hst : K.1.stackTraces = false) (h : WM K fM_layEnds (EM K fM_layEnds 80 Q) 0 [some (aR 63), none, none, none, none] [] GG M 0 0) : MetA K fM_layEnds [aR 63] GG M Q :=
  met_of hst (by decide +kernel) rfl rfl (Nat.le_of_ble_eq_true rfl) (gg_len ▸ h)
theorem EM_finisher {K : KX} {Q : Res → AG → AM → Prop} {M : AM} (hst : K.1.stackTraces = false) (p1 : Int) (h : WM K fM_finisher (EM K fM_finisher 80 Q) 0 [some (aR 63), some (aI p1), none, none, none, none, none, none, none, none] [] GG M 0 0) : MetA K fM_finisher [aR 63, aI p1] GG M Q :=
  met_of hst (by decide +kernel) rfl rfl (Nat.le_of_ble_eq_true rfl) (gg_len ▸ h)
theorem EP_hasLane {K : KX} {Q : Res → AG → AM → Prop} {M : AM} (hst : K.1.stackTraces = false) (p1 p2 : Int) (h : WM K fP_hasLane (EM K fP_hasLane 80 Q) 0 [some (aR 1), some (aI p1), some (aI p2)] [] GG M 0 0) : MetA K fP_hasLane [aR 1, aI p1, aI p2] GG M Q :=
  met_of hst (by decide +kernel) rfl rfl (Nat.le_of_ble_eq_true rfl) (gg_len ▸ h)
theorem EP_hasWay {K : KX} {Q : Res → AG → AM → Prop} {M : AM} (hst : K.1.stackTraces = false) (p1 p2 : Int) (h : WM K fP_hasWay (EM K fP_hasWay 80 Q) 0 [some (aR 1), some (aI p1), some (aI p2)] [] GG M 0 0) : MetA K fP_hasWay [aR 1, aI p1, aI p2] GG M Q :=
  met_of hst (by decide +kernel) rfl rfl (Nat.le_of_ble_eq_true rfl) (gg_len ▸ h)
theorem EP_lay {K : KX} {Q : Res → AG → AM → Prop} {M : AM} (hst : K.1.stackTraces = false) (p1 p2 : Int) (h : WM K fP_lay (EM K fP_lay 80 Q) 0 [some (aR 1), some (aI p1), some (aI p2), none, none, none, none] [] GG M 0 0) : MetA K fP_lay [aR 1, aI p1, aI p2] GG M Q :=
  met_of hst (by decide +kernel) rfl rfl (Nat.le_of_ble_eq_true rfl) (gg_len ▸ h)
theorem EP_energyForWay {K : KX} {Q : Res → AG → AM → Prop} {M : AM} (hst : K.1.stackTraces = false) (p1 p2 : Int) (h : WM K fP_energyForWay (EM K fP_energyForWay 80 Q) 0 [some (aR 1), some (aI p1), some (aI p2), none, none] [] GG M 0 0) : MetA K fP_energyForWay [aR 1, aI p1, aI p2] GG M Q :=
  met_of hst (by decide +kernel) rfl rfl (Nat.le_of_ble_eq_true rfl) (gg_len ▸ h)
theorem EP_nextOnWay {K : KX} {Q : Res → AG → AM → Prop} {M : AM} (hst : K.1.stackTraces = false) (p1 p2 : Int) (h : WM K fP_nextOnWay (EM K fP_nextOnWay 80 Q) 0 [some (aR 1), some (aI p1), some (aI p2), none] [] GG M 0 0) : MetA K fP_nextOnWay [aR 1, aI p1, aI p2] GG M Q :=
  met_of hst (by decide +kernel) rfl rfl (Nat.le_of_ble_eq_true rfl) (gg_len ▸ h)
theorem EP_wayBits {K : KX} {Q : Res → AG → AM → Prop} {M : AM} (hst : K.1.stackTraces = false) (p1 p2 : Int) (h : WM K fP_wayBits (EM K fP_wayBits 80 Q) 0 [some (aR 1), some (aI p1), some (aI p2), none, none, none, none] [] GG M 0 0) : MetA K fP_wayBits [aR 1, aI p1, aI p2] GG M Q :=
  met_of hst (by decide +kernel) rfl rfl (Nat.le_of_ble_eq_true rfl) (gg_len ▸ h)
theorem ET_clear {K : KX} {Q : Res → AG → AM → Prop} {M : AM} (hst : K.1.stackTraces = false) (h : WM K fT_clear (EM K fT_clear 80 Q) 0 [some (aR 24), none] [] GG M 0 0) : MetA K fT_clear [aR 24] GG M Q :=
  met_of hst (by decide +kernel) rfl rfl (Nat.le_of_ble_eq_true rfl) (gg_len ▸ h)
theorem ET_put {K : KX} {Q : Res → AG → AM → Prop} {M : AM} (hst : K.1.stackTraces = false) (p1 p2 p3 p4 : Int) (h : WM K fT_put (EM K fT_put 80 Q) 0 [some (aR 24), some (aI p1), some (aI p2), some (aI p3), some (aI p4), none] [] GG M 0 0) : MetA K fT_put [aR 24, aI p1, aI p2, aI p3, aI p4] GG M Q :=
  met_of hst (by decide +kernel) rfl rfl (Nat.le_of_ble_eq_true rfl) (gg_len ▸ h)
theorem ET_countOrders {K : KX} {Q : Res → AG → AM → Prop} {M : AM} (hst : K.1.stackTraces = false) (h : WM K fT_countOrders (EM K fT_countOrders 80 Q) 0 [some (aR 24), none] [] GG M 0 0) : MetA K fT_countOrders [aR 24] GG M Q :=
  met_of hst (by decide +kernel) rfl rfl (Nat.le_of_ble_eq_true rfl) (gg_len ▸ h)
theorem ET_sumBehind {K : KX} {Q : Res → AG → AM → Prop} {M : AM} (hst : K.1.stackTraces = false) (p1 p2 : Int) (h : WM K fT_sumBehind (EM K fT_sumBehind 80 Q) 0 [some (aR 24), some (aI p1), some (aI p2), none, none, none] [] GG M 0 0) : MetA K fT_sumBehind [aR 24, aI p1, aI p2] GG M Q :=
  met_of hst (by decide +kernel) rfl rfl (Nat.le_of_ble_eq_true rfl) (gg_len ▸ h)
theorem ET_runnersBehind {K : KX} {Q : Res → AG → AM → Prop} {M : AM} (hst : K.1.stackTraces = false) (p1 : Int) (h : WM K fT_runnersBehind (EM K fT_runnersBehind 80 Q) 0 [some (aR 24), some (aI p1), none, none, none] [] GG M 0 0) : MetA K fT_runnersBehind [aR 24, aI p1] GG M Q :=
  met_of hst (by decide +kernel) rfl rfl (Nat.le_of_ble_eq_true rfl) (gg_len ▸ h)
theorem ET_runnerInFirstOrder {K : KX} {Q : Res → AG → AM → Prop} {M : AM} (hst : K.1.stackTraces = false) (p1 : Int) (h : WM K fT_runnerInFirstOrder (EM K fT_runnerInFirstOrder 80 Q) 0 [some (aR 24), some (aI p1), none, none, none] [] GG M 0 0) : MetA K fT_runnerInFirstOrder [aR 24, aI p1] GG M Q :=
  met_of hst (by decide +kernel) rfl rfl (Nat.le_of_ble_eq_true rfl) (gg_len ▸ h)
theorem ET_firstToRun {K : KX} {Q : Res → AG → AM → Prop} {M : AM} (hst : K.1.stackTraces = false) (p1 : Int) (h : WM K fT_firstToRun (EM K fT_firstToRun 80 Q) 0 [some (aR 24), some (aI p1), none, none, none] [] GG M 0 0) : MetA K fT_firstToRun [aR 24, aI p1] GG M Q :=
  met_of hst (by decide +kernel) rfl rfl (Nat.le_of_ble_eq_true rfl) (gg_len ▸ h)
theorem EV_isIdle {K : KX} {Q : Res → AG → AM → Prop} {M : AM} (hst : K.1.stackTraces = false) (v : Nat) (h : WM K fV_isIdle (EM K fV_isIdle 80 Q) 0 [some (aR (30 + 2 * v))] [] GG M 0 0) : MetA K fV_isIdle [aR (30 + 2 * v)] GG M Q :=
  met_of hst (by decide +kernel) rfl rfl (Nat.le_of_ble_eq_true rfl) (gg_len ▸ h)
theorem EV_zonesLeft {K : KX} {Q : Res → AG → AM → Prop} {M : AM} (hst : K.1.stackTraces = false) (v : Nat) (h : WM K fV_zonesLeft (EM K fV_zonesLeft 80 Q) 0 [some (aR (30 + 2 * v))] [] GG M 0 0) : MetA K fV_zonesLeft [aR (30 + 2 * v)] GG M Q :=
  met_of hst (by decide +kernel) rfl rfl (Nat.le_of_ble_eq_true rfl) (gg_len ▸ h)
theorem EV_nextZone {K : KX} {Q : Res → AG → AM → Prop} {M : AM} (hst : K.1.stackTraces = false) (v : Nat) (h : WM K fV_nextZone (EM K fV_nextZone 80 Q) 0 [some (aR (30 + 2 * v))] [] GG M 0 0) : MetA K fV_nextZone [aR (30 + 2 * v)] GG M Q :=
  met_of hst (by decide +kernel) rfl rfl (Nat.le_of_ble_eq_true rfl) (gg_len ▸ h)
theorem EV_lastZone {K : KX} {Q : Res → AG → AM → Prop} {M : AM} (hst : K.1.stackTraces = false) (v : Nat) (h : WM K fV_lastZone (EM K fV_lastZone 80 Q) 0 [some (aR (30 + 2 * v))] [] GG M 0 0) : MetA K fV_lastZone [aR (30 + 2 * v)] GG M Q :=
  met_of hst (by decide +kernel) rfl rfl (Nat.le_of_ble_eq_true rfl) (gg_len ▸ h)
theorem EV_takeWay {K : KX} {Q : Res → AG → AM → Prop} {M : AM} (hst : K.1.stackTraces = false) (p2 : Int) (v : Nat) (h : WM K fV_takeWay (EM K fV_takeWay 80 Q) 0 [some (aR (30 + 2 * v)), some (aR 1), some (aI p2), none, none, none] [] GG M 0 0) : MetA K fV_takeWay [aR (30 + 2 * v), aR 1, aI p2] GG M Q :=
  met_of hst (by decide +kernel) rfl rfl (Nat.le_of_ble_eq_true rfl) (gg_len ▸ h)
theorem EV_dropRoute {K : KX} {Q : Res → AG → AM → Prop} {M : AM} (hst : K.1.stackTraces = false) (v : Nat) (h : WM K fV_dropRoute (EM K fV_dropRoute 80 Q) 0 [some (aR (30 + 2 * v))] [] GG M 0 0) : MetA K fV_dropRoute [aR (30 + 2 * v)] GG M Q :=
  met_of hst (by decide +kernel) rfl rfl (Nat.le_of_ble_eq_true rfl) (gg_len ▸ h)
theorem EV_advance {K : KX} {Q : Res → AG → AM → Prop} {M : AM} (hst : K.1.stackTraces = false) (v : Nat) (h : WM K fV_advance (EM K fV_advance 80 Q) 0 [some (aR (30 + 2 * v))] [] GG M 0 0) : MetA K fV_advance [aR (30 + 2 * v)] GG M Q :=
  met_of hst (by decide +kernel) rfl rfl (Nat.le_of_ble_eq_true rfl) (gg_len ▸ h)
theorem EL_addLane {K : KX} {Q : Res → AG → AM → Prop} {M : AM} (hst : K.1.stackTraces = false) (p2 p3 : Int) (h : WM K fL_addLane (EM K fL_addLane 80 Q) 0 [some (aR 0), some (aI p2), some (aI p3), some (aR 79), none] [] GG M 0 0) : MetA K fL_addLane [aR 0, aI p2, aI p3, aR 79] GG M Q :=
  met_ofH hst (by decide +kernel) (by decide) rfl (Nat.le_of_ble_eq_true rfl) (gg_len ▸ h)
theorem EL_setCharger {K : KX} {Q : Res → AG → AM → Prop} {M : AM} (hst : K.1.stackTraces = false) (p2 p3 : Int) (h : WM K fL_setCharger (EM K fL_setCharger 80 Q) 0 [some (aR 0), some (aI p2), some (aI p3), some (aR 79), none] [] GG M 0 0) : MetA K fL_setCharger [aR 0, aI p2, aI p3, aR 79] GG M Q :=
  met_ofH hst (by decide +kernel) (by decide) rfl (Nat.le_of_ble_eq_true rfl) (gg_len ▸ h)
theorem EL_distance {K : KX} {Q : Res → AG → AM → Prop} {M : AM} (hst : K.1.stackTraces = false) (p2 p3 : Int) (h : WM K fL_distance (EM K fL_distance 80 Q) 0 [some (aR 0), some (aI p2), some (aI p3), some (aR 79), none] [] GG M 0 0) : MetA K fL_distance [aR 0, aI p2, aI p3, aR 79] GG M Q :=
  met_ofH hst (by decide +kernel) (by decide) rfl (Nat.le_of_ble_eq_true rfl) (gg_len ▸ h)
theorem EL_addVehicle {K : KX} {Q : Res → AG → AM → Prop} {M : AM} (hst : K.1.stackTraces = false) (p2 p3 : Int) (h : WM K fL_addVehicle (EM K fL_addVehicle 80 Q) 0 [some (aR 0), some (aI p2), some (aI p3), some (aR 79), none] [] GG M 0 0) : MetA K fL_addVehicle [aR 0, aI p2, aI p3, aR 79] GG M Q :=
  met_ofH hst (by decide +kernel) (by decide) rfl (Nat.le_of_ble_eq_true rfl) (gg_len ▸ h)
theorem EL_assign {K : KX} {Q : Res → AG → AM → Prop} {M : AM} (hst : K.1.stackTraces = false) (p2 p3 : Int) (h : WM K fL_assign (EM K fL_assign 80 Q) 0 [some (aR 0), some (aI p2), some (aI p3), some (aR 79), none] [] GG M 0 0) : MetA K fL_assign [aR 0, aI p2, aI p3, aR 79] GG M Q :=
  met_ofH hst (by decide +kernel) (by decide) rfl (Nat.le_of_ble_eq_true rfl) (gg_len ▸ h)
theorem EL_cancel {K : KX} {Q : Res → AG → AM → Prop} {M : AM} (hst : K.1.stackTraces = false) (p2 : Int) (h : WM K fL_cancel (EM K fL_cancel 80 Q) 0 [some (aR 0), some (aI p2), some (aR 79), none] [] GG M 0 0) : MetA K fL_cancel [aR 0, aI p2, aR 79] GG M Q :=
  met_ofH hst (by decide +kernel) (by decide) rfl (Nat.le_of_ble_eq_true rfl) (gg_len ▸ h)
theorem EL_charge {K : KX} {Q : Res → AG → AM → Prop} {M : AM} (hst : K.1.stackTraces = false) (p2 : Int) (h : WM K fL_charge (EM K fL_charge 80 Q) 0 [some (aR 0), some (aI p2), some (aR 79), none] [] GG M 0 0) : MetA K fL_charge [aR 0, aI p2, aR 79] GG M Q :=
  met_ofH hst (by decide +kernel) (by decide) rfl (Nat.le_of_ble_eq_true rfl) (gg_len ▸ h)
theorem EL_canStep {K : KX} {Q : Res → AG → AM → Prop} {M : AM} (hst : K.1.stackTraces = false) (p2 : Int) (h : WM K fL_canStep (EM K fL_canStep 80 Q) 0 [some (aR 0), some (aI p2), some (aR 79), none] [] GG M 0 0) : MetA K fL_canStep [aR 0, aI p2, aR 79] GG M Q :=
  met_ofH hst (by decide +kernel) (by decide) rfl (Nat.le_of_ble_eq_true rfl) (gg_len ▸ h)
theorem EL_step {K : KX} {Q : Res → AG → AM → Prop} {M : AM} (hst : K.1.stackTraces = false) (p2 : Int) (h : WM K fL_step (EM K fL_step 80 Q) 0 [some (aR 0), some (aI p2), some (aR 79), none] [] GG M 0 0) : MetA K fL_step [aR 0, aI p2, aR 79] GG M Q :=
  met_ofH hst (by decide +kernel) (by decide) rfl (Nat.le_of_ble_eq_true rfl) (gg_len ▸ h)
theorem EL_tick {K : KX} {Q : Res → AG → AM → Prop} {M : AM} (hst : K.1.stackTraces = false) (p2 : Int) (h : WM K fL_tick (EM K fL_tick 80 Q) 0 [some (aR 0), some (aI p2), some (aR 79), none] [] GG M 0 0) : MetA K fL_tick [aR 0, aI p2, aR 79] GG M Q :=
  met_ofH hst (by decide +kernel) (by decide) rfl (Nat.le_of_ble_eq_true rfl) (gg_len ▸ h)
theorem EL_addJob {K : KX} {Q : Res → AG → AM → Prop} {M : AM} (hst : K.1.stackTraces = false) (p2 : Int) (h : WM K fL_addJob (EM K fL_addJob 80 Q) 0 [some (aR 0), some (aI p2), some (aR 79), none] [] GG M 0 0) : MetA K fL_addJob [aR 0, aI p2, aR 79] GG M Q :=
  met_ofH hst (by decide +kernel) (by decide) rfl (Nat.le_of_ble_eq_true rfl) (gg_len ▸ h)
theorem EL_jobState {K : KX} {Q : Res → AG → AM → Prop} {M : AM} (hst : K.1.stackTraces = false) (p2 : Int) (h : WM K fL_jobState (EM K fL_jobState 80 Q) 0 [some (aR 0), some (aI p2), some (aR 79), none] [] GG M 0 0) : MetA K fL_jobState [aR 0, aI p2, aR 79] GG M Q :=
  met_ofH hst (by decide +kernel) (by decide) rfl (Nat.le_of_ble_eq_true rfl) (gg_len ▸ h)
theorem EL_jobVehicle {K : KX} {Q : Res → AG → AM → Prop} {M : AM} (hst : K.1.stackTraces = false) (p2 : Int) (h : WM K fL_jobVehicle (EM K fL_jobVehicle 80 Q) 0 [some (aR 0), some (aI p2), some (aR 79), none] [] GG M 0 0) : MetA K fL_jobVehicle [aR 0, aI p2, aR 79] GG M Q :=
  met_ofH hst (by decide +kernel) (by decide) rfl (Nat.le_of_ble_eq_true rfl) (gg_len ▸ h)
theorem EL_regret {K : KX} {Q : Res → AG → AM → Prop} {M : AM} (hst : K.1.stackTraces = false) (p2 : Int) (h : WM K fL_regret (EM K fL_regret 80 Q) 0 [some (aR 0), some (aI p2), some (aR 79), none] [] GG M 0 0) : MetA K fL_regret [aR 0, aI p2, aR 79] GG M Q :=
  met_ofH hst (by decide +kernel) (by decide) rfl (Nat.le_of_ble_eq_true rfl) (gg_len ▸ h)
theorem EL_zoneOf {K : KX} {Q : Res → AG → AM → Prop} {M : AM} (hst : K.1.stackTraces = false) (p2 : Int) (h : WM K fL_zoneOf (EM K fL_zoneOf 80 Q) 0 [some (aR 0), some (aI p2), some (aR 79), none] [] GG M 0 0) : MetA K fL_zoneOf [aR 0, aI p2, aR 79] GG M Q :=
  met_ofH hst (by decide +kernel) (by decide) rfl (Nat.le_of_ble_eq_true rfl) (gg_len ▸ h)
theorem EL_vehicleIn {K : KX} {Q : Res → AG → AM → Prop} {M : AM} (hst : K.1.stackTraces = false) (p2 : Int) (h : WM K fL_vehicleIn (EM K fL_vehicleIn 80 Q) 0 [some (aR 0), some (aI p2), some (aR 79), none] [] GG M 0 0) : MetA K fL_vehicleIn [aR 0, aI p2, aR 79] GG M Q :=
  met_ofH hst (by decide +kernel) (by decide) rfl (Nat.le_of_ble_eq_true rfl) (gg_len ▸ h)
theorem EL_routeLength {K : KX} {Q : Res → AG → AM → Prop} {M : AM} (hst : K.1.stackTraces = false) (p2 : Int) (h : WM K fL_routeLength (EM K fL_routeLength 80 Q) 0 [some (aR 0), some (aI p2), some (aR 79), none] [] GG M 0 0) : MetA K fL_routeLength [aR 0, aI p2, aR 79] GG M Q :=
  met_ofH hst (by decide +kernel) (by decide) rfl (Nat.le_of_ble_eq_true rfl) (gg_len ▸ h)
theorem EL_routeZone {K : KX} {Q : Res → AG → AM → Prop} {M : AM} (hst : K.1.stackTraces = false) (p2 p3 : Int) (h : WM K fL_routeZone (EM K fL_routeZone 80 Q) 0 [some (aR 0), some (aI p2), some (aI p3), some (aR 79), none] [] GG M 0 0) : MetA K fL_routeZone [aR 0, aI p2, aI p3, aR 79] GG M Q :=
  met_ofH hst (by decide +kernel) (by decide) rfl (Nat.le_of_ble_eq_true rfl) (gg_len ▸ h)
theorem EL_energy {K : KX} {Q : Res → AG → AM → Prop} {M : AM} (hst : K.1.stackTraces = false) (p2 : Int) (h : WM K fL_energy (EM K fL_energy 80 Q) 0 [some (aR 0), some (aI p2), some (aR 79), none] [] GG M 0 0) : MetA K fL_energy [aR 0, aI p2, aR 79] GG M Q :=
  met_ofH hst (by decide +kernel) (by decide) rfl (Nat.le_of_ble_eq_true rfl) (gg_len ▸ h)
theorem EL_waited {K : KX} {Q : Res → AG → AM → Prop} {M : AM} (hst : K.1.stackTraces = false) (p2 : Int) (h : WM K fL_waited (EM K fL_waited 80 Q) 0 [some (aR 0), some (aI p2), some (aR 79), none] [] GG M 0 0) : MetA K fL_waited [aR 0, aI p2, aR 79] GG M Q :=
  met_ofH hst (by decide +kernel) (by decide) rfl (Nat.le_of_ble_eq_true rfl) (gg_len ▸ h)
theorem EL_finisher {K : KX} {Q : Res → AG → AM → Prop} {M : AM} (hst : K.1.stackTraces = false) (p2 : Int) (h : WM K fL_finisher (EM K fL_finisher 80 Q) 0 [some (aR 0), some (aI p2), some (aR 79), none] [] GG M 0 0) : MetA K fL_finisher [aR 0, aI p2, aR 79] GG M Q :=
  met_ofH hst (by decide +kernel) (by decide) rfl (Nat.le_of_ble_eq_true rfl) (gg_len ▸ h)
theorem EX_bitCount {K : KX} {Q : Res → AG → AM → Prop} {M : AM} (hst : K.1.stackTraces = false) (p1 : Int) (h : WM K fX_bitCount (EM K fX_bitCount 80 Q) 0 [some (aI p1)] [] GG M 0 0) : MetA K fX_bitCount [aI p1] GG M Q :=
  met_of hst (by decide +kernel) rfl rfl (Nat.le_of_ble_eq_true rfl) (gg_len ▸ h)
