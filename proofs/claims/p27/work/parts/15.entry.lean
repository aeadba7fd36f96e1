/-! contracts out of bodies (printed by gen09.py) -/
theorem EZ_addLane {K : KX} {Q : Res → AG → AM → Prop} {M : AM} (hst : K.1.stackTraces = false) (p1 p2 : Int) (h : WM K fZ_addLane (EM K fZ_addLane 126 Q) 0 [some (aR 0), some (aI p1), some (aI p2)] [] GG M 0 0) : MetA K fZ_addLane [aR 0, aI p1, aI p2] GG M Q :=
  met_of hst (by decide +kernel) rfl rfl (Nat.le_of_ble_eq_true rfl) (gg_len ▸ h)
theorem EZ_setCharger {K : KX} {Q : Res → AG → AM → Prop} {M : AM} (hst : K.1.stackTraces = false) (p1 p2 : Int) (h : WM K fZ_setCharger (EM K fZ_setCharger 126 Q) 0 [some (aR 0), some (aI p1), some (aI p2), none] [] GG M 0 0) : MetA K fZ_setCharger [aR 0, aI p1, aI p2] GG M Q :=
  met_of hst (by decide +kernel) rfl rfl (Nat.le_of_ble_eq_true rfl) (gg_len ▸ h)
theorem EZ_distance {K : KX} {Q : Res → AG → AM → Prop} {M : AM} (hst : K.1.stackTraces = false) (p1 p2 : Int) (h : WM K fZ_distance (EM K fZ_distance 126 Q) 0 [some (aR 0), some (aI p1), some (aI p2)] [] GG M 0 0) : MetA K fZ_distance [aR 0, aI p1, aI p2] GG M Q :=
  met_of hst (by decide +kernel) rfl rfl (Nat.le_of_ble_eq_true rfl) (gg_len ▸ h)
theorem EZ_addVehicle {K : KX} {Q : Res → AG → AM → Prop} {M : AM} (hst : K.1.stackTraces = false) (p1 p2 : Int) (h : WM K fZ_addVehicle (EM K fZ_addVehicle 126 Q) 0 [some (aR 0), some (aI p1), some (aI p2), none] [] GG M 0 0) : MetA K fZ_addVehicle [aR 0, aI p1, aI p2] GG M Q :=
  met_of hst (by decide +kernel) rfl rfl (Nat.le_of_ble_eq_true rfl) (gg_len ▸ h)
theorem EZ_assign {K : KX} {Q : Res → AG → AM → Prop} {M : AM} (hst : K.1.stackTraces = false) (p1 p2 : Int) (h : WM K fZ_assign (EM K fZ_assign 126 Q) 0 [some (aR 0), some (aI p1), some (aI p2), none] [] GG M 0 0) : MetA K fZ_assign [aR 0, aI p1, aI p2] GG M Q :=
  met_of hst (by decide +kernel) rfl rfl (Nat.le_of_ble_eq_true rfl) (gg_len ▸ h)
theorem EZ_cancel {K : KX} {Q : Res → AG → AM → Prop} {M : AM} (hst : K.1.stackTraces = false) (p1 : Int) (h : WM K fZ_cancel (EM K fZ_cancel 126 Q) 0 [some (aR 0), some (aI p1), none, none] [] GG M 0 0) : MetA K fZ_cancel [aR 0, aI p1] GG M Q :=
  met_of hst (by decide +kernel) rfl rfl (Nat.le_of_ble_eq_true rfl) (gg_len ▸ h)
theorem EZ_charge {K : KX} {Q : Res → AG → AM → Prop} {M : AM} (hst : K.1.stackTraces = false) (p1 : Int) (h : WM K fZ_charge (EM K fZ_charge 126 Q) 0 [some (aR 0), some (aI p1), none, none] [] GG M 0 0) : MetA K fZ_charge [aR 0, aI p1] GG M Q :=
  met_of hst (by decide +kernel) rfl rfl (Nat.le_of_ble_eq_true rfl) (gg_len ▸ h)
theorem EZ_canStep {K : KX} {Q : Res → AG → AM → Prop} {M : AM} (hst : K.1.stackTraces = false) (p1 : Int) (h : WM K fZ_canStep (EM K fZ_canStep 126 Q) 0 [some (aR 0), some (aI p1)] [] GG M 0 0) : MetA K fZ_canStep [aR 0, aI p1] GG M Q :=
  met_of hst (by decide +kernel) rfl rfl (Nat.le_of_ble_eq_true rfl) (gg_len ▸ h)
theorem EZ_step {K : KX} {Q : Res → AG → AM → Prop} {M : AM} (hst : K.1.stackTraces = false) (p1 : Int) (h : WM K fZ_step (EM K fZ_step 126 Q) 0 [some (aR 0), some (aI p1)] [] GG M 0 0) : MetA K fZ_step [aR 0, aI p1] GG M Q :=
  met_of hst (by decide +kernel) rfl rfl (Nat.le_of_ble_eq_true rfl) (gg_len ▸ h)
theorem EZ_tick {K : KX} {Q : Res → AG → AM → Prop} {M : AM} (hst : K.1.stackTraces = false) (p1 : Int) (h : WM K fZ_tick (EM K fZ_tick 126 Q) 0 [some (aR 0), some (aI p1), none, none] [] GG M 0 0) : MetA K fZ_tick [aR 0, aI p1] GG M Q :=
  met_of hst (by decide +kernel) rfl rfl (Nat.le_of_ble_eq_true rfl) (gg_len ▸ h)
theorem EZ_addJob {K : KX} {Q : Res → AG → AM → Prop} {M : AM} (hst : K.1.stackTraces = false) (p1 : Int) (h : WM K fZ_addJob (EM K fZ_addJob 126 Q) 0 [some (aR 0), some (aI p1), none] [] GG M 0 0) : MetA K fZ_addJob [aR 0, aI p1] GG M Q :=
  met_of hst (by decide +kernel) rfl rfl (Nat.le_of_ble_eq_true rfl) (gg_len ▸ h)
theorem EZ_dispatch {K : KX} {Q : Res → AG → AM → Prop} {M : AM} (hst : K.1.stackTraces = false) (h : WM K fZ_dispatch (EM K fZ_dispatch 126 Q) 0 [some (aR 0), none, none] [] GG M 0 0) : MetA K fZ_dispatch [aR 0] GG M Q :=
  met_of hst (by decide +kernel) rfl rfl (Nat.le_of_ble_eq_true rfl) (gg_len ▸ h)
theorem EZ_jobState {K : KX} {Q : Res → AG → AM → Prop} {M : AM} (hst : K.1.stackTraces = false) (p1 : Int) (h : WM K fZ_jobState (EM K fZ_jobState 126 Q) 0 [some (aR 0), some (aI p1)] [] GG M 0 0) : MetA K fZ_jobState [aR 0, aI p1] GG M Q :=
  met_of hst (by decide +kernel) rfl rfl (Nat.le_of_ble_eq_true rfl) (gg_len ▸ h)
theorem EZ_jobVehicle {K : KX} {Q : Res → AG → AM → Prop} {M : AM} (hst : K.1.stackTraces = false) (p1 : Int) (h : WM K fZ_jobVehicle (EM K fZ_jobVehicle 126 Q) 0 [some (aR 0), some (aI p1)] [] GG M 0 0) : MetA K fZ_jobVehicle [aR 0, aI p1] GG M Q :=
  met_of hst (by decide +kernel) rfl rfl (Nat.le_of_ble_eq_true rfl) (gg_len ▸ h)
theorem EZ_regret {K : KX} {Q : Res → AG → AM → Prop} {M : AM} (hst : K.1.stackTraces = false) (p1 : Int) (h : WM K fZ_regret (EM K fZ_regret 126 Q) 0 [some (aR 0), some (aI p1)] [] GG M 0 0) : MetA K fZ_regret [aR 0, aI p1] GG M Q :=
  met_of hst (by decide +kernel) rfl rfl (Nat.le_of_ble_eq_true rfl) (gg_len ▸ h)
theorem EZ_vehicles {K : KX} {Q : Res → AG → AM → Prop} {M : AM} (hst : K.1.stackTraces = false) (h : WM K fZ_vehicles (EM K fZ_vehicles 126 Q) 0 [some (aR 0)] [] GG M 0 0) : MetA K fZ_vehicles [aR 0] GG M Q :=
  met_of hst (by decide +kernel) rfl rfl (Nat.le_of_ble_eq_true rfl) (gg_len ▸ h)
theorem EZ_zoneOf {K : KX} {Q : Res → AG → AM → Prop} {M : AM} (hst : K.1.stackTraces = false) (p1 : Int) (h : WM K fZ_zoneOf (EM K fZ_zoneOf 126 Q) 0 [some (aR 0), some (aI p1)] [] GG M 0 0) : MetA K fZ_zoneOf [aR 0, aI p1] GG M Q :=
  met_of hst (by decide +kernel) rfl rfl (Nat.le_of_ble_eq_true rfl) (gg_len ▸ h)
theorem EZ_vehicleIn {K : KX} {Q : Res → AG → AM → Prop} {M : AM} (hst : K.1.stackTraces = false) (p1 : Int) (h : WM K fZ_vehicleIn (EM K fZ_vehicleIn 126 Q) 0 [some (aR 0), some (aI p1)] [] GG M 0 0) : MetA K fZ_vehicleIn [aR 0, aI p1] GG M Q :=
  met_of hst (by decide +kernel) rfl rfl (Nat.le_of_ble_eq_true rfl) (gg_len ▸ h)
theorem EZ_routeLength {K : KX} {Q : Res → AG → AM → Prop} {M : AM} (hst : K.1.stackTraces = false) (p1 : Int) (h : WM K fZ_routeLength (EM K fZ_routeLength 126 Q) 0 [some (aR 0), some (aI p1)] [] GG M 0 0) : MetA K fZ_routeLength [aR 0, aI p1] GG M Q :=
  met_of hst (by decide +kernel) rfl rfl (Nat.le_of_ble_eq_true rfl) (gg_len ▸ h)
theorem EZ_routeZone {K : KX} {Q : Res → AG → AM → Prop} {M : AM} (hst : K.1.stackTraces = false) (p1 p2 : Int) (h : WM K fZ_routeZone (EM K fZ_routeZone 126 Q) 0 [some (aR 0), some (aI p1), some (aI p2), none] [] GG M 0 0) : MetA K fZ_routeZone [aR 0, aI p1, aI p2] GG M Q :=
  met_of hst (by decide +kernel) rfl rfl (Nat.le_of_ble_eq_true rfl) (gg_len ▸ h)
theorem EZ_energy {K : KX} {Q : Res → AG → AM → Prop} {M : AM} (hst : K.1.stackTraces = false) (p1 : Int) (h : WM K fZ_energy (EM K fZ_energy 126 Q) 0 [some (aR 0), some (aI p1)] [] GG M 0 0) : MetA K fZ_energy [aR 0, aI p1] GG M Q :=
  met_of hst (by decide +kernel) rfl rfl (Nat.le_of_ble_eq_true rfl) (gg_len ▸ h)
theorem EZ_waited {K : KX} {Q : Res → AG → AM → Prop} {M : AM} (hst : K.1.stackTraces = false) (p1 : Int) (h : WM K fZ_waited (EM K fZ_waited 126 Q) 0 [some (aR 0), some (aI p1)] [] GG M 0 0) : MetA K fZ_waited [aR 0, aI p1] GG M Q :=
  met_of hst (by decide +kernel) rfl rfl (Nat.le_of_ble_eq_true rfl) (gg_len ▸ h)
theorem EZ_orders {K : KX} {Q : Res → AG → AM → Prop} {M : AM} (hst : K.1.stackTraces = false) (h : WM K fZ_orders (EM K fZ_orders 126 Q) 0 [some (aR 0)] [] GG M 0 0) : MetA K fZ_orders [aR 0] GG M Q :=
  met_of hst (by decide +kernel) rfl rfl (Nat.le_of_ble_eq_true rfl) (gg_len ▸ h)
theorem EZ_finisher {K : KX} {Q : Res → AG → AM → Prop} {M : AM} (hst : K.1.stackTraces = false) (p1 : Int) (h : WM K fZ_finisher (EM K fZ_finisher 126 Q) 0 [some (aR 0), some (aI p1)] [] GG M 0 0) : MetA K fZ_finisher [aR 0, aI p1] GG M Q :=
  met_of hst (by decide +kernel) rfl rfl (Nat.le_of_ble_eq_true rfl) (gg_len ▸ h)
theorem EZ_requireZone {K : KX} {Q : Res → AG → AM → Prop} {M : AM} (hst : K.1.stackTraces = false) (p1 : Int) (h : WM K fZ_requireZone (EM K fZ_requireZone 126 Q) 0 [some (aI p1)] [] GG M 0 0) : MetA K fZ_requireZone [aI p1] GG M Q :=
  met_of hst (by decide +kernel) rfl rfl (Nat.le_of_ble_eq_true rfl) (gg_len ▸ h)
theorem EZ_requireVehicle {K : KX} {Q : Res → AG → AM → Prop} {M : AM} (hst : K.1.stackTraces = false) (p1 : Int) (h : WM K fZ_requireVehicle (EM K fZ_requireVehicle 126 Q) 0 [some (aR 0), some (aI p1)] [] GG M 0 0) : MetA K fZ_requireVehicle [aR 0, aI p1] GG M Q :=
  met_of hst (by decide +kernel) rfl rfl (Nat.le_of_ble_eq_true rfl) (gg_len ▸ h)
theorem EZ_requireJob {K : KX} {Q : Res → AG → AM → Prop} {M : AM} (hst : K.1.stackTraces = false) (p1 : Int) (h : WM K fZ_requireJob (EM K fZ_requireJob 126 Q) 0 [some (aR 0), some (aI p1)] [] GG M 0 0) : MetA K fZ_requireJob [aR 0, aI p1] GG M Q :=
  met_of hst (by decide +kernel) rfl rfl (Nat.le_of_ble_eq_true rfl) (gg_len ▸ h)
theorem EZ_findIn {K : KX} {Q : Res → AG → AM → Prop} {M : AM} (hst : K.1.stackTraces = false) (p1 : Int) (h : WM K fZ_findIn (EM K fZ_findIn 126 Q) 0 [some (aR 0), some (aI p1), none] [] GG M 0 0) : MetA K fZ_findIn [aR 0, aI p1] GG M Q :=
  met_of hst (by decide +kernel) rfl rfl (Nat.le_of_ble_eq_true rfl) (gg_len ▸ h)
theorem EZ_lookAtTraffic {K : KX} {Q : Res → AG → AM → Prop} {M : AM} (hst : K.1.stackTraces = false) (h : WM K fZ_lookAtTraffic (EM K fZ_lookAtTraffic 126 Q) 0 [some (aR 0), none, none] [] GG M 0 0) : MetA K fZ_lookAtTraffic [aR 0] GG M Q :=
  met_of hst (by decide +kernel) rfl rfl (Nat.le_of_ble_eq_true rfl) (gg_len ▸ h)
theorem EZ_isSafeWith {K : KX} {Q : Res → AG → AM → Prop} {M : AM} (hst : K.1.stackTraces = false) (p1 p2 p3 p4 : Int) (h : WM K fZ_isSafeWith (EM K fZ_isSafeWith 126 Q) 0 [some (aR 0), some (aI p1), some (aI p2), some (aI p3), some (aI p4)] [] GG M 0 0) : MetA K fZ_isSafeWith [aR 0, aI p1, aI p2, aI p3, aI p4] GG M Q :=
  met_of hst (by decide +kernel) rfl rfl (Nat.le_of_ble_eq_true rfl) (gg_len ▸ h)
theorem EZ_isSafeWithIdle {K : KX} {Q : Res → AG → AM → Prop} {M : AM} (hst : K.1.stackTraces = false) (p1 p2 : Int) (h : WM K fZ_isSafeWithIdle (EM K fZ_isSafeWithIdle 126 Q) 0 [some (aR 0), some (aI p1), some (aI p2)] [] GG M 0 0) : MetA K fZ_isSafeWithIdle [aR 0, aI p1, aI p2] GG M Q :=
  met_of hst (by decide +kernel) rfl rfl (Nat.le_of_ble_eq_true rfl) (gg_len ▸ h)
theorem EZ_lengthFor {K : KX} {Q : Res → AG → AM → Prop} {M : AM} (hst : K.1.stackTraces = false) (p1 p2 : Int) (h : WM K fZ_lengthFor (EM K fZ_lengthFor 126 Q) 0 [some (aR 0), some (aI p1), some (aI p2), none, none, none] [] GG M 0 0) : MetA K fZ_lengthFor [aR 0, aI p1, aI p2] GG M Q :=
  met_of hst (by decide +kernel) rfl rfl (Nat.le_of_ble_eq_true rfl) (gg_len ▸ h)
theorem EZ_mayMove {K : KX} {Q : Res → AG → AM → Prop} {M : AM} (hst : K.1.stackTraces = false) (p1 : Int) (h : WM K fZ_mayMove (EM K fZ_mayMove 126 Q) 0 [some (aR 0), some (aI p1), none, none] [] GG M 0 0) : MetA K fZ_mayMove [aR 0, aI p1] GG M Q :=
  met_of hst (by decide +kernel) rfl rfl (Nat.le_of_ble_eq_true rfl) (gg_len ▸ h)
theorem EZ_move {K : KX} {Q : Res → AG → AM → Prop} {M : AM} (hst : K.1.stackTraces = false) (p1 : Int) (h : WM K fZ_move (EM K fZ_move 126 Q) 0 [some (aR 0), some (aI p1)] [] GG M 0 0) : MetA K fZ_move [aR 0, aI p1] GG M Q :=
  met_of hst (by decide +kernel) rfl rfl (Nat.le_of_ble_eq_true rfl) (gg_len ▸ h)
theorem EZ_passOneTick {K : KX} {Q : Res → AG → AM → Prop} {M : AM} (hst : K.1.stackTraces = false) (h : WM K fZ_passOneTick (EM K fZ_passOneTick 126 Q) 0 [some (aR 0), none, none] [] GG M 0 0) : MetA K fZ_passOneTick [aR 0] GG M Q :=
  met_of hst (by decide +kernel) rfl rfl (Nat.le_of_ble_eq_true rfl) (gg_len ▸ h)
theorem EZ_endJobOf {K : KX} {Q : Res → AG → AM → Prop} {M : AM} (hst : K.1.stackTraces = false) (p1 p2 p3 : Int) (h : WM K fZ_endJobOf (EM K fZ_endJobOf 126 Q) 0 [some (aR 0), some (aI p1), some (aI p2), some (aI p3), none] [] GG M 0 0) : MetA K fZ_endJobOf [aR 0, aI p1, aI p2, aI p3] GG M Q :=
  met_of hst (by decide +kernel) rfl rfl (Nat.le_of_ble_eq_true rfl) (gg_len ▸ h)
theorem EZ_regretOf {K : KX} {Q : Res → AG → AM → Prop} {M : AM} (hst : K.1.stackTraces = false) (p1 : Int) (h : WM K fZ_regretOf (EM K fZ_regretOf 126 Q) 0 [some (aR 0), some (aI p1), none, none, none, none] [] GG M 0 0) : MetA K fZ_regretOf [aR 0, aI p1] GG M Q :=
  met_of hst (by decide +kernel) rfl rfl (Nat.le_of_ble_eq_true rfl) (gg_len ▸ h)
theorem EZ_mostRegretted {K : KX} {Q : Res → AG → AM → Prop} {M : AM} (hst : K.1.stackTraces = false) (h : WM K fZ_mostRegretted (EM K fZ_mostRegretted 126 Q) 0 [some (aR 0), none, none, none, none] [] GG M 0 0) : MetA K fZ_mostRegretted [aR 0] GG M Q :=
  met_of hst (by decide +kernel) rfl rfl (Nat.le_of_ble_eq_true rfl) (gg_len ▸ h)
theorem EZ_nearestTaker {K : KX} {Q : Res → AG → AM → Prop} {M : AM} (hst : K.1.stackTraces = false) (p1 : Int) (h : WM K fZ_nearestTaker (EM K fZ_nearestTaker 126 Q) 0 [some (aR 0), some (aI p1), none, none, none, none] [] GG M 0 0) : MetA K fZ_nearestTaker [aR 0, aI p1] GG M Q :=
  met_of hst (by decide +kernel) rfl rfl (Nat.le_of_ble_eq_true rfl) (gg_len ▸ h)
theorem EP_hasLane {K : KX} {Q : Res → AG → AM → Prop} {M : AM} (hst : K.1.stackTraces = false) (p1 p2 : Int) (h : WM K fP_hasLane (EM K fP_hasLane 126 Q) 0 [some (aR 1), some (aI p1), some (aI p2)] [] GG M 0 0) : MetA K fP_hasLane [aR 1, aI p1, aI p2] GG M Q :=
  met_of hst (by decide +kernel) rfl rfl (Nat.le_of_ble_eq_true rfl) (gg_len ▸ h)
theorem EP_hasWay {K : KX} {Q : Res → AG → AM → Prop} {M : AM} (hst : K.1.stackTraces = false) (p1 p2 : Int) (h : WM K fP_hasWay (EM K fP_hasWay 126 Q) 0 [some (aR 1), some (aI p1), some (aI p2)] [] GG M 0 0) : MetA K fP_hasWay [aR 1, aI p1, aI p2] GG M Q :=
  met_of hst (by decide +kernel) rfl rfl (Nat.le_of_ble_eq_true rfl) (gg_len ▸ h)
theorem EP_lay {K : KX} {Q : Res → AG → AM → Prop} {M : AM} (hst : K.1.stackTraces = false) (p1 p2 : Int) (h : WM K fP_lay (EM K fP_lay 126 Q) 0 [some (aR 1), some (aI p1), some (aI p2), none, none, none, none] [] GG M 0 0) : MetA K fP_lay [aR 1, aI p1, aI p2] GG M Q :=
  met_of hst (by decide +kernel) rfl rfl (Nat.le_of_ble_eq_true rfl) (gg_len ▸ h)
theorem EP_energyForWay {K : KX} {Q : Res → AG → AM → Prop} {M : AM} (hst : K.1.stackTraces = false) (p1 p2 : Int) (h : WM K fP_energyForWay (EM K fP_energyForWay 126 Q) 0 [some (aR 1), some (aI p1), some (aI p2), none, none] [] GG M 0 0) : MetA K fP_energyForWay [aR 1, aI p1, aI p2] GG M Q :=
  met_of hst (by decide +kernel) rfl rfl (Nat.le_of_ble_eq_true rfl) (gg_len ▸ h)
theorem EP_nextOnWay {K : KX} {Q : Res → AG → AM → Prop} {M : AM} (hst : K.1.stackTraces = false) (p1 p2 : Int) (h : WM K fP_nextOnWay (EM K fP_nextOnWay 126 Q) 0 [some (aR 1), some (aI p1), some (aI p2), none] [] GG M 0 0) : MetA K fP_nextOnWay [aR 1, aI p1, aI p2] GG M Q :=
  met_of hst (by decide +kernel) rfl rfl (Nat.le_of_ble_eq_true rfl) (gg_len ▸ h)
theorem EP_wayBits {K : KX} {Q : Res → AG → AM → Prop} {M : AM} (hst : K.1.stackTraces = false) (p1 p2 : Int) (h : WM K fP_wayBits (EM K fP_wayBits 126 Q) 0 [some (aR 1), some (aI p1), some (aI p2), none, none, none, none] [] GG M 0 0) : MetA K fP_wayBits [aR 1, aI p1, aI p2] GG M Q :=
  met_of hst (by decide +kernel) rfl rfl (Nat.le_of_ble_eq_true rfl) (gg_len ▸ h)
theorem ET_clear {K : KX} {Q : Res → AG → AM → Prop} {M : AM} (hst : K.1.stackTraces = false) (h : WM K fT_clear (EM K fT_clear 126 Q) 0 [some (aR 24), none] [] GG M 0 0) : MetA K fT_clear [aR 24] GG M Q :=
  met_of hst (by decide +kernel) rfl rfl (Nat.le_of_ble_eq_true rfl) (gg_len ▸ h)
theorem ET_put {K : KX} {Q : Res → AG → AM → Prop} {M : AM} (hst : K.1.stackTraces = false) (p1 p2 p3 p4 : Int) (h : WM K fT_put (EM K fT_put 126 Q) 0 [some (aR 24), some (aI p1), some (aI p2), some (aI p3), some (aI p4), none] [] GG M 0 0) : MetA K fT_put [aR 24, aI p1, aI p2, aI p3, aI p4] GG M Q :=
  met_of hst (by decide +kernel) rfl rfl (Nat.le_of_ble_eq_true rfl) (gg_len ▸ h)
theorem ET_countOrders {K : KX} {Q : Res → AG → AM → Prop} {M : AM} (hst : K.1.stackTraces = false) (h : WM K fT_countOrders (EM K fT_countOrders 126 Q) 0 [some (aR 24), none] [] GG M 0 0) : MetA K fT_countOrders [aR 24] GG M Q :=
  met_of hst (by decide +kernel) rfl rfl (Nat.le_of_ble_eq_true rfl) (gg_len ▸ h)
theorem ET_sumBehind {K : KX} {Q : Res → AG → AM → Prop} {M : AM} (hst : K.1.stackTraces = false) (p1 p2 : Int) (h : WM K fT_sumBehind (EM K fT_sumBehind 126 Q) 0 [some (aR 24), some (aI p1), some (aI p2), none, none, none] [] GG M 0 0) : MetA K fT_sumBehind [aR 24, aI p1, aI p2] GG M Q :=
  met_of hst (by decide +kernel) rfl rfl (Nat.le_of_ble_eq_true rfl) (gg_len ▸ h)
theorem ET_runnersBehind {K : KX} {Q : Res → AG → AM → Prop} {M : AM} (hst : K.1.stackTraces = false) (p1 : Int) (h : WM K fT_runnersBehind (EM K fT_runnersBehind 126 Q) 0 [some (aR 24), some (aI p1), none, none, none] [] GG M 0 0) : MetA K fT_runnersBehind [aR 24, aI p1] GG M Q :=
  met_of hst (by decide +kernel) rfl rfl (Nat.le_of_ble_eq_true rfl) (gg_len ▸ h)
theorem ET_runnerInFirstOrder {K : KX} {Q : Res → AG → AM → Prop} {M : AM} (hst : K.1.stackTraces = false) (p1 : Int) (h : WM K fT_runnerInFirstOrder (EM K fT_runnerInFirstOrder 126 Q) 0 [some (aR 24), some (aI p1), none, none, none] [] GG M 0 0) : MetA K fT_runnerInFirstOrder [aR 24, aI p1] GG M Q :=
  met_of hst (by decide +kernel) rfl rfl (Nat.le_of_ble_eq_true rfl) (gg_len ▸ h)
theorem ET_firstToRun {K : KX} {Q : Res → AG → AM → Prop} {M : AM} (hst : K.1.stackTraces = false) (p1 : Int) (h : WM K fT_firstToRun (EM K fT_firstToRun 126 Q) 0 [some (aR 24), some (aI p1), none, none, none] [] GG M 0 0) : MetA K fT_firstToRun [aR 24, aI p1] GG M Q :=
  met_of hst (by decide +kernel) rfl rfl (Nat.le_of_ble_eq_true rfl) (gg_len ▸ h)
theorem EV_isIdle {K : KX} {Q : Res → AG → AM → Prop} {M : AM} (hst : K.1.stackTraces = false) (v : Nat) (h : WM K fV_isIdle (EM K fV_isIdle 126 Q) 0 [some (aR (30 + 2 * v))] [] GG M 0 0) : MetA K fV_isIdle [aR (30 + 2 * v)] GG M Q :=
  met_of hst (by decide +kernel) rfl rfl (Nat.le_of_ble_eq_true rfl) (gg_len ▸ h)
theorem EV_zonesLeft {K : KX} {Q : Res → AG → AM → Prop} {M : AM} (hst : K.1.stackTraces = false) (v : Nat) (h : WM K fV_zonesLeft (EM K fV_zonesLeft 126 Q) 0 [some (aR (30 + 2 * v))] [] GG M 0 0) : MetA K fV_zonesLeft [aR (30 + 2 * v)] GG M Q :=
  met_of hst (by decide +kernel) rfl rfl (Nat.le_of_ble_eq_true rfl) (gg_len ▸ h)
theorem EV_nextZone {K : KX} {Q : Res → AG → AM → Prop} {M : AM} (hst : K.1.stackTraces = false) (v : Nat) (h : WM K fV_nextZone (EM K fV_nextZone 126 Q) 0 [some (aR (30 + 2 * v))] [] GG M 0 0) : MetA K fV_nextZone [aR (30 + 2 * v)] GG M Q :=
  met_of hst (by decide +kernel) rfl rfl (Nat.le_of_ble_eq_true rfl) (gg_len ▸ h)
theorem EV_lastZone {K : KX} {Q : Res → AG → AM → Prop} {M : AM} (hst : K.1.stackTraces = false) (v : Nat) (h : WM K fV_lastZone (EM K fV_lastZone 126 Q) 0 [some (aR (30 + 2 * v))] [] GG M 0 0) : MetA K fV_lastZone [aR (30 + 2 * v)] GG M Q :=
  met_of hst (by decide +kernel) rfl rfl (Nat.le_of_ble_eq_true rfl) (gg_len ▸ h)
theorem EV_takeWay {K : KX} {Q : Res → AG → AM → Prop} {M : AM} (hst : K.1.stackTraces = false) (p2 : Int) (v : Nat) (h : WM K fV_takeWay (EM K fV_takeWay 126 Q) 0 [some (aR (30 + 2 * v)), some (aR 1), some (aI p2), none, none, none] [] GG M 0 0) : MetA K fV_takeWay [aR (30 + 2 * v), aR 1, aI p2] GG M Q :=
  met_of hst (by decide +kernel) rfl rfl (Nat.le_of_ble_eq_true rfl) (gg_len ▸ h)
theorem EV_dropRoute {K : KX} {Q : Res → AG → AM → Prop} {M : AM} (hst : K.1.stackTraces = false) (v : Nat) (h : WM K fV_dropRoute (EM K fV_dropRoute 126 Q) 0 [some (aR (30 + 2 * v))] [] GG M 0 0) : MetA K fV_dropRoute [aR (30 + 2 * v)] GG M Q :=
  met_of hst (by decide +kernel) rfl rfl (Nat.le_of_ble_eq_true rfl) (gg_len ▸ h)
theorem EV_advance {K : KX} {Q : Res → AG → AM → Prop} {M : AM} (hst : K.1.stackTraces = false) (v : Nat) (h : WM K fV_advance (EM K fV_advance 126 Q) 0 [some (aR (30 + 2 * v))] [] GG M 0 0) : MetA K fV_advance [aR (30 + 2 * v)] GG M Q :=
  met_of hst (by decide +kernel) rfl rfl (Nat.le_of_ble_eq_true rfl) (gg_len ▸ h)
theorem EL_low {K : KX} {Q : Res → AG → AM → Prop} {M : AM} (hst : K.1.stackTraces = false) (p1 p2 : Int) (h : WM K fL_low (EM K fL_low 126 Q) 0 [some (aI p1), some (aI p2)] [] GG M 0 0) : MetA K fL_low [aI p1, aI p2] GG M Q :=
  met_of hst (by decide +kernel) rfl rfl (Nat.le_of_ble_eq_true rfl) (gg_len ▸ h)
theorem EL_addLane {K : KX} {Q : Res → AG → AM → Prop} {M : AM} (hst : K.1.stackTraces = false) (p2 p3 : Int) (h : WM K fL_addLane (EM K fL_addLane 126 Q) 0 [some (aR 0), some (aI p2), some (aI p3), none] [] GG M 0 0) : MetA K fL_addLane [aR 0, aI p2, aI p3] GG M Q :=
  met_ofH hst (by decide +kernel) (by decide) rfl (Nat.le_of_ble_eq_true rfl) (gg_len ▸ h)
theorem EL_setCharger {K : KX} {Q : Res → AG → AM → Prop} {M : AM} (hst : K.1.stackTraces = false) (p2 p3 : Int) (h : WM K fL_setCharger (EM K fL_setCharger 126 Q) 0 [some (aR 0), some (aI p2), some (aI p3), none] [] GG M 0 0) : MetA K fL_setCharger [aR 0, aI p2, aI p3] GG M Q :=
  met_ofH hst (by decide +kernel) (by decide) rfl (Nat.le_of_ble_eq_true rfl) (gg_len ▸ h)
theorem EL_addVehicle {K : KX} {Q : Res → AG → AM → Prop} {M : AM} (hst : K.1.stackTraces = false) (p2 p3 : Int) (h : WM K fL_addVehicle (EM K fL_addVehicle 126 Q) 0 [some (aR 0), some (aI p2), some (aI p3), none] [] GG M 0 0) : MetA K fL_addVehicle [aR 0, aI p2, aI p3] GG M Q :=
  met_ofH hst (by decide +kernel) (by decide) rfl (Nat.le_of_ble_eq_true rfl) (gg_len ▸ h)
theorem EL_assign {K : KX} {Q : Res → AG → AM → Prop} {M : AM} (hst : K.1.stackTraces = false) (p2 p3 : Int) (h : WM K fL_assign (EM K fL_assign 126 Q) 0 [some (aR 0), some (aI p2), some (aI p3), none] [] GG M 0 0) : MetA K fL_assign [aR 0, aI p2, aI p3] GG M Q :=
  met_ofH hst (by decide +kernel) (by decide) rfl (Nat.le_of_ble_eq_true rfl) (gg_len ▸ h)
theorem EL_cancel {K : KX} {Q : Res → AG → AM → Prop} {M : AM} (hst : K.1.stackTraces = false) (p2 : Int) (h : WM K fL_cancel (EM K fL_cancel 126 Q) 0 [some (aR 0), some (aI p2), none] [] GG M 0 0) : MetA K fL_cancel [aR 0, aI p2] GG M Q :=
  met_ofH hst (by decide +kernel) (by decide) rfl (Nat.le_of_ble_eq_true rfl) (gg_len ▸ h)
theorem EL_charge {K : KX} {Q : Res → AG → AM → Prop} {M : AM} (hst : K.1.stackTraces = false) (p2 : Int) (h : WM K fL_charge (EM K fL_charge 126 Q) 0 [some (aR 0), some (aI p2), none] [] GG M 0 0) : MetA K fL_charge [aR 0, aI p2] GG M Q :=
  met_ofH hst (by decide +kernel) (by decide) rfl (Nat.le_of_ble_eq_true rfl) (gg_len ▸ h)
theorem EL_step {K : KX} {Q : Res → AG → AM → Prop} {M : AM} (hst : K.1.stackTraces = false) (p2 : Int) (h : WM K fL_step (EM K fL_step 126 Q) 0 [some (aR 0), some (aI p2), none] [] GG M 0 0) : MetA K fL_step [aR 0, aI p2] GG M Q :=
  met_ofH hst (by decide +kernel) (by decide) rfl (Nat.le_of_ble_eq_true rfl) (gg_len ▸ h)
theorem EL_tick {K : KX} {Q : Res → AG → AM → Prop} {M : AM} (hst : K.1.stackTraces = false) (p2 : Int) (h : WM K fL_tick (EM K fL_tick 126 Q) 0 [some (aR 0), some (aI p2), none] [] GG M 0 0) : MetA K fL_tick [aR 0, aI p2] GG M Q :=
  met_ofH hst (by decide +kernel) (by decide) rfl (Nat.le_of_ble_eq_true rfl) (gg_len ▸ h)
theorem EL_addJob {K : KX} {Q : Res → AG → AM → Prop} {M : AM} (hst : K.1.stackTraces = false) (p2 : Int) (h : WM K fL_addJob (EM K fL_addJob 126 Q) 0 [some (aR 0), some (aI p2), none] [] GG M 0 0) : MetA K fL_addJob [aR 0, aI p2] GG M Q :=
  met_ofH hst (by decide +kernel) (by decide) rfl (Nat.le_of_ble_eq_true rfl) (gg_len ▸ h)
theorem EL_finisher {K : KX} {Q : Res → AG → AM → Prop} {M : AM} (hst : K.1.stackTraces = false) (p2 : Int) (h : WM K fL_finisher (EM K fL_finisher 126 Q) 0 [some (aR 0), some (aI p2), none] [] GG M 0 0) : MetA K fL_finisher [aR 0, aI p2] GG M Q :=
  met_ofH hst (by decide +kernel) (by decide) rfl (Nat.le_of_ble_eq_true rfl) (gg_len ▸ h)
theorem EL_act {K : KX} {Q : Res → AG → AM → Prop} {M : AM} (hst : K.1.stackTraces = false) (p2 : Int) (h : WM K fL_act (EM K fL_act 126 Q) 0 [some (aR 0), some (aI p2), none, none, none, none] [] GG M 0 0) : MetA K fL_act [aR 0, aI p2] GG M Q :=
  met_of hst (by decide +kernel) rfl rfl (Nat.le_of_ble_eq_true rfl) (gg_len ▸ h)
theorem EL_areAlike {K : KX} {Q : Res → AG → AM → Prop} {M : AM} (hst : K.1.stackTraces = false) (h : WM K fL_areAlike (EM K fL_areAlike 126 Q) 0 [some (aR 0), some (aR 63), none, none] [] GG M 0 0) : MetA K fL_areAlike [aR 0, aR 63] GG M Q :=
  met_of hst (by decide +kernel) rfl rfl (Nat.le_of_ble_eq_true rfl) (gg_len ▸ h)
theorem EL_areVehiclesSo {K : KX} {Q : Res → AG → AM → Prop} {M : AM} (hst : K.1.stackTraces = false) (h : WM K fL_areVehiclesSo (EM K fL_areVehiclesSo 126 Q) 0 [some (aR 0), none, none, none, none, none, none, none] [] GG M 0 0) : MetA K fL_areVehiclesSo [aR 0] GG M Q :=
  met_of hst (by decide +kernel) rfl rfl (Nat.le_of_ble_eq_true rfl) (gg_len ▸ h)
theorem EL_isRunSo {K : KX} {Q : Res → AG → AM → Prop} {M : AM} (hst : K.1.stackTraces = false) (h : WM K fL_isRunSo (EM K fL_isRunSo 126 Q) 0 [some (aR 0), some (aR 63), none, none, none, none, none, none, none] [] GG M 0 0) : MetA K fL_isRunSo [aR 0, aR 63] GG M Q :=
  met_of hst (by decide +kernel) rfl rfl (Nat.le_of_ble_eq_true rfl) (gg_len ▸ h)
theorem EX_bitCount {K : KX} {Q : Res → AG → AM → Prop} {M : AM} (hst : K.1.stackTraces = false) (p1 : Int) (h : WM K fX_bitCount (EM K fX_bitCount 126 Q) 0 [some (aI p1)] [] GG M 0 0) : MetA K fX_bitCount [aI p1] GG M Q :=
  met_of hst (by decide +kernel) rfl rfl (Nat.le_of_ble_eq_true rfl) (gg_len ▸ h)
