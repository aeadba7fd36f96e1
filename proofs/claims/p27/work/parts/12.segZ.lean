set_option maxRecDepth 20000 in
theorem BZ_addLane_0 {K : KX} {Q : Res → AG → AM → Prop} {M : AM} (p1 p2 : Int)
    (h : MetA K fZ_requireZone [aI p1] GG M (cV GG (fun M1 => MetA K fZ_requireZone [aI p2] GG M1 (cV GG (fun M5 => (wr p1 = wr p2 → Q (.inr "java/lang/IllegalArgumentException") GG M5) ∧ (¬ wr p1 = wr p2 → MetA K fP_hasLane [aR 1, aI p1, aI p2] GG M5 (cI GG (fun b12 M11 => (wr b12 = 0 → MetA K fP_lay [aR 1, aI p1, aI p2] GG M11 (cV GG (fun M17 => Q (.inl (some (aI (M17 1 2)))) GG M17) noX)) ∧ (¬ wr b12 = 0 → Q (.inr "java/lang/IllegalStateException") GG M11)) noX))) (fun X9 M9 => Q (.inr X9) GG M9))) (fun X9 M9 => Q (.inr X9) GG M9))) :
    WM K fZ_addLane (EM K fZ_addLane 126 Q) 0 [some (aR 0), some (aI p1), some (aI p2)] [] GG M 0 0 := by
  refine s_iload_n (i := 1) (by decide +kernel) rfl ?_
  refine s_callS (Fc := fZ_requireZone) (index := 37) (as := [aI p1]) (rest := []) rfl h ⟨g_315, hZ_requireZone, g_1, by decide, (show (parseMethodDescriptor fZ_requireZone.1.desc).map (fun d => d.parameters.length) = some 1 from by decide +kernel), by decide, by decide, (by decide), (by decide)⟩ g_316 rfl rfl (Nat.le_of_ble_eq_true rfl) (by decide +kernel) (q_cV (fun M1 h3 => ?_) (fun X9 M9 q => x_out rfl rfl (by decide) (by decide) q))
  refine s_iload_n (i := 2) (by decide +kernel) rfl ?_
  refine s_callS (Fc := fZ_requireZone) (index := 37) (as := [aI p2]) (rest := []) rfl h3 ⟨g_315, hZ_requireZone, g_1, by decide, (show (parseMethodDescriptor fZ_requireZone.1.desc).map (fun d => d.parameters.length) = some 1 from by decide +kernel), by decide, by decide, (by decide), (by decide)⟩ g_316 rfl rfl (Nat.le_of_ble_eq_true rfl) (by decide +kernel) (q_cV (fun M5 h7 => ?_) (fun X9 M9 q => x_out rfl rfl (by decide) (by decide) q))
  refine s_iload_n (i := 1) (by decide +kernel) rfl ?_
  refine s_iload_n (i := 2) (by decide +kernel) rfl ?_
  refine s_icmp_ne (off := 13) (tgt := 23) (by decide +kernel) (by decide) (fun c9 => ?_) (fun c9 => ?_)
  · have h10 := h7.2 c9
    refine s_aload_n (i := 0) (by decide +kernel) rfl ?_
    refine s_getR (ci := 4) (k := 0) (index := 10) (r2 := 1) ck4 rfl rfl (by decide) rfl (by decide +kernel) g_126 ?_
    refine s_iload_n (i := 1) (by decide +kernel) rfl ?_
    refine s_iload_n (i := 2) (by decide +kernel) rfl ?_
    refine s_callV (Fc := fP_hasLane) (index := 48) (ci := 1) (as := [aI p1, aI p2]) (rest := []) rfl h10 rfl rfl (by decide) rfl ⟨g_335, hP_hasLane, g_2, by decide, (show (parseMethodDescriptor fP_hasLane.1.desc).map (fun d => d.parameters.length) = some 2 from by decide +kernel), by decide, by decide, (by decide), (by decide)⟩ g_261 g_262 rfl rfl (Nat.le_of_ble_eq_true rfl) (by decide +kernel) (q_cI (fun b12 M11 h13 => ?_) (fun _ _ q => q.elim))
    refine s_if_eq (off := 13) (tgt := 45) (by decide +kernel) (by decide) (fun c15 => ?_) (fun c15 => ?_)
    · have h16 := h13.1 c15
      refine s_aload_n (i := 0) (by decide +kernel) rfl ?_
      refine s_getR (ci := 4) (k := 0) (index := 10) (r2 := 1) ck4 rfl rfl (by decide) rfl (by decide +kernel) g_126 ?_
      refine s_iload_n (i := 1) (by decide +kernel) rfl ?_
      refine s_iload_n (i := 2) (by decide +kernel) rfl ?_
      refine s_callV (Fc := fP_lay) (index := 57) (ci := 1) (as := [aI p1, aI p2]) (rest := []) rfl h16 rfl rfl (by decide) rfl ⟨g_352, hP_lay, g_2, by decide, (show (parseMethodDescriptor fP_lay.1.desc).map (fun d => d.parameters.length) = some 2 from by decide +kernel), by decide, by decide, (by decide), (by decide)⟩ g_353 g_354 rfl rfl (Nat.le_of_ble_eq_true rfl) (by decide +kernel) (q_cV (fun M17 h19 => ?_) (fun _ _ q => q.elim))
      refine s_aload_n (i := 0) (by decide +kernel) rfl ?_
      refine s_getR (ci := 4) (k := 0) (index := 10) (r2 := 1) ck4 rfl rfl (by decide) rfl (by decide +kernel) g_126 ?_
      refine s_getI (ci := 1) (k := 2) (index := 61) ck1 rfl (by decide) rfl (by decide +kernel) g_35 ?_
      exact s_iret rfl (by decide +kernel) (by decide) (by decide) h19
    · have h21 := h13.2 c15
      exact s_throw (ik := 52) (is := 54) (ic := 56) (tx := "there is a lane between them") rfl atISE (by decide) g_336 rfl rfl (by decide +kernel) (by decide +kernel) (by decide +kernel) (by decide +kernel) (by decide +kernel) (by decide) (by decide) (by decide) h21
  · have h22 := h7.1 c9
    exact s_throw (ik := 41) (is := 43) (ic := 45) (tx := "a lane joins two zones") rfl atIAE (by decide) g_318 rfl rfl (by decide +kernel) (by decide +kernel) (by decide +kernel) (by decide +kernel) (by decide +kernel) (by decide) (by decide) (by decide) h22

set_option maxRecDepth 20000 in
theorem BZ_setCharger_0 {K : KX} {Q : Res → AG → AM → Prop} {M : AM} (p1 p2 : Int)
    (h : MetA K fZ_requireZone [aI p1] GG M (cV GG (fun M1 => ∃ j5 : Nat, wr p1 = (j5 : Int) ∧ j5 < 20 ∧ (∃ j9 : Nat, wr p1 = (j9 : Int) ∧ j9 < 20 ∧ ((p2 : Int) = 0 ∨ (p2 : Int) = 1) ∧ (((M1 23 j5 : Int) = 0 ∨ (M1 23 j5 : Int) = 1) ∧ Q (.inl (some (aI (M1 23 j5)))) GG (um M1 23 j9 p2)))) (fun X9 M9 => Q (.inr X9) GG M9))) :
    WM K fZ_setCharger (EM K fZ_setCharger 126 Q) 0 [some (aR 0), some (aI p1), some (aI p2), none] [] GG M 0 0 := by
  refine s_iload_n (i := 1) (by decide +kernel) rfl ?_
  refine s_callS (Fc := fZ_requireZone) (index := 37) (as := [aI p1]) (rest := []) rfl h ⟨g_315, hZ_requireZone, g_1, by decide, (show (parseMethodDescriptor fZ_requireZone.1.desc).map (fun d => d.parameters.length) = some 1 from by decide +kernel), by decide, by decide, (by decide), (by decide)⟩ g_316 rfl rfl (Nat.le_of_ble_eq_true rfl) (by decide +kernel) (q_cV (fun M1 h3 => ?_) (fun X9 M9 q => x_out rfl rfl (by decide) (by decide) q))
  refine s_aload_n (i := 0) (by decide +kernel) rfl ?_
  refine s_getR (ci := 4) (k := 0) (index := 10) (r2 := 1) ck4 rfl rfl (by decide) rfl (by decide +kernel) g_126 ?_
  refine s_getR (ci := 1) (k := 1) (index := 65) (r2 := 23) ck1 rfl rfl (by decide) rfl (by decide +kernel) g_34 ?_
  refine s_iload_n (i := 1) (by decide +kernel) rfl ?_
  obtain ⟨j5, e6, e7, h8⟩ := h3
  refine s_zald (j := j5) rfl e6 e7 (by decide +kernel) ?_
  refine s_istore_n (i := 3) (by decide +kernel) (by decide) ?_
  refine s_aload_n (i := 0) (by decide +kernel) rfl ?_
  refine s_getR (ci := 4) (k := 0) (index := 10) (r2 := 1) ck4 rfl rfl (by decide) rfl (by decide +kernel) g_126 ?_
  refine s_getR (ci := 1) (k := 1) (index := 65) (r2 := 23) ck1 rfl rfl (by decide) rfl (by decide +kernel) g_34 ?_
  refine s_iload_n (i := 1) (by decide +kernel) rfl ?_
  refine s_iload_n (i := 2) (by decide +kernel) rfl ?_
  obtain ⟨j9, e10, e11, e13, h12⟩ := h8
  refine s_zast (j := j9) rfl e10 e11 e13 (by decide +kernel) ?_
  refine s_iload_n (i := 3) (by decide +kernel) rfl ?_
  exact s_zret h12.1 rfl (by decide +kernel) (by decide) (by decide) h12.2

set_option maxRecDepth 20000 in
theorem BZ_distance_0 {K : KX} {Q : Res → AG → AM → Prop} {M : AM} (p1 p2 : Int)
    (h : MetA K fZ_requireZone [aI p1] GG M (cV GG (fun M1 => MetA K fZ_requireZone [aI p2] GG M1 (cV GG (fun M5 => MetA K fP_hasWay [aR 1, aI p1, aI p2] GG M5 (cI GG (fun b10 M9 => (wr b10 = 0 → Q (.inl (some (aI (-1)))) GG M9) ∧ (¬ wr b10 = 0 → ∃ j16 : Nat, wr p1 = (j16 : Int) ∧ j16 < 20 ∧ (∃ j20 : Nat, wr p2 = (j20 : Int) ∧ j20 < 20 ∧ (Q (.inl (some (aI (M9 (3 + j16) j20)))) GG M9)))) noX)) (fun X9 M9 => Q (.inr X9) GG M9))) (fun X9 M9 => Q (.inr X9) GG M9))) :
    WM K fZ_distance (EM K fZ_distance 126 Q) 0 [some (aR 0), some (aI p1), some (aI p2)] [] GG M 0 0 := by
  refine s_iload_n (i := 1) (by decide +kernel) rfl ?_
  refine s_callS (Fc := fZ_requireZone) (index := 37) (as := [aI p1]) (rest := []) rfl h ⟨g_315, hZ_requireZone, g_1, by decide, (show (parseMethodDescriptor fZ_requireZone.1.desc).map (fun d => d.parameters.length) = some 1 from by decide +kernel), by decide, by decide, (by decide), (by decide)⟩ g_316 rfl rfl (Nat.le_of_ble_eq_true rfl) (by decide +kernel) (q_cV (fun M1 h3 => ?_) (fun X9 M9 q => x_out rfl rfl (by decide) (by decide) q))
  refine s_iload_n (i := 2) (by decide +kernel) rfl ?_
  refine s_callS (Fc := fZ_requireZone) (index := 37) (as := [aI p2]) (rest := []) rfl h3 ⟨g_315, hZ_requireZone, g_1, by decide, (show (parseMethodDescriptor fZ_requireZone.1.desc).map (fun d => d.parameters.length) = some 1 from by decide +kernel), by decide, by decide, (by decide), (by decide)⟩ g_316 rfl rfl (Nat.le_of_ble_eq_true rfl) (by decide +kernel) (q_cV (fun M5 h7 => ?_) (fun X9 M9 q => x_out rfl rfl (by decide) (by decide) q))
  refine s_aload_n (i := 0) (by decide +kernel) rfl ?_
  refine s_getR (ci := 4) (k := 0) (index := 10) (r2 := 1) ck4 rfl rfl (by decide) rfl (by decide +kernel) g_126 ?_
  refine s_iload_n (i := 1) (by decide +kernel) rfl ?_
  refine s_iload_n (i := 2) (by decide +kernel) rfl ?_
  refine s_callV (Fc := fP_hasWay) (index := 69) (ci := 1) (as := [aI p1, aI p2]) (rest := []) rfl h7 rfl rfl (by decide) rfl ⟨g_241, hP_hasWay, g_2, by decide, (show (parseMethodDescriptor fP_hasWay.1.desc).map (fun d => d.parameters.length) = some 2 from by decide +kernel), by decide, by decide, (by decide), (by decide)⟩ g_242 g_243 rfl rfl (Nat.le_of_ble_eq_true rfl) (by decide +kernel) (q_cI (fun b10 M9 h11 => ?_) (fun _ _ q => q.elim))
  refine s_if_eq (off := 17) (tgt := 34) (by decide +kernel) (by decide) (fun c13 => ?_) (fun c13 => ?_)
  · have h14 := h11.1 c13
    refine s_iconst (n := -1) (by decide +kernel) ?_
    exact s_iret rfl (by decide +kernel) (by decide) (by decide) h14
  · have h15 := h11.2 c13
    refine s_aload_n (i := 0) (by decide +kernel) rfl ?_
    refine s_getR (ci := 4) (k := 0) (index := 10) (r2 := 1) ck4 rfl rfl (by decide) rfl (by decide +kernel) g_126 ?_
    refine s_getR (ci := 1) (k := 0) (index := 72) (r2 := 2) ck1 rfl rfl (by decide) rfl (by decide +kernel) g_31 ?_
    refine s_iload_n (i := 1) (by decide +kernel) rfl ?_
    obtain ⟨j16, e17, e18, h19⟩ := h15
    refine s_aaldI (r2 := (3 + j16)) (j := j16) rfl e17 e18 (rg_at e18) (by decide +kernel) ?_
    refine s_iload_n (i := 2) (by decide +kernel) rfl ?_
    obtain ⟨j20, e21, e22, h23⟩ := h19
    refine s_iald (j := j20) (gg_row _ e18) e21 e22 (by decide +kernel) ?_
    refine s_goto (off := 4) (tgt := 35) (by decide +kernel) (by decide) ?_
    exact s_iret rfl (by decide +kernel) (by decide) (by decide) h23

set_option maxRecDepth 20000 in
theorem BZ_addVehicle_0 {K : KX} {Q : Res → AG → AM → Prop} {M : AM} (p1 p2 : Int)
    (h : MetA K fZ_requireZone [aI p1] GG M (cV GG (fun M1 => (wr p2 < 0 → Q (.inr "java/lang/IllegalArgumentException") GG M1) ∧ (¬ wr p2 < 0 → (wr p2 ≤ wr 60 → (wr (M1 0 4) < wr 6 → MetA K fZ_findIn [aR 0, aI p1] GG M1 (cI GG (fun b13 M12 => (wr b13 = wr ((-1)) → MetA K fZ_isSafeWithIdle [aR 0, aI (M1 0 4), aI p1] GG M12 (cI GG (fun b19 M18 => (wr b19 = 0 → Q (.inr "java/lang/IllegalStateException") GG M18) ∧ (¬ wr b19 = 0 → ∃ j24 : Nat, wr (M1 0 4) = (j24 : Int) ∧ j24 < 6 ∧ (∃ j28 : Nat, wr (M1 0 4) = (j28 : Int) ∧ j28 < 6 ∧ (Q (.inl (some (aI (M1 0 4)))) GG (um (um (um M18 (30 + 2 * j24) 4 p1) (30 + 2 * j28) 5 p2) 0 4 (((um (um M18 (30 + 2 * j24) 4 p1) (30 + 2 * j28) 5 p2) 0 4) + 1)))))) noX)) ∧ (¬ wr b13 = wr ((-1)) → Q (.inr "java/lang/IllegalStateException") GG M12)) noX)) ∧ (¬ wr (M1 0 4) < wr 6 → Q (.inr "java/lang/IllegalStateException") GG M1)) ∧ (¬ wr p2 ≤ wr 60 → Q (.inr "java/lang/IllegalArgumentException") GG M1))) (fun X9 M9 => Q (.inr X9) GG M9))) :
    WM K fZ_addVehicle (EM K fZ_addVehicle 126 Q) 0 [some (aR 0), some (aI p1), some (aI p2), none] [] GG M 0 0 := by
  refine s_iload_n (i := 1) (by decide +kernel) rfl ?_
  refine s_callS (Fc := fZ_requireZone) (index := 37) (as := [aI p1]) (rest := []) rfl h ⟨g_315, hZ_requireZone, g_1, by decide, (show (parseMethodDescriptor fZ_requireZone.1.desc).map (fun d => d.parameters.length) = some 1 from by decide +kernel), by decide, by decide, (by decide), (by decide)⟩ g_316 rfl rfl (Nat.le_of_ble_eq_true rfl) (by decide +kernel) (q_cV (fun M1 h3 => ?_) (fun X9 M9 q => x_out rfl rfl (by decide) (by decide) q))
  refine s_iload_n (i := 2) (by decide +kernel) rfl ?_
  refine s_if_lt (off := 9) (tgt := 14) (by decide +kernel) (by decide) (fun c5 => ?_) (fun c5 => ?_)
  · have h6 := h3.1 c5
    exact s_throw (ik := 41) (is := 76) (ic := 45) (tx := "energy is 0 to 60") rfl atIAE (by decide) g_318 rfl rfl (by decide +kernel) (by decide +kernel) (by decide +kernel) (by decide +kernel) (by decide +kernel) (by decide) (by decide) (by decide) h6
  · have h7 := h3.2 c5
    refine s_iload_n (i := 2) (by decide +kernel) rfl ?_
    refine s_bipush (n := 60) (by decide +kernel) (by decide +kernel) ?_
    refine s_icmp_le (off := 13) (tgt := 24) (by decide +kernel) (by decide) (fun c8 => ?_) (fun c8 => ?_)
    · have h9 := h7.1 c8
      refine s_aload_n (i := 0) (by decide +kernel) rfl ?_
      refine s_getI (ci := 4) (k := 4) (index := 78) ck4 rfl (by decide) rfl (by decide +kernel) g_130 ?_
      refine s_istore_n (i := 3) (by decide +kernel) (by decide) ?_
      refine s_iload_n (i := 3) (by decide +kernel) rfl ?_
      refine s_bipush (n := 6) (by decide +kernel) (by decide +kernel) ?_
      refine s_icmp_lt (off := 13) (tgt := 45) (by decide +kernel) (by decide) (fun c10 => ?_) (fun c10 => ?_)
      · have h11 := h9.1 c10
        refine s_aload_n (i := 0) (by decide +kernel) rfl ?_
        refine s_iload_n (i := 1) (by decide +kernel) rfl ?_
        refine s_callV (Fc := fZ_findIn) (index := 83) (ci := 4) (as := [aI p1]) (rest := []) rfl h11 rfl rfl (by decide) rfl ⟨g_373, hZ_findIn, g_1, by decide, (show (parseMethodDescriptor fZ_findIn.1.desc).map (fun d => d.parameters.length) = some 1 from by decide +kernel), by decide, by decide, (by decide), (by decide)⟩ g_375 gp_8 rfl rfl (Nat.le_of_ble_eq_true rfl) (by decide +kernel) (q_cI (fun b13 M12 h14 => ?_) (fun _ _ q => q.elim))
        refine s_iconst (n := -1) (by decide +kernel) ?_
        refine s_icmp_eq (off := 13) (tgt := 64) (by decide +kernel) (by decide) (fun c16 => ?_) (fun c16 => ?_)
        · have h17 := h14.1 c16
          refine s_aload_n (i := 0) (by decide +kernel) rfl ?_
          refine s_iload_n (i := 3) (by decide +kernel) rfl ?_
          refine s_iload_n (i := 1) (by decide +kernel) rfl ?_
          refine s_callV (Fc := fZ_isSafeWithIdle) (index := 89) (ci := 4) (as := [aI (M1 0 4), aI p1]) (rest := []) rfl h17 rfl rfl (by decide) rfl ⟨g_378, hZ_isSafeWithIdle, g_1, by decide, (show (parseMethodDescriptor fZ_isSafeWithIdle.1.desc).map (fun d => d.parameters.length) = some 2 from by decide +kernel), by decide, by decide, (by decide), (by decide)⟩ g_380 gp_9 rfl rfl (Nat.le_of_ble_eq_true rfl) (by decide +kernel) (q_cI (fun b19 M18 h20 => ?_) (fun _ _ q => q.elim))
          refine s_if_ne (off := 13) (tgt := 83) (by decide +kernel) (by decide) (fun c22 => ?_) (fun c22 => ?_)
          · have h23 := h20.2 c22
            refine s_aload_n (i := 0) (by decide +kernel) rfl ?_
            refine s_getR (ci := 4) (k := 2) (index := 25) (r2 := 29) ck4 rfl rfl (by decide) rfl (by decide +kernel) g_128 ?_
            refine s_iload_n (i := 3) (by decide +kernel) rfl ?_
            obtain ⟨j24, e25, e26, h27⟩ := h23
            refine s_aaldV (r2 := (30 + 2 * j24)) (j := j24) rfl e25 e26 (rg_at e26) (by decide +kernel) ?_
            refine s_iload_n (i := 1) (by decide +kernel) rfl ?_
            refine s_putI (ci := 3) (k := 4) (index := 94) ck3 (gg_veh _ e26) (by decide) rfl rfl rfl (by decide +kernel) g_84 ?_
            refine s_aload_n (i := 0) (by decide +kernel) rfl ?_
            refine s_getR (ci := 4) (k := 2) (index := 25) (r2 := 29) ck4 rfl rfl (by decide) rfl (by decide +kernel) g_128 ?_
            refine s_iload_n (i := 3) (by decide +kernel) rfl ?_
            obtain ⟨j28, e29, e30, h31⟩ := h27
            refine s_aaldV (r2 := (30 + 2 * j28)) (j := j28) rfl e29 e30 (rg_at e30) (by decide +kernel) ?_
            refine s_iload_n (i := 2) (by decide +kernel) rfl ?_
            refine s_putI (ci := 3) (k := 5) (index := 97) ck3 (gg_veh _ e30) (by decide) rfl rfl rfl (by decide +kernel) g_85 ?_
            refine s_aload_n (i := 0) (by decide +kernel) rfl ?_
            refine s_dupR (by decide +kernel) ?_
            refine s_getI (ci := 4) (k := 4) (index := 78) ck4 rfl (by decide) rfl (by decide +kernel) g_130 ?_
            refine s_iconst (n := 1) (by decide +kernel) ?_
            refine s_iadd (by decide +kernel) ?_
            refine s_putI (ci := 4) (k := 4) (index := 78) ck4 rfl (by decide) rfl rfl rfl (by decide +kernel) g_130 ?_
            refine s_iload_n (i := 3) (by decide +kernel) rfl ?_
            exact s_iret rfl (by decide +kernel) (by decide) (by decide) h31
          · have h32 := h20.1 c22
            exact s_throw (ik := 52) (is := 92) (ic := 56) (tx := "the plant would not be safe") rfl atISE (by decide) g_336 rfl rfl (by decide +kernel) (by decide +kernel) (by decide +kernel) (by decide +kernel) (by decide +kernel) (by decide) (by decide) (by decide) h32
        · have h33 := h14.2 c16
          exact s_throw (ik := 52) (is := 87) (ic := 56) (tx := "a vehicle is in the zone") rfl atISE (by decide) g_336 rfl rfl (by decide +kernel) (by decide +kernel) (by decide +kernel) (by decide +kernel) (by decide +kernel) (by decide) (by decide) (by decide) h33
      · have h34 := h9.2 c10
        exact s_throw (ik := 52) (is := 81) (ic := 56) (tx := "there are 6 vehicles") rfl atISE (by decide) g_336 rfl rfl (by decide +kernel) (by decide +kernel) (by decide +kernel) (by decide +kernel) (by decide +kernel) (by decide) (by decide) (by decide) h34
    · have h35 := h7.2 c8
      exact s_throw (ik := 41) (is := 76) (ic := 45) (tx := "energy is 0 to 60") rfl atIAE (by decide) g_318 rfl rfl (by decide +kernel) (by decide +kernel) (by decide +kernel) (by decide +kernel) (by decide +kernel) (by decide) (by decide) (by decide) h35

set_option maxRecDepth 20000 in
theorem BZ_assign_0 {K : KX} {Q : Res → AG → AM → Prop} {M : AM} (p1 p2 : Int)
    (h : MetA K fZ_requireVehicle [aR 0, aI p1] GG M (cV GG (fun M1 => MetA K fZ_requireZone [aI p2] GG M1 (cV GG (fun M5 => MetA K fZ_lengthFor [aR 0, aI p1, aI p2] GG M5 (cI GG (fun b10 M9 => (wr b10 = wr ((-1)) → Q (.inr "java/lang/IllegalStateException") GG M9) ∧ (¬ wr b10 = wr ((-1)) → ∃ j15 : Nat, wr p1 = (j15 : Int) ∧ j15 < 6 ∧ (MetA K fV_takeWay [aR (30 + 2 * j15), aR 1, aI p2] GG M9 (cV GG (fun M19 => Q (.inl (some (aI b10))) GG M19) noX)))) noX)) (fun X9 M9 => Q (.inr X9) GG M9))) (fun X9 M9 => Q (.inr X9) GG M9))) :
    WM K fZ_assign (EM K fZ_assign 126 Q) 0 [some (aR 0), some (aI p1), some (aI p2), none] [] GG M 0 0 := by
  refine s_aload_n (i := 0) (by decide +kernel) rfl ?_
  refine s_iload_n (i := 1) (by decide +kernel) rfl ?_
  refine s_callV (Fc := fZ_requireVehicle) (index := 100) (ci := 4) (as := [aI p1]) (rest := []) rfl h rfl rfl (by decide) rfl ⟨g_391, hZ_requireVehicle, g_1, by decide, (show (parseMethodDescriptor fZ_requireVehicle.1.desc).map (fun d => d.parameters.length) = some 1 from by decide +kernel), by decide, by decide, (by decide), (by decide)⟩ g_393 gp_10 rfl rfl (Nat.le_of_ble_eq_true rfl) (by decide +kernel) (q_cV (fun M1 h3 => ?_) (fun X9 M9 q => x_out rfl rfl (by decide) (by decide) q))
  refine s_iload_n (i := 2) (by decide +kernel) rfl ?_
  refine s_callS (Fc := fZ_requireZone) (index := 37) (as := [aI p2]) (rest := []) rfl h3 ⟨g_315, hZ_requireZone, g_1, by decide, (show (parseMethodDescriptor fZ_requireZone.1.desc).map (fun d => d.parameters.length) = some 1 from by decide +kernel), by decide, by decide, (by decide), (by decide)⟩ g_316 rfl rfl (Nat.le_of_ble_eq_true rfl) (by decide +kernel) (q_cV (fun M5 h7 => ?_) (fun X9 M9 q => x_out rfl rfl (by decide) (by decide) q))
  refine s_aload_n (i := 0) (by decide +kernel) rfl ?_
  refine s_iload_n (i := 1) (by decide +kernel) rfl ?_
  refine s_iload_n (i := 2) (by decide +kernel) rfl ?_
  refine s_callV (Fc := fZ_lengthFor) (index := 103) (ci := 4) (as := [aI p1, aI p2]) (rest := []) rfl h7 rfl rfl (by decide) rfl ⟨g_233, hZ_lengthFor, g_1, by decide, (show (parseMethodDescriptor fZ_lengthFor.1.desc).map (fun d => d.parameters.length) = some 2 from by decide +kernel), by decide, by decide, (by decide), (by decide)⟩ g_235 gp_3 rfl rfl (Nat.le_of_ble_eq_true rfl) (by decide +kernel) (q_cI (fun b10 M9 h11 => ?_) (fun _ _ q => q.elim))
  refine s_istore_n (i := 3) (by decide +kernel) (by decide) ?_
  refine s_iload_n (i := 3) (by decide +kernel) rfl ?_
  refine s_iconst (n := -1) (by decide +kernel) ?_
  refine s_icmp_ne (off := 13) (tgt := 31) (by decide +kernel) (by decide) (fun c13 => ?_) (fun c13 => ?_)
  · have h14 := h11.2 c13
    refine s_aload_n (i := 0) (by decide +kernel) rfl ?_
    refine s_getR (ci := 4) (k := 2) (index := 25) (r2 := 29) ck4 rfl rfl (by decide) rfl (by decide +kernel) g_128 ?_
    refine s_iload_n (i := 1) (by decide +kernel) rfl ?_
    obtain ⟨j15, e16, e17, h18⟩ := h14
    refine s_aaldV (r2 := (30 + 2 * j15)) (j := j15) rfl e16 e17 (rg_at e17) (by decide +kernel) ?_
    refine s_aload_n (i := 0) (by decide +kernel) rfl ?_
    refine s_getR (ci := 4) (k := 0) (index := 10) (r2 := 1) ck4 rfl rfl (by decide) rfl (by decide +kernel) g_126 ?_
    refine s_iload_n (i := 2) (by decide +kernel) rfl ?_
    refine s_callV (Fc := fV_takeWay) (index := 109) (ci := 3) (as := [aR 1, aI p2]) (rest := []) rfl h18 (gg_veh _ e17) rfl (by decide) rfl ⟨g_397, hV_takeWay, g_4, by decide, (show (parseMethodDescriptor fV_takeWay.1.desc).map (fun d => d.parameters.length) = some 2 from by decide +kernel), by decide, by decide, (by decide), (by decide)⟩ g_398 g_399 rfl rfl (Nat.le_of_ble_eq_true rfl) (by decide +kernel) (q_cV (fun M19 h21 => ?_) (fun _ _ q => q.elim))
    refine s_iload_n (i := 3) (by decide +kernel) rfl ?_
    exact s_iret rfl (by decide +kernel) (by decide) (by decide) h21
  · have h23 := h11.1 c13
    exact s_throw (ik := 52) (is := 107) (ic := 56) (tx := "the vehicle can\'t be assigned to the zone") rfl atISE (by decide) g_336 rfl rfl (by decide +kernel) (by decide +kernel) (by decide +kernel) (by decide +kernel) (by decide +kernel) (by decide) (by decide) (by decide) h23

set_option maxRecDepth 20000 in
theorem BZ_cancel_0 {K : KX} {Q : Res → AG → AM → Prop} {M : AM} (p1 : Int)
    (h : MetA K fZ_requireVehicle [aR 0, aI p1] GG M (cV GG (fun M1 => ∃ j5 : Nat, wr p1 = (j5 : Int) ∧ j5 < 6 ∧ (MetA K fV_isIdle [aR (30 + 2 * j5)] GG M1 (cI GG (fun b10 M9 => (wr b10 = 0 → MetA K fZ_isSafeWithIdle [aR 0, aI p1, aI (M9 (30 + 2 * j5) 4)] GG M9 (cI GG (fun b16 M15 => (wr b16 = 0 → Q (.inr "java/lang/IllegalStateException") GG M15) ∧ (¬ wr b16 = 0 → MetA K fV_zonesLeft [aR (30 + 2 * j5)] GG M15 (cI GG (fun b22 M21 => MetA K fV_dropRoute [aR (30 + 2 * j5)] GG M21 (cV GG (fun M25 => MetA K fZ_endJobOf [aR 0, aI p1, aI 0, aI (-1)] GG M25 (cV GG (fun M29 => Q (.inl (some (aI b22))) GG M29) noX)) noX)) noX))) noX)) ∧ (¬ wr b10 = 0 → Q (.inr "java/lang/IllegalStateException") GG M9)) noX))) (fun X9 M9 => Q (.inr X9) GG M9))) :
    WM K fZ_cancel (EM K fZ_cancel 126 Q) 0 [some (aR 0), some (aI p1), none, none] [] GG M 0 0 := by
  refine s_aload_n (i := 0) (by decide +kernel) rfl ?_
  refine s_iload_n (i := 1) (by decide +kernel) rfl ?_
  refine s_callV (Fc := fZ_requireVehicle) (index := 100) (ci := 4) (as := [aI p1]) (rest := []) rfl h rfl rfl (by decide) rfl ⟨g_391, hZ_requireVehicle, g_1, by decide, (show (parseMethodDescriptor fZ_requireVehicle.1.desc).map (fun d => d.parameters.length) = some 1 from by decide +kernel), by decide, by decide, (by decide), (by decide)⟩ g_393 gp_10 rfl rfl (Nat.le_of_ble_eq_true rfl) (by decide +kernel) (q_cV (fun M1 h3 => ?_) (fun X9 M9 q => x_out rfl rfl (by decide) (by decide) q))
  refine s_aload_n (i := 0) (by decide +kernel) rfl ?_
  refine s_getR (ci := 4) (k := 2) (index := 25) (r2 := 29) ck4 rfl rfl (by decide) rfl (by decide +kernel) g_128 ?_
  refine s_iload_n (i := 1) (by decide +kernel) rfl ?_
  obtain ⟨j5, e6, e7, h8⟩ := h3
  refine s_aaldV (r2 := (30 + 2 * j5)) (j := j5) rfl e6 e7 (rg_at e7) (by decide +kernel) ?_
  refine s_astore_n (i := 2) (by decide +kernel) (by decide) ?_
  refine s_aload_n (i := 2) (by decide +kernel) rfl ?_
  refine s_callV (Fc := fV_isIdle) (index := 113) (ci := 3) (as := []) (rest := []) rfl h8 (gg_veh _ e7) rfl (by decide) rfl ⟨g_237, hV_isIdle, g_4, by decide, (show (parseMethodDescriptor fV_isIdle.1.desc).map (fun d => d.parameters.length) = some 0 from by decide +kernel), by decide, by decide, (by decide), (by decide)⟩ g_238 g_239 rfl rfl (Nat.le_of_ble_eq_true rfl) (by decide +kernel) (q_cI (fun b10 M9 h11 => ?_) (fun _ _ q => q.elim))
  refine s_if_eq (off := 13) (tgt := 29) (by decide +kernel) (by decide) (fun c13 => ?_) (fun c13 => ?_)
  · have h14 := h11.1 c13
    refine s_aload_n (i := 0) (by decide +kernel) rfl ?_
    refine s_iload_n (i := 1) (by decide +kernel) rfl ?_
    refine s_aload_n (i := 2) (by decide +kernel) rfl ?_
    refine s_getI (ci := 3) (k := 4) (index := 94) ck3 (gg_veh _ e7) (by decide) rfl (by decide +kernel) g_84 ?_
    refine s_callV (Fc := fZ_isSafeWithIdle) (index := 89) (ci := 4) (as := [aI p1, aI (M9 (30 + 2 * j5) 4)]) (rest := []) rfl h14 rfl rfl (by decide) rfl ⟨g_378, hZ_isSafeWithIdle, g_1, by decide, (show (parseMethodDescriptor fZ_isSafeWithIdle.1.desc).map (fun d => d.parameters.length) = some 2 from by decide +kernel), by decide, by decide, (by decide), (by decide)⟩ g_380 gp_9 rfl rfl (Nat.le_of_ble_eq_true rfl) (by decide +kernel) (q_cI (fun b16 M15 h17 => ?_) (fun _ _ q => q.elim))
    refine s_if_ne (off := 13) (tgt := 51) (by decide +kernel) (by decide) (fun c19 => ?_) (fun c19 => ?_)
    · have h20 := h17.2 c19
      refine s_aload_n (i := 2) (by decide +kernel) rfl ?_
      refine s_callV (Fc := fV_zonesLeft) (index := 119) (ci := 3) (as := []) (rest := []) rfl h20 (gg_veh _ e7) rfl (by decide) rfl ⟨g_411, hV_zonesLeft, g_4, by decide, (show (parseMethodDescriptor fV_zonesLeft.1.desc).map (fun d => d.parameters.length) = some 0 from by decide +kernel), by decide, by decide, (by decide), (by decide)⟩ g_412 g_413 rfl rfl (Nat.le_of_ble_eq_true rfl) (by decide +kernel) (q_cI (fun b22 M21 h23 => ?_) (fun _ _ q => q.elim))
      refine s_istore_n (i := 3) (by decide +kernel) (by decide) ?_
      refine s_aload_n (i := 2) (by decide +kernel) rfl ?_
      refine s_callV (Fc := fV_dropRoute) (index := 123) (ci := 3) (as := []) (rest := []) rfl h23 (gg_veh _ e7) rfl (by decide) rfl ⟨g_415, hV_dropRoute, g_4, by decide, (show (parseMethodDescriptor fV_dropRoute.1.desc).map (fun d => d.parameters.length) = some 0 from by decide +kernel), by decide, by decide, (by decide), (by decide)⟩ g_416 g_417 rfl rfl (Nat.le_of_ble_eq_true rfl) (by decide +kernel) (q_cV (fun M25 h27 => ?_) (fun _ _ q => q.elim))
      refine s_aload_n (i := 0) (by decide +kernel) rfl ?_
      refine s_iload_n (i := 1) (by decide +kernel) rfl ?_
      refine s_iconst (n := 0) (by decide +kernel) ?_
      refine s_iconst (n := -1) (by decide +kernel) ?_
      refine s_callV (Fc := fZ_endJobOf) (index := 126) (ci := 4) (as := [aI p1, aI 0, aI (-1)]) (rest := []) rfl h27 rfl rfl (by decide) rfl ⟨g_419, hZ_endJobOf, g_1, by decide, (show (parseMethodDescriptor fZ_endJobOf.1.desc).map (fun d => d.parameters.length) = some 3 from by decide +kernel), by decide, by decide, (by decide), (by decide)⟩ g_421 gp_11 rfl rfl (Nat.le_of_ble_eq_true rfl) (by decide +kernel) (q_cV (fun M29 h31 => ?_) (fun _ _ q => q.elim))
      refine s_iload_n (i := 3) (by decide +kernel) rfl ?_
      exact s_iret rfl (by decide +kernel) (by decide) (by decide) h31
    · have h33 := h17.1 c19
      exact s_throw (ik := 52) (is := 92) (ic := 56) (tx := "the plant would not be safe") rfl atISE (by decide) g_336 rfl rfl (by decide +kernel) (by decide +kernel) (by decide +kernel) (by decide +kernel) (by decide +kernel) (by decide) (by decide) (by decide) h33
  · have h34 := h11.2 c13
    exact s_throw (ik := 52) (is := 117) (ic := 56) (tx := "the vehicle is idle") rfl atISE (by decide) g_336 rfl rfl (by decide +kernel) (by decide +kernel) (by decide +kernel) (by decide +kernel) (by decide +kernel) (by decide) (by decide) (by decide) h34

set_option maxRecDepth 20000 in
theorem BZ_charge_0 {K : KX} {Q : Res → AG → AM → Prop} {M : AM} (p1 : Int)
    (h : MetA K fZ_requireVehicle [aR 0, aI p1] GG M (cV GG (fun M1 => ∃ j5 : Nat, wr p1 = (j5 : Int) ∧ j5 < 6 ∧ (MetA K fV_isIdle [aR (30 + 2 * j5)] GG M1 (cI GG (fun b10 M9 => (wr b10 = 0 → Q (.inr "java/lang/IllegalStateException") GG M9) ∧ (¬ wr b10 = 0 → ∃ j15 : Nat, wr (M9 (30 + 2 * j5) 4) = (j15 : Int) ∧ j15 < 20 ∧ ((wr (M9 23 j15) = 0 → Q (.inr "java/lang/IllegalStateException") GG M9) ∧ (¬ wr (M9 23 j15) = 0 → Q (.inl (some (aI (60 - (M9 (30 + 2 * j5) 5))))) GG (um M9 (30 + 2 * j5) 5 60))))) noX))) (fun X9 M9 => Q (.inr X9) GG M9))) :
    WM K fZ_charge (EM K fZ_charge 126 Q) 0 [some (aR 0), some (aI p1), none, none] [] GG M 0 0 := by
  refine s_aload_n (i := 0) (by decide +kernel) rfl ?_
  refine s_iload_n (i := 1) (by decide +kernel) rfl ?_
  refine s_callV (Fc := fZ_requireVehicle) (index := 100) (ci := 4) (as := [aI p1]) (rest := []) rfl h rfl rfl (by decide) rfl ⟨g_391, hZ_requireVehicle, g_1, by decide, (show (parseMethodDescriptor fZ_requireVehicle.1.desc).map (fun d => d.parameters.length) = some 1 from by decide +kernel), by decide, by decide, (by decide), (by decide)⟩ g_393 gp_10 rfl rfl (Nat.le_of_ble_eq_true rfl) (by decide +kernel) (q_cV (fun M1 h3 => ?_) (fun X9 M9 q => x_out rfl rfl (by decide) (by decide) q))
  refine s_aload_n (i := 0) (by decide +kernel) rfl ?_
  refine s_getR (ci := 4) (k := 2) (index := 25) (r2 := 29) ck4 rfl rfl (by decide) rfl (by decide +kernel) g_128 ?_
  refine s_iload_n (i := 1) (by decide +kernel) rfl ?_
  obtain ⟨j5, e6, e7, h8⟩ := h3
  refine s_aaldV (r2 := (30 + 2 * j5)) (j := j5) rfl e6 e7 (rg_at e7) (by decide +kernel) ?_
  refine s_astore_n (i := 2) (by decide +kernel) (by decide) ?_
  refine s_aload_n (i := 2) (by decide +kernel) rfl ?_
  refine s_callV (Fc := fV_isIdle) (index := 113) (ci := 3) (as := []) (rest := []) rfl h8 (gg_veh _ e7) rfl (by decide) rfl ⟨g_237, hV_isIdle, g_4, by decide, (show (parseMethodDescriptor fV_isIdle.1.desc).map (fun d => d.parameters.length) = some 0 from by decide +kernel), by decide, by decide, (by decide), (by decide)⟩ g_238 g_239 rfl rfl (Nat.le_of_ble_eq_true rfl) (by decide +kernel) (q_cI (fun b10 M9 h11 => ?_) (fun _ _ q => q.elim))
  refine s_if_ne (off := 13) (tgt := 29) (by decide +kernel) (by decide) (fun c13 => ?_) (fun c13 => ?_)
  · have h14 := h11.2 c13
    refine s_aload_n (i := 0) (by decide +kernel) rfl ?_
    refine s_getR (ci := 4) (k := 0) (index := 10) (r2 := 1) ck4 rfl rfl (by decide) rfl (by decide +kernel) g_126 ?_
    refine s_getR (ci := 1) (k := 1) (index := 65) (r2 := 23) ck1 rfl rfl (by decide) rfl (by decide +kernel) g_34 ?_
    refine s_aload_n (i := 2) (by decide +kernel) rfl ?_
    refine s_getI (ci := 3) (k := 4) (index := 94) ck3 (gg_veh _ e7) (by decide) rfl (by decide +kernel) g_84 ?_
    obtain ⟨j15, e16, e17, h18⟩ := h14
    refine s_zald (j := j15) rfl e16 e17 (by decide +kernel) ?_
    refine s_if_ne (off := 13) (tgt := 54) (by decide +kernel) (by decide) (fun c19 => ?_) (fun c19 => ?_)
    · have h20 := h18.2 c19
      refine s_bipush (n := 60) (by decide +kernel) (by decide +kernel) ?_
      refine s_aload_n (i := 2) (by decide +kernel) rfl ?_
      refine s_getI (ci := 3) (k := 5) (index := 97) ck3 (gg_veh _ e7) (by decide) rfl (by decide +kernel) g_85 ?_
      refine s_isub (by decide +kernel) ?_
      refine s_istore_n (i := 3) (by decide +kernel) (by decide) ?_
      refine s_aload_n (i := 2) (by decide +kernel) rfl ?_
      refine s_bipush (n := 60) (by decide +kernel) (by decide +kernel) ?_
      refine s_putI (ci := 3) (k := 5) (index := 97) ck3 (gg_veh _ e7) (by decide) rfl rfl rfl (by decide +kernel) g_85 ?_
      refine s_iload_n (i := 3) (by decide +kernel) rfl ?_
      exact s_iret rfl (by decide +kernel) (by decide) (by decide) h20
    · have h21 := h18.1 c19
      exact s_throw (ik := 52) (is := 132) (ic := 56) (tx := "the vehicle is not in a charger") rfl atISE (by decide) g_336 rfl rfl (by decide +kernel) (by decide +kernel) (by decide +kernel) (by decide +kernel) (by decide +kernel) (by decide) (by decide) (by decide) h21
  · have h22 := h11.1 c13
    exact s_throw (ik := 52) (is := 130) (ic := 56) (tx := "the vehicle is not idle") rfl atISE (by decide) g_336 rfl rfl (by decide +kernel) (by decide +kernel) (by decide +kernel) (by decide +kernel) (by decide +kernel) (by decide) (by decide) (by decide) h22

set_option maxRecDepth 20000 in
theorem BZ_canStep_0 {K : KX} {Q : Res → AG → AM → Prop} {M : AM} (p1 : Int)
    (h : MetA K fZ_requireVehicle [aR 0, aI p1] GG M (cV GG (fun M1 => MetA K fZ_mayMove [aR 0, aI p1] GG M1 (cI GG (fun b6 M5 => ((b6 : Int) = 0 ∨ (b6 : Int) = 1) ∧ Q (.inl (some (aI b6))) GG M5) noX)) (fun X9 M9 => Q (.inr X9) GG M9))) :
    WM K fZ_canStep (EM K fZ_canStep 126 Q) 0 [some (aR 0), some (aI p1)] [] GG M 0 0 := by
  refine s_aload_n (i := 0) (by decide +kernel) rfl ?_
  refine s_iload_n (i := 1) (by decide +kernel) rfl ?_
  refine s_callV (Fc := fZ_requireVehicle) (index := 100) (ci := 4) (as := [aI p1]) (rest := []) rfl h rfl rfl (by decide) rfl ⟨g_391, hZ_requireVehicle, g_1, by decide, (show (parseMethodDescriptor fZ_requireVehicle.1.desc).map (fun d => d.parameters.length) = some 1 from by decide +kernel), by decide, by decide, (by decide), (by decide)⟩ g_393 gp_10 rfl rfl (Nat.le_of_ble_eq_true rfl) (by decide +kernel) (q_cV (fun M1 h3 => ?_) (fun X9 M9 q => x_out rfl rfl (by decide) (by decide) q))
  refine s_aload_n (i := 0) (by decide +kernel) rfl ?_
  refine s_iload_n (i := 1) (by decide +kernel) rfl ?_
  refine s_callV (Fc := fZ_mayMove) (index := 134) (ci := 4) (as := [aI p1]) (rest := []) rfl h3 rfl rfl (by decide) rfl ⟨g_439, hZ_mayMove, g_1, by decide, (show (parseMethodDescriptor fZ_mayMove.1.desc).map (fun d => d.parameters.length) = some 1 from by decide +kernel), by decide, by decide, (by decide), (by decide)⟩ g_441 gp_12 rfl rfl (Nat.le_of_ble_eq_true rfl) (by decide +kernel) (q_cI (fun b6 M5 h7 => ?_) (fun _ _ q => q.elim))
  exact s_zret h7.1 rfl (by decide +kernel) (by decide) (by decide) h7.2

set_option maxRecDepth 20000 in
theorem BZ_step_0 {K : KX} {Q : Res → AG → AM → Prop} {M : AM} (p1 : Int)
    (h : MetA K fZ_requireVehicle [aR 0, aI p1] GG M (cV GG (fun M1 => MetA K fZ_mayMove [aR 0, aI p1] GG M1 (cI GG (fun b6 M5 => (wr b6 = 0 → Q (.inr "java/lang/IllegalStateException") GG M5) ∧ (¬ wr b6 = 0 → MetA K fZ_move [aR 0, aI p1] GG M5 (cV GG (fun M11 => ∃ j15 : Nat, wr p1 = (j15 : Int) ∧ j15 < 6 ∧ (Q (.inl (some (aI (M11 (30 + 2 * j15) 4)))) GG M11)) noX))) noX)) (fun X9 M9 => Q (.inr X9) GG M9))) :
    WM K fZ_step (EM K fZ_step 126 Q) 0 [some (aR 0), some (aI p1)] [] GG M 0 0 := by
  refine s_aload_n (i := 0) (by decide +kernel) rfl ?_
  refine s_iload_n (i := 1) (by decide +kernel) rfl ?_
  refine s_callV (Fc := fZ_requireVehicle) (index := 100) (ci := 4) (as := [aI p1]) (rest := []) rfl h rfl rfl (by decide) rfl ⟨g_391, hZ_requireVehicle, g_1, by decide, (show (parseMethodDescriptor fZ_requireVehicle.1.desc).map (fun d => d.parameters.length) = some 1 from by decide +kernel), by decide, by decide, (by decide), (by decide)⟩ g_393 gp_10 rfl rfl (Nat.le_of_ble_eq_true rfl) (by decide +kernel) (q_cV (fun M1 h3 => ?_) (fun X9 M9 q => x_out rfl rfl (by decide) (by decide) q))
  refine s_aload_n (i := 0) (by decide +kernel) rfl ?_
  refine s_iload_n (i := 1) (by decide +kernel) rfl ?_
  refine s_callV (Fc := fZ_mayMove) (index := 134) (ci := 4) (as := [aI p1]) (rest := []) rfl h3 rfl rfl (by decide) rfl ⟨g_439, hZ_mayMove, g_1, by decide, (show (parseMethodDescriptor fZ_mayMove.1.desc).map (fun d => d.parameters.length) = some 1 from by decide +kernel), by decide, by decide, (by decide), (by decide)⟩ g_441 gp_12 rfl rfl (Nat.le_of_ble_eq_true rfl) (by decide +kernel) (q_cI (fun b6 M5 h7 => ?_) (fun _ _ q => q.elim))
  refine s_if_ne (off := 13) (tgt := 23) (by decide +kernel) (by decide) (fun c9 => ?_) (fun c9 => ?_)
  · have h10 := h7.2 c9
    refine s_aload_n (i := 0) (by decide +kernel) rfl ?_
    refine s_iload_n (i := 1) (by decide +kernel) rfl ?_
    refine s_callV (Fc := fZ_move) (index := 140) (ci := 4) (as := [aI p1]) (rest := []) rfl h10 rfl rfl (by decide) rfl ⟨g_448, hZ_move, g_1, by decide, (show (parseMethodDescriptor fZ_move.1.desc).map (fun d => d.parameters.length) = some 1 from by decide +kernel), by decide, by decide, (by decide), (by decide)⟩ g_450 gp_13 rfl rfl (Nat.le_of_ble_eq_true rfl) (by decide +kernel) (q_cV (fun M11 h13 => ?_) (fun _ _ q => q.elim))
    refine s_aload_n (i := 0) (by decide +kernel) rfl ?_
    refine s_getR (ci := 4) (k := 2) (index := 25) (r2 := 29) ck4 rfl rfl (by decide) rfl (by decide +kernel) g_128 ?_
    refine s_iload_n (i := 1) (by decide +kernel) rfl ?_
    obtain ⟨j15, e16, e17, h18⟩ := h13
    refine s_aaldV (r2 := (30 + 2 * j15)) (j := j15) rfl e16 e17 (rg_at e17) (by decide +kernel) ?_
    refine s_getI (ci := 3) (k := 4) (index := 94) ck3 (gg_veh _ e17) (by decide) rfl (by decide +kernel) g_84 ?_
    exact s_iret rfl (by decide +kernel) (by decide) (by decide) h18
  · have h19 := h7.1 c9
    exact s_throw (ik := 52) (is := 138) (ic := 56) (tx := "the vehicle may not step") rfl atISE (by decide) g_336 rfl rfl (by decide +kernel) (by decide +kernel) (by decide +kernel) (by decide +kernel) (by decide +kernel) (by decide) (by decide) (by decide) h19

set_option maxRecDepth 20000 in
theorem BZ_tick_0 {K : KX} {Q : Res → AG → AM → Prop} {M : AM} (p1 : Int)
    (h : (wr p1 < wr 1 → Q (.inr "java/lang/IllegalArgumentException") GG M) ∧ (¬ wr p1 < wr 1 → (wr p1 ≤ wr 20 → WM K fZ_tick (EM K fZ_tick 126 Q) 25 [some (aR 0), some (aI p1), some (aI 0), some (aI 0)] [] GG M 0 0) ∧ (¬ wr p1 ≤ wr 20 → Q (.inr "java/lang/IllegalArgumentException") GG M))) :
    WM K fZ_tick (EM K fZ_tick 126 Q) 0 [some (aR 0), some (aI p1), none, none] [] GG M 0 0 := by
  refine s_iload_n (i := 1) (by decide +kernel) rfl ?_
  refine s_iconst (n := 1) (by decide +kernel) ?_
  refine s_icmp_lt (off := 9) (tgt := 11) (by decide +kernel) (by decide) (fun c1 => ?_) (fun c1 => ?_)
  · have h2 := h.1 c1
    exact s_throw (ik := 41) (is := 143) (ic := 45) (tx := "ticks are 1 to 20") rfl atIAE (by decide) g_318 rfl rfl (by decide +kernel) (by decide +kernel) (by decide +kernel) (by decide +kernel) (by decide +kernel) (by decide) (by decide) (by decide) h2
  · have h3 := h.2 c1
    refine s_iload_n (i := 1) (by decide +kernel) rfl ?_
    refine s_bipush (n := 20) (by decide +kernel) (by decide +kernel) ?_
    refine s_icmp_le (off := 13) (tgt := 21) (by decide +kernel) (by decide) (fun c4 => ?_) (fun c4 => ?_)
    · have h5 := h3.1 c4
      refine s_iconst (n := 0) (by decide +kernel) ?_
      refine s_istore_n (i := 2) (by decide +kernel) (by decide) ?_
      refine s_iconst (n := 0) (by decide +kernel) ?_
      refine s_istore_n (i := 3) (by decide +kernel) (by decide) ?_
      exact h5
    · have h6 := h3.2 c4
      exact s_throw (ik := 41) (is := 143) (ic := 45) (tx := "ticks are 1 to 20") rfl atIAE (by decide) g_318 rfl rfl (by decide +kernel) (by decide +kernel) (by decide +kernel) (by decide +kernel) (by decide +kernel) (by decide) (by decide) (by decide) h6

set_option maxRecDepth 20000 in
theorem BZ_tick_25 {K : KX} {Q : Res → AG → AM → Prop} {M : AM} (x1 x2 x3 : Int)
    (h : (wr x1 ≤ wr x3 → Q (.inl (some (aI x2))) GG M) ∧ (¬ wr x1 ≤ wr x3 → MetA K fZ_passOneTick [aR 0] GG M (cI GG (fun b5 M4 => WM K fZ_tick (EM K fZ_tick 126 Q) 25 [some (aR 0), some (aI x1), some (aI (x2 + b5)), some (aI (x3 + 1))] [] GG M4 0 0) noX))) :
    WM K fZ_tick (EM K fZ_tick 126 Q) 25 [some (aR 0), some (aI x1), some (aI x2), some (aI x3)] [] GG M 0 0 := by
  refine s_iload_n (i := 3) (by decide +kernel) rfl ?_
  refine s_iload_n (i := 1) (by decide +kernel) rfl ?_
  refine s_icmp_ge (off := 16) (tgt := 43) (by decide +kernel) (by decide) (fun c1 => ?_) (fun c1 => ?_)
  · have h2 := h.1 c1
    refine s_iload_n (i := 2) (by decide +kernel) rfl ?_
    exact s_iret rfl (by decide +kernel) (by decide) (by decide) h2
  · have h3 := h.2 c1
    refine s_iload_n (i := 2) (by decide +kernel) rfl ?_
    refine s_aload_n (i := 0) (by decide +kernel) rfl ?_
    refine s_callV (Fc := fZ_passOneTick) (index := 145) (ci := 4) (as := []) (rest := [aI x2]) rfl h3 rfl rfl (by decide) rfl ⟨g_465, hZ_passOneTick, g_1, by decide, (show (parseMethodDescriptor fZ_passOneTick.1.desc).map (fun d => d.parameters.length) = some 0 from by decide +kernel), by decide, by decide, (by decide), (by decide)⟩ g_467 gp_14 rfl rfl (Nat.le_of_ble_eq_true rfl) (by decide +kernel) (q_cI (fun b5 M4 h6 => ?_) (fun _ _ q => q.elim))
    refine s_iadd (by decide +kernel) ?_
    refine s_istore_n (i := 2) (by decide +kernel) (by decide) ?_
    refine s_iinc (i := 3) (n := 1) (by decide +kernel) rfl (by decide) ?_
    refine s_goto (off := -15) (tgt := 25) (by decide +kernel) (by decide) ?_
    exact h6

set_option maxRecDepth 20000 in
theorem BZ_addJob_0 {K : KX} {Q : Res → AG → AM → Prop} {M : AM} (p1 : Int)
    (h : MetA K fZ_requireZone [aI p1] GG M (cV GG (fun M1 => (wr (M1 0 5) < wr 20 → ∃ j7 : Nat, wr (M1 0 5) = (j7 : Int) ∧ j7 < 20 ∧ (Q (.inl (some (aI (M1 0 5)))) GG (um (um M1 (43 + j7) 0 p1) 0 5 (((um M1 (43 + j7) 0 p1) 0 5) + 1)))) ∧ (¬ wr (M1 0 5) < wr 20 → Q (.inr "java/lang/IllegalStateException") GG M1)) (fun X9 M9 => Q (.inr X9) GG M9))) :
    WM K fZ_addJob (EM K fZ_addJob 126 Q) 0 [some (aR 0), some (aI p1), none] [] GG M 0 0 := by
  refine s_iload_n (i := 1) (by decide +kernel) rfl ?_
  refine s_callS (Fc := fZ_requireZone) (index := 37) (as := [aI p1]) (rest := []) rfl h ⟨g_315, hZ_requireZone, g_1, by decide, (show (parseMethodDescriptor fZ_requireZone.1.desc).map (fun d => d.parameters.length) = some 1 from by decide +kernel), by decide, by decide, (by decide), (by decide)⟩ g_316 rfl rfl (Nat.le_of_ble_eq_true rfl) (by decide +kernel) (q_cV (fun M1 h3 => ?_) (fun X9 M9 q => x_out rfl rfl (by decide) (by decide) q))
  refine s_aload_n (i := 0) (by decide +kernel) rfl ?_
  refine s_getI (ci := 4) (k := 5) (index := 148) ck4 rfl (by decide) rfl (by decide +kernel) g_131 ?_
  refine s_istore_n (i := 2) (by decide +kernel) (by decide) ?_
  refine s_iload_n (i := 2) (by decide +kernel) rfl ?_
  refine s_bipush (n := 20) (by decide +kernel) (by decide +kernel) ?_
  refine s_icmp_lt (off := 13) (tgt := 25) (by decide +kernel) (by decide) (fun c5 => ?_) (fun c5 => ?_)
  · have h6 := h3.1 c5
    refine s_aload_n (i := 0) (by decide +kernel) rfl ?_
    refine s_getR (ci := 4) (k := 3) (index := 32) (r2 := 42) ck4 rfl rfl (by decide) rfl (by decide +kernel) g_129 ?_
    refine s_iload_n (i := 2) (by decide +kernel) rfl ?_
    obtain ⟨j7, e8, e9, h10⟩ := h6
    refine s_aaldJ (r2 := (43 + j7)) (j := j7) rfl e8 e9 (rg_at e9) (by decide +kernel) ?_
    refine s_iload_n (i := 1) (by decide +kernel) rfl ?_
    refine s_putI (ci := 0) (k := 0) (index := 153) ck0 (gg_job _ e9) (by decide) rfl rfl rfl (by decide +kernel) g_114 ?_
    refine s_aload_n (i := 0) (by decide +kernel) rfl ?_
    refine s_dupR (by decide +kernel) ?_
    refine s_getI (ci := 4) (k := 5) (index := 148) ck4 rfl (by decide) rfl (by decide +kernel) g_131 ?_
    refine s_iconst (n := 1) (by decide +kernel) ?_
    refine s_iadd (by decide +kernel) ?_
    refine s_putI (ci := 4) (k := 5) (index := 148) ck4 rfl (by decide) rfl rfl rfl (by decide +kernel) g_131 ?_
    refine s_iload_n (i := 2) (by decide +kernel) rfl ?_
    exact s_iret rfl (by decide +kernel) (by decide) (by decide) h10
  · have h11 := h3.2 c5
    exact s_throw (ik := 52) (is := 151) (ic := 56) (tx := "there are 20 jobs") rfl atISE (by decide) g_336 rfl rfl (by decide +kernel) (by decide +kernel) (by decide +kernel) (by decide +kernel) (by decide +kernel) (by decide) (by decide) (by decide) h11

set_option maxRecDepth 20000 in
theorem BZ_dispatch_0 {K : KX} {Q : Res → AG → AM → Prop} {M : AM} 
    (h : MetA K fZ_mostRegretted [aR 0] GG M (cI GG (fun b2 M1 => (wr b2 = wr ((-1)) → (wr ((-1)) = wr ((-1)) → Q (.inl (some (aI (-1)))) GG M1) ∧ (¬ wr ((-1)) = wr ((-1)) → ∃ j41 : Nat, wr ((-1)) = (j41 : Int) ∧ j41 < 6 ∧ (∃ j45 : Nat, wr b2 = (j45 : Int) ∧ j45 < 20 ∧ (MetA K fV_takeWay [aR (30 + 2 * j41), aR 1, aI (M1 (43 + j45) 0)] GG M1 (cV GG (fun M49 => ∃ j53 : Nat, wr ((-1)) = (j53 : Int) ∧ j53 < 6 ∧ (∃ j57 : Nat, wr b2 = (j57 : Int) ∧ j57 < 20 ∧ (∃ j61 : Nat, wr b2 = (j61 : Int) ∧ j61 < 20 ∧ (Q (.inl (some (aI b2))) GG (um (um (um M49 (30 + 2 * j53) 7 b2) (43 + j57) 1 1) (43 + j61) 2 ((-1))))))) noX))))) ∧ (¬ wr b2 = wr ((-1)) → MetA K fZ_nearestTaker [aR 0, aI b2] GG M1 (cI GG (fun b8 M7 => (wr b8 = wr ((-1)) → Q (.inl (some (aI (-1)))) GG M7) ∧ (¬ wr b8 = wr ((-1)) → ∃ j13 : Nat, wr b8 = (j13 : Int) ∧ j13 < 6 ∧ (∃ j17 : Nat, wr b2 = (j17 : Int) ∧ j17 < 20 ∧ (MetA K fV_takeWay [aR (30 + 2 * j13), aR 1, aI (M7 (43 + j17) 0)] GG M7 (cV GG (fun M21 => ∃ j25 : Nat, wr b8 = (j25 : Int) ∧ j25 < 6 ∧ (∃ j29 : Nat, wr b2 = (j29 : Int) ∧ j29 < 20 ∧ (∃ j33 : Nat, wr b2 = (j33 : Int) ∧ j33 < 20 ∧ (Q (.inl (some (aI b2))) GG (um (um (um M21 (30 + 2 * j25) 7 b2) (43 + j29) 1 1) (43 + j33) 2 b8))))) noX))))) noX))) noX)) :
    WM K fZ_dispatch (EM K fZ_dispatch 126 Q) 0 [some (aR 0), none, none] [] GG M 0 0 := by
  refine s_aload_n (i := 0) (by decide +kernel) rfl ?_
  refine s_callV (Fc := fZ_mostRegretted) (index := 154) (ci := 4) (as := []) (rest := []) rfl h rfl rfl (by decide) rfl ⟨g_481, hZ_mostRegretted, g_1, by decide, (show (parseMethodDescriptor fZ_mostRegretted.1.desc).map (fun d => d.parameters.length) = some 0 from by decide +kernel), by decide, by decide, (by decide), (by decide)⟩ g_483 gp_15 rfl rfl (Nat.le_of_ble_eq_true rfl) (by decide +kernel) (q_cI (fun b2 M1 h3 => ?_) (fun _ _ q => q.elim))
  refine s_istore_n (i := 1) (by decide +kernel) (by decide) ?_
  refine s_iload_n (i := 1) (by decide +kernel) rfl ?_
  refine s_iconst (n := -1) (by decide +kernel) ?_
  refine s_icmp_ne (off := 7) (tgt := 14) (by decide +kernel) (by decide) (fun c5 => ?_) (fun c5 => ?_)
  · have h6 := h3.2 c5
    refine s_aload_n (i := 0) (by decide +kernel) rfl ?_
    refine s_iload_n (i := 1) (by decide +kernel) rfl ?_
    refine s_callV (Fc := fZ_nearestTaker) (index := 157) (ci := 4) (as := [aI b2]) (rest := []) rfl h6 rfl rfl (by decide) rfl ⟨g_485, hZ_nearestTaker, g_1, by decide, (show (parseMethodDescriptor fZ_nearestTaker.1.desc).map (fun d => d.parameters.length) = some 1 from by decide +kernel), by decide, by decide, (by decide), (by decide)⟩ g_487 gp_16 rfl rfl (Nat.le_of_ble_eq_true rfl) (by decide +kernel) (q_cI (fun b8 M7 h9 => ?_) (fun _ _ q => q.elim))
    refine s_istore_n (i := 2) (by decide +kernel) (by decide) ?_
    refine s_iload_n (i := 2) (by decide +kernel) rfl ?_
    refine s_iconst (n := -1) (by decide +kernel) ?_
    refine s_icmp_ne (off := 5) (tgt := 27) (by decide +kernel) (by decide) (fun c11 => ?_) (fun c11 => ?_)
    · have h12 := h9.2 c11
      refine s_aload_n (i := 0) (by decide +kernel) rfl ?_
      refine s_getR (ci := 4) (k := 2) (index := 25) (r2 := 29) ck4 rfl rfl (by decide) rfl (by decide +kernel) g_128 ?_
      refine s_iload_n (i := 2) (by decide +kernel) rfl ?_
      obtain ⟨j13, e14, e15, h16⟩ := h12
      refine s_aaldV (r2 := (30 + 2 * j13)) (j := j13) rfl e14 e15 (rg_at e15) (by decide +kernel) ?_
      refine s_aload_n (i := 0) (by decide +kernel) rfl ?_
      refine s_getR (ci := 4) (k := 0) (index := 10) (r2 := 1) ck4 rfl rfl (by decide) rfl (by decide +kernel) g_126 ?_
      refine s_aload_n (i := 0) (by decide +kernel) rfl ?_
      refine s_getR (ci := 4) (k := 3) (index := 32) (r2 := 42) ck4 rfl rfl (by decide) rfl (by decide +kernel) g_129 ?_
      refine s_iload_n (i := 1) (by decide +kernel) rfl ?_
      obtain ⟨j17, e18, e19, h20⟩ := h16
      refine s_aaldJ (r2 := (43 + j17)) (j := j17) rfl e18 e19 (rg_at e19) (by decide +kernel) ?_
      refine s_getI (ci := 0) (k := 0) (index := 153) ck0 (gg_job _ e19) (by decide) rfl (by decide +kernel) g_114 ?_
      refine s_callV (Fc := fV_takeWay) (index := 109) (ci := 3) (as := [aR 1, aI (M7 (43 + j17) 0)]) (rest := []) rfl h20 (gg_veh _ e15) rfl (by decide) rfl ⟨g_397, hV_takeWay, g_4, by decide, (show (parseMethodDescriptor fV_takeWay.1.desc).map (fun d => d.parameters.length) = some 2 from by decide +kernel), by decide, by decide, (by decide), (by decide)⟩ g_398 g_399 rfl rfl (Nat.le_of_ble_eq_true rfl) (by decide +kernel) (q_cV (fun M21 h23 => ?_) (fun _ _ q => q.elim))
      refine s_aload_n (i := 0) (by decide +kernel) rfl ?_
      refine s_getR (ci := 4) (k := 2) (index := 25) (r2 := 29) ck4 rfl rfl (by decide) rfl (by decide +kernel) g_128 ?_
      refine s_iload_n (i := 2) (by decide +kernel) rfl ?_
      obtain ⟨j25, e26, e27, h28⟩ := h23
      refine s_aaldV (r2 := (30 + 2 * j25)) (j := j25) rfl e26 e27 (rg_at e27) (by decide +kernel) ?_
      refine s_iload_n (i := 1) (by decide +kernel) rfl ?_
      refine s_putI (ci := 3) (k := 7) (index := 160) ck3 (gg_veh _ e27) (by decide) rfl rfl rfl (by decide +kernel) g_89 ?_
      refine s_aload_n (i := 0) (by decide +kernel) rfl ?_
      refine s_getR (ci := 4) (k := 3) (index := 32) (r2 := 42) ck4 rfl rfl (by decide) rfl (by decide +kernel) g_129 ?_
      refine s_iload_n (i := 1) (by decide +kernel) rfl ?_
      obtain ⟨j29, e30, e31, h32⟩ := h28
      refine s_aaldJ (r2 := (43 + j29)) (j := j29) rfl e30 e31 (rg_at e31) (by decide +kernel) ?_
      refine s_iconst (n := 1) (by decide +kernel) ?_
      refine s_putI (ci := 0) (k := 1) (index := 163) ck0 (gg_job _ e31) (by decide) rfl rfl rfl (by decide +kernel) g_116 ?_
      refine s_aload_n (i := 0) (by decide +kernel) rfl ?_
      refine s_getR (ci := 4) (k := 3) (index := 32) (r2 := 42) ck4 rfl rfl (by decide) rfl (by decide +kernel) g_129 ?_
      refine s_iload_n (i := 1) (by decide +kernel) rfl ?_
      obtain ⟨j33, e34, e35, h36⟩ := h32
      refine s_aaldJ (r2 := (43 + j33)) (j := j33) rfl e34 e35 (rg_at e35) (by decide +kernel) ?_
      refine s_iload_n (i := 2) (by decide +kernel) rfl ?_
      refine s_putI (ci := 0) (k := 2) (index := 166) ck0 (gg_job _ e35) (by decide) rfl rfl rfl (by decide +kernel) g_118 ?_
      refine s_iload_n (i := 1) (by decide +kernel) rfl ?_
      exact s_iret rfl (by decide +kernel) (by decide) (by decide) h36
    · have h37 := h9.1 c11
      refine s_iconst (n := -1) (by decide +kernel) ?_
      exact s_iret rfl (by decide +kernel) (by decide) (by decide) h37
  · have h38 := h3.1 c5
    refine s_iconst (n := -1) (by decide +kernel) ?_
    refine s_goto (off := 8) (tgt := 19) (by decide +kernel) (by decide) ?_
    refine s_istore_n (i := 2) (by decide +kernel) (by decide) ?_
    refine s_iload_n (i := 2) (by decide +kernel) rfl ?_
    refine s_iconst (n := -1) (by decide +kernel) ?_
    refine s_icmp_ne (off := 5) (tgt := 27) (by decide +kernel) (by decide) (fun c39 => ?_) (fun c39 => ?_)
    · have h40 := h38.2 c39
      refine s_aload_n (i := 0) (by decide +kernel) rfl ?_
      refine s_getR (ci := 4) (k := 2) (index := 25) (r2 := 29) ck4 rfl rfl (by decide) rfl (by decide +kernel) g_128 ?_
      refine s_iload_n (i := 2) (by decide +kernel) rfl ?_
      obtain ⟨j41, e42, e43, h44⟩ := h40
      refine s_aaldV (r2 := (30 + 2 * j41)) (j := j41) rfl e42 e43 (rg_at e43) (by decide +kernel) ?_
      refine s_aload_n (i := 0) (by decide +kernel) rfl ?_
      refine s_getR (ci := 4) (k := 0) (index := 10) (r2 := 1) ck4 rfl rfl (by decide) rfl (by decide +kernel) g_126 ?_
      refine s_aload_n (i := 0) (by decide +kernel) rfl ?_
      refine s_getR (ci := 4) (k := 3) (index := 32) (r2 := 42) ck4 rfl rfl (by decide) rfl (by decide +kernel) g_129 ?_
      refine s_iload_n (i := 1) (by decide +kernel) rfl ?_
      obtain ⟨j45, e46, e47, h48⟩ := h44
      refine s_aaldJ (r2 := (43 + j45)) (j := j45) rfl e46 e47 (rg_at e47) (by decide +kernel) ?_
      refine s_getI (ci := 0) (k := 0) (index := 153) ck0 (gg_job _ e47) (by decide) rfl (by decide +kernel) g_114 ?_
      refine s_callV (Fc := fV_takeWay) (index := 109) (ci := 3) (as := [aR 1, aI (M1 (43 + j45) 0)]) (rest := []) rfl h48 (gg_veh _ e43) rfl (by decide) rfl ⟨g_397, hV_takeWay, g_4, by decide, (show (parseMethodDescriptor fV_takeWay.1.desc).map (fun d => d.parameters.length) = some 2 from by decide +kernel), by decide, by decide, (by decide), (by decide)⟩ g_398 g_399 rfl rfl (Nat.le_of_ble_eq_true rfl) (by decide +kernel) (q_cV (fun M49 h51 => ?_) (fun _ _ q => q.elim))
      refine s_aload_n (i := 0) (by decide +kernel) rfl ?_
      refine s_getR (ci := 4) (k := 2) (index := 25) (r2 := 29) ck4 rfl rfl (by decide) rfl (by decide +kernel) g_128 ?_
      refine s_iload_n (i := 2) (by decide +kernel) rfl ?_
      obtain ⟨j53, e54, e55, h56⟩ := h51
      refine s_aaldV (r2 := (30 + 2 * j53)) (j := j53) rfl e54 e55 (rg_at e55) (by decide +kernel) ?_
      refine s_iload_n (i := 1) (by decide +kernel) rfl ?_
      refine s_putI (ci := 3) (k := 7) (index := 160) ck3 (gg_veh _ e55) (by decide) rfl rfl rfl (by decide +kernel) g_89 ?_
      refine s_aload_n (i := 0) (by decide +kernel) rfl ?_
      refine s_getR (ci := 4) (k := 3) (index := 32) (r2 := 42) ck4 rfl rfl (by decide) rfl (by decide +kernel) g_129 ?_
      refine s_iload_n (i := 1) (by decide +kernel) rfl ?_
      obtain ⟨j57, e58, e59, h60⟩ := h56
      refine s_aaldJ (r2 := (43 + j57)) (j := j57) rfl e58 e59 (rg_at e59) (by decide +kernel) ?_
      refine s_iconst (n := 1) (by decide +kernel) ?_
      refine s_putI (ci := 0) (k := 1) (index := 163) ck0 (gg_job _ e59) (by decide) rfl rfl rfl (by decide +kernel) g_116 ?_
      refine s_aload_n (i := 0) (by decide +kernel) rfl ?_
      refine s_getR (ci := 4) (k := 3) (index := 32) (r2 := 42) ck4 rfl rfl (by decide) rfl (by decide +kernel) g_129 ?_
      refine s_iload_n (i := 1) (by decide +kernel) rfl ?_
      obtain ⟨j61, e62, e63, h64⟩ := h60
      refine s_aaldJ (r2 := (43 + j61)) (j := j61) rfl e62 e63 (rg_at e63) (by decide +kernel) ?_
      refine s_iload_n (i := 2) (by decide +kernel) rfl ?_
      refine s_putI (ci := 0) (k := 2) (index := 166) ck0 (gg_job _ e63) (by decide) rfl rfl rfl (by decide +kernel) g_118 ?_
      refine s_iload_n (i := 1) (by decide +kernel) rfl ?_
      exact s_iret rfl (by decide +kernel) (by decide) (by decide) h64
    · have h65 := h38.1 c39
      refine s_iconst (n := -1) (by decide +kernel) ?_
      exact s_iret rfl (by decide +kernel) (by decide) (by decide) h65

set_option maxRecDepth 20000 in
theorem BZ_jobState_0 {K : KX} {Q : Res → AG → AM → Prop} {M : AM} (p1 : Int)
    (h : MetA K fZ_requireJob [aR 0, aI p1] GG M (cV GG (fun M1 => ∃ j5 : Nat, wr p1 = (j5 : Int) ∧ j5 < 20 ∧ (Q (.inl (some (aI (M1 (43 + j5) 1)))) GG M1)) (fun X9 M9 => Q (.inr X9) GG M9))) :
    WM K fZ_jobState (EM K fZ_jobState 126 Q) 0 [some (aR 0), some (aI p1)] [] GG M 0 0 := by
  refine s_aload_n (i := 0) (by decide +kernel) rfl ?_
  refine s_iload_n (i := 1) (by decide +kernel) rfl ?_
  refine s_callV (Fc := fZ_requireJob) (index := 169) (ci := 4) (as := [aI p1]) (rest := []) rfl h rfl rfl (by decide) rfl ⟨g_149, hZ_requireJob, g_1, by decide, (show (parseMethodDescriptor fZ_requireJob.1.desc).map (fun d => d.parameters.length) = some 1 from by decide +kernel), by decide, by decide, (by decide), (by decide)⟩ g_151 gp_0 rfl rfl (Nat.le_of_ble_eq_true rfl) (by decide +kernel) (q_cV (fun M1 h3 => ?_) (fun X9 M9 q => x_out rfl rfl (by decide) (by decide) q))
  refine s_aload_n (i := 0) (by decide +kernel) rfl ?_
  refine s_getR (ci := 4) (k := 3) (index := 32) (r2 := 42) ck4 rfl rfl (by decide) rfl (by decide +kernel) g_129 ?_
  refine s_iload_n (i := 1) (by decide +kernel) rfl ?_
  obtain ⟨j5, e6, e7, h8⟩ := h3
  refine s_aaldJ (r2 := (43 + j5)) (j := j5) rfl e6 e7 (rg_at e7) (by decide +kernel) ?_
  refine s_getI (ci := 0) (k := 1) (index := 163) ck0 (gg_job _ e7) (by decide) rfl (by decide +kernel) g_116 ?_
  exact s_iret rfl (by decide +kernel) (by decide) (by decide) h8

set_option maxRecDepth 20000 in
theorem BZ_jobVehicle_0 {K : KX} {Q : Res → AG → AM → Prop} {M : AM} (p1 : Int)
    (h : MetA K fZ_requireJob [aR 0, aI p1] GG M (cV GG (fun M1 => ∃ j5 : Nat, wr p1 = (j5 : Int) ∧ j5 < 20 ∧ (Q (.inl (some (aI (M1 (43 + j5) 2)))) GG M1)) (fun X9 M9 => Q (.inr X9) GG M9))) :
    WM K fZ_jobVehicle (EM K fZ_jobVehicle 126 Q) 0 [some (aR 0), some (aI p1)] [] GG M 0 0 := by
  refine s_aload_n (i := 0) (by decide +kernel) rfl ?_
  refine s_iload_n (i := 1) (by decide +kernel) rfl ?_
  refine s_callV (Fc := fZ_requireJob) (index := 169) (ci := 4) (as := [aI p1]) (rest := []) rfl h rfl rfl (by decide) rfl ⟨g_149, hZ_requireJob, g_1, by decide, (show (parseMethodDescriptor fZ_requireJob.1.desc).map (fun d => d.parameters.length) = some 1 from by decide +kernel), by decide, by decide, (by decide), (by decide)⟩ g_151 gp_0 rfl rfl (Nat.le_of_ble_eq_true rfl) (by decide +kernel) (q_cV (fun M1 h3 => ?_) (fun X9 M9 q => x_out rfl rfl (by decide) (by decide) q))
  refine s_aload_n (i := 0) (by decide +kernel) rfl ?_
  refine s_getR (ci := 4) (k := 3) (index := 32) (r2 := 42) ck4 rfl rfl (by decide) rfl (by decide +kernel) g_129 ?_
  refine s_iload_n (i := 1) (by decide +kernel) rfl ?_
  obtain ⟨j5, e6, e7, h8⟩ := h3
  refine s_aaldJ (r2 := (43 + j5)) (j := j5) rfl e6 e7 (rg_at e7) (by decide +kernel) ?_
  refine s_getI (ci := 0) (k := 2) (index := 166) ck0 (gg_job _ e7) (by decide) rfl (by decide +kernel) g_118 ?_
  exact s_iret rfl (by decide +kernel) (by decide) (by decide) h8

set_option maxRecDepth 20000 in
theorem BZ_regret_0 {K : KX} {Q : Res → AG → AM → Prop} {M : AM} (p1 : Int)
    (h : MetA K fZ_requireJob [aR 0, aI p1] GG M (cV GG (fun M1 => MetA K fZ_regretOf [aR 0, aI p1] GG M1 (cI GG (fun b6 M5 => Q (.inl (some (aI b6))) GG M5) noX)) (fun X9 M9 => Q (.inr X9) GG M9))) :
    WM K fZ_regret (EM K fZ_regret 126 Q) 0 [some (aR 0), some (aI p1)] [] GG M 0 0 := by
  refine s_aload_n (i := 0) (by decide +kernel) rfl ?_
  refine s_iload_n (i := 1) (by decide +kernel) rfl ?_
  refine s_callV (Fc := fZ_requireJob) (index := 169) (ci := 4) (as := [aI p1]) (rest := []) rfl h rfl rfl (by decide) rfl ⟨g_149, hZ_requireJob, g_1, by decide, (show (parseMethodDescriptor fZ_requireJob.1.desc).map (fun d => d.parameters.length) = some 1 from by decide +kernel), by decide, by decide, (by decide), (by decide)⟩ g_151 gp_0 rfl rfl (Nat.le_of_ble_eq_true rfl) (by decide +kernel) (q_cV (fun M1 h3 => ?_) (fun X9 M9 q => x_out rfl rfl (by decide) (by decide) q))
  refine s_aload_n (i := 0) (by decide +kernel) rfl ?_
  refine s_iload_n (i := 1) (by decide +kernel) rfl ?_
  refine s_callV (Fc := fZ_regretOf) (index := 172) (ci := 4) (as := [aI p1]) (rest := []) rfl h3 rfl rfl (by decide) rfl ⟨g_229, hZ_regretOf, g_1, by decide, (show (parseMethodDescriptor fZ_regretOf.1.desc).map (fun d => d.parameters.length) = some 1 from by decide +kernel), by decide, by decide, (by decide), (by decide)⟩ g_231 gp_2 rfl rfl (Nat.le_of_ble_eq_true rfl) (by decide +kernel) (q_cI (fun b6 M5 h7 => ?_) (fun _ _ q => q.elim))
  exact s_iret rfl (by decide +kernel) (by decide) (by decide) h7

set_option maxRecDepth 20000 in
theorem BZ_vehicles_0 {K : KX} {Q : Res → AG → AM → Prop} {M : AM} 
    (h : Q (.inl (some (aI (M 0 4)))) GG M) :
    WM K fZ_vehicles (EM K fZ_vehicles 126 Q) 0 [some (aR 0)] [] GG M 0 0 := by
  refine s_aload_n (i := 0) (by decide +kernel) rfl ?_
  refine s_getI (ci := 4) (k := 4) (index := 78) ck4 rfl (by decide) rfl (by decide +kernel) g_130 ?_
  exact s_iret rfl (by decide +kernel) (by decide) (by decide) h

set_option maxRecDepth 20000 in
theorem BZ_zoneOf_0 {K : KX} {Q : Res → AG → AM → Prop} {M : AM} (p1 : Int)
    (h : MetA K fZ_requireVehicle [aR 0, aI p1] GG M (cV GG (fun M1 => ∃ j5 : Nat, wr p1 = (j5 : Int) ∧ j5 < 6 ∧ (Q (.inl (some (aI (M1 (30 + 2 * j5) 4)))) GG M1)) (fun X9 M9 => Q (.inr X9) GG M9))) :
    WM K fZ_zoneOf (EM K fZ_zoneOf 126 Q) 0 [some (aR 0), some (aI p1)] [] GG M 0 0 := by
  refine s_aload_n (i := 0) (by decide +kernel) rfl ?_
  refine s_iload_n (i := 1) (by decide +kernel) rfl ?_
  refine s_callV (Fc := fZ_requireVehicle) (index := 100) (ci := 4) (as := [aI p1]) (rest := []) rfl h rfl rfl (by decide) rfl ⟨g_391, hZ_requireVehicle, g_1, by decide, (show (parseMethodDescriptor fZ_requireVehicle.1.desc).map (fun d => d.parameters.length) = some 1 from by decide +kernel), by decide, by decide, (by decide), (by decide)⟩ g_393 gp_10 rfl rfl (Nat.le_of_ble_eq_true rfl) (by decide +kernel) (q_cV (fun M1 h3 => ?_) (fun X9 M9 q => x_out rfl rfl (by decide) (by decide) q))
  refine s_aload_n (i := 0) (by decide +kernel) rfl ?_
  refine s_getR (ci := 4) (k := 2) (index := 25) (r2 := 29) ck4 rfl rfl (by decide) rfl (by decide +kernel) g_128 ?_
  refine s_iload_n (i := 1) (by decide +kernel) rfl ?_
  obtain ⟨j5, e6, e7, h8⟩ := h3
  refine s_aaldV (r2 := (30 + 2 * j5)) (j := j5) rfl e6 e7 (rg_at e7) (by decide +kernel) ?_
  refine s_getI (ci := 3) (k := 4) (index := 94) ck3 (gg_veh _ e7) (by decide) rfl (by decide +kernel) g_84 ?_
  exact s_iret rfl (by decide +kernel) (by decide) (by decide) h8

set_option maxRecDepth 20000 in
theorem BZ_vehicleIn_0 {K : KX} {Q : Res → AG → AM → Prop} {M : AM} (p1 : Int)
    (h : MetA K fZ_requireZone [aI p1] GG M (cV GG (fun M1 => MetA K fZ_findIn [aR 0, aI p1] GG M1 (cI GG (fun b6 M5 => Q (.inl (some (aI b6))) GG M5) noX)) (fun X9 M9 => Q (.inr X9) GG M9))) :
    WM K fZ_vehicleIn (EM K fZ_vehicleIn 126 Q) 0 [some (aR 0), some (aI p1)] [] GG M 0 0 := by
  refine s_iload_n (i := 1) (by decide +kernel) rfl ?_
  refine s_callS (Fc := fZ_requireZone) (index := 37) (as := [aI p1]) (rest := []) rfl h ⟨g_315, hZ_requireZone, g_1, by decide, (show (parseMethodDescriptor fZ_requireZone.1.desc).map (fun d => d.parameters.length) = some 1 from by decide +kernel), by decide, by decide, (by decide), (by decide)⟩ g_316 rfl rfl (Nat.le_of_ble_eq_true rfl) (by decide +kernel) (q_cV (fun M1 h3 => ?_) (fun X9 M9 q => x_out rfl rfl (by decide) (by decide) q))
  refine s_aload_n (i := 0) (by decide +kernel) rfl ?_
  refine s_iload_n (i := 1) (by decide +kernel) rfl ?_
  refine s_callV (Fc := fZ_findIn) (index := 83) (ci := 4) (as := [aI p1]) (rest := []) rfl h3 rfl rfl (by decide) rfl ⟨g_373, hZ_findIn, g_1, by decide, (show (parseMethodDescriptor fZ_findIn.1.desc).map (fun d => d.parameters.length) = some 1 from by decide +kernel), by decide, by decide, (by decide), (by decide)⟩ g_375 gp_8 rfl rfl (Nat.le_of_ble_eq_true rfl) (by decide +kernel) (q_cI (fun b6 M5 h7 => ?_) (fun _ _ q => q.elim))
  exact s_iret rfl (by decide +kernel) (by decide) (by decide) h7

set_option maxRecDepth 20000 in
theorem BZ_routeLength_0 {K : KX} {Q : Res → AG → AM → Prop} {M : AM} (p1 : Int)
    (h : MetA K fZ_requireVehicle [aR 0, aI p1] GG M (cV GG (fun M1 => ∃ j5 : Nat, wr p1 = (j5 : Int) ∧ j5 < 6 ∧ (MetA K fV_zonesLeft [aR (30 + 2 * j5)] GG M1 (cI GG (fun b10 M9 => Q (.inl (some (aI b10))) GG M9) noX))) (fun X9 M9 => Q (.inr X9) GG M9))) :
    WM K fZ_routeLength (EM K fZ_routeLength 126 Q) 0 [some (aR 0), some (aI p1)] [] GG M 0 0 := by
  refine s_aload_n (i := 0) (by decide +kernel) rfl ?_
  refine s_iload_n (i := 1) (by decide +kernel) rfl ?_
  refine s_callV (Fc := fZ_requireVehicle) (index := 100) (ci := 4) (as := [aI p1]) (rest := []) rfl h rfl rfl (by decide) rfl ⟨g_391, hZ_requireVehicle, g_1, by decide, (show (parseMethodDescriptor fZ_requireVehicle.1.desc).map (fun d => d.parameters.length) = some 1 from by decide +kernel), by decide, by decide, (by decide), (by decide)⟩ g_393 gp_10 rfl rfl (Nat.le_of_ble_eq_true rfl) (by decide +kernel) (q_cV (fun M1 h3 => ?_) (fun X9 M9 q => x_out rfl rfl (by decide) (by decide) q))
  refine s_aload_n (i := 0) (by decide +kernel) rfl ?_
  refine s_getR (ci := 4) (k := 2) (index := 25) (r2 := 29) ck4 rfl rfl (by decide) rfl (by decide +kernel) g_128 ?_
  refine s_iload_n (i := 1) (by decide +kernel) rfl ?_
  obtain ⟨j5, e6, e7, h8⟩ := h3
  refine s_aaldV (r2 := (30 + 2 * j5)) (j := j5) rfl e6 e7 (rg_at e7) (by decide +kernel) ?_
  refine s_callV (Fc := fV_zonesLeft) (index := 119) (ci := 3) (as := []) (rest := []) rfl h8 (gg_veh _ e7) rfl (by decide) rfl ⟨g_411, hV_zonesLeft, g_4, by decide, (show (parseMethodDescriptor fV_zonesLeft.1.desc).map (fun d => d.parameters.length) = some 0 from by decide +kernel), by decide, by decide, (by decide), (by decide)⟩ g_412 g_413 rfl rfl (Nat.le_of_ble_eq_true rfl) (by decide +kernel) (q_cI (fun b10 M9 h11 => ?_) (fun _ _ q => q.elim))
  exact s_iret rfl (by decide +kernel) (by decide) (by decide) h11

set_option maxRecDepth 20000 in
theorem BZ_routeZone_0 {K : KX} {Q : Res → AG → AM → Prop} {M : AM} (p1 p2 : Int)
    (h : MetA K fZ_requireVehicle [aR 0, aI p1] GG M (cV GG (fun M1 => ∃ j5 : Nat, wr p1 = (j5 : Int) ∧ j5 < 6 ∧ ((wr p2 < 0 → Q (.inr "java/lang/IllegalArgumentException") GG M1) ∧ (¬ wr p2 < 0 → MetA K fV_zonesLeft [aR (30 + 2 * j5)] GG M1 (cI GG (fun b13 M12 => (wr p2 < wr b13 → ∃ j18 : Nat, wr ((M12 (30 + 2 * j5) 1) + p2) = (j18 : Int) ∧ j18 < 20 ∧ (Q (.inl (some (aI (M12 (31 + 2 * j5) j18)))) GG M12)) ∧ (¬ wr p2 < wr b13 → Q (.inr "java/lang/IllegalArgumentException") GG M12)) noX)))) (fun X9 M9 => Q (.inr X9) GG M9))) :
    WM K fZ_routeZone (EM K fZ_routeZone 126 Q) 0 [some (aR 0), some (aI p1), some (aI p2), none] [] GG M 0 0 := by
  refine s_aload_n (i := 0) (by decide +kernel) rfl ?_
  refine s_iload_n (i := 1) (by decide +kernel) rfl ?_
  refine s_callV (Fc := fZ_requireVehicle) (index := 100) (ci := 4) (as := [aI p1]) (rest := []) rfl h rfl rfl (by decide) rfl ⟨g_391, hZ_requireVehicle, g_1, by decide, (show (parseMethodDescriptor fZ_requireVehicle.1.desc).map (fun d => d.parameters.length) = some 1 from by decide +kernel), by decide, by decide, (by decide), (by decide)⟩ g_393 gp_10 rfl rfl (Nat.le_of_ble_eq_true rfl) (by decide +kernel) (q_cV (fun M1 h3 => ?_) (fun X9 M9 q => x_out rfl rfl (by decide) (by decide) q))
  refine s_aload_n (i := 0) (by decide +kernel) rfl ?_
  refine s_getR (ci := 4) (k := 2) (index := 25) (r2 := 29) ck4 rfl rfl (by decide) rfl (by decide +kernel) g_128 ?_
  refine s_iload_n (i := 1) (by decide +kernel) rfl ?_
  obtain ⟨j5, e6, e7, h8⟩ := h3
  refine s_aaldV (r2 := (30 + 2 * j5)) (j := j5) rfl e6 e7 (rg_at e7) (by decide +kernel) ?_
  refine s_astore_n (i := 3) (by decide +kernel) (by decide) ?_
  refine s_iload_n (i := 2) (by decide +kernel) rfl ?_
  refine s_if_lt (off := 11) (tgt := 24) (by decide +kernel) (by decide) (fun c9 => ?_) (fun c9 => ?_)
  · have h10 := h8.1 c9
    exact s_throw (ik := 41) (is := 175) (ic := 45) (tx := "the route has no such place") rfl atIAE (by decide) g_318 rfl rfl (by decide +kernel) (by decide +kernel) (by decide +kernel) (by decide +kernel) (by decide +kernel) (by decide) (by decide) (by decide) h10
  · have h11 := h8.2 c9
    refine s_iload_n (i := 2) (by decide +kernel) rfl ?_
    refine s_aload_n (i := 3) (by decide +kernel) rfl ?_
    refine s_callV (Fc := fV_zonesLeft) (index := 119) (ci := 3) (as := []) (rest := [aI p2]) rfl h11 (gg_veh _ e7) rfl (by decide) rfl ⟨g_411, hV_zonesLeft, g_4, by decide, (show (parseMethodDescriptor fV_zonesLeft.1.desc).map (fun d => d.parameters.length) = some 0 from by decide +kernel), by decide, by decide, (by decide), (by decide)⟩ g_412 g_413 rfl rfl (Nat.le_of_ble_eq_true rfl) (by decide +kernel) (q_cI (fun b13 M12 h14 => ?_) (fun _ _ q => q.elim))
    refine s_icmp_lt (off := 13) (tgt := 34) (by decide +kernel) (by decide) (fun c16 => ?_) (fun c16 => ?_)
    · have h17 := h14.1 c16
      refine s_aload_n (i := 3) (by decide +kernel) rfl ?_
      refine s_getR (ci := 3) (k := 0) (index := 177) (r2 := (31 + 2 * j5)) ck3 (gg_veh _ e7) (rsVeh_0 _) (by decide) rfl (by decide +kernel) g_77 ?_
      refine s_aload_n (i := 3) (by decide +kernel) rfl ?_
      refine s_getI (ci := 3) (k := 1) (index := 181) ck3 (gg_veh _ e7) (by decide) rfl (by decide +kernel) g_79 ?_
      refine s_iload_n (i := 2) (by decide +kernel) rfl ?_
      refine s_iadd (by decide +kernel) ?_
      obtain ⟨j18, e19, e20, h21⟩ := h17
      refine s_iald (j := j18) (gg_vrow _ e7) e19 e20 (by decide +kernel) ?_
      exact s_iret rfl (by decide +kernel) (by decide) (by decide) h21
    · have h22 := h14.2 c16
      exact s_throw (ik := 41) (is := 175) (ic := 45) (tx := "the route has no such place") rfl atIAE (by decide) g_318 rfl rfl (by decide +kernel) (by decide +kernel) (by decide +kernel) (by decide +kernel) (by decide +kernel) (by decide) (by decide) (by decide) h22

set_option maxRecDepth 20000 in
theorem BZ_energy_0 {K : KX} {Q : Res → AG → AM → Prop} {M : AM} (p1 : Int)
    (h : MetA K fZ_requireVehicle [aR 0, aI p1] GG M (cV GG (fun M1 => ∃ j5 : Nat, wr p1 = (j5 : Int) ∧ j5 < 6 ∧ (Q (.inl (some (aI (M1 (30 + 2 * j5) 5)))) GG M1)) (fun X9 M9 => Q (.inr X9) GG M9))) :
    WM K fZ_energy (EM K fZ_energy 126 Q) 0 [some (aR 0), some (aI p1)] [] GG M 0 0 := by
  refine s_aload_n (i := 0) (by decide +kernel) rfl ?_
  refine s_iload_n (i := 1) (by decide +kernel) rfl ?_
  refine s_callV (Fc := fZ_requireVehicle) (index := 100) (ci := 4) (as := [aI p1]) (rest := []) rfl h rfl rfl (by decide) rfl ⟨g_391, hZ_requireVehicle, g_1, by decide, (show (parseMethodDescriptor fZ_requireVehicle.1.desc).map (fun d => d.parameters.length) = some 1 from by decide +kernel), by decide, by decide, (by decide), (by decide)⟩ g_393 gp_10 rfl rfl (Nat.le_of_ble_eq_true rfl) (by decide +kernel) (q_cV (fun M1 h3 => ?_) (fun X9 M9 q => x_out rfl rfl (by decide) (by decide) q))
  refine s_aload_n (i := 0) (by decide +kernel) rfl ?_
  refine s_getR (ci := 4) (k := 2) (index := 25) (r2 := 29) ck4 rfl rfl (by decide) rfl (by decide +kernel) g_128 ?_
  refine s_iload_n (i := 1) (by decide +kernel) rfl ?_
  obtain ⟨j5, e6, e7, h8⟩ := h3
  refine s_aaldV (r2 := (30 + 2 * j5)) (j := j5) rfl e6 e7 (rg_at e7) (by decide +kernel) ?_
  refine s_getI (ci := 3) (k := 5) (index := 97) ck3 (gg_veh _ e7) (by decide) rfl (by decide +kernel) g_85 ?_
  exact s_iret rfl (by decide +kernel) (by decide) (by decide) h8

set_option maxRecDepth 20000 in
theorem BZ_waited_0 {K : KX} {Q : Res → AG → AM → Prop} {M : AM} (p1 : Int)
    (h : MetA K fZ_requireVehicle [aR 0, aI p1] GG M (cV GG (fun M1 => ∃ j5 : Nat, wr p1 = (j5 : Int) ∧ j5 < 6 ∧ (Q (.inl (some (aI (M1 (30 + 2 * j5) 6)))) GG M1)) (fun X9 M9 => Q (.inr X9) GG M9))) :
    WM K fZ_waited (EM K fZ_waited 126 Q) 0 [some (aR 0), some (aI p1)] [] GG M 0 0 := by
  refine s_aload_n (i := 0) (by decide +kernel) rfl ?_
  refine s_iload_n (i := 1) (by decide +kernel) rfl ?_
  refine s_callV (Fc := fZ_requireVehicle) (index := 100) (ci := 4) (as := [aI p1]) (rest := []) rfl h rfl rfl (by decide) rfl ⟨g_391, hZ_requireVehicle, g_1, by decide, (show (parseMethodDescriptor fZ_requireVehicle.1.desc).map (fun d => d.parameters.length) = some 1 from by decide +kernel), by decide, by decide, (by decide), (by decide)⟩ g_393 gp_10 rfl rfl (Nat.le_of_ble_eq_true rfl) (by decide +kernel) (q_cV (fun M1 h3 => ?_) (fun X9 M9 q => x_out rfl rfl (by decide) (by decide) q))
  refine s_aload_n (i := 0) (by decide +kernel) rfl ?_
  refine s_getR (ci := 4) (k := 2) (index := 25) (r2 := 29) ck4 rfl rfl (by decide) rfl (by decide +kernel) g_128 ?_
  refine s_iload_n (i := 1) (by decide +kernel) rfl ?_
  obtain ⟨j5, e6, e7, h8⟩ := h3
  refine s_aaldV (r2 := (30 + 2 * j5)) (j := j5) rfl e6 e7 (rg_at e7) (by decide +kernel) ?_
  refine s_getI (ci := 3) (k := 6) (index := 184) ck3 (gg_veh _ e7) (by decide) rfl (by decide +kernel) g_87 ?_
  exact s_iret rfl (by decide +kernel) (by decide) (by decide) h8

set_option maxRecDepth 20000 in
theorem BZ_orders_0 {K : KX} {Q : Res → AG → AM → Prop} {M : AM} 
    (h : MetA K fZ_lookAtTraffic [aR 0] GG M (cV GG (fun M1 => MetA K fT_countOrders [aR 24] GG M1 (cI GG (fun b6 M5 => Q (.inl (some (aI b6))) GG M5) noX)) noX)) :
    WM K fZ_orders (EM K fZ_orders 126 Q) 0 [some (aR 0)] [] GG M 0 0 := by
  refine s_aload_n (i := 0) (by decide +kernel) rfl ?_
  refine s_callV (Fc := fZ_lookAtTraffic) (index := 187) (ci := 4) (as := []) (rest := []) rfl h rfl rfl (by decide) rfl ⟨g_268, hZ_lookAtTraffic, g_1, by decide, (show (parseMethodDescriptor fZ_lookAtTraffic.1.desc).map (fun d => d.parameters.length) = some 0 from by decide +kernel), by decide, by decide, (by decide), (by decide)⟩ g_270 gp_5 rfl rfl (Nat.le_of_ble_eq_true rfl) (by decide +kernel) (q_cV (fun M1 h3 => ?_) (fun _ _ q => q.elim))
  refine s_aload_n (i := 0) (by decide +kernel) rfl ?_
  refine s_getR (ci := 4) (k := 1) (index := 19) (r2 := 24) ck4 rfl rfl (by decide) rfl (by decide +kernel) g_127 ?_
  refine s_callV (Fc := fT_countOrders) (index := 190) (ci := 2) (as := []) (rest := []) rfl h3 rfl rfl (by decide) rfl ⟨g_284, hT_countOrders, g_3, by decide, (show (parseMethodDescriptor fT_countOrders.1.desc).map (fun d => d.parameters.length) = some 0 from by decide +kernel), by decide, by decide, (by decide), (by decide)⟩ g_285 g_286 rfl rfl (Nat.le_of_ble_eq_true rfl) (by decide +kernel) (q_cI (fun b6 M5 h7 => ?_) (fun _ _ q => q.elim))
  exact s_iret rfl (by decide +kernel) (by decide) (by decide) h7

set_option maxRecDepth 20000 in
theorem BZ_finisher_0 {K : KX} {Q : Res → AG → AM → Prop} {M : AM} (p1 : Int)
    (h : MetA K fZ_lookAtTraffic [aR 0] GG M (cV GG (fun M1 => (wr p1 < 0 → Q (.inr "java/lang/IllegalArgumentException") GG M1) ∧ (¬ wr p1 < 0 → MetA K fX_bitCount [aI (M1 24 4)] GG M1 (cI GG (fun b9 M8 => (wr p1 < wr b9 → MetA K fT_countOrders [aR 24] GG M8 (cI GG (fun b15 M14 => MetA K fT_runnerInFirstOrder [aR 24, aI p1] GG M14 (cI GG (fun b19 M18 => Q (.inl (some (aI b19))) GG M18) noX)) noX)) ∧ (¬ wr p1 < wr b9 → Q (.inr "java/lang/IllegalArgumentException") GG M8)) noX))) noX)) :
    WM K fZ_finisher (EM K fZ_finisher 126 Q) 0 [some (aR 0), some (aI p1)] [] GG M 0 0 := by
  refine s_aload_n (i := 0) (by decide +kernel) rfl ?_
  refine s_callV (Fc := fZ_lookAtTraffic) (index := 187) (ci := 4) (as := []) (rest := []) rfl h rfl rfl (by decide) rfl ⟨g_268, hZ_lookAtTraffic, g_1, by decide, (show (parseMethodDescriptor fZ_lookAtTraffic.1.desc).map (fun d => d.parameters.length) = some 0 from by decide +kernel), by decide, by decide, (by decide), (by decide)⟩ g_270 gp_5 rfl rfl (Nat.le_of_ble_eq_true rfl) (by decide +kernel) (q_cV (fun M1 h3 => ?_) (fun _ _ q => q.elim))
  refine s_iload_n (i := 1) (by decide +kernel) rfl ?_
  refine s_if_lt (off := 17) (tgt := 22) (by decide +kernel) (by decide) (fun c5 => ?_) (fun c5 => ?_)
  · have h6 := h3.1 c5
    exact s_throw (ik := 41) (is := 201) (ic := 45) (tx := "the orders have no such place") rfl atIAE (by decide) g_318 rfl rfl (by decide +kernel) (by decide +kernel) (by decide +kernel) (by decide +kernel) (by decide +kernel) (by decide) (by decide) (by decide) h6
  · have h7 := h3.2 c5
    refine s_iload_n (i := 1) (by decide +kernel) rfl ?_
    refine s_aload_n (i := 0) (by decide +kernel) rfl ?_
    refine s_getR (ci := 4) (k := 1) (index := 19) (r2 := 24) ck4 rfl rfl (by decide) rfl (by decide +kernel) g_127 ?_
    refine s_getI (ci := 2) (k := 4) (index := 193) ck2 rfl (by decide) rfl (by decide +kernel) g_57 ?_
    refine s_callS (Fc := fX_bitCount) (index := 196) (as := [aI (M1 24 4)]) (rest := [aI p1]) rfl h7 ⟨g_539, hX_bitCount, g_13, by decide, (show (parseMethodDescriptor fX_bitCount.1.desc).map (fun d => d.parameters.length) = some 1 from by decide +kernel), by decide, by decide, (by decide), (by decide)⟩ g_540 rfl rfl (Nat.le_of_ble_eq_true rfl) (by decide +kernel) (q_cI (fun b9 M8 h10 => ?_) (fun _ _ q => q.elim))
    refine s_icmp_lt (off := 13) (tgt := 32) (by decide +kernel) (by decide) (fun c12 => ?_) (fun c12 => ?_)
    · have h13 := h10.1 c12
      refine s_aload_n (i := 0) (by decide +kernel) rfl ?_
      refine s_getR (ci := 4) (k := 1) (index := 19) (r2 := 24) ck4 rfl rfl (by decide) rfl (by decide +kernel) g_127 ?_
      refine s_callV (Fc := fT_countOrders) (index := 190) (ci := 2) (as := []) (rest := []) rfl h13 rfl rfl (by decide) rfl ⟨g_284, hT_countOrders, g_3, by decide, (show (parseMethodDescriptor fT_countOrders.1.desc).map (fun d => d.parameters.length) = some 0 from by decide +kernel), by decide, by decide, (by decide), (by decide)⟩ g_285 g_286 rfl rfl (Nat.le_of_ble_eq_true rfl) (by decide +kernel) (q_cI (fun b15 M14 h16 => ?_) (fun _ _ q => q.elim))
      refine s_popI (by decide +kernel) ?_
      refine s_aload_n (i := 0) (by decide +kernel) rfl ?_
      refine s_getR (ci := 4) (k := 1) (index := 19) (r2 := 24) ck4 rfl rfl (by decide) rfl (by decide +kernel) g_127 ?_
      refine s_iload_n (i := 1) (by decide +kernel) rfl ?_
      refine s_callV (Fc := fT_runnerInFirstOrder) (index := 203) (ci := 2) (as := [aI p1]) (rest := []) rfl h16 rfl rfl (by decide) rfl ⟨g_546, hT_runnerInFirstOrder, g_3, by decide, (show (parseMethodDescriptor fT_runnerInFirstOrder.1.desc).map (fun d => d.parameters.length) = some 1 from by decide +kernel), by decide, by decide, (by decide), (by decide)⟩ g_547 g_548 rfl rfl (Nat.le_of_ble_eq_true rfl) (by decide +kernel) (q_cI (fun b19 M18 h20 => ?_) (fun _ _ q => q.elim))
      exact s_iret rfl (by decide +kernel) (by decide) (by decide) h20
    · have h22 := h10.2 c12
      exact s_throw (ik := 41) (is := 201) (ic := 45) (tx := "the orders have no such place") rfl atIAE (by decide) g_318 rfl rfl (by decide +kernel) (by decide +kernel) (by decide +kernel) (by decide +kernel) (by decide +kernel) (by decide) (by decide) (by decide) h22

set_option maxRecDepth 20000 in
theorem BZ_requireZone_0 {K : KX} {Q : Res → AG → AM → Prop} {M : AM} (p1 : Int)
    (h : (wr p1 < 0 → Q (.inr "java/lang/IllegalArgumentException") GG M) ∧ (¬ wr p1 < 0 → (wr p1 < wr 20 → Q (.inl none) GG M) ∧ (¬ wr p1 < wr 20 → Q (.inr "java/lang/IllegalArgumentException") GG M))) :
    WM K fZ_requireZone (EM K fZ_requireZone 126 Q) 0 [some (aI p1)] [] GG M 0 0 := by
  refine s_iload_n (i := 0) (by decide +kernel) rfl ?_
  refine s_if_lt (off := 9) (tgt := 10) (by decide +kernel) (by decide) (fun c1 => ?_) (fun c1 => ?_)
  · have h2 := h.1 c1
    exact s_throw (ik := 41) (is := 206) (ic := 45) (tx := "zones are 0 to 19") rfl atIAE (by decide) g_318 rfl rfl (by decide +kernel) (by decide +kernel) (by decide +kernel) (by decide +kernel) (by decide +kernel) (by decide) (by decide) (by decide) h2
  · have h3 := h.2 c1
    refine s_iload_n (i := 0) (by decide +kernel) rfl ?_
    refine s_bipush (n := 20) (by decide +kernel) (by decide +kernel) ?_
    refine s_icmp_lt (off := 13) (tgt := 20) (by decide +kernel) (by decide) (fun c4 => ?_) (fun c4 => ?_)
    · have h5 := h3.1 c4
      exact s_vret rfl (by decide +kernel) (by decide) (by decide) h5
    · have h6 := h3.2 c4
      exact s_throw (ik := 41) (is := 206) (ic := 45) (tx := "zones are 0 to 19") rfl atIAE (by decide) g_318 rfl rfl (by decide +kernel) (by decide +kernel) (by decide +kernel) (by decide +kernel) (by decide +kernel) (by decide) (by decide) (by decide) h6

set_option maxRecDepth 20000 in
theorem BZ_requireVehicle_0 {K : KX} {Q : Res → AG → AM → Prop} {M : AM} (p1 : Int)
    (h : (wr p1 < 0 → Q (.inr "java/lang/IndexOutOfBoundsException") GG M) ∧ (¬ wr p1 < 0 → (wr p1 < wr (M 0 4) → Q (.inl none) GG M) ∧ (¬ wr p1 < wr (M 0 4) → Q (.inr "java/lang/IndexOutOfBoundsException") GG M))) :
    WM K fZ_requireVehicle (EM K fZ_requireVehicle 126 Q) 0 [some (aR 0), some (aI p1)] [] GG M 0 0 := by
  refine s_iload_n (i := 1) (by decide +kernel) rfl ?_
  refine s_if_lt (off := 11) (tgt := 12) (by decide +kernel) (by decide) (fun c1 => ?_) (fun c1 => ?_)
  · have h2 := h.1 c1
    exact s_throw (ik := 208) (is := 210) (ic := 212) (tx := "there is no such vehicle") rfl atIOE (by decide) g_153 rfl rfl (by decide +kernel) (by decide +kernel) (by decide +kernel) (by decide +kernel) (by decide +kernel) (by decide) (by decide) (by decide) h2
  · have h3 := h.2 c1
    refine s_iload_n (i := 1) (by decide +kernel) rfl ?_
    refine s_aload_n (i := 0) (by decide +kernel) rfl ?_
    refine s_getI (ci := 4) (k := 4) (index := 78) ck4 rfl (by decide) rfl (by decide +kernel) g_130 ?_
    refine s_icmp_lt (off := 13) (tgt := 22) (by decide +kernel) (by decide) (fun c4 => ?_) (fun c4 => ?_)
    · have h5 := h3.1 c4
      exact s_vret rfl (by decide +kernel) (by decide) (by decide) h5
    · have h6 := h3.2 c4
      exact s_throw (ik := 208) (is := 210) (ic := 212) (tx := "there is no such vehicle") rfl atIOE (by decide) g_153 rfl rfl (by decide +kernel) (by decide +kernel) (by decide +kernel) (by decide +kernel) (by decide +kernel) (by decide) (by decide) (by decide) h6

set_option maxRecDepth 20000 in
theorem BZ_requireJob_0 {K : KX} {Q : Res → AG → AM → Prop} {M : AM} (p1 : Int)
    (h : (wr p1 < 0 → Q (.inr "java/lang/IndexOutOfBoundsException") GG M) ∧ (¬ wr p1 < 0 → (wr p1 < wr (M 0 5) → Q (.inl none) GG M) ∧ (¬ wr p1 < wr (M 0 5) → Q (.inr "java/lang/IndexOutOfBoundsException") GG M))) :
    WM K fZ_requireJob (EM K fZ_requireJob 126 Q) 0 [some (aR 0), some (aI p1)] [] GG M 0 0 := by
  refine s_iload_n (i := 1) (by decide +kernel) rfl ?_
  refine s_if_lt (off := 11) (tgt := 12) (by decide +kernel) (by decide) (fun c1 => ?_) (fun c1 => ?_)
  · have h2 := h.1 c1
    exact s_throw (ik := 208) (is := 213) (ic := 212) (tx := "there is no such job") rfl atIOE (by decide) g_153 rfl rfl (by decide +kernel) (by decide +kernel) (by decide +kernel) (by decide +kernel) (by decide +kernel) (by decide) (by decide) (by decide) h2
  · have h3 := h.2 c1
    refine s_iload_n (i := 1) (by decide +kernel) rfl ?_
    refine s_aload_n (i := 0) (by decide +kernel) rfl ?_
    refine s_getI (ci := 4) (k := 5) (index := 148) ck4 rfl (by decide) rfl (by decide +kernel) g_131 ?_
    refine s_icmp_lt (off := 13) (tgt := 22) (by decide +kernel) (by decide) (fun c4 => ?_) (fun c4 => ?_)
    · have h5 := h3.1 c4
      exact s_vret rfl (by decide +kernel) (by decide) (by decide) h5
    · have h6 := h3.2 c4
      exact s_throw (ik := 208) (is := 213) (ic := 212) (tx := "there is no such job") rfl atIOE (by decide) g_153 rfl rfl (by decide +kernel) (by decide +kernel) (by decide +kernel) (by decide +kernel) (by decide +kernel) (by decide) (by decide) (by decide) h6

set_option maxRecDepth 20000 in
theorem BZ_findIn_0 {K : KX} {Q : Res → AG → AM → Prop} {M : AM} (p1 : Int)
    (h : WM K fZ_findIn (EM K fZ_findIn 126 Q) 2 [some (aR 0), some (aI p1), some (aI 0)] [] GG M 0 0) :
    WM K fZ_findIn (EM K fZ_findIn 126 Q) 0 [some (aR 0), some (aI p1), none] [] GG M 0 0 := by
  refine s_iconst (n := 0) (by decide +kernel) ?_
  refine s_istore_n (i := 2) (by decide +kernel) (by decide) ?_
  exact h

set_option maxRecDepth 20000 in
theorem BZ_findIn_2 {K : KX} {Q : Res → AG → AM → Prop} {M : AM} (x1 x2 : Int)
    (h : (wr (M 0 4) ≤ wr x2 → Q (.inl (some (aI (-1)))) GG M) ∧ (¬ wr (M 0 4) ≤ wr x2 → ∃ j4 : Nat, wr x2 = (j4 : Int) ∧ j4 < 6 ∧ ((wr (M (30 + 2 * j4) 4) = wr x1 → Q (.inl (some (aI x2))) GG M) ∧ (¬ wr (M (30 + 2 * j4) 4) = wr x1 → WM K fZ_findIn (EM K fZ_findIn 126 Q) 2 [some (aR 0), some (aI x1), some (aI (x2 + 1))] [] GG M 0 0)))) :
    WM K fZ_findIn (EM K fZ_findIn 126 Q) 2 [some (aR 0), some (aI x1), some (aI x2)] [] GG M 0 0 := by
  refine s_iload_n (i := 2) (by decide +kernel) rfl ?_
  refine s_aload_n (i := 0) (by decide +kernel) rfl ?_
  refine s_getI (ci := 4) (k := 4) (index := 78) ck4 rfl (by decide) rfl (by decide +kernel) g_130 ?_
  refine s_icmp_ge (off := 24) (tgt := 31) (by decide +kernel) (by decide) (fun c1 => ?_) (fun c1 => ?_)
  · have h2 := h.1 c1
    refine s_iconst (n := -1) (by decide +kernel) ?_
    exact s_iret rfl (by decide +kernel) (by decide) (by decide) h2
  · have h3 := h.2 c1
    refine s_aload_n (i := 0) (by decide +kernel) rfl ?_
    refine s_getR (ci := 4) (k := 2) (index := 25) (r2 := 29) ck4 rfl rfl (by decide) rfl (by decide +kernel) g_128 ?_
    refine s_iload_n (i := 2) (by decide +kernel) rfl ?_
    obtain ⟨j4, e5, e6, h7⟩ := h3
    refine s_aaldV (r2 := (30 + 2 * j4)) (j := j4) rfl e5 e6 (rg_at e6) (by decide +kernel) ?_
    refine s_getI (ci := 3) (k := 4) (index := 94) ck3 (gg_veh _ e6) (by decide) rfl (by decide +kernel) g_84 ?_
    refine s_iload_n (i := 1) (by decide +kernel) rfl ?_
    refine s_icmp_ne (off := 5) (tgt := 25) (by decide +kernel) (by decide) (fun c8 => ?_) (fun c8 => ?_)
    · have h9 := h7.2 c8
      refine s_iinc (i := 2) (n := 1) (by decide +kernel) rfl (by decide) ?_
      refine s_goto (off := -26) (tgt := 2) (by decide +kernel) (by decide) ?_
      exact h9
    · have h10 := h7.1 c8
      refine s_iload_n (i := 2) (by decide +kernel) rfl ?_
      exact s_iret rfl (by decide +kernel) (by decide) (by decide) h10

set_option maxRecDepth 20000 in
theorem BZ_lookAtTraffic_0 {K : KX} {Q : Res → AG → AM → Prop} {M : AM} 
    (h : MetA K fT_clear [aR 24] GG M (cV GG (fun M1 => WM K fZ_lookAtTraffic (EM K fZ_lookAtTraffic 126 Q) 9 [some (aR 0), some (aI 0), none] [] GG M1 0 0) noX)) :
    WM K fZ_lookAtTraffic (EM K fZ_lookAtTraffic 126 Q) 0 [some (aR 0), none, none] [] GG M 0 0 := by
  refine s_aload_n (i := 0) (by decide +kernel) rfl ?_
  refine s_getR (ci := 4) (k := 1) (index := 19) (r2 := 24) ck4 rfl rfl (by decide) rfl (by decide +kernel) g_127 ?_
  refine s_callV (Fc := fT_clear) (index := 215) (ci := 2) (as := []) (rest := []) rfl h rfl rfl (by decide) rfl ⟨g_272, hT_clear, g_3, by decide, (show (parseMethodDescriptor fT_clear.1.desc).map (fun d => d.parameters.length) = some 0 from by decide +kernel), by decide, by decide, (by decide), (by decide)⟩ g_273 g_274 rfl rfl (Nat.le_of_ble_eq_true rfl) (by decide +kernel) (q_cV (fun M1 h3 => ?_) (fun _ _ q => q.elim))
  refine s_iconst (n := 0) (by decide +kernel) ?_
  refine s_istore_n (i := 1) (by decide +kernel) (by decide) ?_
  exact h3

set_option maxRecDepth 20000 in
theorem BZ_lookAtTraffic_9 {K : KX} {Q : Res → AG → AM → Prop} {M : AM} (x1 : Int)
    (h : (wr (M 0 4) ≤ wr x1 → Q (.inl none) GG M) ∧ (¬ wr (M 0 4) ≤ wr x1 → ∃ j4 : Nat, wr x1 = (j4 : Int) ∧ j4 < 6 ∧ (MetA K fV_lastZone [aR (30 + 2 * j4)] GG M (cI GG (fun b9 M8 => MetA K fT_put [aR 24, aI x1, aI (M (30 + 2 * j4) 4), aI (M (30 + 2 * j4) 3), aI b9] GG M8 (cV GG (fun M12 => WM K fZ_lookAtTraffic (EM K fZ_lookAtTraffic 126 Q) 9 [some (aR 0), some (aI (x1 + 1)), none] [] GG M12 0 0) noX)) noX)))) :
    WM K fZ_lookAtTraffic (EM K fZ_lookAtTraffic 126 Q) 9 [some (aR 0), some (aI x1), none] [] GG M 0 0 := by
  refine s_iload_n (i := 1) (by decide +kernel) rfl ?_
  refine s_aload_n (i := 0) (by decide +kernel) rfl ?_
  refine s_getI (ci := 4) (k := 4) (index := 78) ck4 rfl (by decide) rfl (by decide +kernel) g_130 ?_
  refine s_icmp_ge (off := 36) (tgt := 50) (by decide +kernel) (by decide) (fun c1 => ?_) (fun c1 => ?_)
  · have h2 := h.1 c1
    exact s_vret rfl (by decide +kernel) (by decide) (by decide) h2
  · have h3 := h.2 c1
    refine s_aload_n (i := 0) (by decide +kernel) rfl ?_
    refine s_getR (ci := 4) (k := 2) (index := 25) (r2 := 29) ck4 rfl rfl (by decide) rfl (by decide +kernel) g_128 ?_
    refine s_iload_n (i := 1) (by decide +kernel) rfl ?_
    obtain ⟨j4, e5, e6, h7⟩ := h3
    refine s_aaldV (r2 := (30 + 2 * j4)) (j := j4) rfl e5 e6 (rg_at e6) (by decide +kernel) ?_
    refine s_astore_n (i := 2) (by decide +kernel) (by decide) ?_
    refine s_aload_n (i := 0) (by decide +kernel) rfl ?_
    refine s_getR (ci := 4) (k := 1) (index := 19) (r2 := 24) ck4 rfl rfl (by decide) rfl (by decide +kernel) g_127 ?_
    refine s_iload_n (i := 1) (by decide +kernel) rfl ?_
    refine s_aload_n (i := 2) (by decide +kernel) rfl ?_
    refine s_getI (ci := 3) (k := 4) (index := 94) ck3 (gg_veh _ e6) (by decide) rfl (by decide +kernel) g_84 ?_
    refine s_aload_n (i := 2) (by decide +kernel) rfl ?_
    refine s_getI (ci := 3) (k := 3) (index := 218) ck3 (gg_veh _ e6) (by decide) rfl (by decide +kernel) g_82 ?_
    refine s_aload_n (i := 2) (by decide +kernel) rfl ?_
    refine s_callV (Fc := fV_lastZone) (index := 221) (ci := 3) (as := []) (rest := [aI (M (30 + 2 * j4) 3), aI (M (30 + 2 * j4) 4), aI x1, aR 24]) rfl h7 (gg_veh _ e6) rfl (by decide) rfl ⟨g_276, hV_lastZone, g_4, by decide, (show (parseMethodDescriptor fV_lastZone.1.desc).map (fun d => d.parameters.length) = some 0 from by decide +kernel), by decide, by decide, (by decide), (by decide)⟩ g_277 g_278 rfl rfl (Nat.le_of_ble_eq_true rfl) (by decide +kernel) (q_cI (fun b9 M8 h10 => ?_) (fun _ _ q => q.elim))
    refine s_callV (Fc := fT_put) (index := 224) (ci := 2) (as := [aI x1, aI (M (30 + 2 * j4) 4), aI (M (30 + 2 * j4) 3), aI b9]) (rest := []) rfl h10 rfl rfl (by decide) rfl ⟨g_280, hT_put, g_3, by decide, (show (parseMethodDescriptor fT_put.1.desc).map (fun d => d.parameters.length) = some 4 from by decide +kernel), by decide, by decide, (by decide), (by decide)⟩ g_281 g_282 rfl rfl (Nat.le_of_ble_eq_true rfl) (by decide +kernel) (q_cV (fun M12 h14 => ?_) (fun _ _ q => q.elim))
    refine s_iinc (i := 1) (n := 1) (by decide +kernel) rfl (by decide) ?_
    refine s_goto (off := -38) (tgt := 9) (by decide +kernel) (by decide) ?_
    exact s_loc (L' := [some (aR 0), some (aI (x1 + 1)), none]) (ll_s (ll_s (ll_n ll_nil))) h14

set_option maxRecDepth 20000 in
theorem BZ_isSafeWith_0 {K : KX} {Q : Res → AG → AM → Prop} {M : AM} (p1 p2 p3 p4 : Int)
    (h : MetA K fZ_lookAtTraffic [aR 0] GG M (cV GG (fun M1 => MetA K fT_put [aR 24, aI p1, aI p2, aI p3, aI p4] GG M1 (cV GG (fun M5 => MetA K fT_countOrders [aR 24] GG M5 (cI GG (fun b10 M9 => (wr b10 ≤ 0 → Q (.inl (some (aI 0))) GG M9) ∧ (¬ wr b10 ≤ 0 → Q (.inl (some (aI 1))) GG M9)) noX)) noX)) noX)) :
    WM K fZ_isSafeWith (EM K fZ_isSafeWith 126 Q) 0 [some (aR 0), some (aI p1), some (aI p2), some (aI p3), some (aI p4)] [] GG M 0 0 := by
  refine s_aload_n (i := 0) (by decide +kernel) rfl ?_
  refine s_callV (Fc := fZ_lookAtTraffic) (index := 187) (ci := 4) (as := []) (rest := []) rfl h rfl rfl (by decide) rfl ⟨g_268, hZ_lookAtTraffic, g_1, by decide, (show (parseMethodDescriptor fZ_lookAtTraffic.1.desc).map (fun d => d.parameters.length) = some 0 from by decide +kernel), by decide, by decide, (by decide), (by decide)⟩ g_270 gp_5 rfl rfl (Nat.le_of_ble_eq_true rfl) (by decide +kernel) (q_cV (fun M1 h3 => ?_) (fun _ _ q => q.elim))
  refine s_aload_n (i := 0) (by decide +kernel) rfl ?_
  refine s_getR (ci := 4) (k := 1) (index := 19) (r2 := 24) ck4 rfl rfl (by decide) rfl (by decide +kernel) g_127 ?_
  refine s_iload_n (i := 1) (by decide +kernel) rfl ?_
  refine s_iload_n (i := 2) (by decide +kernel) rfl ?_
  refine s_iload_n (i := 3) (by decide +kernel) rfl ?_
  refine s_iload (i := 4) (by decide +kernel) rfl ?_
  refine s_callV (Fc := fT_put) (index := 224) (ci := 2) (as := [aI p1, aI p2, aI p3, aI p4]) (rest := []) rfl h3 rfl rfl (by decide) rfl ⟨g_280, hT_put, g_3, by decide, (show (parseMethodDescriptor fT_put.1.desc).map (fun d => d.parameters.length) = some 4 from by decide +kernel), by decide, by decide, (by decide), (by decide)⟩ g_281 g_282 rfl rfl (Nat.le_of_ble_eq_true rfl) (by decide +kernel) (q_cV (fun M5 h7 => ?_) (fun _ _ q => q.elim))
  refine s_aload_n (i := 0) (by decide +kernel) rfl ?_
  refine s_getR (ci := 4) (k := 1) (index := 19) (r2 := 24) ck4 rfl rfl (by decide) rfl (by decide +kernel) g_127 ?_
  refine s_callV (Fc := fT_countOrders) (index := 190) (ci := 2) (as := []) (rest := []) rfl h7 rfl rfl (by decide) rfl ⟨g_284, hT_countOrders, g_3, by decide, (show (parseMethodDescriptor fT_countOrders.1.desc).map (fun d => d.parameters.length) = some 0 from by decide +kernel), by decide, by decide, (by decide), (by decide)⟩ g_285 g_286 rfl rfl (Nat.le_of_ble_eq_true rfl) (by decide +kernel) (q_cI (fun b10 M9 h11 => ?_) (fun _ _ q => q.elim))
  refine s_if_le (off := 7) (tgt := 30) (by decide +kernel) (by decide) (fun c13 => ?_) (fun c13 => ?_)
  · have h14 := h11.1 c13
    refine s_iconst (n := 0) (by decide +kernel) ?_
    exact s_zret (Or.inl rfl) rfl (by decide +kernel) (by decide) (by decide) h14
  · have h15 := h11.2 c13
    refine s_iconst (n := 1) (by decide +kernel) ?_
    refine s_goto (off := 4) (tgt := 31) (by decide +kernel) (by decide) ?_
    exact s_zret (Or.inr rfl) rfl (by decide +kernel) (by decide) (by decide) h15

set_option maxRecDepth 20000 in
theorem BZ_isSafeWithIdle_0 {K : KX} {Q : Res → AG → AM → Prop} {M : AM} (p1 p2 : Int)
    (h : MetA K fZ_isSafeWith [aR 0, aI p1, aI p2, aI 0, aI p2] GG M (cI GG (fun b2 M1 => ((b2 : Int) = 0 ∨ (b2 : Int) = 1) ∧ Q (.inl (some (aI b2))) GG M1) noX)) :
    WM K fZ_isSafeWithIdle (EM K fZ_isSafeWithIdle 126 Q) 0 [some (aR 0), some (aI p1), some (aI p2)] [] GG M 0 0 := by
  refine s_aload_n (i := 0) (by decide +kernel) rfl ?_
  refine s_iload_n (i := 1) (by decide +kernel) rfl ?_
  refine s_iload_n (i := 2) (by decide +kernel) rfl ?_
  refine s_iconst (n := 0) (by decide +kernel) ?_
  refine s_iload_n (i := 2) (by decide +kernel) rfl ?_
  refine s_callV (Fc := fZ_isSafeWith) (index := 228) (ci := 4) (as := [aI p1, aI p2, aI 0, aI p2]) (rest := []) rfl h rfl rfl (by decide) rfl ⟨g_264, hZ_isSafeWith, g_1, by decide, (show (parseMethodDescriptor fZ_isSafeWith.1.desc).map (fun d => d.parameters.length) = some 4 from by decide +kernel), by decide, by decide, (by decide), (by decide)⟩ g_266 gp_4 rfl rfl (Nat.le_of_ble_eq_true rfl) (by decide +kernel) (q_cI (fun b2 M1 h3 => ?_) (fun _ _ q => q.elim))
  exact s_zret h3.1 rfl (by decide +kernel) (by decide) (by decide) h3.2

set_option maxRecDepth 20000 in
theorem BZ_lengthFor_0 {K : KX} {Q : Res → AG → AM → Prop} {M : AM} (p1 p2 : Int)
    (h : ∃ j1 : Nat, wr p1 = (j1 : Int) ∧ j1 < 6 ∧ (MetA K fV_isIdle [aR (30 + 2 * j1)] GG M (cI GG (fun b6 M5 => (wr b6 = 0 → Q (.inl (some (aI (-1)))) GG M5) ∧ (¬ wr b6 = 0 → (wr (M (30 + 2 * j1) 4) = wr p2 → Q (.inl (some (aI (-1)))) GG M5) ∧ (¬ wr (M (30 + 2 * j1) 4) = wr p2 → MetA K fP_hasWay [aR 1, aI (M (30 + 2 * j1) 4), aI p2] GG M5 (cI GG (fun b16 M15 => (wr b16 = 0 → Q (.inl (some (aI (-1)))) GG M15) ∧ (¬ wr b16 = 0 → MetA K fP_energyForWay [aR 1, aI (M (30 + 2 * j1) 4), aI p2] GG M15 (cI GG (fun b22 M21 => (wr b22 ≤ wr (M15 (30 + 2 * j1) 5) → MetA K fP_wayBits [aR 1, aI (M (30 + 2 * j1) 4), aI p2] GG M21 (cI GG (fun b28 M27 => MetA K fZ_isSafeWith [aR 0, aI p1, aI (M (30 + 2 * j1) 4), aI b28, aI p2] GG M27 (cI GG (fun b32 M31 => (wr b32 = 0 → Q (.inl (some (aI (-1)))) GG M31) ∧ (¬ wr b32 = 0 → ∃ j38 : Nat, wr (M (30 + 2 * j1) 4) = (j38 : Int) ∧ j38 < 20 ∧ (∃ j42 : Nat, wr p2 = (j42 : Int) ∧ j42 < 20 ∧ (Q (.inl (some (aI (M31 (3 + j38) j42)))) GG M31)))) noX)) noX)) ∧ (¬ wr b22 ≤ wr (M15 (30 + 2 * j1) 5) → Q (.inl (some (aI (-1)))) GG M21)) noX))) noX)))) noX))) :
    WM K fZ_lengthFor (EM K fZ_lengthFor 126 Q) 0 [some (aR 0), some (aI p1), some (aI p2), none, none, none] [] GG M 0 0 := by
  refine s_aload_n (i := 0) (by decide +kernel) rfl ?_
  refine s_getR (ci := 4) (k := 2) (index := 25) (r2 := 29) ck4 rfl rfl (by decide) rfl (by decide +kernel) g_128 ?_
  refine s_iload_n (i := 1) (by decide +kernel) rfl ?_
  obtain ⟨j1, e2, e3, h4⟩ := h
  refine s_aaldV (r2 := (30 + 2 * j1)) (j := j1) rfl e2 e3 (rg_at e3) (by decide +kernel) ?_
  refine s_astore_n (i := 3) (by decide +kernel) (by decide) ?_
  refine s_aload_n (i := 3) (by decide +kernel) rfl ?_
  refine s_getI (ci := 3) (k := 4) (index := 94) ck3 (gg_veh _ e3) (by decide) rfl (by decide +kernel) g_84 ?_
  refine s_istore (i := 4) (by decide +kernel) (by decide) ?_
  refine s_aload_n (i := 3) (by decide +kernel) rfl ?_
  refine s_callV (Fc := fV_isIdle) (index := 113) (ci := 3) (as := []) (rest := []) rfl h4 (gg_veh _ e3) rfl (by decide) rfl ⟨g_237, hV_isIdle, g_4, by decide, (show (parseMethodDescriptor fV_isIdle.1.desc).map (fun d => d.parameters.length) = some 0 from by decide +kernel), by decide, by decide, (by decide), (by decide)⟩ g_238 g_239 rfl rfl (Nat.le_of_ble_eq_true rfl) (by decide +kernel) (q_cI (fun b6 M5 h7 => ?_) (fun _ _ q => q.elim))
  refine s_if_eq (off := 22) (tgt := 39) (by decide +kernel) (by decide) (fun c9 => ?_) (fun c9 => ?_)
  · have h10 := h7.1 c9
    refine s_iconst (n := -1) (by decide +kernel) ?_
    exact s_iret rfl (by decide +kernel) (by decide) (by decide) h10
  · have h11 := h7.2 c9
    refine s_iload (i := 4) (by decide +kernel) rfl ?_
    refine s_iload_n (i := 2) (by decide +kernel) rfl ?_
    refine s_icmp_eq (off := 16) (tgt := 39) (by decide +kernel) (by decide) (fun c12 => ?_) (fun c12 => ?_)
    · have h13 := h11.1 c12
      refine s_iconst (n := -1) (by decide +kernel) ?_
      exact s_iret rfl (by decide +kernel) (by decide) (by decide) h13
    · have h14 := h11.2 c12
      refine s_aload_n (i := 0) (by decide +kernel) rfl ?_
      refine s_getR (ci := 4) (k := 0) (index := 10) (r2 := 1) ck4 rfl rfl (by decide) rfl (by decide +kernel) g_126 ?_
      refine s_iload (i := 4) (by decide +kernel) rfl ?_
      refine s_iload_n (i := 2) (by decide +kernel) rfl ?_
      refine s_callV (Fc := fP_hasWay) (index := 69) (ci := 1) (as := [aI (M (30 + 2 * j1) 4), aI p2]) (rest := []) rfl h14 rfl rfl (by decide) rfl ⟨g_241, hP_hasWay, g_2, by decide, (show (parseMethodDescriptor fP_hasWay.1.desc).map (fun d => d.parameters.length) = some 2 from by decide +kernel), by decide, by decide, (by decide), (by decide)⟩ g_242 g_243 rfl rfl (Nat.le_of_ble_eq_true rfl) (by decide +kernel) (q_cI (fun b16 M15 h17 => ?_) (fun _ _ q => q.elim))
      refine s_if_ne (off := 5) (tgt := 41) (by decide +kernel) (by decide) (fun c19 => ?_) (fun c19 => ?_)
      · have h20 := h17.2 c19
        refine s_aload_n (i := 3) (by decide +kernel) rfl ?_
        refine s_getI (ci := 3) (k := 5) (index := 97) ck3 (gg_veh _ e3) (by decide) rfl (by decide +kernel) g_85 ?_
        refine s_aload_n (i := 0) (by decide +kernel) rfl ?_
        refine s_getR (ci := 4) (k := 0) (index := 10) (r2 := 1) ck4 rfl rfl (by decide) rfl (by decide +kernel) g_126 ?_
        refine s_iload (i := 4) (by decide +kernel) rfl ?_
        refine s_iload_n (i := 2) (by decide +kernel) rfl ?_
        refine s_callV (Fc := fP_energyForWay) (index := 232) (ci := 1) (as := [aI (M (30 + 2 * j1) 4), aI p2]) (rest := [aI (M15 (30 + 2 * j1) 5)]) rfl h20 rfl rfl (by decide) rfl ⟨g_245, hP_energyForWay, g_2, by decide, (show (parseMethodDescriptor fP_energyForWay.1.desc).map (fun d => d.parameters.length) = some 2 from by decide +kernel), by decide, by decide, (by decide), (by decide)⟩ g_246 g_247 rfl rfl (Nat.le_of_ble_eq_true rfl) (by decide +kernel) (q_cI (fun b22 M21 h23 => ?_) (fun _ _ q => q.elim))
        refine s_icmp_ge (off := 5) (tgt := 60) (by decide +kernel) (by decide) (fun c25 => ?_) (fun c25 => ?_)
        · have h26 := h23.1 c25
          refine s_aload_n (i := 0) (by decide +kernel) rfl ?_
          refine s_iload_n (i := 1) (by decide +kernel) rfl ?_
          refine s_iload (i := 4) (by decide +kernel) rfl ?_
          refine s_aload_n (i := 0) (by decide +kernel) rfl ?_
          refine s_getR (ci := 4) (k := 0) (index := 10) (r2 := 1) ck4 rfl rfl (by decide) rfl (by decide +kernel) g_126 ?_
          refine s_iload (i := 4) (by decide +kernel) rfl ?_
          refine s_iload_n (i := 2) (by decide +kernel) rfl ?_
          refine s_callV (Fc := fP_wayBits) (index := 235) (ci := 1) (as := [aI (M (30 + 2 * j1) 4), aI p2]) (rest := [aI (M (30 + 2 * j1) 4), aI p1, aR 0]) rfl h26 rfl rfl (by decide) rfl ⟨g_252, hP_wayBits, g_2, by decide, (show (parseMethodDescriptor fP_wayBits.1.desc).map (fun d => d.parameters.length) = some 2 from by decide +kernel), by decide, by decide, (by decide), (by decide)⟩ g_253 g_254 rfl rfl (Nat.le_of_ble_eq_true rfl) (by decide +kernel) (q_cI (fun b28 M27 h29 => ?_) (fun _ _ q => q.elim))
          refine s_iload_n (i := 2) (by decide +kernel) rfl ?_
          refine s_callV (Fc := fZ_isSafeWith) (index := 228) (ci := 4) (as := [aI p1, aI (M (30 + 2 * j1) 4), aI b28, aI p2]) (rest := []) rfl h29 rfl rfl (by decide) rfl ⟨g_264, hZ_isSafeWith, g_1, by decide, (show (parseMethodDescriptor fZ_isSafeWith.1.desc).map (fun d => d.parameters.length) = some 4 from by decide +kernel), by decide, by decide, (by decide), (by decide)⟩ g_266 gp_4 rfl rfl (Nat.le_of_ble_eq_true rfl) (by decide +kernel) (q_cI (fun b32 M31 h33 => ?_) (fun _ _ q => q.elim))
          refine s_istore (i := 5) (by decide +kernel) (by decide) ?_
          refine s_iload (i := 5) (by decide +kernel) rfl ?_
          refine s_if_eq (off := 18) (tgt := 100) (by decide +kernel) (by decide) (fun c35 => ?_) (fun c35 => ?_)
          · have h36 := h33.1 c35
            refine s_iconst (n := -1) (by decide +kernel) ?_
            exact s_iret rfl (by decide +kernel) (by decide) (by decide) h36
          · have h37 := h33.2 c35
            refine s_aload_n (i := 0) (by decide +kernel) rfl ?_
            refine s_getR (ci := 4) (k := 0) (index := 10) (r2 := 1) ck4 rfl rfl (by decide) rfl (by decide +kernel) g_126 ?_
            refine s_getR (ci := 1) (k := 0) (index := 72) (r2 := 2) ck1 rfl rfl (by decide) rfl (by decide +kernel) g_31 ?_
            refine s_iload (i := 4) (by decide +kernel) rfl ?_
            obtain ⟨j38, e39, e40, h41⟩ := h37
            refine s_aaldI (r2 := (3 + j38)) (j := j38) rfl e39 e40 (rg_at e40) (by decide +kernel) ?_
            refine s_iload_n (i := 2) (by decide +kernel) rfl ?_
            obtain ⟨j42, e43, e44, h45⟩ := h41
            refine s_iald (j := j42) (gg_row _ e40) e43 e44 (by decide +kernel) ?_
            refine s_goto (off := 4) (tgt := 101) (by decide +kernel) (by decide) ?_
            exact s_iret rfl (by decide +kernel) (by decide) (by decide) h45
        · have h46 := h23.2 c25
          refine s_iconst (n := -1) (by decide +kernel) ?_
          exact s_iret rfl (by decide +kernel) (by decide) (by decide) h46
      · have h47 := h17.1 c19
        refine s_iconst (n := -1) (by decide +kernel) ?_
        exact s_iret rfl (by decide +kernel) (by decide) (by decide) h47

set_option maxRecDepth 20000 in
theorem BZ_mayMove_0 {K : KX} {Q : Res → AG → AM → Prop} {M : AM} (p1 : Int)
    (h : ∃ j1 : Nat, wr p1 = (j1 : Int) ∧ j1 < 6 ∧ (MetA K fV_isIdle [aR (30 + 2 * j1)] GG M (cI GG (fun b6 M5 => (wr b6 = 0 → MetA K fV_nextZone [aR (30 + 2 * j1)] GG M5 (cI GG (fun b12 M11 => MetA K fZ_findIn [aR 0, aI b12] GG M11 (cI GG (fun b16 M15 => (wr b16 = wr ((-1)) → MetA K fV_lastZone [aR (30 + 2 * j1)] GG M15 (cI GG (fun b22 M21 => MetA K fZ_isSafeWith [aR 0, aI p1, aI b12, aI (wia (M15 (30 + 2 * j1) 3) (wix (wsl 1 b12) ((-1)))), aI b22] GG M21 (cI GG (fun b26 M25 => ((b26 : Int) = 0 ∨ (b26 : Int) = 1) ∧ Q (.inl (some (aI b26))) GG M25) noX)) noX)) ∧ (¬ wr b16 = wr ((-1)) → Q (.inl (some (aI 0))) GG M15)) noX)) noX)) ∧ (¬ wr b6 = 0 → Q (.inl (some (aI 0))) GG M5)) noX))) :
    WM K fZ_mayMove (EM K fZ_mayMove 126 Q) 0 [some (aR 0), some (aI p1), none, none] [] GG M 0 0 := by
  refine s_aload_n (i := 0) (by decide +kernel) rfl ?_
  refine s_getR (ci := 4) (k := 2) (index := 25) (r2 := 29) ck4 rfl rfl (by decide) rfl (by decide +kernel) g_128 ?_
  refine s_iload_n (i := 1) (by decide +kernel) rfl ?_
  obtain ⟨j1, e2, e3, h4⟩ := h
  refine s_aaldV (r2 := (30 + 2 * j1)) (j := j1) rfl e2 e3 (rg_at e3) (by decide +kernel) ?_
  refine s_astore_n (i := 2) (by decide +kernel) (by decide) ?_
  refine s_aload_n (i := 2) (by decide +kernel) rfl ?_
  refine s_callV (Fc := fV_isIdle) (index := 113) (ci := 3) (as := []) (rest := []) rfl h4 (gg_veh _ e3) rfl (by decide) rfl ⟨g_237, hV_isIdle, g_4, by decide, (show (parseMethodDescriptor fV_isIdle.1.desc).map (fun d => d.parameters.length) = some 0 from by decide +kernel), by decide, by decide, (by decide), (by decide)⟩ g_238 g_239 rfl rfl (Nat.le_of_ble_eq_true rfl) (by decide +kernel) (q_cI (fun b6 M5 h7 => ?_) (fun _ _ q => q.elim))
  refine s_if_eq (off := 5) (tgt := 16) (by decide +kernel) (by decide) (fun c9 => ?_) (fun c9 => ?_)
  · have h10 := h7.1 c9
    refine s_aload_n (i := 2) (by decide +kernel) rfl ?_
    refine s_callV (Fc := fV_nextZone) (index := 238) (ci := 3) (as := []) (rest := []) rfl h10 (gg_veh _ e3) rfl (by decide) rfl ⟨g_443, hV_nextZone, g_4, by decide, (show (parseMethodDescriptor fV_nextZone.1.desc).map (fun d => d.parameters.length) = some 0 from by decide +kernel), by decide, by decide, (by decide), (by decide)⟩ g_444 g_445 rfl rfl (Nat.le_of_ble_eq_true rfl) (by decide +kernel) (q_cI (fun b12 M11 h13 => ?_) (fun _ _ q => q.elim))
    refine s_istore_n (i := 3) (by decide +kernel) (by decide) ?_
    refine s_aload_n (i := 0) (by decide +kernel) rfl ?_
    refine s_iload_n (i := 3) (by decide +kernel) rfl ?_
    refine s_callV (Fc := fZ_findIn) (index := 83) (ci := 4) (as := [aI b12]) (rest := []) rfl h13 rfl rfl (by decide) rfl ⟨g_373, hZ_findIn, g_1, by decide, (show (parseMethodDescriptor fZ_findIn.1.desc).map (fun d => d.parameters.length) = some 1 from by decide +kernel), by decide, by decide, (by decide), (by decide)⟩ g_375 gp_8 rfl rfl (Nat.le_of_ble_eq_true rfl) (by decide +kernel) (q_cI (fun b16 M15 h17 => ?_) (fun _ _ q => q.elim))
    refine s_iconst (n := -1) (by decide +kernel) ?_
    refine s_icmp_eq (off := 5) (tgt := 32) (by decide +kernel) (by decide) (fun c19 => ?_) (fun c19 => ?_)
    · have h20 := h17.1 c19
      refine s_aload_n (i := 0) (by decide +kernel) rfl ?_
      refine s_iload_n (i := 1) (by decide +kernel) rfl ?_
      refine s_iload_n (i := 3) (by decide +kernel) rfl ?_
      refine s_aload_n (i := 2) (by decide +kernel) rfl ?_
      refine s_getI (ci := 3) (k := 3) (index := 218) ck3 (gg_veh _ e3) (by decide) rfl (by decide +kernel) g_82 ?_
      refine s_iconst (n := 1) (by decide +kernel) ?_
      refine s_iload_n (i := 3) (by decide +kernel) rfl ?_
      refine s_ishl (by decide +kernel) ?_
      refine s_iconst (n := -1) (by decide +kernel) ?_
      refine s_ixor (by decide +kernel) ?_
      refine s_iand (by decide +kernel) ?_
      refine s_aload_n (i := 2) (by decide +kernel) rfl ?_
      refine s_callV (Fc := fV_lastZone) (index := 221) (ci := 3) (as := []) (rest := [aI (wia (M15 (30 + 2 * j1) 3) (wix (wsl 1 b12) ((-1)))), aI b12, aI p1, aR 0]) rfl h20 (gg_veh _ e3) rfl (by decide) rfl ⟨g_276, hV_lastZone, g_4, by decide, (show (parseMethodDescriptor fV_lastZone.1.desc).map (fun d => d.parameters.length) = some 0 from by decide +kernel), by decide, by decide, (by decide), (by decide)⟩ g_277 g_278 rfl rfl (Nat.le_of_ble_eq_true rfl) (by decide +kernel) (q_cI (fun b22 M21 h23 => ?_) (fun _ _ q => q.elim))
      refine s_callV (Fc := fZ_isSafeWith) (index := 228) (ci := 4) (as := [aI p1, aI b12, aI (wia (M15 (30 + 2 * j1) 3) (wix (wsl 1 b12) ((-1)))), aI b22]) (rest := []) rfl h23 rfl rfl (by decide) rfl ⟨g_264, hZ_isSafeWith, g_1, by decide, (show (parseMethodDescriptor fZ_isSafeWith.1.desc).map (fun d => d.parameters.length) = some 4 from by decide +kernel), by decide, by decide, (by decide), (by decide)⟩ g_266 gp_4 rfl rfl (Nat.le_of_ble_eq_true rfl) (by decide +kernel) (q_cI (fun b26 M25 h27 => ?_) (fun _ _ q => q.elim))
      exact s_zret h27.1 rfl (by decide +kernel) (by decide) (by decide) h27.2
    · have h29 := h17.2 c19
      refine s_iconst (n := 0) (by decide +kernel) ?_
      exact s_zret (Or.inl rfl) rfl (by decide +kernel) (by decide) (by decide) h29
  · have h30 := h7.2 c9
    refine s_iconst (n := 0) (by decide +kernel) ?_
    exact s_zret (Or.inl rfl) rfl (by decide +kernel) (by decide) (by decide) h30

set_option maxRecDepth 20000 in
theorem BZ_move_0 {K : KX} {Q : Res → AG → AM → Prop} {M : AM} (p1 : Int)
    (h : ∃ j1 : Nat, wr p1 = (j1 : Int) ∧ j1 < 6 ∧ (MetA K fV_advance [aR (30 + 2 * j1)] GG M (cV GG (fun M5 => ∃ j9 : Nat, wr p1 = (j9 : Int) ∧ j9 < 6 ∧ (MetA K fV_isIdle [aR (30 + 2 * j9)] GG M5 (cI GG (fun b14 M13 => (wr b14 = 0 → Q (.inl none) GG M13) ∧ (¬ wr b14 = 0 → MetA K fZ_endJobOf [aR 0, aI p1, aI 2, aI p1] GG M13 (cV GG (fun M20 => Q (.inl none) GG M20) noX))) noX))) noX))) :
    WM K fZ_move (EM K fZ_move 126 Q) 0 [some (aR 0), some (aI p1)] [] GG M 0 0 := by
  refine s_aload_n (i := 0) (by decide +kernel) rfl ?_
  refine s_getR (ci := 4) (k := 2) (index := 25) (r2 := 29) ck4 rfl rfl (by decide) rfl (by decide +kernel) g_128 ?_
  refine s_iload_n (i := 1) (by decide +kernel) rfl ?_
  obtain ⟨j1, e2, e3, h4⟩ := h
  refine s_aaldV (r2 := (30 + 2 * j1)) (j := j1) rfl e2 e3 (rg_at e3) (by decide +kernel) ?_
  refine s_callV (Fc := fV_advance) (index := 241) (ci := 3) (as := []) (rest := []) rfl h4 (gg_veh _ e3) rfl (by decide) rfl ⟨g_452, hV_advance, g_4, by decide, (show (parseMethodDescriptor fV_advance.1.desc).map (fun d => d.parameters.length) = some 0 from by decide +kernel), by decide, by decide, (by decide), (by decide)⟩ g_453 g_454 rfl rfl (Nat.le_of_ble_eq_true rfl) (by decide +kernel) (q_cV (fun M5 h7 => ?_) (fun _ _ q => q.elim))
  refine s_aload_n (i := 0) (by decide +kernel) rfl ?_
  refine s_getR (ci := 4) (k := 2) (index := 25) (r2 := 29) ck4 rfl rfl (by decide) rfl (by decide +kernel) g_128 ?_
  refine s_iload_n (i := 1) (by decide +kernel) rfl ?_
  obtain ⟨j9, e10, e11, h12⟩ := h7
  refine s_aaldV (r2 := (30 + 2 * j9)) (j := j9) rfl e10 e11 (rg_at e11) (by decide +kernel) ?_
  refine s_callV (Fc := fV_isIdle) (index := 113) (ci := 3) (as := []) (rest := []) rfl h12 (gg_veh _ e11) rfl (by decide) rfl ⟨g_237, hV_isIdle, g_4, by decide, (show (parseMethodDescriptor fV_isIdle.1.desc).map (fun d => d.parameters.length) = some 0 from by decide +kernel), by decide, by decide, (by decide), (by decide)⟩ g_238 g_239 rfl rfl (Nat.le_of_ble_eq_true rfl) (by decide +kernel) (q_cI (fun b14 M13 h15 => ?_) (fun _ _ q => q.elim))
  refine s_if_eq (off := 10) (tgt := 28) (by decide +kernel) (by decide) (fun c17 => ?_) (fun c17 => ?_)
  · have h18 := h15.1 c17
    exact s_vret rfl (by decide +kernel) (by decide) (by decide) h18
  · have h19 := h15.2 c17
    refine s_aload_n (i := 0) (by decide +kernel) rfl ?_
    refine s_iload_n (i := 1) (by decide +kernel) rfl ?_
    refine s_iconst (n := 2) (by decide +kernel) ?_
    refine s_iload_n (i := 1) (by decide +kernel) rfl ?_
    refine s_callV (Fc := fZ_endJobOf) (index := 126) (ci := 4) (as := [aI p1, aI 2, aI p1]) (rest := []) rfl h19 rfl rfl (by decide) rfl ⟨g_419, hZ_endJobOf, g_1, by decide, (show (parseMethodDescriptor fZ_endJobOf.1.desc).map (fun d => d.parameters.length) = some 3 from by decide +kernel), by decide, by decide, (by decide), (by decide)⟩ g_421 gp_11 rfl rfl (Nat.le_of_ble_eq_true rfl) (by decide +kernel) (q_cV (fun M20 h22 => ?_) (fun _ _ q => q.elim))
    exact s_vret rfl (by decide +kernel) (by decide) (by decide) h22

set_option maxRecDepth 20000 in
theorem BZ_passOneTick_0 {K : KX} {Q : Res → AG → AM → Prop} {M : AM} 
    (h : WM K fZ_passOneTick (EM K fZ_passOneTick 126 Q) 4 [some (aR 0), some (aI 0), some (aI 0)] [] GG M 0 0) :
    WM K fZ_passOneTick (EM K fZ_passOneTick 126 Q) 0 [some (aR 0), none, none] [] GG M 0 0 := by
  refine s_iconst (n := 0) (by decide +kernel) ?_
  refine s_istore_n (i := 1) (by decide +kernel) (by decide) ?_
  refine s_iconst (n := 0) (by decide +kernel) ?_
  refine s_istore_n (i := 2) (by decide +kernel) (by decide) ?_
  exact h

set_option maxRecDepth 20000 in
theorem BZ_passOneTick_4 {K : KX} {Q : Res → AG → AM → Prop} {M : AM} (x1 x2 : Int)
    (h : (wr (M 0 4) ≤ wr x2 → Q (.inl (some (aI x1))) GG M) ∧ (¬ wr (M 0 4) ≤ wr x2 → MetA K fZ_mayMove [aR 0, aI x2] GG M (cI GG (fun b5 M4 => (wr b5 = 0 → ∃ j10 : Nat, wr x2 = (j10 : Int) ∧ j10 < 6 ∧ (MetA K fV_isIdle [aR (30 + 2 * j10)] GG M4 (cI GG (fun b15 M14 => (wr b15 = 0 → ∃ j21 : Nat, wr x2 = (j21 : Int) ∧ j21 < 6 ∧ (WM K fZ_passOneTick (EM K fZ_passOneTick 126 Q) 4 [some (aR 0), some (aI x1), some (aI (x2 + 1))] [] GG (um M14 (30 + 2 * j21) 6 ((M14 (30 + 2 * j21) 6) + 1)) 0 0)) ∧ (¬ wr b15 = 0 → WM K fZ_passOneTick (EM K fZ_passOneTick 126 Q) 4 [some (aR 0), some (aI x1), some (aI (x2 + 1))] [] GG M14 0 0)) noX))) ∧ (¬ wr b5 = 0 → MetA K fZ_move [aR 0, aI x2] GG M4 (cV GG (fun M26 => WM K fZ_passOneTick (EM K fZ_passOneTick 126 Q) 4 [some (aR 0), some (aI (x1 + 1)), some (aI (x2 + 1))] [] GG M26 0 0) noX))) noX))) :
    WM K fZ_passOneTick (EM K fZ_passOneTick 126 Q) 4 [some (aR 0), some (aI x1), some (aI x2)] [] GG M 0 0 := by
  refine s_iload_n (i := 2) (by decide +kernel) rfl ?_
  refine s_aload_n (i := 0) (by decide +kernel) rfl ?_
  refine s_getI (ci := 4) (k := 4) (index := 78) ck4 rfl (by decide) rfl (by decide +kernel) g_130 ?_
  refine s_icmp_ge (off := 55) (tgt := 64) (by decide +kernel) (by decide) (fun c1 => ?_) (fun c1 => ?_)
  · have h2 := h.1 c1
    refine s_iload_n (i := 1) (by decide +kernel) rfl ?_
    exact s_iret rfl (by decide +kernel) (by decide) (by decide) h2
  · have h3 := h.2 c1
    refine s_aload_n (i := 0) (by decide +kernel) rfl ?_
    refine s_iload_n (i := 2) (by decide +kernel) rfl ?_
    refine s_callV (Fc := fZ_mayMove) (index := 134) (ci := 4) (as := [aI x2]) (rest := []) rfl h3 rfl rfl (by decide) rfl ⟨g_439, hZ_mayMove, g_1, by decide, (show (parseMethodDescriptor fZ_mayMove.1.desc).map (fun d => d.parameters.length) = some 1 from by decide +kernel), by decide, by decide, (by decide), (by decide)⟩ g_441 gp_12 rfl rfl (Nat.le_of_ble_eq_true rfl) (by decide +kernel) (q_cI (fun b5 M4 h6 => ?_) (fun _ _ q => q.elim))
    refine s_if_eq (off := 14) (tgt := 31) (by decide +kernel) (by decide) (fun c8 => ?_) (fun c8 => ?_)
    · have h9 := h6.1 c8
      refine s_aload_n (i := 0) (by decide +kernel) rfl ?_
      refine s_getR (ci := 4) (k := 2) (index := 25) (r2 := 29) ck4 rfl rfl (by decide) rfl (by decide +kernel) g_128 ?_
      refine s_iload_n (i := 2) (by decide +kernel) rfl ?_
      obtain ⟨j10, e11, e12, h13⟩ := h9
      refine s_aaldV (r2 := (30 + 2 * j10)) (j := j10) rfl e11 e12 (rg_at e12) (by decide +kernel) ?_
      refine s_callV (Fc := fV_isIdle) (index := 113) (ci := 3) (as := []) (rest := []) rfl h13 (gg_veh _ e12) rfl (by decide) rfl ⟨g_237, hV_isIdle, g_4, by decide, (show (parseMethodDescriptor fV_isIdle.1.desc).map (fun d => d.parameters.length) = some 0 from by decide +kernel), by decide, by decide, (by decide), (by decide)⟩ g_238 g_239 rfl rfl (Nat.le_of_ble_eq_true rfl) (by decide +kernel) (q_cI (fun b15 M14 h16 => ?_) (fun _ _ q => q.elim))
      refine s_if_ne (off := 18) (tgt := 58) (by decide +kernel) (by decide) (fun c18 => ?_) (fun c18 => ?_)
      · have h19 := h16.2 c18
        refine s_iinc (i := 2) (n := 1) (by decide +kernel) rfl (by decide) ?_
        refine s_goto (off := -57) (tgt := 4) (by decide +kernel) (by decide) ?_
        exact h19
      · have h20 := h16.1 c18
        refine s_aload_n (i := 0) (by decide +kernel) rfl ?_
        refine s_getR (ci := 4) (k := 2) (index := 25) (r2 := 29) ck4 rfl rfl (by decide) rfl (by decide +kernel) g_128 ?_
        refine s_iload_n (i := 2) (by decide +kernel) rfl ?_
        obtain ⟨j21, e22, e23, h24⟩ := h20
        refine s_aaldV (r2 := (30 + 2 * j21)) (j := j21) rfl e22 e23 (rg_at e23) (by decide +kernel) ?_
        refine s_dupR (by decide +kernel) ?_
        refine s_getI (ci := 3) (k := 6) (index := 184) ck3 (gg_veh _ e23) (by decide) rfl (by decide +kernel) g_87 ?_
        refine s_iconst (n := 1) (by decide +kernel) ?_
        refine s_iadd (by decide +kernel) ?_
        refine s_putI (ci := 3) (k := 6) (index := 184) ck3 (gg_veh _ e23) (by decide) rfl rfl rfl (by decide +kernel) g_87 ?_
        refine s_iinc (i := 2) (n := 1) (by decide +kernel) rfl (by decide) ?_
        refine s_goto (off := -57) (tgt := 4) (by decide +kernel) (by decide) ?_
        exact h24
    · have h25 := h6.2 c8
      refine s_aload_n (i := 0) (by decide +kernel) rfl ?_
      refine s_iload_n (i := 2) (by decide +kernel) rfl ?_
      refine s_callV (Fc := fZ_move) (index := 140) (ci := 4) (as := [aI x2]) (rest := []) rfl h25 rfl rfl (by decide) rfl ⟨g_448, hZ_move, g_1, by decide, (show (parseMethodDescriptor fZ_move.1.desc).map (fun d => d.parameters.length) = some 1 from by decide +kernel), by decide, by decide, (by decide), (by decide)⟩ g_450 gp_13 rfl rfl (Nat.le_of_ble_eq_true rfl) (by decide +kernel) (q_cV (fun M26 h28 => ?_) (fun _ _ q => q.elim))
      refine s_iinc (i := 1) (n := 1) (by decide +kernel) rfl (by decide) ?_
      refine s_goto (off := 30) (tgt := 58) (by decide +kernel) (by decide) ?_
      refine s_iinc (i := 2) (n := 1) (by decide +kernel) rfl (by decide) ?_
      refine s_goto (off := -57) (tgt := 4) (by decide +kernel) (by decide) ?_
      exact h28

set_option maxRecDepth 20000 in
theorem BZ_endJobOf_0 {K : KX} {Q : Res → AG → AM → Prop} {M : AM} (p1 p2 p3 : Int)
    (h : ∃ j1 : Nat, wr p1 = (j1 : Int) ∧ j1 < 6 ∧ ((wr (M (30 + 2 * j1) 7) < 0 → Q (.inl none) GG M) ∧ (¬ wr (M (30 + 2 * j1) 7) < 0 → (wr (M (30 + 2 * j1) 7) < wr (M 0 5) → ∃ j10 : Nat, wr (M (30 + 2 * j1) 7) = (j10 : Int) ∧ j10 < 20 ∧ (∃ j14 : Nat, wr (M (30 + 2 * j1) 7) = (j14 : Int) ∧ j14 < 20 ∧ (∃ j18 : Nat, wr p1 = (j18 : Int) ∧ j18 < 6 ∧ (Q (.inl none) GG (um (um (um M (43 + j10) 1 p2) (43 + j14) 2 p3) (30 + 2 * j18) 7 ((-1))))))) ∧ (¬ wr (M (30 + 2 * j1) 7) < wr (M 0 5) → Q (.inl none) GG M)))) :
    WM K fZ_endJobOf (EM K fZ_endJobOf 126 Q) 0 [some (aR 0), some (aI p1), some (aI p2), some (aI p3), none] [] GG M 0 0 := by
  refine s_aload_n (i := 0) (by decide +kernel) rfl ?_
  refine s_getR (ci := 4) (k := 2) (index := 25) (r2 := 29) ck4 rfl rfl (by decide) rfl (by decide +kernel) g_128 ?_
  refine s_iload_n (i := 1) (by decide +kernel) rfl ?_
  obtain ⟨j1, e2, e3, h4⟩ := h
  refine s_aaldV (r2 := (30 + 2 * j1)) (j := j1) rfl e2 e3 (rg_at e3) (by decide +kernel) ?_
  refine s_getI (ci := 3) (k := 7) (index := 160) ck3 (gg_veh _ e3) (by decide) rfl (by decide +kernel) g_89 ?_
  refine s_istore (i := 4) (by decide +kernel) (by decide) ?_
  refine s_iload (i := 4) (by decide +kernel) rfl ?_
  refine s_if_lt (off := 12) (tgt := 25) (by decide +kernel) (by decide) (fun c5 => ?_) (fun c5 => ?_)
  · have h6 := h4.1 c5
    exact s_vret rfl (by decide +kernel) (by decide) (by decide) h6
  · have h7 := h4.2 c5
    refine s_iload (i := 4) (by decide +kernel) rfl ?_
    refine s_aload_n (i := 0) (by decide +kernel) rfl ?_
    refine s_getI (ci := 4) (k := 5) (index := 148) ck4 rfl (by decide) rfl (by decide +kernel) g_131 ?_
    refine s_icmp_lt (off := 4) (tgt := 26) (by decide +kernel) (by decide) (fun c8 => ?_) (fun c8 => ?_)
    · have h9 := h7.1 c8
      refine s_aload_n (i := 0) (by decide +kernel) rfl ?_
      refine s_getR (ci := 4) (k := 3) (index := 32) (r2 := 42) ck4 rfl rfl (by decide) rfl (by decide +kernel) g_129 ?_
      refine s_iload (i := 4) (by decide +kernel) rfl ?_
      obtain ⟨j10, e11, e12, h13⟩ := h9
      refine s_aaldJ (r2 := (43 + j10)) (j := j10) rfl e11 e12 (rg_at e12) (by decide +kernel) ?_
      refine s_iload_n (i := 2) (by decide +kernel) rfl ?_
      refine s_putI (ci := 0) (k := 1) (index := 163) ck0 (gg_job _ e12) (by decide) rfl rfl rfl (by decide +kernel) g_116 ?_
      refine s_aload_n (i := 0) (by decide +kernel) rfl ?_
      refine s_getR (ci := 4) (k := 3) (index := 32) (r2 := 42) ck4 rfl rfl (by decide) rfl (by decide +kernel) g_129 ?_
      refine s_iload (i := 4) (by decide +kernel) rfl ?_
      obtain ⟨j14, e15, e16, h17⟩ := h13
      refine s_aaldJ (r2 := (43 + j14)) (j := j14) rfl e15 e16 (rg_at e16) (by decide +kernel) ?_
      refine s_iload_n (i := 3) (by decide +kernel) rfl ?_
      refine s_putI (ci := 0) (k := 2) (index := 166) ck0 (gg_job _ e16) (by decide) rfl rfl rfl (by decide +kernel) g_118 ?_
      refine s_aload_n (i := 0) (by decide +kernel) rfl ?_
      refine s_getR (ci := 4) (k := 2) (index := 25) (r2 := 29) ck4 rfl rfl (by decide) rfl (by decide +kernel) g_128 ?_
      refine s_iload_n (i := 1) (by decide +kernel) rfl ?_
      obtain ⟨j18, e19, e20, h21⟩ := h17
      refine s_aaldV (r2 := (30 + 2 * j18)) (j := j18) rfl e19 e20 (rg_at e20) (by decide +kernel) ?_
      refine s_iconst (n := -1) (by decide +kernel) ?_
      refine s_putI (ci := 3) (k := 7) (index := 160) ck3 (gg_veh _ e20) (by decide) rfl rfl rfl (by decide +kernel) g_89 ?_
      exact s_vret rfl (by decide +kernel) (by decide) (by decide) h21
    · have h22 := h7.2 c8
      exact s_vret rfl (by decide +kernel) (by decide) (by decide) h22

set_option maxRecDepth 20000 in
theorem BZ_regretOf_0 {K : KX} {Q : Res → AG → AM → Prop} {M : AM} (p1 : Int)
    (h : ∃ j1 : Nat, wr p1 = (j1 : Int) ∧ j1 < 20 ∧ ((wr (M (43 + j1) 1) = 0 → WM K fZ_regretOf (EM K fZ_regretOf 126 Q) 21 [some (aR 0), some (aI p1), some (aI (-1)), some (aI (-1)), some (aI 0), none] [] GG M 0 0) ∧ (¬ wr (M (43 + j1) 1) = 0 → Q (.inl (some (aI (-1)))) GG M))) :
    WM K fZ_regretOf (EM K fZ_regretOf 126 Q) 0 [some (aR 0), some (aI p1), none, none, none, none] [] GG M 0 0 := by
  refine s_aload_n (i := 0) (by decide +kernel) rfl ?_
  refine s_getR (ci := 4) (k := 3) (index := 32) (r2 := 42) ck4 rfl rfl (by decide) rfl (by decide +kernel) g_129 ?_
  refine s_iload_n (i := 1) (by decide +kernel) rfl ?_
  obtain ⟨j1, e2, e3, h4⟩ := h
  refine s_aaldJ (r2 := (43 + j1)) (j := j1) rfl e2 e3 (rg_at e3) (by decide +kernel) ?_
  refine s_getI (ci := 0) (k := 1) (index := 163) ck0 (gg_job _ e3) (by decide) rfl (by decide +kernel) g_116 ?_
  refine s_if_eq (off := 5) (tgt := 14) (by decide +kernel) (by decide) (fun c5 => ?_) (fun c5 => ?_)
  · have h6 := h4.1 c5
    refine s_iconst (n := -1) (by decide +kernel) ?_
    refine s_istore_n (i := 2) (by decide +kernel) (by decide) ?_
    refine s_iconst (n := -1) (by decide +kernel) ?_
    refine s_istore_n (i := 3) (by decide +kernel) (by decide) ?_
    refine s_iconst (n := 0) (by decide +kernel) ?_
    refine s_istore (i := 4) (by decide +kernel) (by decide) ?_
    exact h6
  · have h7 := h4.2 c5
    refine s_iconst (n := -1) (by decide +kernel) ?_
    exact s_iret rfl (by decide +kernel) (by decide) (by decide) h7

set_option maxRecDepth 20000 in
theorem BZ_regretOf_21 {K : KX} {Q : Res → AG → AM → Prop} {M : AM} (x1 x2 x3 x4 : Int)
    (h : (wr (M 0 4) ≤ wr x4 → (wr x2 = wr ((-1)) → Q (.inl (some (aI (-1)))) GG M) ∧ (¬ wr x2 = wr ((-1)) → (wr x3 = wr ((-1)) → Q (.inl (some (aI 1000))) GG M) ∧ (¬ wr x3 = wr ((-1)) → Q (.inl (some (aI (x3 - x2)))) GG M))) ∧ (¬ wr (M 0 4) ≤ wr x4 → ∃ j10 : Nat, wr x1 = (j10 : Int) ∧ j10 < 20 ∧ (MetA K fZ_lengthFor [aR 0, aI x4, aI (M (43 + j10) 0)] GG M (cI GG (fun b15 M14 => (wr b15 = wr ((-1)) → WM K fZ_regretOf (EM K fZ_regretOf 126 Q) 21 [some (aR 0), some (aI x1), some (aI x2), some (aI x3), some (aI (x4 + 1)), none] [] GG M14 0 0) ∧ (¬ wr b15 = wr ((-1)) → (wr x2 = wr ((-1)) → WM K fZ_regretOf (EM K fZ_regretOf 126 Q) 21 [some (aR 0), some (aI x1), some (aI b15), some (aI x2), some (aI (x4 + 1)), none] [] GG M14 0 0) ∧ (¬ wr x2 = wr ((-1)) → (wr x2 ≤ wr b15 → (wr x3 = wr ((-1)) → WM K fZ_regretOf (EM K fZ_regretOf 126 Q) 21 [some (aR 0), some (aI x1), some (aI x2), some (aI b15), some (aI (x4 + 1)), none] [] GG M14 0 0) ∧ (¬ wr x3 = wr ((-1)) → (wr x3 ≤ wr b15 → WM K fZ_regretOf (EM K fZ_regretOf 126 Q) 21 [some (aR 0), some (aI x1), some (aI x2), some (aI x3), some (aI (x4 + 1)), none] [] GG M14 0 0) ∧ (¬ wr x3 ≤ wr b15 → WM K fZ_regretOf (EM K fZ_regretOf 126 Q) 21 [some (aR 0), some (aI x1), some (aI x2), some (aI b15), some (aI (x4 + 1)), none] [] GG M14 0 0))) ∧ (¬ wr x2 ≤ wr b15 → WM K fZ_regretOf (EM K fZ_regretOf 126 Q) 21 [some (aR 0), some (aI x1), some (aI b15), some (aI x2), some (aI (x4 + 1)), none] [] GG M14 0 0)))) noX)))) :
    WM K fZ_regretOf (EM K fZ_regretOf 126 Q) 21 [some (aR 0), some (aI x1), some (aI x2), some (aI x3), some (aI x4), none] [] GG M 0 0 := by
  refine s_iload (i := 4) (by decide +kernel) rfl ?_
  refine s_aload_n (i := 0) (by decide +kernel) rfl ?_
  refine s_getI (ci := 4) (k := 4) (index := 78) ck4 rfl (by decide) rfl (by decide +kernel) g_130 ?_
  refine s_icmp_ge (off := 68) (tgt := 95) (by decide +kernel) (by decide) (fun c1 => ?_) (fun c1 => ?_)
  · have h2 := h.1 c1
    refine s_iload_n (i := 2) (by decide +kernel) rfl ?_
    refine s_iconst (n := -1) (by decide +kernel) ?_
    refine s_icmp_ne (off := 5) (tgt := 102) (by decide +kernel) (by decide) (fun c3 => ?_) (fun c3 => ?_)
    · have h4 := h2.2 c3
      refine s_iload_n (i := 3) (by decide +kernel) rfl ?_
      refine s_iconst (n := -1) (by decide +kernel) ?_
      refine s_icmp_ne (off := 9) (tgt := 113) (by decide +kernel) (by decide) (fun c5 => ?_) (fun c5 => ?_)
      · have h6 := h4.2 c5
        refine s_iload_n (i := 3) (by decide +kernel) rfl ?_
        refine s_iload_n (i := 2) (by decide +kernel) rfl ?_
        refine s_isub (by decide +kernel) ?_
        exact s_iret rfl (by decide +kernel) (by decide) (by decide) h6
      · have h7 := h4.1 c5
        refine s_sipush (n := 1000) (by decide +kernel) (by decide +kernel) ?_
        refine s_goto (off := 6) (tgt := 116) (by decide +kernel) (by decide) ?_
        exact s_iret rfl (by decide +kernel) (by decide) (by decide) h7
    · have h8 := h2.1 c3
      refine s_iconst (n := -1) (by decide +kernel) ?_
      exact s_iret rfl (by decide +kernel) (by decide) (by decide) h8
  · have h9 := h.2 c1
    refine s_aload_n (i := 0) (by decide +kernel) rfl ?_
    refine s_iload (i := 4) (by decide +kernel) rfl ?_
    refine s_aload_n (i := 0) (by decide +kernel) rfl ?_
    refine s_getR (ci := 4) (k := 3) (index := 32) (r2 := 42) ck4 rfl rfl (by decide) rfl (by decide +kernel) g_129 ?_
    refine s_iload_n (i := 1) (by decide +kernel) rfl ?_
    obtain ⟨j10, e11, e12, h13⟩ := h9
    refine s_aaldJ (r2 := (43 + j10)) (j := j10) rfl e11 e12 (rg_at e12) (by decide +kernel) ?_
    refine s_getI (ci := 0) (k := 0) (index := 153) ck0 (gg_job _ e12) (by decide) rfl (by decide +kernel) g_114 ?_
    refine s_callV (Fc := fZ_lengthFor) (index := 103) (ci := 4) (as := [aI x4, aI (M (43 + j10) 0)]) (rest := []) rfl h13 rfl rfl (by decide) rfl ⟨g_233, hZ_lengthFor, g_1, by decide, (show (parseMethodDescriptor fZ_lengthFor.1.desc).map (fun d => d.parameters.length) = some 2 from by decide +kernel), by decide, by decide, (by decide), (by decide)⟩ g_235 gp_3 rfl rfl (Nat.le_of_ble_eq_true rfl) (by decide +kernel) (q_cI (fun b15 M14 h16 => ?_) (fun _ _ q => q.elim))
    refine s_istore (i := 5) (by decide +kernel) (by decide) ?_
    refine s_iload (i := 5) (by decide +kernel) rfl ?_
    refine s_iconst (n := -1) (by decide +kernel) ?_
    refine s_icmp_ne (off := 6) (tgt := 56) (by decide +kernel) (by decide) (fun c18 => ?_) (fun c18 => ?_)
    · have h19 := h16.2 c18
      refine s_iload_n (i := 2) (by decide +kernel) rfl ?_
      refine s_iconst (n := -1) (by decide +kernel) ?_
      refine s_icmp_eq (off := 9) (tgt := 67) (by decide +kernel) (by decide) (fun c20 => ?_) (fun c20 => ?_)
      · have h21 := h19.1 c20
        refine s_iload_n (i := 2) (by decide +kernel) rfl ?_
        refine s_istore_n (i := 3) (by decide +kernel) (by decide) ?_
        refine s_iload (i := 5) (by decide +kernel) rfl ?_
        refine s_istore_n (i := 2) (by decide +kernel) (by decide) ?_
        refine s_goto (off := 17) (tgt := 89) (by decide +kernel) (by decide) ?_
        refine s_iinc (i := 4) (n := 1) (by decide +kernel) rfl (by decide) ?_
        refine s_goto (off := -71) (tgt := 21) (by decide +kernel) (by decide) ?_
        exact s_loc (L' := [some (aR 0), some (aI x1), some (aI b15), some (aI x2), some (aI (x4 + 1)), none]) (ll_s (ll_s (ll_s (ll_s (ll_s (ll_n ll_nil)))))) h21
      · have h22 := h19.2 c20
        refine s_iload (i := 5) (by decide +kernel) rfl ?_
        refine s_iload_n (i := 2) (by decide +kernel) rfl ?_
        refine s_icmp_ge (off := 11) (tgt := 75) (by decide +kernel) (by decide) (fun c23 => ?_) (fun c23 => ?_)
        · have h24 := h22.1 c23
          refine s_iload_n (i := 3) (by decide +kernel) rfl ?_
          refine s_iconst (n := -1) (by decide +kernel) ?_
          refine s_icmp_eq (off := 9) (tgt := 86) (by decide +kernel) (by decide) (fun c25 => ?_) (fun c25 => ?_)
          · have h26 := h24.1 c25
            refine s_iload (i := 5) (by decide +kernel) rfl ?_
            refine s_istore_n (i := 3) (by decide +kernel) (by decide) ?_
            refine s_iinc (i := 4) (n := 1) (by decide +kernel) rfl (by decide) ?_
            refine s_goto (off := -71) (tgt := 21) (by decide +kernel) (by decide) ?_
            exact s_loc (L' := [some (aR 0), some (aI x1), some (aI x2), some (aI b15), some (aI (x4 + 1)), none]) (ll_s (ll_s (ll_s (ll_s (ll_s (ll_n ll_nil)))))) h26
          · have h27 := h24.2 c25
            refine s_iload (i := 5) (by decide +kernel) rfl ?_
            refine s_iload_n (i := 3) (by decide +kernel) rfl ?_
            refine s_icmp_ge (off := 6) (tgt := 89) (by decide +kernel) (by decide) (fun c28 => ?_) (fun c28 => ?_)
            · have h29 := h27.1 c28
              refine s_iinc (i := 4) (n := 1) (by decide +kernel) rfl (by decide) ?_
              refine s_goto (off := -71) (tgt := 21) (by decide +kernel) (by decide) ?_
              exact s_loc (L' := [some (aR 0), some (aI x1), some (aI x2), some (aI x3), some (aI (x4 + 1)), none]) (ll_s (ll_s (ll_s (ll_s (ll_s (ll_n ll_nil)))))) h29
            · have h30 := h27.2 c28
              refine s_iload (i := 5) (by decide +kernel) rfl ?_
              refine s_istore_n (i := 3) (by decide +kernel) (by decide) ?_
              refine s_iinc (i := 4) (n := 1) (by decide +kernel) rfl (by decide) ?_
              refine s_goto (off := -71) (tgt := 21) (by decide +kernel) (by decide) ?_
              exact s_loc (L' := [some (aR 0), some (aI x1), some (aI x2), some (aI b15), some (aI (x4 + 1)), none]) (ll_s (ll_s (ll_s (ll_s (ll_s (ll_n ll_nil)))))) h30
        · have h31 := h22.2 c23
          refine s_iload_n (i := 2) (by decide +kernel) rfl ?_
          refine s_istore_n (i := 3) (by decide +kernel) (by decide) ?_
          refine s_iload (i := 5) (by decide +kernel) rfl ?_
          refine s_istore_n (i := 2) (by decide +kernel) (by decide) ?_
          refine s_goto (off := 17) (tgt := 89) (by decide +kernel) (by decide) ?_
          refine s_iinc (i := 4) (n := 1) (by decide +kernel) rfl (by decide) ?_
          refine s_goto (off := -71) (tgt := 21) (by decide +kernel) (by decide) ?_
          exact s_loc (L' := [some (aR 0), some (aI x1), some (aI b15), some (aI x2), some (aI (x4 + 1)), none]) (ll_s (ll_s (ll_s (ll_s (ll_s (ll_n ll_nil)))))) h31
    · have h32 := h16.1 c18
      refine s_goto (off := 36) (tgt := 89) (by decide +kernel) (by decide) ?_
      refine s_iinc (i := 4) (n := 1) (by decide +kernel) rfl (by decide) ?_
      refine s_goto (off := -71) (tgt := 21) (by decide +kernel) (by decide) ?_
      exact s_loc (L' := [some (aR 0), some (aI x1), some (aI x2), some (aI x3), some (aI (x4 + 1)), none]) (ll_s (ll_s (ll_s (ll_s (ll_s (ll_n ll_nil)))))) h32

set_option maxRecDepth 20000 in
theorem BZ_mostRegretted_0 {K : KX} {Q : Res → AG → AM → Prop} {M : AM} 
    (h : WM K fZ_mostRegretted (EM K fZ_mostRegretted 126 Q) 6 [some (aR 0), some (aI (-1)), some (aI (-1)), some (aI 0), none] [] GG M 0 0) :
    WM K fZ_mostRegretted (EM K fZ_mostRegretted 126 Q) 0 [some (aR 0), none, none, none, none] [] GG M 0 0 := by
  refine s_iconst (n := -1) (by decide +kernel) ?_
  refine s_istore_n (i := 1) (by decide +kernel) (by decide) ?_
  refine s_iconst (n := -1) (by decide +kernel) ?_
  refine s_istore_n (i := 2) (by decide +kernel) (by decide) ?_
  refine s_iconst (n := 0) (by decide +kernel) ?_
  refine s_istore_n (i := 3) (by decide +kernel) (by decide) ?_
  exact h

set_option maxRecDepth 20000 in
theorem BZ_mostRegretted_6 {K : KX} {Q : Res → AG → AM → Prop} {M : AM} (x1 x2 x3 : Int)
    (h : (wr (M 0 5) ≤ wr x3 → Q (.inl (some (aI x1))) GG M) ∧ (¬ wr (M 0 5) ≤ wr x3 → MetA K fZ_regretOf [aR 0, aI x3] GG M (cI GG (fun b5 M4 => (wr b5 ≤ wr x2 → WM K fZ_mostRegretted (EM K fZ_mostRegretted 126 Q) 6 [some (aR 0), some (aI x1), some (aI x2), some (aI (x3 + 1)), none] [] GG M4 0 0) ∧ (¬ wr b5 ≤ wr x2 → WM K fZ_mostRegretted (EM K fZ_mostRegretted 126 Q) 6 [some (aR 0), some (aI x3), some (aI b5), some (aI (x3 + 1)), none] [] GG M4 0 0)) noX))) :
    WM K fZ_mostRegretted (EM K fZ_mostRegretted 126 Q) 6 [some (aR 0), some (aI x1), some (aI x2), some (aI x3), none] [] GG M 0 0 := by
  refine s_iload_n (i := 3) (by decide +kernel) rfl ?_
  refine s_aload_n (i := 0) (by decide +kernel) rfl ?_
  refine s_getI (ci := 4) (k := 5) (index := 148) ck4 rfl (by decide) rfl (by decide +kernel) g_131 ?_
  refine s_icmp_ge (off := 27) (tgt := 38) (by decide +kernel) (by decide) (fun c1 => ?_) (fun c1 => ?_)
  · have h2 := h.1 c1
    refine s_iload_n (i := 1) (by decide +kernel) rfl ?_
    exact s_iret rfl (by decide +kernel) (by decide) (by decide) h2
  · have h3 := h.2 c1
    refine s_aload_n (i := 0) (by decide +kernel) rfl ?_
    refine s_iload_n (i := 3) (by decide +kernel) rfl ?_
    refine s_callV (Fc := fZ_regretOf) (index := 172) (ci := 4) (as := [aI x3]) (rest := []) rfl h3 rfl rfl (by decide) rfl ⟨g_229, hZ_regretOf, g_1, by decide, (show (parseMethodDescriptor fZ_regretOf.1.desc).map (fun d => d.parameters.length) = some 1 from by decide +kernel), by decide, by decide, (by decide), (by decide)⟩ g_231 gp_2 rfl rfl (Nat.le_of_ble_eq_true rfl) (by decide +kernel) (q_cI (fun b5 M4 h6 => ?_) (fun _ _ q => q.elim))
    refine s_istore (i := 4) (by decide +kernel) (by decide) ?_
    refine s_iload (i := 4) (by decide +kernel) rfl ?_
    refine s_iload_n (i := 2) (by decide +kernel) rfl ?_
    refine s_icmp_le (off := 8) (tgt := 32) (by decide +kernel) (by decide) (fun c8 => ?_) (fun c8 => ?_)
    · have h9 := h6.1 c8
      refine s_iinc (i := 3) (n := 1) (by decide +kernel) rfl (by decide) ?_
      refine s_goto (off := -29) (tgt := 6) (by decide +kernel) (by decide) ?_
      exact s_loc (L' := [some (aR 0), some (aI x1), some (aI x2), some (aI (x3 + 1)), none]) (ll_s (ll_s (ll_s (ll_s (ll_n ll_nil))))) h9
    · have h10 := h6.2 c8
      refine s_iload (i := 4) (by decide +kernel) rfl ?_
      refine s_istore_n (i := 2) (by decide +kernel) (by decide) ?_
      refine s_iload_n (i := 3) (by decide +kernel) rfl ?_
      refine s_istore_n (i := 1) (by decide +kernel) (by decide) ?_
      refine s_iinc (i := 3) (n := 1) (by decide +kernel) rfl (by decide) ?_
      refine s_goto (off := -29) (tgt := 6) (by decide +kernel) (by decide) ?_
      exact s_loc (L' := [some (aR 0), some (aI x3), some (aI b5), some (aI (x3 + 1)), none]) (ll_s (ll_s (ll_s (ll_s (ll_n ll_nil))))) h10

set_option maxRecDepth 20000 in
theorem BZ_nearestTaker_0 {K : KX} {Q : Res → AG → AM → Prop} {M : AM} (p1 : Int)
    (h : WM K fZ_nearestTaker (EM K fZ_nearestTaker 126 Q) 7 [some (aR 0), some (aI p1), some (aI (-1)), some (aI (-1)), some (aI 0), none] [] GG M 0 0) :
    WM K fZ_nearestTaker (EM K fZ_nearestTaker 126 Q) 0 [some (aR 0), some (aI p1), none, none, none, none] [] GG M 0 0 := by
  refine s_iconst (n := -1) (by decide +kernel) ?_
  refine s_istore_n (i := 2) (by decide +kernel) (by decide) ?_
  refine s_iconst (n := -1) (by decide +kernel) ?_
  refine s_istore_n (i := 3) (by decide +kernel) (by decide) ?_
  refine s_iconst (n := 0) (by decide +kernel) ?_
  refine s_istore (i := 4) (by decide +kernel) (by decide) ?_
  exact h

set_option maxRecDepth 20000 in
theorem BZ_nearestTaker_7 {K : KX} {Q : Res → AG → AM → Prop} {M : AM} (x1 x2 x3 x4 : Int)
    (h : (wr (M 0 4) ≤ wr x4 → Q (.inl (some (aI x2))) GG M) ∧ (¬ wr (M 0 4) ≤ wr x4 → ∃ j4 : Nat, wr x1 = (j4 : Int) ∧ j4 < 20 ∧ (MetA K fZ_lengthFor [aR 0, aI x4, aI (M (43 + j4) 0)] GG M (cI GG (fun b9 M8 => (wr b9 = wr ((-1)) → WM K fZ_nearestTaker (EM K fZ_nearestTaker 126 Q) 7 [some (aR 0), some (aI x1), some (aI x2), some (aI x3), some (aI (x4 + 1)), none] [] GG M8 0 0) ∧ (¬ wr b9 = wr ((-1)) → (wr x3 = wr ((-1)) → WM K fZ_nearestTaker (EM K fZ_nearestTaker 126 Q) 7 [some (aR 0), some (aI x1), some (aI x4), some (aI b9), some (aI (x4 + 1)), none] [] GG M8 0 0) ∧ (¬ wr x3 = wr ((-1)) → (wr x3 ≤ wr b9 → WM K fZ_nearestTaker (EM K fZ_nearestTaker 126 Q) 7 [some (aR 0), some (aI x1), some (aI x2), some (aI x3), some (aI (x4 + 1)), none] [] GG M8 0 0) ∧ (¬ wr x3 ≤ wr b9 → WM K fZ_nearestTaker (EM K fZ_nearestTaker 126 Q) 7 [some (aR 0), some (aI x1), some (aI x4), some (aI b9), some (aI (x4 + 1)), none] [] GG M8 0 0)))) noX)))) :
    WM K fZ_nearestTaker (EM K fZ_nearestTaker 126 Q) 7 [some (aR 0), some (aI x1), some (aI x2), some (aI x3), some (aI x4), none] [] GG M 0 0 := by
  refine s_iload (i := 4) (by decide +kernel) rfl ?_
  refine s_aload_n (i := 0) (by decide +kernel) rfl ?_
  refine s_getI (ci := 4) (k := 4) (index := 78) ck4 rfl (by decide) rfl (by decide +kernel) g_130 ?_
  refine s_icmp_ge (off := 49) (tgt := 62) (by decide +kernel) (by decide) (fun c1 => ?_) (fun c1 => ?_)
  · have h2 := h.1 c1
    refine s_iload_n (i := 2) (by decide +kernel) rfl ?_
    exact s_iret rfl (by decide +kernel) (by decide) (by decide) h2
  · have h3 := h.2 c1
    refine s_aload_n (i := 0) (by decide +kernel) rfl ?_
    refine s_iload (i := 4) (by decide +kernel) rfl ?_
    refine s_aload_n (i := 0) (by decide +kernel) rfl ?_
    refine s_getR (ci := 4) (k := 3) (index := 32) (r2 := 42) ck4 rfl rfl (by decide) rfl (by decide +kernel) g_129 ?_
    refine s_iload_n (i := 1) (by decide +kernel) rfl ?_
    obtain ⟨j4, e5, e6, h7⟩ := h3
    refine s_aaldJ (r2 := (43 + j4)) (j := j4) rfl e5 e6 (rg_at e6) (by decide +kernel) ?_
    refine s_getI (ci := 0) (k := 0) (index := 153) ck0 (gg_job _ e6) (by decide) rfl (by decide +kernel) g_114 ?_
    refine s_callV (Fc := fZ_lengthFor) (index := 103) (ci := 4) (as := [aI x4, aI (M (43 + j4) 0)]) (rest := []) rfl h7 rfl rfl (by decide) rfl ⟨g_233, hZ_lengthFor, g_1, by decide, (show (parseMethodDescriptor fZ_lengthFor.1.desc).map (fun d => d.parameters.length) = some 2 from by decide +kernel), by decide, by decide, (by decide), (by decide)⟩ g_235 gp_3 rfl rfl (Nat.le_of_ble_eq_true rfl) (by decide +kernel) (q_cI (fun b9 M8 h10 => ?_) (fun _ _ q => q.elim))
    refine s_istore (i := 5) (by decide +kernel) (by decide) ?_
    refine s_iload (i := 5) (by decide +kernel) rfl ?_
    refine s_iconst (n := -1) (by decide +kernel) ?_
    refine s_icmp_eq (off := 20) (tgt := 56) (by decide +kernel) (by decide) (fun c12 => ?_) (fun c12 => ?_)
    · have h13 := h10.1 c12
      refine s_iinc (i := 4) (n := 1) (by decide +kernel) rfl (by decide) ?_
      refine s_goto (off := -52) (tgt := 7) (by decide +kernel) (by decide) ?_
      exact s_loc (L' := [some (aR 0), some (aI x1), some (aI x2), some (aI x3), some (aI (x4 + 1)), none]) (ll_s (ll_s (ll_s (ll_s (ll_s (ll_n ll_nil)))))) h13
    · have h14 := h10.2 c12
      refine s_iload_n (i := 3) (by decide +kernel) rfl ?_
      refine s_iconst (n := -1) (by decide +kernel) ?_
      refine s_icmp_eq (off := 9) (tgt := 50) (by decide +kernel) (by decide) (fun c15 => ?_) (fun c15 => ?_)
      · have h16 := h14.1 c15
        refine s_iload (i := 5) (by decide +kernel) rfl ?_
        refine s_istore_n (i := 3) (by decide +kernel) (by decide) ?_
        refine s_iload (i := 4) (by decide +kernel) rfl ?_
        refine s_istore_n (i := 2) (by decide +kernel) (by decide) ?_
        refine s_iinc (i := 4) (n := 1) (by decide +kernel) rfl (by decide) ?_
        refine s_goto (off := -52) (tgt := 7) (by decide +kernel) (by decide) ?_
        exact s_loc (L' := [some (aR 0), some (aI x1), some (aI x4), some (aI b9), some (aI (x4 + 1)), none]) (ll_s (ll_s (ll_s (ll_s (ll_s (ll_n ll_nil)))))) h16
      · have h17 := h14.2 c15
        refine s_iload (i := 5) (by decide +kernel) rfl ?_
        refine s_iload_n (i := 3) (by decide +kernel) rfl ?_
        refine s_icmp_ge (off := 9) (tgt := 56) (by decide +kernel) (by decide) (fun c18 => ?_) (fun c18 => ?_)
        · have h19 := h17.1 c18
          refine s_iinc (i := 4) (n := 1) (by decide +kernel) rfl (by decide) ?_
          refine s_goto (off := -52) (tgt := 7) (by decide +kernel) (by decide) ?_
          exact s_loc (L' := [some (aR 0), some (aI x1), some (aI x2), some (aI x3), some (aI (x4 + 1)), none]) (ll_s (ll_s (ll_s (ll_s (ll_s (ll_n ll_nil)))))) h19
        · have h20 := h17.2 c18
          refine s_iload (i := 5) (by decide +kernel) rfl ?_
          refine s_istore_n (i := 3) (by decide +kernel) (by decide) ?_
          refine s_iload (i := 4) (by decide +kernel) rfl ?_
          refine s_istore_n (i := 2) (by decide +kernel) (by decide) ?_
          refine s_iinc (i := 4) (n := 1) (by decide +kernel) rfl (by decide) ?_
          refine s_goto (off := -52) (tgt := 7) (by decide +kernel) (by decide) ?_
          exact s_loc (L' := [some (aR 0), some (aI x1), some (aI x4), some (aI b9), some (aI (x4 + 1)), none]) (ll_s (ll_s (ll_s (ll_s (ll_s (ll_n ll_nil)))))) h20

