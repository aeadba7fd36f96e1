/-! the law's loop and its beginning (printed by gen71.py) -/
theorem d_law39 : decode fL_law.2.1 39 = .ok (.tableswitch 1426 0 23 #[109, 177, 268, 336, 404, 472, 528, 584, 647, 703, 759, 815, 828, 884, 940, 996, 1009, 1065, 1121, 1177, 1245, 1301, 1357, 1370], 109) := by decide +kernel
section LL
variable {K : KX} {E : CE} {b N : Nat} {xs : Nat → Int}
set_option maxRecDepth 20000 in
theorem lp_law (hst : K.1.stackTraces = false) (hX : XE E b N xs) (hr : ∀ j, R32 (xs j)) (hN : N ≤ 1536) (hend : ∀ (L : List (Option AV)) (M : AM) (uc us : Nat), uc ≤ 601024 → us ≤ 7293034 → WM K fL_law E 1471 L [] GG M uc us) :
    ∀ (d i : Nat) (S : SS) (M : AM) (uc us : Nat), N ≤ i + 3 * d + 2 → i ≤ 1540 → Inv S → RX S M → RM S M → uc + 6 * d ≤ 601024 → us + 40 * d ≤ 7293034 → WM K fL_law E 23 [some (aX b), some (aR 0), some (aR 63), some (aR 79), some (aI i), none, none] [] GG M uc us := by
  intro d
  induction d with
  | zero =>
    intro i S M uc us hd hi hI hRX hRM hu hv
    refine s_iload (i := 4) (by decide +kernel) rfl ?_
    refine s_aloadX_n (i := 0) (by decide +kernel) rfl ?_
    refine s_slen hX (by decide +kernel) ?_
    refine s_iconst (n := 3) (by decide +kernel) ?_
    refine s_isub (by decide +kernel) ?_
    refine s_icmp_gt (off := 1442) (tgt := 1471) (by decide +kernel) (by decide) (fun _ => hend _ _ _ _ (by omega) (by omega)) (fun c => ?_)
    rw [wri (z := (N : Int) - 3) (by omega) (by omega), wrn (by omega)] at c
    omega
  | succ d ih =>
    intro i S M uc us hd hi hI hRX hRM hu hv
    refine s_iload (i := 4) (by decide +kernel) rfl ?_
    refine s_aloadX_n (i := 0) (by decide +kernel) rfl ?_
    refine s_slen hX (by decide +kernel) ?_
    refine s_iconst (n := 3) (by decide +kernel) ?_
    refine s_isub (by decide +kernel) ?_
    refine s_icmp_gt (off := 1442) (tgt := 1471) (by decide +kernel) (by decide) (fun _ => hend _ _ _ _ (by omega) (by omega)) (fun c => ?_)
    rw [wri (z := (N : Int) - 3) (by omega) (by omega), wrn (by omega)] at c
    have hi3 : i + 3 ≤ N := by omega
    have hk : LK K E b i uc us := fun S1 M1 h1 h2 h3 => by
      refine s_iinc (i := 4) (n := 3) (by decide +kernel) rfl (by decide) ?_
      refine s_goto (off := -1445) (tgt := 23) (by decide +kernel) (by decide) ?_
      exact ih (i + 3) S1 M1 (uc + 6) (us + 40) (by omega) (by omega) h1 h2 h3 (by omega) (by omega)
    refine s_aloadX_n (i := 0) (by decide +kernel) rfl ?_
    refine s_iload (i := 4) (by decide +kernel) rfl ?_
    refine s_sld (j := i) hX (wrn (by omega)) (by omega) (by decide +kernel) ?_
    refine s_bipush (n := 31) (by decide +kernel) (by decide +kernel) ?_
    refine s_iand (by decide +kernel) ?_
    generalize wia (xs i) 31 = t
    have hw : uc + 6 ≤ 601024 ∧ us + 40 ≤ 7293034 := ⟨by omega, by omega⟩
    by_cases h : wr t < 0 ∨ 23 < wr t
    · exact s_tabOut (tgt := 1465) d_law39 h (by decide) (s_wid (by omega) (by omega) (hk S M hI hRX hRM))
    · have h2 : wr t = 0 ∨ wr t = 1 ∨ wr t = 2 ∨ wr t = 3 ∨ wr t = 4 ∨ wr t = 5 ∨ wr t = 6 ∨ wr t = 7 ∨ wr t = 8 ∨ wr t = 9 ∨ wr t = 10 ∨ wr t = 11 ∨ wr t = 12 ∨ wr t = 13 ∨ wr t = 14 ∨ wr t = 15 ∨ wr t = 16 ∨ wr t = 17 ∨ wr t = 18 ∨ wr t = 19 ∨ wr t = 20 ∨ wr t = 21 ∨ wr t = 22 ∨ wr t = 23 := by omega
      rcases h2 with h2 | h2 | h2 | h2 | h2 | h2 | h2 | h2 | h2 | h2 | h2 | h2 | h2 | h2 | h2 | h2 | h2 | h2 | h2 | h2 | h2 | h2 | h2 | h2
      · exact s_tabIn (off := 109) (tgt := 148) d_law39 (by omega) (by omega) (by rw [h2]; rfl) (by decide) (w_addLane hst hX hr hi3 hN hI hRX hRM hw hk)
      · exact s_tabIn (off := 177) (tgt := 216) d_law39 (by omega) (by omega) (by rw [h2]; rfl) (by decide) (w_setCharger hst hX hr hi3 hN hI hRX hRM hw hk)
      · exact s_tabIn (off := 268) (tgt := 307) d_law39 (by omega) (by omega) (by rw [h2]; rfl) (by decide) (w_distance hst hX hr hi3 hN hI hRX hRM hw hk)
      · exact s_tabIn (off := 336) (tgt := 375) d_law39 (by omega) (by omega) (by rw [h2]; rfl) (by decide) (w_addVehicle hst hX hr hi3 hN hI hRX hRM hw hk)
      · exact s_tabIn (off := 404) (tgt := 443) d_law39 (by omega) (by omega) (by rw [h2]; rfl) (by decide) (w_assign hst hX hr hi3 hN hI hRX hRM hw hk)
      · exact s_tabIn (off := 472) (tgt := 511) d_law39 (by omega) (by omega) (by rw [h2]; rfl) (by decide) (w_cancel hst hX hr hi3 hN hI hRX hRM hw hk)
      · exact s_tabIn (off := 528) (tgt := 567) d_law39 (by omega) (by omega) (by rw [h2]; rfl) (by decide) (w_charge hst hX hr hi3 hN hI hRX hRM hw hk)
      · exact s_tabIn (off := 584) (tgt := 623) d_law39 (by omega) (by omega) (by rw [h2]; rfl) (by decide) (w_canStep hst hX hr hi3 hN hI hRX hRM hw hk)
      · exact s_tabIn (off := 647) (tgt := 686) d_law39 (by omega) (by omega) (by rw [h2]; rfl) (by decide) (w_step hst hX hr hi3 hN hI hRX hRM hw hk)
      · exact s_tabIn (off := 703) (tgt := 742) d_law39 (by omega) (by omega) (by rw [h2]; rfl) (by decide) (w_tick hst hX hr hi3 hN hI hRX hRM hw hk)
      · exact s_tabIn (off := 759) (tgt := 798) d_law39 (by omega) (by omega) (by rw [h2]; rfl) (by decide) (w_addJob hst hX hr hi3 hN hI hRX hRM hw hk)
      · exact s_tabIn (off := 815) (tgt := 854) d_law39 (by omega) (by omega) (by rw [h2]; rfl) (by decide) (w_dispatch hst hX hr hi3 hN hI hRX hRM hw hk)
      · exact s_tabIn (off := 828) (tgt := 867) d_law39 (by omega) (by omega) (by rw [h2]; rfl) (by decide) (w_jobState hst hX hr hi3 hN hI hRX hRM hw hk)
      · exact s_tabIn (off := 884) (tgt := 923) d_law39 (by omega) (by omega) (by rw [h2]; rfl) (by decide) (w_jobVehicle hst hX hr hi3 hN hI hRX hRM hw hk)
      · exact s_tabIn (off := 940) (tgt := 979) d_law39 (by omega) (by omega) (by rw [h2]; rfl) (by decide) (w_regret hst hX hr hi3 hN hI hRX hRM hw hk)
      · exact s_tabIn (off := 996) (tgt := 1035) d_law39 (by omega) (by omega) (by rw [h2]; rfl) (by decide) (w_vehicles hst hX hr hi3 hN hI hRX hRM hw hk)
      · exact s_tabIn (off := 1009) (tgt := 1048) d_law39 (by omega) (by omega) (by rw [h2]; rfl) (by decide) (w_zoneOf hst hX hr hi3 hN hI hRX hRM hw hk)
      · exact s_tabIn (off := 1065) (tgt := 1104) d_law39 (by omega) (by omega) (by rw [h2]; rfl) (by decide) (w_vehicleIn hst hX hr hi3 hN hI hRX hRM hw hk)
      · exact s_tabIn (off := 1121) (tgt := 1160) d_law39 (by omega) (by omega) (by rw [h2]; rfl) (by decide) (w_routeLength hst hX hr hi3 hN hI hRX hRM hw hk)
      · exact s_tabIn (off := 1177) (tgt := 1216) d_law39 (by omega) (by omega) (by rw [h2]; rfl) (by decide) (w_routeZone hst hX hr hi3 hN hI hRX hRM hw hk)
      · exact s_tabIn (off := 1245) (tgt := 1284) d_law39 (by omega) (by omega) (by rw [h2]; rfl) (by decide) (w_energy hst hX hr hi3 hN hI hRX hRM hw hk)
      · exact s_tabIn (off := 1301) (tgt := 1340) d_law39 (by omega) (by omega) (by rw [h2]; rfl) (by decide) (w_waited hst hX hr hi3 hN hI hRX hRM hw hk)
      · exact s_tabIn (off := 1357) (tgt := 1396) d_law39 (by omega) (by omega) (by rw [h2]; rfl) (by decide) (w_orders hst hX hr hi3 hN hI hRX hRM hw hk)
      · exact s_tabIn (off := 1370) (tgt := 1409) d_law39 (by omega) (by omega) (by rw [h2]; rfl) (by decide) (w_finisher hst hX hr hi3 hN hI hRX hRM hw hk)
set_option maxRecDepth 20000 in
theorem lw_begin (hst : K.1.stackTraces = false) (hX : XE E b N xs) (hr : ∀ j, R32 (xs j)) (hN : N ≤ 1536) (hge : ∀ n, GE E n) (hend : ∀ (L : List (Option AV)) (M : AM) (uc us : Nat), uc ≤ 601024 → us ≤ 7293034 → WM K fL_law E 1471 L [] GG M uc us) {M : AM} : WM K fL_law E 0 [some (aX b), none, none, none, none, none, none] [] [] M 0 0 := by
  refine s_new (ci := 4) (index := 8) ck4 dfl4 g_15 g_16 g_1 (hge _) rfl rfl rfl ⟨by decide, by decide⟩ (by decide +kernel) ?_
  refine s_G (G' := gA) (by decide +kernel) ?_
  refine s_dupR (by decide +kernel) ?_
  refine s_callI (Fc := fZ_init) (index := 82) (r := 0) (c_X hst (M := unew M 0) (fun k => unew_s) (Q := fun r G' M' => r = .inl none ∧ G' = GG.take 63 ∧ RX S0 M') (fun M' h => ⟨rfl, rfl, h⟩)) rfl rfl ⟨g_17, hwd_c rfl g_19, g_1, by decide, by decide +kernel, by decide, by decide, by decide, by decide⟩ g_18 rfl (hge _) rfl (by decide +kernel) (by simp) (by decide +kernel) (fun r G' M1 h => ?_)
  obtain ⟨h0, hG, x1⟩ := h
  subst hG
  refine ⟨h0, ?_⟩
  refine s_astore_n (i := 1) (by decide +kernel) (by decide) ?_
  refine s_new (ci := 5) (index := 83) ck5 dfl5 g_575 g_576 g_6 (hge _) (by decide +kernel) (show okL 63 [some (aX b), some (aR 0), none, none, none, none, none] = true from rfl) rfl ⟨by decide, by decide⟩ (by decide +kernel) ?_
  refine s_G (G' := gM 0) (by decide +kernel) ?_
  rw [show (GG.take 63).length = 63 from by decide +kernel]
  refine s_dupR (by decide +kernel) ?_
  refine s_callI (Fc := fM_init) (index := 85) (r := 63) (c_M hst (M := unew M1 63) (Q := fun r G' M' => r = .inl none ∧ G' = GG.take 79 ∧ (∀ c k, c < 64 → M' c k = unew M1 63 c k) ∧ (∀ c k, 64 ≤ c → c < 79 → M' c k = if c = 72 ∧ k < 6 then -1 else 0)) (fun M' h1 h2 => ⟨rfl, rfl, h1, h2⟩)) rfl rfl ⟨g_577, hwd_c rfl g_579, g_6, by decide, by decide +kernel, by decide, by decide, by decide, by decide⟩ g_578 rfl (hge _) (show okL 64 [some (aX b), some (aR 0), none, none, none, none, none] = true from rfl) (by decide +kernel) (by simp) (by decide +kernel) (fun r G' M2 h => ?_)
  obtain ⟨h0, hG, y1, y2⟩ := h
  subst hG
  refine ⟨h0, ?_⟩
  refine s_astore_n (i := 2) (by decide +kernel) (by decide) ?_
  refine s_iconst (n := 1) (by decide +kernel) ?_
  refine s_newl (atype := .long) (j := 1) rfl g_825 wr_1 (by omega) (hge _) (by decide +kernel) (show okL 79 [some (aX b), some (aR 0), some (aR 63), none, none, none, none] = true from rfl) rfl ⟨by decide, by decide⟩ (by decide +kernel) ?_
  rw [show (GG.take 79).length = 79 from by decide +kernel]
  refine s_G (G' := GG) (by decide +kernel) ?_
  refine s_astore_n (i := 3) (by decide +kernel) (by decide) ?_
  refine s_iconst (n := 0) (by decide +kernel) ?_
  refine s_istore (i := 4) (by decide +kernel) (by decide) ?_
  have z1 : RX S0 (unew M2 79) := x1.same (fun c k hc _ => by rw [unew_n (by omega), y1 c k (by omega), unew_n (by omega)])
  have z2 : RM S0 (unew M2 79) := rm_S0 (fun k => by rw [unew_n (by omega), y1 63 k (by omega), unew_s]) (fun c k h1 h2 => by rw [unew_n (by omega), y2 c k h1 h2])
  exact s_u (uc' := 80) (us' := 11002) (by decide) (by decide) (lp_law hst hX hr hN hend 512 0 S0 _ 80 11002 (by omega) (by omega) inv_S0 z1 z2 (by decide) (by decide))
end LL
