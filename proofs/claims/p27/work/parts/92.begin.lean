/-! the law's beginning: two objects (printed by genwhole.py) -/
section BG
variable {K : KX} {E : CE} {b N : Nat} {xs : Nat → Int}
theorem t63_len : (GG.take 63).length = 63 := by decide +kernel
theorem t63_ok : okG (GG.take 63).length (GG.take 63) = true := by decide +kernel
theorem gA_up : (GG.take 63) ++ gA.map (rn (fun r => r + (GG.take 63).length)) = GG.take 63 ++ [(4, 0, List.replicate 6 none)] := by decide +kernel
theorem gg_two : (GG.take 63) ++ (GG.take 63).map (rn (fun r => r + (GG.take 63).length)) = GG := by decide +kernel
theorem c_X2 (hst : K.1.stackTraces = false) {M : AM} {Q : Res → AG → AM → Prop} (hM0 : ∀ k, M 63 k = 0) (hQ : ∀ M', (∀ c, c < 63 → M' c = M c) → RX S0 (sw M') → Q (.inl none) GG M') : MetA K fZ_init [aR 63] (GG.take 63 ++ [(4, 0, List.replicate 6 none)]) M Q := by
  have h := MetA.behind (K := K) (F := fZ_init) (as := [aR 0]) (X := GG.take 63) (G := gA) (M := M) (Q := fun r G' M' => r = .inl none ∧ G' = GG.take 63 ∧ RX S0 M') (Q' := Q) t63_ok (c_X hst (M := fun c => M (c + (GG.take 63).length)) (fun k => by show M (0 + (GG.take 63).length) k = 0; rw [t63_len]; exact hM0 k) (fun M' h => ⟨rfl, rfl, h⟩)) (fun r G' M0 M' q h1 h2 => by
    obtain ⟨rfl, rfl, q⟩ := q
    rw [t63_len] at h1
    have h3 : ∀ c, M' (c + 63) = M0 c := fun c => by
      have := h2 c
      rw [t63_len] at this
      exact this
    show Q (.inl none) (GG.take 63 ++ (GG.take 63).map (rn (fun r => r + (GG.take 63).length))) M'
    rw [gg_two]
    exact hQ M' h1 (q.same (fun c k hc _ => by rw [sw_lo hc, h3])))
  rw [gA_up] at h
  have e : ([aR 0] : List AV).map (pv (fun r => r + (GG.take 63).length)) = [aR 63] := by
    show [aR (0 + (GG.take 63).length)] = [aR 63]
    rw [t63_len]
  rw [e] at h
  exact h
theorem inv3_S0 : Inv3 S0 := ⟨inv_S0, fun v w hv => absurd hv (Nat.not_lt_zero v), fun v hv => absurd hv (Nat.not_lt_zero v), fun j hj => absurd hj (Nat.not_lt_zero j), Int.le_refl _⟩
set_option maxRecDepth 20000 in
theorem lw_begin (hst : K.1.stackTraces = false) (hX : XE E b N xs) (hN : N ≤ 260) (hge : ∀ n, GE E n) (hend : ∀ (L : List (Option AV)) (M : AM) (uc us : Nat), uc ≤ 619158 → us ≤ 7243709 → WM K fL_law E 262 L [aI 1] GG M uc us) {M : AM} : WM K fL_law E 0 [some (aX b), none, none, none, none, none, none] [] [] M 0 0 := by
  refine s_new (ci := 4) (index := 9) ck4 dfl4 g_14 g_15 g_1 (hge _) rfl rfl rfl ⟨by decide, by decide⟩ (by decide +kernel) ?_
  refine s_G (G' := gA) (by decide +kernel) ?_
  refine s_dupR (by decide +kernel) ?_
  refine s_callI (Fc := fZ_init) (index := 113) (r := 0) (c_X hst (M := unew M 0) (fun k => unew_s) (Q := fun r G' M' => r = .inl none ∧ G' = GG.take 63 ∧ RX S0 M') (fun M' h => ⟨rfl, rfl, h⟩)) rfl rfl ⟨g_16, hwd_c rfl g_18, g_1, by decide, by decide +kernel, by decide, by decide, by decide, by decide⟩ g_17 rfl (hge _) rfl (by decide +kernel) (by simp) (by decide +kernel) (fun r G' M1 h => ?_)
  obtain ⟨h0, hG, x1⟩ := h
  subst hG
  refine ⟨h0, ?_⟩
  refine s_astore_n (i := 1) (by decide +kernel) (by decide) ?_
  refine s_new (ci := 4) (index := 9) ck4 dfl4 g_14 g_15 g_1 (hge _) t63_ok (show okL 63 [some (aX b), some (aR 0), none, none, none, none, none] = true from rfl) rfl ⟨by decide, by decide⟩ (by decide +kernel) ?_
  rw [t63_len]
  refine s_dupR (by decide +kernel) ?_
  refine s_callI (Fc := fZ_init) (index := 113) (r := 63) (c_X2 hst (M := unew M1 63) (Q := fun r G' M' => r = .inl none ∧ G' = GG ∧ (∀ c, c < 63 → M' c = unew M1 63 c) ∧ RX S0 (sw M')) (fun k => unew_s) (fun M' h1 h2 => ⟨rfl, rfl, h1, h2⟩)) rfl rfl ⟨g_16, hwd_c rfl g_18, g_1, by decide, by decide +kernel, by decide, by decide, by decide, by decide⟩ g_17 rfl (hge _) (show okL 64 [some (aX b), some (aR 0), none, none, none, none, none] = true from rfl) (by decide +kernel) (by simp) (by decide +kernel) (fun r G' M2 h => ?_)
  obtain ⟨h0, hG, y1, y2⟩ := h
  subst hG
  refine ⟨h0, ?_⟩
  refine s_astore_n (i := 2) (by decide +kernel) (by decide) ?_
  refine s_iconst (n := 0) (by decide +kernel) ?_
  refine s_istore_n (i := 3) (by decide +kernel) (by decide) ?_
  refine s_iconst (n := 0) (by decide +kernel) ?_
  refine s_istore (i := 4) (by decide +kernel) (by decide) ?_
  have z1 : RX S0 M2 := x1.same (fun c k hc _ => by rw [y1 c hc, unew_n (by omega)])
  exact s_u (uc' := 126) (us' := 9964) (by decide) (by decide) (lp_law hst hX hN hend 90 0 S0 M2 126 9964 (by omega) inv3_S0 ⟨z1, y2⟩ (Int.le_refl _) (by decide) (by decide))
end BG
