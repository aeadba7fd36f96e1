/-! the class's constructor -/
theorem dfl0 : dfl 0 tyX0 := by unfold dfl; decide +kernel
theorem dfl1 : dfl 1 tyX1 := by unfold dfl; decide +kernel
theorem dfl2 : dfl 2 tyX2 := by unfold dfl; decide +kernel
theorem dfl3 : dfl 3 tyX3 := by unfold dfl; decide +kernel
theorem dfl4 : dfl 4 tyX4 := by unfold dfl; decide +kernel
def gA : AG := [(4, 0, List.replicate 6 none)]
def gF (v : Nat) : AG := (4, 0, [some 1, some 24, some 29, none, none, none]) :: (GG.drop 1).take 28 ++ [(9, 6, (List.range 6).map (fun u => if u < v then some (30 + 2 * u) else none))] ++ (GG.drop 30).take (2 * v)
def gJ (j : Nat) : AG := GG.take 42 ++ [(10, 20, (List.range 20).map (fun u => if u < j then some (43 + u) else none))] ++ (GG.drop 43).take j
def gT0 : AG := (4, 0, [some 1, none, none, none, none, none]) :: gP1.drop 1
def XF (n : Nat) (M : AM) : Prop := (∀ k, M 0 k = 0) ∧ (∀ k, M 1 k = 0) ∧ (∀ k, M 23 k = 0) ∧ PX M D0 ∧ ∀ u k, u < n → M (30 + 2 * u) k = if k = 7 then -1 else 0
theorem XF.of {n : Nat} {M M' : AM} (h : XF n M) (hh : ∀ c k, (c < 24 ∨ (30 ≤ c ∧ c < 30 + 2 * n)) → M' c k = M c k) : XF n M' := ⟨fun k => (hh _ _ (by omega)).trans (h.1 k), fun k => (hh _ _ (by omega)).trans (h.2.1 k), fun k => (hh _ _ (by omega)).trans (h.2.2.1 k), fun i j hi hj => (hh _ _ (by omega)).trans (h.2.2.2.1 i j hi hj), fun u k hu => (hh _ _ (by omega)).trans (h.2.2.2.2 u k hu)⟩
def JF (n : Nat) (M : AM) : Prop := XF 6 M ∧ ∀ u k, u < n → M (43 + u) k = if k = 2 then -1 else 0
def S0 : SS := mkS D0 (fun _ => false) 0 0 (fun _ => 0) (fun _ => 0) (fun _ => 0) (fun _ _ => 0) (fun _ => 0) (fun _ => none) 0 (fun _ => 0) (fun _ => 0) (fun _ => -1)
theorem JF.rx {M : AM} (h : JF 20 M) : RX S0 M := by
  obtain ⟨⟨h1, h2, h3, h4, h5⟩, h6⟩ := h
  refine ⟨h4, h2 2, fun z _ => h3 z, ⟨h1 4, fun v hv => ⟨?_, ?_, 0, ?_, ?_, Nat.zero_le _, fun k hk => absurd hk (Nat.not_lt_zero k)⟩⟩, fun v hv => ⟨?_, ?_, ?_⟩, h1 5, fun j hj => ⟨?_, ?_, ?_⟩⟩
  · rw [h5 v _ hv]; rfl
  · rw [h5 v _ hv]; rfl
  · rw [h5 v _ hv]; rfl
  · rw [h5 v _ hv]; rfl
  · rw [h5 v _ hv]; rfl
  · rw [h5 v _ hv]; rfl
  · rw [h5 v _ hv]; rfl
  · rw [h6 j _ hj]; rfl
  · rw [h6 j _ hj]; rfl
  · rw [h6 j _ hj]; rfl
theorem gf_len : ∀ v, v < 6 → (gF v).length = 30 + 2 * v := by decide +kernel
theorem gf_ok : ∀ v, v < 6 → okG (gF v).length (gF v) = true := by decide +kernel
theorem gf_ok2 : ∀ v, v < 6 → okG (gF v ++ [(3, 0, List.replicate 8 none)]).length (gF v ++ [(3, 0, List.replicate 8 none)]) = true := by decide +kernel
theorem gf_at : ∀ v, v < 6 → (gF v ++ [(3, 0, List.replicate 8 none)])[30 + 2 * v]? = some (3, 0, List.replicate 8 none) := by decide +kernel
theorem gf_x : ∀ v, v < 7 → (gF v)[0]? = some (4, 0, [some 1, some 24, some 29, none, none, none]) := by decide +kernel
theorem gf_l2 : ∀ v, v < 6 → (gF v ++ [(3, 0, List.replicate 8 none)]).length = 31 + 2 * v := by decide +kernel
def gV (v : Nat) : AG := ((gF v ++ [(3, 0, List.replicate 8 none)]) ++ [(6, 20, [])]).set (30 + 2 * v) (3, 0, (List.replicate 8 none).set 0 (some (31 + 2 * v)))
theorem gf_newc : ∀ v, v < 6 → newC (gF v ++ [(3, 0, List.replicate 8 none)]) (30 + 2 * v) 3 (List.replicate 8 none) 0 (6, 20, []) = gV v := by decide +kernel
theorem gf_fleet : ∀ v, v < 6 → (gV v)[29]? = some (9, 6, (List.range 6).map (fun u => if u < v then some (30 + 2 * u) else none)) := by decide +kernel
theorem gf_veh : ∀ v, v < 6 → (gV v)[30 + 2 * v]? = some (3, 0, (List.replicate 8 none).set 0 (some (31 + 2 * v))) := by decide +kernel
theorem gf_next : ∀ v, v < 6 → (gV v).set 29 (9, 6, ((List.range 6).map (fun u => if u < v then some (30 + 2 * u) else none)).set v (some (30 + 2 * v))) = gF (v + 1) := by decide +kernel
theorem gj_len : ∀ j, j < 20 → (gJ j).length = 43 + j := by decide +kernel
theorem gj_ok : ∀ j, j < 20 → okG (gJ j).length (gJ j) = true := by decide +kernel
theorem gj_x : ∀ j, j < 21 → (gJ j)[0]? = some (4, 0, [some 1, some 24, some 29, some 42, none, none]) := by decide +kernel
theorem gj_at : ∀ j, j < 20 → (gJ j ++ [(0, 0, List.replicate 3 none)])[43 + j]? = some (0, 0, [none, none, none]) := by decide +kernel
theorem gj_jobs : ∀ j, j < 20 → (gJ j ++ [(0, 0, List.replicate 3 none)])[42]? = some (10, 20, (List.range 20).map (fun u => if u < j then some (43 + u) else none)) := by decide +kernel
theorem gj_next : ∀ j, j < 20 → (gJ j ++ [(0, 0, List.replicate 3 none)]).set 42 (10, 20, ((List.range 20).map (fun u => if u < j then some (43 + u) else none)).set j (some (43 + j))) = gJ (j + 1) := by decide +kernel
theorem gj_end : gJ 20 = GG.take 63 := by decide +kernel
section CXX
variable {K : KX} {Q : Res → AG → AM → Prop}
theorem s_u {F : Fn} {E : CE} {pc : Nat} {L : List (Option AV)} {st : List AV} {G : AG} {M : AM} {uc us uc' us' : Nat} (h : uc = uc') (h2 : us = us') (k : WM K F E pc L st G M uc' us') : WM K F E pc L st G M uc us := by rw [h, h2]; exact k
set_option maxRecDepth 20000 in
theorem lp_xj (hst : K.1.stackTraces = false) (hQ : ∀ M', RX S0 M' → Q (.inl none) (GG.take 63) M') :
    ∀ (d j : Nat) (M : AM), j + d = 20 → JF j M → WM K fZ_init (EM K fZ_init 1 Q) 73 [some (aR 0), some (aI j)] [] (gJ j) M (42 + j) (4902 + 3 * j) := by
  intro d
  induction d with
  | zero =>
    intro j M hj hF
    have : j = 20 := by omega
    subst this
    refine s_iload_n (i := 1) (by decide +kernel) rfl ?_
    refine s_bipush (n := 20) (by decide +kernel) (by decide +kernel) ?_
    refine s_icmp_ge (off := 22) (tgt := 98) (by decide +kernel) (by decide) (fun c => ?_) (fun c => absurd ?_ c)
    · refine s_vret rfl (by decide +kernel) (by decide) (by decide) ?_
      rw [gj_end]
      exact hQ M hF.rx
    · rw [wr_20]; exact Int.le_refl _
  | succ d ih =>
    intro j M hj hF
    have hj20 : j < 20 := by omega
    refine s_iload_n (i := 1) (by decide +kernel) rfl ?_
    refine s_bipush (n := 20) (by decide +kernel) (by decide +kernel) ?_
    refine s_icmp_ge (off := 22) (tgt := 98) (by decide +kernel) (by decide) (fun c => ?_) (fun c => ?_)
    · rw [wr_20, wrn (by omega)] at c; omega
    · refine s_aload_n (i := 0) (by decide +kernel) rfl ?_
      refine s_getR (ci := 4) (k := 3) (index := 32) (r2 := 42) ck4 (gj_x j (by omega)) rfl (by decide) rfl (by decide +kernel) g_129 ?_
      refine s_iload_n (i := 1) (by decide +kernel) rfl ?_
      refine s_new (ci := 0) (index := 30) ck0 dfl0 g_107 g_109 g_5 (ge_EM (by rw [gj_len j hj20]; omega) rfl) (gj_ok j hj20) (by rw [gj_len j hj20]; simp [okL, okV] <;> omega) (by rw [gj_len j hj20]; simp [okV] <;> omega) (by show 42 + j + 1 ≤ 62 ∧ 4902 + 3 * j + 3 ≤ 4976; omega) (by decide +kernel) ?_
      rw [gj_len j hj20]
      refine s_dupR (by decide +kernel) ?_
      refine s_callIN (index := 36) (Fc := fJ_init) (c_J hst (gj_at j hj20) (Q := fun r G' M' => r = .inl none ∧ G' = gJ j ++ [(0, 0, List.replicate 3 none)] ∧ M' = um (um (unew M (43 + j)) (43 + j) 1 0) (43 + j) 2 (-1)) ⟨rfl, rfl, rfl⟩) rfl rfl rfl (by decide) ⟨hwd_c rfl g_112, g_5, by decide, by decide +kernel, by decide, by decide, by show 42 + j + 1 + 0 ≤ 62; omega, by show 4902 + 3 * j + 3 + 0 ≤ 4976; omega⟩ g_111 rfl (ge_EM (by simp) rfl) (by rw [List.length_append, gj_len j hj20]; simp [okL, okV] <;> omega) (by rw [List.length_append, gj_len j hj20]; simp [okV] <;> omega) (by simp) (by decide +kernel) (fun r G' M' h => ?_)
      obtain ⟨h0, hG, hM⟩ := h
      subst hG; subst hM
      refine ⟨h0, ?_⟩
      refine s_aastJ (j := j) (gj_jobs j hj20) (gj_at j hj20) (wrn (by omega)) hj20 (by simp; omega) (by decide +kernel) ?_
      refine s_G (gj_next j hj20) ?_
      refine s_iinc (i := 1) (n := 1) (by decide +kernel) rfl (by decide) ?_
      refine s_goto (off := -22) (tgt := 73) (by decide +kernel) (by decide) ?_
      refine s_u (uc' := 42 + (j + 1)) (us' := 4902 + 3 * (j + 1)) (by show 42 + j + 1 + 0 = _; omega) (by show 4902 + 3 * j + 3 + 0 = _; omega) (ih (j + 1) _ (by omega) ⟨hF.1.of (fun c k hc => ?_), fun u k hu => ?_⟩)
      · rw [um_ne (by omega), um_ne (by omega), unew_n (by omega)]
      · by_cases e : u = j
        · subst e
          by_cases e2 : k = 2
          · subst e2; rw [um_self, if_pos rfl]
          · rw [um_ne2 e2, if_neg e2]
            by_cases e3 : k = 1
            · subst e3; rw [um_self]
            · rw [um_ne2 e3, unew_s]
        · rw [um_ne (by omega), um_ne (by omega), unew_n (by omega)]
          exact hF.2 u k (by omega)
set_option maxRecDepth 20000 in
theorem lp_xv (hst : K.1.stackTraces = false) (hQ : ∀ M', XF 6 M' → WM K fZ_init (EM K fZ_init 1 Q) 62 [some (aR 0), none] [] (gF 6) M' 41 4882) :
    ∀ (d v : Nat) (M : AM), v + d = 6 → XF v M → WM K fZ_init (EM K fZ_init 1 Q) 37 [some (aR 0), some (aI v)] [] (gF v) M (29 + 2 * v) (2434 + 408 * v) := by
  intro d
  induction d with
  | zero =>
    intro v M hv hF
    have : v = 6 := by omega
    subst this
    refine s_iload_n (i := 1) (by decide +kernel) rfl ?_
    refine s_bipush (n := 6) (by decide +kernel) (by decide +kernel) ?_
    refine s_icmp_ge (off := 22) (tgt := 62) (by decide +kernel) (by decide) (fun c => ?_) (fun c => absurd ?_ c)
    · exact s_loc (L' := [some (aR 0), none]) (ll_s (ll_n ll_nil)) (hQ M hF)
    · rw [wr_6]; exact Int.le_refl _
  | succ d ih =>
    intro v M hv hF
    have hv6 : v < 6 := by omega
    refine s_iload_n (i := 1) (by decide +kernel) rfl ?_
    refine s_bipush (n := 6) (by decide +kernel) (by decide +kernel) ?_
    refine s_icmp_ge (off := 22) (tgt := 62) (by decide +kernel) (by decide) (fun c => ?_) (fun c => ?_)
    · rw [wr_6, wrn (by omega)] at c; omega
    · refine s_aload_n (i := 0) (by decide +kernel) rfl ?_
      refine s_getR (ci := 4) (k := 2) (index := 25) (r2 := 29) ck4 (gf_x v (by omega)) rfl (by decide) rfl (by decide +kernel) g_128 ?_
      refine s_iload_n (i := 1) (by decide +kernel) rfl ?_
      refine s_new (ci := 3) (index := 23) ck3 dfl3 g_69 g_71 g_4 (ge_EM (by rw [gf_len v hv6]; omega) rfl) (gf_ok v hv6) (by rw [gf_len v hv6]; simp [okL, okV] <;> omega) (by rw [gf_len v hv6]; simp [okV] <;> omega) (by show 29 + 2 * v + 1 ≤ 62 ∧ 2434 + 408 * v + 8 ≤ 4976; omega) (by decide +kernel) ?_
      rw [gf_len v hv6]
      refine s_G (G' := gF v ++ [(3, 0, List.replicate 8 none)]) rfl ?_
      refine s_dupR (by decide +kernel) ?_
      refine s_callIN (index := 29) (Fc := fV_init) (c_V hst (gf_at v hv6) (gf_ok2 v hv6) (Q := fun r G' M' => r = .inl none ∧ G' = gV v ∧ M' = um (unew (unew M (30 + 2 * v)) (31 + 2 * v)) (30 + 2 * v) 7 (-1)) ⟨rfl, gf_newc v hv6, by rw [gf_l2 v hv6]⟩) rfl rfl rfl (by decide) ⟨hwd_c rfl g_74, g_4, by decide, by decide +kernel, by decide, by decide, by show 29 + 2 * v + 1 + 1 ≤ 62; omega, by show 2434 + 408 * v + 8 + 400 ≤ 4976; omega⟩ g_73 rfl (ge_EM (by simp) rfl) (by rw [gf_l2 v hv6]; simp [okL, okV] <;> omega) (by rw [gf_l2 v hv6]; simp [okV] <;> omega) (by simp) (by decide +kernel) (fun r G' M' h => ?_)
      obtain ⟨h0, hG, hM⟩ := h
      subst hG; subst hM
      refine ⟨h0, ?_⟩
      refine s_aastV (j := v) (gf_fleet v hv6) (gf_veh v hv6) (wrn (by omega)) hv6 (by simp; omega) (by decide +kernel) ?_
      refine s_G (gf_next v hv6) ?_
      refine s_iinc (i := 1) (n := 1) (by decide +kernel) rfl (by decide) ?_
      refine s_goto (off := -22) (tgt := 37) (by decide +kernel) (by decide) ?_
      refine s_u (uc' := 29 + 2 * (v + 1)) (us' := 2434 + 408 * (v + 1)) (by show 29 + 2 * v + 1 + 1 = _; omega) (by show 2434 + 408 * v + 8 + 400 = _; omega) (ih (v + 1) _ (by omega) ⟨fun k => ?_, fun k => ?_, fun k => ?_, fun i j hi hj => ?_, fun u k hu => ?_⟩)
      · rw [um_ne (by omega), unew_n (by omega), unew_n (by omega)]; exact hF.1 k
      · rw [um_ne (by omega), unew_n (by omega), unew_n (by omega)]; exact hF.2.1 k
      · rw [um_ne (by omega), unew_n (by omega), unew_n (by omega)]; exact hF.2.2.1 k
      · rw [um_ne (by omega), unew_n (by omega), unew_n (by omega)]; exact hF.2.2.2.1 i j hi hj
      · by_cases e : u = v
        · subst e
          by_cases e2 : k = 7
          · subst e2; rw [um_self, if_pos rfl]
          · rw [um_ne2 e2, if_neg e2, unew_n (by omega), unew_s]
        · rw [um_ne (by omega), unew_n (by omega), unew_n (by omega)]
          exact hF.2.2.2.2 u k (by omega)
def gT1 : AG := newC (newC (newC (newC (gT0 ++ [(2, 0, List.replicate 5 none)]) 24 2 (List.replicate 5 none) 0 (6, 6, [])) 24 2 [some 25, none, none, none, none] 1 (6, 6, [])) 24 2 [some 25, some 26, none, none, none] 2 (6, 6, [])) 24 2 [some 25, some 26, some 27, none, none] 3 (6, 64, [])
theorem gt1_eq : (gT1.set 0 (4, 0, [some 1, some 24, none, none, none, none]) ++ [(9, 6, List.replicate 6 none)]).set 0 (4, 0, [some 1, some 24, some 29, none, none, none]) = gF 0 := by decide +kernel
theorem gf6_eq : ((gF 6) ++ [(10, 20, List.replicate 20 none)]).set 0 (4, 0, [some 1, some 24, some 29, some 42, none, none]) = gJ 0 := by decide +kernel
set_option maxRecDepth 20000 in
theorem c_X (hst : K.1.stackTraces = false) {M : AM} (hM0 : ∀ k, M 0 k = 0) (hQ : ∀ M', RX S0 M' → Q (.inl none) (GG.take 63) M') : MetA K fZ_init [aR 0] gA M Q := by
  refine met_of hst (by decide +kernel) rfl rfl (Nat.le_of_ble_eq_true rfl) ?_
  show WM K fZ_init (EM K fZ_init 1 Q) 0 [some (aR 0), none] [] gA M 0 0
  refine s_aload_n (i := 0) (by decide +kernel) rfl ?_
  refine s_obj (index := 1) g_19 g_20 g_21 (Nat.zero_le _) ⟨by decide, by decide⟩ (by decide +kernel) ?_
  refine s_aload_n (i := 0) (by decide +kernel) rfl ?_
  refine s_new (ci := 1) (index := 7) ck1 dfl1 g_22 g_23 g_2 (ge_EM (by decide) rfl) (by decide +kernel) (by decide +kernel) (by decide +kernel) ⟨by decide, by decide⟩ (by decide +kernel) ?_
  refine s_G (G' := gP0) (by decide +kernel) ?_
  refine s_dupR (by decide +kernel) ?_
  refine s_callI (Fc := fP_init) (c_P hst (Q := fun r G' M' => r = .inl none ∧ G' = gP1 ∧ (∀ k, M' 0 k = 0) ∧ (∀ k, M' 1 k = 0) ∧ (∀ k, M' 23 k = 0) ∧ PX M' D0) (fun M' h1 h2 h3 h4 => ⟨rfl, rfl, fun k => (h1 k).trans (hM0 k), fun k => (h2 k).trans rfl, h3, h4⟩)) rfl rfl ⟨g_24, hwd_c rfl g_26, g_2, by decide, by decide +kernel, by decide, by decide, by decide, by decide⟩ g_25 rfl (ge_EM (by decide) rfl) (by decide +kernel) (by decide +kernel) (by simp) (by decide +kernel) (fun r G' M1 h => ?_)
  obtain ⟨h0, hG, x1, x2, x3, x4⟩ := h
  subst hG
  refine ⟨h0, ?_⟩
  refine s_putRF (ci := 4) (k := 0) (index := 10) (len := 0) (rs := List.replicate 6 none) ck4 rfl (by decide) rfl (by decide) (fun _ => ⟨rfl, rfl⟩) rfl rfl rfl (by decide +kernel) g_126 ?_
  refine s_G (G' := gT0) (by decide +kernel) ?_
  refine s_aload_n (i := 0) (by decide +kernel) rfl ?_
  refine s_new (ci := 2) (index := 16) ck2 dfl2 g_46 g_47 g_3 (ge_EM (by decide +kernel) rfl) (by decide +kernel) (by decide +kernel) (by decide +kernel) ⟨by decide, by decide⟩ (by decide +kernel) ?_
  refine s_dupR (by decide +kernel) ?_
  refine s_callIN (index := 18) (r := 24) (Fc := fT_init) (c_T hst (r := 24) (by decide +kernel) (by decide +kernel) (Q := fun r G' M' => r = .inl none ∧ G' = gT1 ∧ XF 0 M') ⟨rfl, by decide +kernel, ?_⟩) rfl rfl rfl (by decide) ⟨hwd_c rfl g_50, g_3, by decide, by decide +kernel, by decide, by decide, by decide, by decide⟩ g_49 rfl (ge_EM (by decide +kernel) rfl) (by decide +kernel) (by decide +kernel) (by simp) (by decide +kernel) (fun r G' M2 h => ?_)
  · refine XF.of (M := M1) ⟨x1, x2, x3, x4, fun u k hu => absurd hu (Nat.not_lt_zero u)⟩ (fun c k hc => ?_)
    rw [unew_n, unew_n, unew_n, unew_n, unew_n]
    · exact fun e => by have : c = 24 := e.trans (by decide +kernel); omega
    · exact fun e => by have : c = 25 := e.trans (by decide +kernel); omega
    · exact fun e => by have : c = 26 := e.trans (by decide +kernel); omega
    · exact fun e => by have : c = 27 := e.trans (by decide +kernel); omega
    · exact fun e => by have : c = 28 := e.trans (by decide +kernel); omega
  · obtain ⟨h0, hG, hX⟩ := h
    subst hG
    refine ⟨h0, ?_⟩
    refine s_putRF (r2 := 24) (ci := 4) (k := 1) (index := 19) (len := 0) (rs := [some 1, none, none, none, none, none]) ck4 (by decide +kernel) (by decide) rfl (by decide) (fun _ => ⟨rfl, rfl⟩) rfl rfl rfl (by decide +kernel) g_127 ?_
    refine s_aload_n (i := 0) (by decide +kernel) rfl ?_
    refine s_bipush (n := 6) (by decide +kernel) (by decide +kernel) ?_
    refine s_newV (j := 6) (index := 23) g_69 (wr_lit 6 (by decide)) (by omega) (ge_EM (by decide +kernel) rfl) (by decide +kernel) (by decide +kernel) (by decide +kernel) ⟨by decide, by decide⟩ (by decide +kernel) ?_
    refine s_putRF (ci := 4) (k := 2) (index := 25) (len := 0) (rs := [some 1, some 24, none, none, none, none]) ck4 (by decide +kernel) (by decide) rfl (by decide) (fun _ => ⟨rfl, rfl⟩) rfl rfl rfl (by decide +kernel) g_128 ?_
    refine s_G (G' := gF 0) (by decide +kernel) ?_
    refine s_iconst (n := 0) (by decide +kernel) ?_
    refine s_istore_n (i := 1) (by decide +kernel) (by decide) ?_
    refine s_u (uc' := 29 + 2 * 0) (us' := 2434 + 408 * 0) (by decide) (by decide) (lp_xv hst (fun M3 hX3 => ?_) 6 0 _ (by omega) (hX.of (fun c k hc => unew_n (fun e => by have : c = 29 := e.trans (by decide +kernel); omega))))
    refine s_aload_n (i := 0) (by decide +kernel) rfl ?_
    refine s_bipush (n := 20) (by decide +kernel) (by decide +kernel) ?_
    refine s_newJ (j := 20) (index := 30) g_107 (wr_lit 20 (by decide)) (by omega) (ge_EM (by decide +kernel) rfl) (by decide +kernel) (by decide +kernel) (by decide +kernel) ⟨by decide, by decide⟩ (by decide +kernel) ?_
    refine s_putRF (ci := 4) (k := 3) (index := 32) (len := 0) (rs := [some 1, some 24, some 29, none, none, none]) ck4 (by decide +kernel) (by decide) rfl (by decide) (fun _ => ⟨rfl, rfl⟩) rfl rfl rfl (by decide +kernel) g_129 ?_
    refine s_G (G' := gJ 0) (by decide +kernel) ?_
    refine s_iconst (n := 0) (by decide +kernel) ?_
    refine s_istore_n (i := 1) (by decide +kernel) (by decide) ?_
    refine s_u (uc' := 42 + 0) (us' := 4902 + 3 * 0) (by decide) (by decide) (lp_xj hst hQ 20 0 _ (by omega) ⟨hX3.of (fun c k hc => unew_n (fun e => by have : c = 42 := e.trans (by decide +kernel); omega)), fun u k hu => absurd hu (Nat.not_lt_zero u)⟩)
end CXX
