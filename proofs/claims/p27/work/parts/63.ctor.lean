/-! constructors -/
abbrev newC (G : AG) (r ci : Nat) (rs : List (Option Nat)) (k : Nat) (g : Nat × Nat × List (Option Nat)) : AG := (G ++ [g]).set r (ci, 0, rs.set k (some G.length))
theorem newC_len {G : AG} {r ci k : Nat} {rs : List (Option Nat)} {g : Nat × Nat × List (Option Nat)} : (newC G r ci rs k g).length = G.length + 1 := by simp
theorem newC_at {G : AG} {r ci k : Nat} {rs : List (Option Nat)} {g : Nat × Nat × List (Option Nat)} (hr : r < G.length) : (newC G r ci rs k g)[r]? = some (ci, 0, rs.set k (some G.length)) := List.getElem?_set_self (by simp; omega)
theorem okO_le {n n2 : Nat} (h : n ≤ n2) {o : Option Nat} (ho : okO n o = true) : okO n2 o = true := by
  cases o with
  | none => rfl
  | some r => exact decide_eq_true (Nat.lt_of_lt_of_le (of_decide_eq_true ho) h)
theorem okG_at {n : Nat} {G : AG} (h : okG n G = true) {r : Nat} {g : Nat × Nat × List (Option Nat)} (hg : G[r]? = some g) : g.2.2.all (okO n) = true := List.all_eq_true.mp h g (List.mem_of_getElem? hg)
theorem newC_ok {G : AG} {r ci k : Nat} {rs : List (Option Nat)} {g : Nat × Nat × List (Option Nat)} (hok : okG G.length G = true) (hg : G[r]? = some (ci, 0, rs)) (hn : g.2.2 = []) : okG (newC G r ci rs k g).length (newC G r ci rs k g) = true := by
  rw [newC_len]
  refine List.all_eq_true.mpr (fun x hx => List.all_eq_true.mpr (fun o ho => ?_))
  obtain ⟨i, hi⟩ := List.getElem?_of_mem hx
  by_cases e : r = i
  · subst e
    have hrl : r < G.length := (List.getElem?_eq_some_iff.mp hg).1
    rw [newC_at hrl] at hi
    cases hi
    rcases List.mem_or_eq_of_mem_set ho with h | h
    · exact okO_le (Nat.le_succ _) (List.all_eq_true.mp (okG_at hok hg) o h)
    · subst h
      exact decide_eq_true (Nat.lt_succ_self _)
  · rw [List.getElem?_set_ne e] at hi
    by_cases hl : i < G.length
    · rw [List.getElem?_append_left hl] at hi
      exact okO_le (Nat.le_succ _) (List.all_eq_true.mp (okG_at hok hi) o ho)
    · rw [List.getElem?_append_right (by omega)] at hi
      have h1 : i - G.length < 1 := (List.getElem?_eq_some_iff.mp hi).1
      rw [show i - G.length = 0 by omega] at hi
      cases hi
      rw [hn] at ho
      cases ho
theorem app_at {G : AG} {r : Nat} {g g2 : Nat × Nat × List (Option Nat)} (h : G[r]? = some g) : (G ++ [g2])[r]? = some g := by
  rw [List.getElem?_append_left (List.getElem?_eq_some_iff.mp h).1]
  exact h
theorem rty_a {t : FieldType} (h : ∃ u, t = .array u) : ∀ a, narrow t (.ref a) = .ref a ∧ fits t (.ref a) = true := by
  obtain ⟨u, rfl⟩ := h
  exact fun a => ⟨rfl, rfl⟩
section CT
variable {K : KX} {Q : Res → AG → AM → Prop} {G : AG} {M : AM} {r : Nat}
set_option maxRecDepth 20000 in
theorem c_J (hst : K.1.stackTraces = false) (hg : G[r]? = some (0, 0, [none, none, none])) (hQ : Q (.inl none) G (um (um M r 1 0) r 2 (-1))) : MetA K fJ_init [aR r] G M Q := by
  refine met_of hst (by decide +kernel) rfl rfl (Nat.le_of_ble_eq_true rfl) ?_
  show WM K fJ_init (EM K fJ_init G.length Q) 0 [some (aR r)] [] G M 0 0
  refine s_aload_n (i := 0) (by decide +kernel) rfl ?_
  refine s_obj (index := 3) g_113 g_20 g_21 (Nat.zero_le _) ⟨by decide, by decide⟩ (by decide +kernel) ?_
  refine s_aload_n (i := 0) (by decide +kernel) rfl ?_
  refine s_iconst (n := 0) (by decide +kernel) ?_
  refine s_putI (ci := 0) (k := 1) (index := 9) ck0 hg (by decide) rfl rfl rfl (by decide +kernel) g_115 ?_
  refine s_aload_n (i := 0) (by decide +kernel) rfl ?_
  refine s_iconst (n := -1) (by decide +kernel) ?_
  refine s_putI (ci := 0) (k := 2) (index := 15) ck0 hg (by decide) rfl rfl rfl (by decide +kernel) g_117 ?_
  exact s_vret rfl (by decide +kernel) (by decide) (by decide) hQ
set_option maxRecDepth 20000 in
theorem c_V (hst : K.1.stackTraces = false) (hg : G[r]? = some (3, 0, List.replicate 8 none)) (hok : okG G.length G = true)
    (hQ : Q (.inl none) (newC G r 3 (List.replicate 8 none) 0 (6, 20, [])) (um (unew M G.length) r 7 (-1))) : MetA K fV_init [aR r] G M Q := by
  have hr : r < G.length := (List.getElem?_eq_some_iff.mp hg).1
  refine met_of hst (by decide +kernel) rfl rfl (Nat.le_of_ble_eq_true rfl) ?_
  show WM K fV_init (EM K fV_init G.length Q) 0 [some (aR r)] [] G M 0 0
  refine s_aload_n (i := 0) (by decide +kernel) rfl ?_
  refine s_obj (index := 3) g_75 g_20 g_21 (Nat.zero_le _) ⟨by decide, by decide⟩ (by decide +kernel) ?_
  refine s_aload_n (i := 0) (by decide +kernel) rfl ?_
  refine s_bipush (n := 20) (by decide +kernel) (by decide +kernel) ?_
  refine s_newi (atype := .int) (j := 20) rfl g_44 (wr_lit 20 (by decide)) (by omega) (ge_EM (by omega) rfl) hok (by simp [okL, okV]; omega) (by simp [okV]; omega) ⟨by decide, by decide⟩ (by decide +kernel) ?_
  refine s_putRF (ci := 3) (k := 0) (index := 9) ck3 (app_at hg) (by decide) rfl (by simp) (rty_a ⟨_, rfl⟩) rfl rfl rfl (by decide +kernel) g_76 ?_
  show WM K fV_init (EM K fV_init G.length Q) _ _ _ (newC G r 3 (List.replicate 8 none) 0 (6, 20, [])) _ _ _
  have o1 := newC_ok (k := 0) (g := (6, 20, [])) hok hg rfl
  have a1 := newC_at (ci := 3) (k := 0) (rs := (List.replicate 8 none)) (g := (6, 20, [])) (show r < G.length by omega)
  have l1 : (newC G r 3 (List.replicate 8 none) 0 (6, 20, [])).length = G.length + 1 := by rw [newC_len]
  refine s_aload_n (i := 0) (by decide +kernel) rfl ?_
  refine s_iconst (n := -1) (by decide +kernel) ?_
  refine s_putI (ci := 3) (k := 7) (index := 15) ck3 a1 (by decide) rfl rfl rfl (by decide +kernel) g_88 ?_
  exact s_vret rfl (by decide +kernel) (by decide) (by decide) hQ
set_option maxRecDepth 20000 in
theorem c_T (hst : K.1.stackTraces = false) (hg : G[r]? = some (2, 0, List.replicate 5 none)) (hok : okG G.length G = true)
    (hQ : Q (.inl none) (newC (newC (newC (newC G r 2 (List.replicate 5 none) 0 (6, 6, [])) r 2 ((List.replicate 5 none).set 0 (some G.length)) 1 (6, 6, [])) r 2 (((List.replicate 5 none).set 0 (some G.length)).set 1 (some (newC G r 2 (List.replicate 5 none) 0 (6, 6, [])).length)) 2 (6, 6, [])) r 2 ((((List.replicate 5 none).set 0 (some G.length)).set 1 (some (newC G r 2 (List.replicate 5 none) 0 (6, 6, [])).length)).set 2 (some (newC (newC G r 2 (List.replicate 5 none) 0 (6, 6, [])) r 2 ((List.replicate 5 none).set 0 (some G.length)) 1 (6, 6, [])).length)) 3 (6, 64, [])) (unew (unew (unew (unew M G.length) (newC G r 2 (List.replicate 5 none) 0 (6, 6, [])).length) (newC (newC G r 2 (List.replicate 5 none) 0 (6, 6, [])) r 2 ((List.replicate 5 none).set 0 (some G.length)) 1 (6, 6, [])).length) (newC (newC (newC G r 2 (List.replicate 5 none) 0 (6, 6, [])) r 2 ((List.replicate 5 none).set 0 (some G.length)) 1 (6, 6, [])) r 2 (((List.replicate 5 none).set 0 (some G.length)).set 1 (some (newC G r 2 (List.replicate 5 none) 0 (6, 6, [])).length)) 2 (6, 6, [])).length)) : MetA K fT_init [aR r] G M Q := by
  have hr : r < G.length := (List.getElem?_eq_some_iff.mp hg).1
  refine met_of hst (by decide +kernel) rfl rfl (Nat.le_of_ble_eq_true rfl) ?_
  show WM K fT_init (EM K fT_init G.length Q) 0 [some (aR r)] [] G M 0 0
  refine s_aload_n (i := 0) (by decide +kernel) rfl ?_
  refine s_obj (index := 3) g_51 g_20 g_21 (Nat.zero_le _) ⟨by decide, by decide⟩ (by decide +kernel) ?_
  refine s_aload_n (i := 0) (by decide +kernel) rfl ?_
  refine s_bipush (n := 6) (by decide +kernel) (by decide +kernel) ?_
  refine s_newi (atype := .int) (j := 6) rfl g_44 (wr_lit 6 (by decide)) (by omega) (ge_EM (by omega) rfl) hok (by simp [okL, okV]; omega) (by simp [okV]; omega) ⟨by decide, by decide⟩ (by decide +kernel) ?_
  refine s_putRF (ci := 2) (k := 0) (index := 9) ck2 (app_at hg) (by decide) rfl (by simp) (rty_a ⟨_, rfl⟩) rfl rfl rfl (by decide +kernel) g_52 ?_
  show WM K fT_init (EM K fT_init G.length Q) _ _ _ (newC G r 2 (List.replicate 5 none) 0 (6, 6, [])) _ _ _
  have o1 := newC_ok (k := 0) (g := (6, 6, [])) hok hg rfl
  have a1 := newC_at (ci := 2) (k := 0) (rs := (List.replicate 5 none)) (g := (6, 6, [])) (show r < G.length by omega)
  have l1 : (newC G r 2 (List.replicate 5 none) 0 (6, 6, [])).length = G.length + 1 := by rw [newC_len]
  refine s_aload_n (i := 0) (by decide +kernel) rfl ?_
  refine s_bipush (n := 6) (by decide +kernel) (by decide +kernel) ?_
  refine s_newi (atype := .int) (j := 6) rfl g_44 (wr_lit 6 (by decide)) (by omega) (ge_EM (by omega) rfl) o1 (by simp [okL, okV]; omega) (by simp [okV]; omega) ⟨by decide, by decide⟩ (by decide +kernel) ?_
  refine s_putRF (ci := 2) (k := 1) (index := 15) ck2 (app_at a1) (by decide) rfl (by simp) (rty_a ⟨_, rfl⟩) rfl rfl rfl (by decide +kernel) g_53 ?_
  show WM K fT_init (EM K fT_init G.length Q) _ _ _ (newC (newC G r 2 (List.replicate 5 none) 0 (6, 6, [])) r 2 ((List.replicate 5 none).set 0 (some G.length)) 1 (6, 6, [])) _ _ _
  have o2 := newC_ok (k := 1) (g := (6, 6, [])) o1 a1 rfl
  have a2 := newC_at (ci := 2) (k := 1) (rs := ((List.replicate 5 none).set 0 (some G.length))) (g := (6, 6, [])) (show r < (newC G r 2 (List.replicate 5 none) 0 (6, 6, [])).length by omega)
  have l2 : (newC (newC G r 2 (List.replicate 5 none) 0 (6, 6, [])) r 2 ((List.replicate 5 none).set 0 (some G.length)) 1 (6, 6, [])).length = G.length + 2 := by rw [newC_len]; omega
  refine s_aload_n (i := 0) (by decide +kernel) rfl ?_
  refine s_bipush (n := 6) (by decide +kernel) (by decide +kernel) ?_
  refine s_newi (atype := .int) (j := 6) rfl g_44 (wr_lit 6 (by decide)) (by omega) (ge_EM (by omega) rfl) o2 (by simp [okL, okV]; omega) (by simp [okV]; omega) ⟨by decide, by decide⟩ (by decide +kernel) ?_
  refine s_putRF (ci := 2) (k := 2) (index := 18) ck2 (app_at a2) (by decide) rfl (by simp) (rty_a ⟨_, rfl⟩) rfl rfl rfl (by decide +kernel) g_54 ?_
  show WM K fT_init (EM K fT_init G.length Q) _ _ _ (newC (newC (newC G r 2 (List.replicate 5 none) 0 (6, 6, [])) r 2 ((List.replicate 5 none).set 0 (some G.length)) 1 (6, 6, [])) r 2 (((List.replicate 5 none).set 0 (some G.length)).set 1 (some (newC G r 2 (List.replicate 5 none) 0 (6, 6, [])).length)) 2 (6, 6, [])) _ _ _
  have o3 := newC_ok (k := 2) (g := (6, 6, [])) o2 a2 rfl
  have a3 := newC_at (ci := 2) (k := 2) (rs := (((List.replicate 5 none).set 0 (some G.length)).set 1 (some (newC G r 2 (List.replicate 5 none) 0 (6, 6, [])).length))) (g := (6, 6, [])) (show r < (newC (newC G r 2 (List.replicate 5 none) 0 (6, 6, [])) r 2 ((List.replicate 5 none).set 0 (some G.length)) 1 (6, 6, [])).length by omega)
  have l3 : (newC (newC (newC G r 2 (List.replicate 5 none) 0 (6, 6, [])) r 2 ((List.replicate 5 none).set 0 (some G.length)) 1 (6, 6, [])) r 2 (((List.replicate 5 none).set 0 (some G.length)).set 1 (some (newC G r 2 (List.replicate 5 none) 0 (6, 6, [])).length)) 2 (6, 6, [])).length = G.length + 3 := by rw [newC_len]; omega
  refine s_aload_n (i := 0) (by decide +kernel) rfl ?_
  refine s_bipush (n := 64) (by decide +kernel) (by decide +kernel) ?_
  refine s_newi (atype := .int) (j := 64) rfl g_44 (wr_lit 64 (by decide)) (by omega) (ge_EM (by omega) rfl) o3 (by simp [okL, okV]; omega) (by simp [okV]; omega) ⟨by decide, by decide⟩ (by decide +kernel) ?_
  refine s_putRF (ci := 2) (k := 3) (index := 21) ck2 (app_at a3) (by decide) rfl (by simp) (rty_a ⟨_, rfl⟩) rfl rfl rfl (by decide +kernel) g_55 ?_
  show WM K fT_init (EM K fT_init G.length Q) _ _ _ (newC (newC (newC (newC G r 2 (List.replicate 5 none) 0 (6, 6, [])) r 2 ((List.replicate 5 none).set 0 (some G.length)) 1 (6, 6, [])) r 2 (((List.replicate 5 none).set 0 (some G.length)).set 1 (some (newC G r 2 (List.replicate 5 none) 0 (6, 6, [])).length)) 2 (6, 6, [])) r 2 ((((List.replicate 5 none).set 0 (some G.length)).set 1 (some (newC G r 2 (List.replicate 5 none) 0 (6, 6, [])).length)).set 2 (some (newC (newC G r 2 (List.replicate 5 none) 0 (6, 6, [])) r 2 ((List.replicate 5 none).set 0 (some G.length)) 1 (6, 6, [])).length)) 3 (6, 64, [])) _ _ _
  have o4 := newC_ok (k := 3) (g := (6, 64, [])) o3 a3 rfl
  have a4 := newC_at (ci := 2) (k := 3) (rs := ((((List.replicate 5 none).set 0 (some G.length)).set 1 (some (newC G r 2 (List.replicate 5 none) 0 (6, 6, [])).length)).set 2 (some (newC (newC G r 2 (List.replicate 5 none) 0 (6, 6, [])) r 2 ((List.replicate 5 none).set 0 (some G.length)) 1 (6, 6, [])).length))) (g := (6, 64, [])) (show r < (newC (newC (newC G r 2 (List.replicate 5 none) 0 (6, 6, [])) r 2 ((List.replicate 5 none).set 0 (some G.length)) 1 (6, 6, [])) r 2 (((List.replicate 5 none).set 0 (some G.length)).set 1 (some (newC G r 2 (List.replicate 5 none) 0 (6, 6, [])).length)) 2 (6, 6, [])).length by omega)
  have l4 : (newC (newC (newC (newC G r 2 (List.replicate 5 none) 0 (6, 6, [])) r 2 ((List.replicate 5 none).set 0 (some G.length)) 1 (6, 6, [])) r 2 (((List.replicate 5 none).set 0 (some G.length)).set 1 (some (newC G r 2 (List.replicate 5 none) 0 (6, 6, [])).length)) 2 (6, 6, [])) r 2 ((((List.replicate 5 none).set 0 (some G.length)).set 1 (some (newC G r 2 (List.replicate 5 none) 0 (6, 6, [])).length)).set 2 (some (newC (newC G r 2 (List.replicate 5 none) 0 (6, 6, [])) r 2 ((List.replicate 5 none).set 0 (some G.length)) 1 (6, 6, [])).length)) 3 (6, 64, [])).length = G.length + 4 := by rw [newC_len]; omega
  exact s_vret rfl (by decide +kernel) (by decide) (by decide) hQ
end CT
