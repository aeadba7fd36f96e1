/-! the reference's constructor -/
def rM (i : Nat) : List (Option Nat) := (List.range 19).map (fun k => match ([1, 3, 4, 6, 7, 8, 9, 10, 11, 13, 14, 15, 16, 17, 18].idxOf? k) with | some q => if q < i then some (64 + q) else none | none => none)
def gM (i : Nat) : AG := GG.take 63 ++ [(5, 0, rM i)] ++ (GG.drop 64).take i
theorem gm_at : ∀ i, i < 16 → (gM i)[63]? = some (5, 0, rM i) := by decide +kernel
theorem gm_len : ∀ i, i < 16 → (gM i).length = 64 + i := by decide +kernel
theorem gm_ok : ∀ i, i < 16 → okG (gM i).length (gM i) = true := by decide +kernel
theorem gm_end : gM 15 = GG.take 79 := by decide +kernel
section CM
variable {K : KX} {Q : Res → AG → AM → Prop}
set_option maxRecDepth 20000 in
theorem c_M (hst : K.1.stackTraces = false) {M : AM} (hQ : ∀ M' : AM, (∀ c k, c < 64 → M' c k = M c k) → (∀ c k, 64 ≤ c → c < 79 → M' c k = if c = 72 ∧ k < 6 then -1 else 0) → Q (.inl none) (GG.take 79) M') : MetA K fM_init [aR 63] (gM 0) M Q := by
  refine met_of hst (by decide +kernel) rfl rfl (Nat.le_of_ble_eq_true rfl) ?_
  rw [gm_len 0 (by omega)]
  show WM K fM_init (EM K fM_init 64 Q) 0 [some (aR 63)] [] (gM 0) M 0 0
  refine s_aload_n (i := 0) (by decide +kernel) rfl ?_
  refine s_obj (index := 1) g_580 g_21 g_22 (Nat.zero_le _) ⟨by decide, by decide⟩ (by decide +kernel) ?_
  refine s_aload_n (i := 0) (by decide +kernel) rfl ?_
  refine s_sipush (n := 400) (by decide +kernel) (by decide +kernel) ?_
  refine s_newz (atype := .boolean) (j := 400) rfl g_46 (wr_lit 400 (by decide)) (by omega) (ge_EM (by decide +kernel) rfl) (gm_ok 0 (by omega)) (by decide +kernel) (by decide +kernel) ⟨by decide, by decide⟩ (by decide +kernel) ?_
  rw [gm_len 0 (by omega)]
  refine s_putRF (ci := 5) (k := 1) (index := 7) (len := 0) (rs := rM 0) ck5 (by decide +kernel) (by decide) rfl (by decide +kernel) (fun _ => ⟨rfl, rfl⟩) rfl rfl rfl (by decide +kernel) g_582 ?_
  refine s_G (G' := gM 1) (by decide +kernel) ?_
  refine s_aload_n (i := 0) (by decide +kernel) rfl ?_
  refine s_bipush (n := 20) (by decide +kernel) (by decide +kernel) ?_
  refine s_newz (atype := .boolean) (j := 20) rfl g_46 (wr_lit 20 (by decide)) (by omega) (ge_EM (by decide +kernel) rfl) (gm_ok 1 (by omega)) (by decide +kernel) (by decide +kernel) ⟨by decide, by decide⟩ (by decide +kernel) ?_
  rw [gm_len 1 (by omega)]
  refine s_putRF (ci := 5) (k := 3) (index := 13) (len := 0) (rs := rM 1) ck5 (by decide +kernel) (by decide) rfl (by decide +kernel) (fun _ => ⟨rfl, rfl⟩) rfl rfl rfl (by decide +kernel) g_584 ?_
  refine s_G (G' := gM 2) (by decide +kernel) ?_
  refine s_aload_n (i := 0) (by decide +kernel) rfl ?_
  refine s_bipush (n := 20) (by decide +kernel) (by decide +kernel) ?_
  refine s_newi (atype := .int) (j := 20) rfl g_45 (wr_lit 20 (by decide)) (by omega) (ge_EM (by decide +kernel) rfl) (gm_ok 2 (by omega)) (by decide +kernel) (by decide +kernel) ⟨by decide, by decide⟩ (by decide +kernel) ?_
  rw [gm_len 2 (by omega)]
  refine s_putRF (ci := 5) (k := 4) (index := 16) (len := 0) (rs := rM 2) ck5 (by decide +kernel) (by decide) rfl (by decide +kernel) (fun _ => ⟨rfl, rfl⟩) rfl rfl rfl (by decide +kernel) g_585 ?_
  refine s_G (G' := gM 3) (by decide +kernel) ?_
  refine s_aload_n (i := 0) (by decide +kernel) rfl ?_
  refine s_bipush (n := 6) (by decide +kernel) (by decide +kernel) ?_
  refine s_newi (atype := .int) (j := 6) rfl g_45 (wr_lit 6 (by decide)) (by omega) (ge_EM (by decide +kernel) rfl) (gm_ok 3 (by omega)) (by decide +kernel) (by decide +kernel) ⟨by decide, by decide⟩ (by decide +kernel) ?_
  rw [gm_len 3 (by omega)]
  refine s_putRF (ci := 5) (k := 6) (index := 20) (len := 0) (rs := rM 3) ck5 (by decide +kernel) (by decide) rfl (by decide +kernel) (fun _ => ⟨rfl, rfl⟩) rfl rfl rfl (by decide +kernel) g_587 ?_
  refine s_G (G' := gM 4) (by decide +kernel) ?_
  refine s_aload_n (i := 0) (by decide +kernel) rfl ?_
  refine s_bipush (n := 6) (by decide +kernel) (by decide +kernel) ?_
  refine s_newi (atype := .int) (j := 6) rfl g_45 (wr_lit 6 (by decide)) (by omega) (ge_EM (by decide +kernel) rfl) (gm_ok 4 (by omega)) (by decide +kernel) (by decide +kernel) ⟨by decide, by decide⟩ (by decide +kernel) ?_
  rw [gm_len 4 (by omega)]
  refine s_putRF (ci := 5) (k := 7) (index := 23) (len := 0) (rs := rM 4) ck5 (by decide +kernel) (by decide) rfl (by decide +kernel) (fun _ => ⟨rfl, rfl⟩) rfl rfl rfl (by decide +kernel) g_588 ?_
  refine s_G (G' := gM 5) (by decide +kernel) ?_
  refine s_aload_n (i := 0) (by decide +kernel) rfl ?_
  refine s_bipush (n := 6) (by decide +kernel) (by decide +kernel) ?_
  refine s_newi (atype := .int) (j := 6) rfl g_45 (wr_lit 6 (by decide)) (by omega) (ge_EM (by decide +kernel) rfl) (gm_ok 5 (by omega)) (by decide +kernel) (by decide +kernel) ⟨by decide, by decide⟩ (by decide +kernel) ?_
  rw [gm_len 5 (by omega)]
  refine s_putRF (ci := 5) (k := 8) (index := 26) (len := 0) (rs := rM 5) ck5 (by decide +kernel) (by decide) rfl (by decide +kernel) (fun _ => ⟨rfl, rfl⟩) rfl rfl rfl (by decide +kernel) g_589 ?_
  refine s_G (G' := gM 6) (by decide +kernel) ?_
  refine s_aload_n (i := 0) (by decide +kernel) rfl ?_
  refine s_bipush (n := 120) (by decide +kernel) (by decide +kernel) ?_
  refine s_newi (atype := .int) (j := 120) rfl g_45 (wr_lit 120 (by decide)) (by omega) (ge_EM (by decide +kernel) rfl) (gm_ok 6 (by omega)) (by decide +kernel) (by decide +kernel) ⟨by decide, by decide⟩ (by decide +kernel) ?_
  rw [gm_len 6 (by omega)]
  refine s_putRF (ci := 5) (k := 9) (index := 29) (len := 0) (rs := rM 6) ck5 (by decide +kernel) (by decide) rfl (by decide +kernel) (fun _ => ⟨rfl, rfl⟩) rfl rfl rfl (by decide +kernel) g_590 ?_
  refine s_G (G' := gM 7) (by decide +kernel) ?_
  refine s_aload_n (i := 0) (by decide +kernel) rfl ?_
  refine s_bipush (n := 6) (by decide +kernel) (by decide +kernel) ?_
  refine s_newi (atype := .int) (j := 6) rfl g_45 (wr_lit 6 (by decide)) (by omega) (ge_EM (by decide +kernel) rfl) (gm_ok 7 (by omega)) (by decide +kernel) (by decide +kernel) ⟨by decide, by decide⟩ (by decide +kernel) ?_
  rw [gm_len 7 (by omega)]
  refine s_putRF (ci := 5) (k := 10) (index := 32) (len := 0) (rs := rM 7) ck5 (by decide +kernel) (by decide) rfl (by decide +kernel) (fun _ => ⟨rfl, rfl⟩) rfl rfl rfl (by decide +kernel) g_591 ?_
  refine s_G (G' := gM 8) (by decide +kernel) ?_
  refine s_aload_n (i := 0) (by decide +kernel) rfl ?_
  refine s_bipush (n := 6) (by decide +kernel) (by decide +kernel) ?_
  refine s_newi (atype := .int) (j := 6) rfl g_45 (wr_lit 6 (by decide)) (by omega) (ge_EM (by decide +kernel) rfl) (gm_ok 8 (by omega)) (by decide +kernel) (by decide +kernel) ⟨by decide, by decide⟩ (by decide +kernel) ?_
  rw [gm_len 8 (by omega)]
  refine s_dupR (by decide +kernel) ?_
  refine s_iconst (n := 0) (by decide +kernel) ?_
  refine s_iconst (n := -1) (by decide +kernel) ?_
  refine s_iast (j := 0) (n := 6) (rs := []) (by decide +kernel) (wr_lit 0 (by decide)) (by omega) (by decide +kernel) ?_
  refine s_dupR (by decide +kernel) ?_
  refine s_iconst (n := 1) (by decide +kernel) ?_
  refine s_iconst (n := -1) (by decide +kernel) ?_
  refine s_iast (j := 1) (n := 6) (rs := []) (by decide +kernel) (wr_lit 1 (by decide)) (by omega) (by decide +kernel) ?_
  refine s_dupR (by decide +kernel) ?_
  refine s_iconst (n := 2) (by decide +kernel) ?_
  refine s_iconst (n := -1) (by decide +kernel) ?_
  refine s_iast (j := 2) (n := 6) (rs := []) (by decide +kernel) (wr_lit 2 (by decide)) (by omega) (by decide +kernel) ?_
  refine s_dupR (by decide +kernel) ?_
  refine s_iconst (n := 3) (by decide +kernel) ?_
  refine s_iconst (n := -1) (by decide +kernel) ?_
  refine s_iast (j := 3) (n := 6) (rs := []) (by decide +kernel) (wr_lit 3 (by decide)) (by omega) (by decide +kernel) ?_
  refine s_dupR (by decide +kernel) ?_
  refine s_iconst (n := 4) (by decide +kernel) ?_
  refine s_iconst (n := -1) (by decide +kernel) ?_
  refine s_iast (j := 4) (n := 6) (rs := []) (by decide +kernel) (wr_lit 4 (by decide)) (by omega) (by decide +kernel) ?_
  refine s_dupR (by decide +kernel) ?_
  refine s_iconst (n := 5) (by decide +kernel) ?_
  refine s_iconst (n := -1) (by decide +kernel) ?_
  refine s_iast (j := 5) (n := 6) (rs := []) (by decide +kernel) (wr_lit 5 (by decide)) (by omega) (by decide +kernel) ?_
  refine s_putRF (ci := 5) (k := 11) (index := 35) (len := 0) (rs := rM 8) ck5 (by decide +kernel) (by decide) rfl (by decide +kernel) (fun _ => ⟨rfl, rfl⟩) rfl rfl rfl (by decide +kernel) g_592 ?_
  refine s_G (G' := gM 9) (by decide +kernel) ?_
  refine s_aload_n (i := 0) (by decide +kernel) rfl ?_
  refine s_bipush (n := 20) (by decide +kernel) (by decide +kernel) ?_
  refine s_newi (atype := .int) (j := 20) rfl g_45 (wr_lit 20 (by decide)) (by omega) (ge_EM (by decide +kernel) rfl) (gm_ok 9 (by omega)) (by decide +kernel) (by decide +kernel) ⟨by decide, by decide⟩ (by decide +kernel) ?_
  rw [gm_len 9 (by omega)]
  refine s_putRF (ci := 5) (k := 13) (index := 38) (len := 0) (rs := rM 9) ck5 (by decide +kernel) (by decide) rfl (by decide +kernel) (fun _ => ⟨rfl, rfl⟩) rfl rfl rfl (by decide +kernel) g_594 ?_
  refine s_G (G' := gM 10) (by decide +kernel) ?_
  refine s_aload_n (i := 0) (by decide +kernel) rfl ?_
  refine s_bipush (n := 20) (by decide +kernel) (by decide +kernel) ?_
  refine s_newi (atype := .int) (j := 20) rfl g_45 (wr_lit 20 (by decide)) (by omega) (ge_EM (by decide +kernel) rfl) (gm_ok 10 (by omega)) (by decide +kernel) (by decide +kernel) ⟨by decide, by decide⟩ (by decide +kernel) ?_
  rw [gm_len 10 (by omega)]
  refine s_putRF (ci := 5) (k := 14) (index := 41) (len := 0) (rs := rM 10) ck5 (by decide +kernel) (by decide) rfl (by decide +kernel) (fun _ => ⟨rfl, rfl⟩) rfl rfl rfl (by decide +kernel) g_595 ?_
  refine s_G (G' := gM 11) (by decide +kernel) ?_
  refine s_aload_n (i := 0) (by decide +kernel) rfl ?_
  refine s_bipush (n := 20) (by decide +kernel) (by decide +kernel) ?_
  refine s_newi (atype := .int) (j := 20) rfl g_45 (wr_lit 20 (by decide)) (by omega) (ge_EM (by decide +kernel) rfl) (gm_ok 11 (by omega)) (by decide +kernel) (by decide +kernel) ⟨by decide, by decide⟩ (by decide +kernel) ?_
  rw [gm_len 11 (by omega)]
  refine s_putRF (ci := 5) (k := 15) (index := 44) (len := 0) (rs := rM 11) ck5 (by decide +kernel) (by decide) rfl (by decide +kernel) (fun _ => ⟨rfl, rfl⟩) rfl rfl rfl (by decide +kernel) g_596 ?_
  refine s_G (G' := gM 12) (by decide +kernel) ?_
  refine s_aload_n (i := 0) (by decide +kernel) rfl ?_
  refine s_bipush (n := 64) (by decide +kernel) (by decide +kernel) ?_
  refine s_newi (atype := .int) (j := 64) rfl g_45 (wr_lit 64 (by decide)) (by omega) (ge_EM (by decide +kernel) rfl) (gm_ok 12 (by omega)) (by decide +kernel) (by decide +kernel) ⟨by decide, by decide⟩ (by decide +kernel) ?_
  rw [gm_len 12 (by omega)]
  refine s_putRF (ci := 5) (k := 16) (index := 47) (len := 0) (rs := rM 12) ck5 (by decide +kernel) (by decide) rfl (by decide +kernel) (fun _ => ⟨rfl, rfl⟩) rfl rfl rfl (by decide +kernel) g_597 ?_
  refine s_G (G' := gM 13) (by decide +kernel) ?_
  refine s_aload_n (i := 0) (by decide +kernel) rfl ?_
  refine s_bipush (n := 64) (by decide +kernel) (by decide +kernel) ?_
  refine s_newz (atype := .boolean) (j := 64) rfl g_46 (wr_lit 64 (by decide)) (by omega) (ge_EM (by decide +kernel) rfl) (gm_ok 13 (by omega)) (by decide +kernel) (by decide +kernel) ⟨by decide, by decide⟩ (by decide +kernel) ?_
  rw [gm_len 13 (by omega)]
  refine s_putRF (ci := 5) (k := 17) (index := 50) (len := 0) (rs := rM 13) ck5 (by decide +kernel) (by decide) rfl (by decide +kernel) (fun _ => ⟨rfl, rfl⟩) rfl rfl rfl (by decide +kernel) g_598 ?_
  refine s_G (G' := gM 14) (by decide +kernel) ?_
  refine s_aload_n (i := 0) (by decide +kernel) rfl ?_
  refine s_bipush (n := 20) (by decide +kernel) (by decide +kernel) ?_
  refine s_newi (atype := .int) (j := 20) rfl g_45 (wr_lit 20 (by decide)) (by omega) (ge_EM (by decide +kernel) rfl) (gm_ok 14 (by omega)) (by decide +kernel) (by decide +kernel) ⟨by decide, by decide⟩ (by decide +kernel) ?_
  rw [gm_len 14 (by omega)]
  refine s_putRF (ci := 5) (k := 18) (index := 53) (len := 0) (rs := rM 14) ck5 (by decide +kernel) (by decide) rfl (by decide +kernel) (fun _ => ⟨rfl, rfl⟩) rfl rfl rfl (by decide +kernel) g_599 ?_
  refine s_G (G' := gM 15) (by decide +kernel) ?_
  refine s_vret rfl (by decide +kernel) (by decide) (by decide) ?_
  rw [gm_end]
  refine hQ _ (fun c k hc => ?_) (fun c k h1 h2 => ?_)
  · simp (disch := omega) only [um_ne, unew_n]
  · by_cases e : c = 72
    · subst e
      simp (disch := omega) only [unew_n]
      by_cases h : k < 6
      · rw [if_pos ⟨trivial, h⟩]
        unfold um
        simp only [if_true]
        have : k = 0 ∨ k = 1 ∨ k = 2 ∨ k = 3 ∨ k = 4 ∨ k = 5 := by omega
        rcases this with rfl | rfl | rfl | rfl | rfl | rfl <;> rfl
      · rw [if_neg (fun q => h q.2)]
        simp (disch := omega) only [um_ne2, unew_s]
    · rw [if_neg (fun q => e q.1)]
      have : c = 64 ∨ c = 65 ∨ c = 66 ∨ c = 67 ∨ c = 68 ∨ c = 69 ∨ c = 70 ∨ c = 71 ∨ c = 73 ∨ c = 74 ∨ c = 75 ∨ c = 76 ∨ c = 77 ∨ c = 78 := by omega
      rcases this with rfl | rfl | rfl | rfl | rfl | rfl | rfl | rfl | rfl | rfl | rfl | rfl | rfl | rfl <;> simp (disch := omega) only [um_ne, unew_n, unew_s]
end CM
