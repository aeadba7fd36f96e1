/-! the plant's constructor -/
def gP0 : AG := [(4, 0, List.replicate 6 none), (1, 0, List.replicate 3 none)]
def gP1 : AG := [(4, 0, List.replicate 6 none), (1, 0, [some 2, some 23, none]), (11, 20, (List.range 20).map (fun i => some (3 + i)))] ++ List.replicate 20 (6, 20, []) ++ [(7, 20, [])]
def D0 (i j : Nat) : Nat := if i = j then 0 else 1000
theorem gp_row : ∀ i, i < 20 → gP1[3 + i]? = some (6, 20, []) := by decide +kernel
theorem gp_ref : ∀ i, i < 20 → ((List.range 20).map (fun i => some (3 + i)))[i]? = some (some (3 + i)) := by decide +kernel
section CP
variable {K : KX} {Q : Res → AG → AM → Prop}
theorem s_G {F : Fn} {E : CE} {pc : Nat} {L : List (Option AV)} {st : List AV} {G G' : AG} {M : AM} {uc us : Nat} (h : G = G') (k : WM K F E pc L st G' M uc us) : WM K F E pc L st G M uc us := by rw [h]; exact k
/-- the cells so far -/
def PF (M M' : AM) : Prop := (∀ k, M' 0 k = M 0 k) ∧ (∀ k, M' 1 k = M 1 k) ∧ ∀ k, M' 23 k = M 23 k
theorem PF.um {M M' : AM} (h : PF M M') {c k : Nat} {x : Int} (hc : 2 ≤ c ∧ c < 23) : PF M (um M' c k x) := ⟨fun j => by rw [um_ne (by omega)]; exact h.1 j, fun j => by rw [um_ne (by omega)]; exact h.2.1 j, fun j => by rw [um_ne (by omega)]; exact h.2.2 j⟩
set_option maxRecDepth 20000 in
theorem lp_pin {M0 : AM} {i : Nat} (hi : i < 20) (hQ : ∀ M', PF M0 M' → (∀ a b, a < i + 1 → b < 20 → M' (3 + a) b = (D0 a b : Int)) → WM K fP_init (EM K fP_init 2 Q) 26 [some (aR 1), some (aI (i + 1 : Nat)), none] [] gP1 M' 22 440) :
    ∀ (d j : Nat) (M : AM), j + d = 20 → PF M0 M → (∀ a b, a < i → b < 20 → M (3 + a) b = (D0 a b : Int)) → (∀ b, b < j → M (3 + i) b = (D0 i b : Int)) → WM K fP_init (EM K fP_init 2 Q) 34 [some (aR 1), some (aI i), some (aI j)] [] gP1 M 22 440 := by
  intro d
  induction d with
  | zero =>
    intro j M hj hF h1 h2
    have : j = 20 := by omega
    subst this
    refine s_iload_n (i := 2) (by decide +kernel) rfl ?_
    refine s_bipush (n := 20) (by decide +kernel) (by decide +kernel) ?_
    refine s_icmp_ge (off := 29) (tgt := 66) (by decide +kernel) (by decide) (fun c => ?_) (fun c => absurd ?_ c)
    · refine s_iinc (i := 1) (n := 1) (by decide +kernel) rfl (by decide) ?_
      refine s_goto (off := -43) (tgt := 26) (by decide +kernel) (by decide) ?_
      refine s_loc (L' := [some (aR 1), some (aI (i + 1 : Nat)), none]) (ll_s (ll_s (ll_n ll_nil))) (hQ M hF (fun a b ha hb => ?_))
      by_cases e : a = i
      · subst e; exact h2 b hb
      · exact h1 a b (by omega) hb
    · rw [wr_20]; exact Int.le_refl _
  | succ d ih =>
    intro j M hj hF h1 h2
    have put : ∀ x : Int, x = (D0 i j : Int) → WM K fP_init (EM K fP_init 2 Q) 59 [some (aR 1), some (aI i), some (aI j)] [aI x, aI j, aR (3 + i)] gP1 M 22 440 := fun x hx => by
      refine s_iast (j := j) (gp_row i hi) (wrn (by omega)) (by omega) (by decide +kernel) ?_
      refine s_iinc (i := 2) (n := 1) (by decide +kernel) rfl (by decide) ?_
      refine s_goto (off := -29) (tgt := 34) (by decide +kernel) (by decide) ?_
      refine ih (j + 1) _ (by omega) (hF.um (by omega)) (fun a b ha hb => ?_) (fun b hb => ?_)
      · rw [um_ne (by omega)]; exact h1 a b ha hb
      · by_cases e : b = j
        · subst e; rw [um_self, hx]
        · rw [um_ne2 e]; exact h2 b (by omega)
    refine s_iload_n (i := 2) (by decide +kernel) rfl ?_
    refine s_bipush (n := 20) (by decide +kernel) (by decide +kernel) ?_
    refine s_icmp_ge (off := 29) (tgt := 66) (by decide +kernel) (by decide) (fun c => ?_) (fun c => ?_)
    · rw [wr_20, wrn (by omega)] at c; omega
    · refine s_aload_n (i := 0) (by decide +kernel) rfl ?_
      refine s_getR (ci := 1) (k := 0) (index := 11) (r2 := 2) ck1 rfl rfl (by decide) rfl (by decide +kernel) g_30 ?_
      refine s_iload_n (i := 1) (by decide +kernel) rfl ?_
      refine s_aaldI (n := 20) (r2 := 3 + i) (j := i) (rs := (List.range 20).map (fun i => some (3 + i))) rfl (wrn (by omega)) hi (gp_ref i hi) (by decide +kernel) ?_
      refine s_iload_n (i := 2) (by decide +kernel) rfl ?_
      refine s_iload_n (i := 1) (by decide +kernel) rfl ?_
      refine s_iload_n (i := 2) (by decide +kernel) rfl ?_
      refine s_icmp_ne (off := 7) (tgt := 56) (by decide +kernel) (by decide) (fun c2 => ?_) (fun c2 => ?_)
      · refine s_sipush (n := 1000) (by decide +kernel) (by decide +kernel) ?_
        rw [wrn (by omega), wrn (by omega)] at c2
        exact put 1000 (by unfold D0; rw [if_neg (by omega)]; rfl)
      · refine s_iconst (n := 0) (by decide +kernel) ?_
        refine s_goto (off := 6) (tgt := 59) (by decide +kernel) (by decide) ?_
        rw [wrn (by omega), wrn (by omega)] at c2
        exact put 0 (by unfold D0; rw [if_pos (by omega)]; rfl)
set_option maxRecDepth 20000 in
theorem lp_pout {M0 : AM} (hQ : ∀ M', PF M0 M' → PX M' D0 → Q (.inl none) gP1 M') :
    ∀ (d i : Nat) (M : AM), i + d = 20 → PF M0 M → (∀ a b, a < i → b < 20 → M (3 + a) b = (D0 a b : Int)) → WM K fP_init (EM K fP_init 2 Q) 26 [some (aR 1), some (aI i), none] [] gP1 M 22 440 := by
  intro d
  induction d with
  | zero =>
    intro i M hi hF h1
    have : i = 20 := by omega
    subst this
    refine s_iload_n (i := 1) (by decide +kernel) rfl ?_
    refine s_bipush (n := 20) (by decide +kernel) (by decide +kernel) ?_
    refine s_icmp_ge (off := 43) (tgt := 72) (by decide +kernel) (by decide) (fun c => ?_) (fun c => absurd ?_ c)
    · exact s_vret rfl (by decide +kernel) (by decide) (by decide) (hQ M hF h1)
    · rw [wr_20]; exact Int.le_refl _
  | succ d ih =>
    intro i M hi hF h1
    refine s_iload_n (i := 1) (by decide +kernel) rfl ?_
    refine s_bipush (n := 20) (by decide +kernel) (by decide +kernel) ?_
    refine s_icmp_ge (off := 43) (tgt := 72) (by decide +kernel) (by decide) (fun c => ?_) (fun c => ?_)
    · rw [wr_20, wrn (by omega)] at c; omega
    · refine s_iconst (n := 0) (by decide +kernel) ?_
      refine s_istore_n (i := 2) (by decide +kernel) (by decide) ?_
      exact lp_pin (by omega) (fun M1 f1 g1 => ih (i + 1) M1 (by omega) f1 g1) 20 0 M (by omega) hF h1 (fun b hb => by omega)
set_option maxRecDepth 20000 in
theorem c_P (hst : K.1.stackTraces = false) {M : AM} (hQ : ∀ M' : AM, (∀ k, M' 0 k = M 0 k) → (∀ k, M' 1 k = M 1 k) → (∀ k, M' 23 k = 0) → PX M' D0 → Q (.inl none) gP1 M') : MetA K fP_init [aR 1] gP0 M Q := by
  refine met_of hst (by decide +kernel) rfl rfl (Nat.le_of_ble_eq_true rfl) ?_
  show WM K fP_init (EM K fP_init 2 Q) 0 [some (aR 1), none, none] [] gP0 M 0 0
  refine s_aload_n (i := 0) (by decide +kernel) rfl ?_
  refine s_obj (index := 3) g_27 g_20 g_21 (Nat.zero_le _) ⟨by decide, by decide⟩ (by decide +kernel) ?_
  refine s_aload_n (i := 0) (by decide +kernel) rfl ?_
  refine s_bipush (n := 20) (by decide +kernel) (by decide +kernel) ?_
  refine s_bipush (n := 20) (by decide +kernel) (by decide +kernel) ?_
  refine s_rows (index := 9) g_28 g_44 (ge_EM (by decide) rfl) (by decide +kernel) (by decide +kernel) (by decide +kernel) ⟨by decide, by decide⟩ (by decide +kernel) ?_
  refine s_putRF (ci := 1) (k := 0) (index := 11) (len := 0) (rs := List.replicate 3 none) ck1 rfl (by decide) rfl (by decide) (rty_a ⟨_, rfl⟩) rfl rfl rfl (by decide +kernel) g_30 ?_
  refine s_aload_n (i := 0) (by decide +kernel) rfl ?_
  refine s_bipush (n := 20) (by decide +kernel) (by decide +kernel) ?_
  refine s_newz (atype := .boolean) (j := 20) rfl g_45 (wr_lit 20 (by decide)) (by omega) (ge_EM (by decide +kernel) rfl) (by decide +kernel) (by decide +kernel) (by decide +kernel) ⟨by decide, by decide⟩ (by decide +kernel) ?_
  refine s_putRF (ci := 1) (k := 1) (index := 16) (len := 0) (rs := [some 2, none, none]) ck1 rfl (by decide) rfl (by decide) (rty_a ⟨_, rfl⟩) rfl rfl rfl (by decide +kernel) g_33 ?_
  refine s_G (G' := gP1) (by decide +kernel) ?_
  refine s_iconst (n := 0) (by decide +kernel) ?_
  refine s_istore_n (i := 1) (by decide +kernel) (by decide) ?_
  refine lp_pout (fun M1 f1 p1 => hQ M1 (fun k => (f1.1 k).trans ?_) (fun k => (f1.2.1 k).trans ?_) (fun k => (f1.2.2 k).trans ?_) p1) 20 0 _ (by omega) ⟨fun _ => rfl, fun _ => rfl, fun _ => rfl⟩ (fun a b ha => by omega)
  · rfl
  · rfl
  · rfl
end CP
