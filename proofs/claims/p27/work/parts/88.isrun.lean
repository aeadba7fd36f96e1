/-! running through, as the law does it with both objects -/
def goN (S : SS) (v : Nat) : Nat → SS
  | 0 => S
  | t + 1 => opGo (goN S v t) v
section GN
variable {S : SS}
theorem goN_same {v : Nat} : ∀ t, snV (goN S v t) = snV S ∧ snJ (goN S v t) = snJ S ∧ sln (goN S v t) = sln S ∧ (∀ o, o ≠ v → srl (goN S v t) o = srl S o) := by
  intro t
  induction t with
  | zero => exact ⟨rfl, rfl, rfl, fun _ _ => rfl⟩
  | succ t ih =>
    show snV (opGo (goN S v t) v) = _ ∧ snJ (opGo (goN S v t) v) = _ ∧ sln (opGo (goN S v t) v) = _ ∧ _
    refine ⟨opGo_nV.trans ih.1, opGo_ln.2.trans ih.2.1, opGo_ln.1.trans ih.2.2.1, fun o ho => ?_⟩
    show srl (opGo (goN S v t) v) o = _
    rw [opGo_rl, upN_n ho]
    exact ih.2.2.2 o ho
theorem goN_v {v : Nat} : ∀ t, srl (goN S v t) v = srl S v - t ∧ (∀ k, srz (goN S v t) v k = srz S v (k + t)) ∧ szn (goN S v t) v = pz (szn S v) (srz S v) t := by
  intro t
  induction t with
  | zero => exact ⟨rfl, fun _ => rfl, rfl⟩
  | succ t ih =>
    show srl (opGo (goN S v t) v) v = _ ∧ (∀ k, srz (opGo (goN S v t) v) v k = _) ∧ szn (opGo (goN S v t) v) v = _
    rw [opGo_rl, opGo_rz, opGo_zn, upN_s, upN_s, upN_s, ih.1]
    refine ⟨by omega, fun k => ?_, ?_⟩
    · rw [ih.2.1]
      show srz S v (k + 1 + t) = srz S v (k + (t + 1))
      rw [show k + 1 + t = k + (t + 1) by omega]
    · rw [ih.2.1]
      unfold pz
      rw [if_neg (by omega)]
      show srz S v (0 + t) = srz S v (t + 1 - 1)
      rw [show 0 + t = t + 1 - 1 by omega]
theorem goN_ok (h : Inv3 S) {v : Nat} (hr : RunOk S v) : ∀ t, t ≤ srl S v → Inv3 (goN S v t) ∧ (t < srl S v → RunOk (goN S v t) v) := by
  have hv := (okS_spec hr.1).1
  intro t
  induction t with
  | zero => intro _; exact ⟨h, fun _ => hr⟩
  | succ t ih =>
    intro ht
    obtain ⟨i1, i2⟩ := ih (by omega)
    have r := i2 (by omega)
    have hv2 : v < snV (goN S v t) := by rw [(goN_same t).1]; exact hv
    refine ⟨i1.go hv2 (run_may i1.1 r), fun c => ?_⟩
    have := (run_cnt (bsy_lt i1.1.2.1.1) r).2
    rw [(goN_v t).1] at this
    exact this (by omega)
theorem goN_busy (h : Inv S) {v : Nat} (hr : RunOk S v) : popc (gS (goN S v (srl S v))) + 1 = popc (gS S) := by
  obtain ⟨q1, q2, q3, q4⟩ := okS_spec hr.1
  have h6 := h.2.1.1
  have e : gS S = gS (goN S v (srl S v)) ||| 2 ^ v := by
    apply Nat.eq_of_testBit_eq
    intro i
    rw [or_bit]
    unfold gS
    rw [bsy_bit, bsy_bit, (goN_same _).1]
    by_cases c : i = v
    · subst c
      simp [q1, q2]
    · rw [(goN_same _).2.2.2 i c, decide_eq_false (fun q : v = i => c q.symm), Bool.or_false]
  have hb : (gS (goN S v (srl S v))).testBit v = false := by
    unfold gS
    rw [bsy_bit, (goN_v _).1]
    simp
  rw [e, popc_or (by omega) hb]
theorem idle_all (hI : Inv S) (h : popc (gS S) = 0) : ∀ v, srl S v = 0 := by
  have h6 := hI.2.1.1
  have hg := popc_0 _ (bsy_lt h6) h
  intro v
  by_cases hv : v < snV S
  · have : (gS S).testBit v = false := by
      have : gS S = 0 := hg
      rw [this]
      simp
    unfold gS at this
    rw [bsy_bit] at this
    simp [hv] at this
    exact this
  · exact (hI.2.2.2.2.2.1 v (by omega)).1
theorem turn_idle {v : Nat} (h : srl S v = 0) : turnS S v = S ∧ mayS S v = false := by
  have hm : mayS S v = false := by
    unfold mayS
    rw [h]
    simp
  unfold turnS
  rw [hm, if_neg (by decide), if_neg (by omega)]
  exact ⟨rfl, rfl⟩
theorem turns_idle (h : ∀ v, srl S v = 0) : ∀ i, turnsS S i = S ∧ stpS S i = 0 := by
  intro i
  induction i with
  | zero => exact ⟨rfl, rfl⟩
  | succ i ih =>
    unfold turnsS stpS
    rw [ih.1, ih.2, (turn_idle (h i)).2, if_neg (by decide)]
    exact ⟨(turn_idle (h i)).1, rfl⟩
theorem tick_idle (h : ∀ v, srl S v = 0) : ∀ p, tickS S p = S ∧ tickC S p = 0 := by
  intro p
  induction p with
  | zero => exact ⟨rfl, rfl⟩
  | succ p ih =>
    unfold tickS tickC
    rw [ih.1, ih.2, (turns_idle h _).1, (turns_idle h _).2]
    exact ⟨rfl, rfl⟩
theorem cnt_idle (hI : Inv S) (h : popc (gS S) = 0) : cntS S = 1 := by
  have hg0 : gS S = 0 := popc_0 _ (bsy_lt hI.2.1.1) h
  show cnt (okS S) (gS S) 0 = 1
  rw [hg0]
  unfold cnt cnF
  rfl
theorem first_run (hI : Inv S) (h : 0 < popc (gS S)) : ∃ v : Nat, aFin S ((0 : Nat) : Int) = ((0, (v : Int)), S) ∧ RunOk S v := by
  obtain ⟨v, g1, g2, g3, g4⟩ := fr_ok hI (k := 0) h
  refine ⟨v, ?_, g2, ?_⟩
  · rw [aFin_ok h, g1]
    rfl
  · have e : foS (okS S) (gS S) 0 = 0 := rfl
    rw [e, Nat.zero_or] at g4
    exact g4
end GN
section IR
variable {K : KX} {S T : SS} {Q : Res → AG → AM → Prop}
theorem lo_step (hst : K.1.stackTraces = false) (hI : Inv S) {M : AM} (h : DB S T M) {v : Nat} (hv : v < snV S) (hm : mayS S v = true) {k : Int → AM → Prop} {x : String → AM → Prop} (hk : ∀ M', DB (opGo S v) T M' → k (srz S v 0 : Nat) M') : MetA K fL_step [aR 0, aI v] GG M (cI GG k x) := by
  have h6 := hI.2.1.1
  have e : aStp S (v : Int) = ((0, (srz S v 0 : Int)), opGo S v) := by
    unfold aStp
    rw [if_pos (by omega), tn, if_pos hm, opGo_zn, upN_s]
  refine l_step hst hI h.1 ⟨by omega, by omega⟩ (fun M1 r1 f1 => ?_)
  rw [e] at r1 ⊢
  exact ⟨rfl, hk M1 (h.o r1 f1)⟩
theorem lq_step (hst : K.1.stackTraces = false) (hI : Inv T) {M : AM} (h : DB S T M) {v : Nat} (hv : v < snV T) (hm : mayS T v = true) {k : Int → AM → Prop} {x : String → AM → Prop} (hk : ∀ M', DB S (opGo T v) M' → k (srz T v 0 : Nat) M') : MetA K fL_step [aR 63, aI v] GG M (cI GG k x) := by
  have h6 := hI.2.1.1
  have e : aStp T (v : Int) = ((0, (srz T v 0 : Int)), opGo T v) := by
    unfold aStp
    rw [if_pos (by omega), tn, if_pos hm, opGo_zn, upN_s]
  refine sw_cI [(v : Int)] rfl (l_step (M := sw M) hst hI h.2 ⟨by omega, by omega⟩ (fun M1 r1 f1 => ?_))
  rw [e] at r1 ⊢
  exact ⟨rfl, hk (sw M1) (h.p r1 f1)⟩
theorem lo_tick0 (hst : K.1.stackTraces = false) (hI : Inv S) {M : AM} (h : DB S T M) (h0 : ∀ v, srl S v = 0) {k : Int → AM → Prop} {x : String → AM → Prop} (hk : ∀ M', DB S T M' → k 0 M') : MetA K fL_tick [aR 0, aI 3] GG M (cI GG k x) := by
  have e : aTck S 3 = ((0, 0), S) := by
    unfold aTck
    rw [if_pos (by omega)]
    show ((0, (tickC S 3 : Int)), tickS S 3) = _
    rw [(tick_idle h0 3).1, (tick_idle h0 3).2]
    rfl
  refine l_tick hst hI h.1 ⟨by omega, by omega⟩ (fun M1 r1 f1 => ?_)
  rw [e] at r1 ⊢
  exact ⟨rfl, hk M1 (h.o r1 f1)⟩
theorem lq_tick0 (hst : K.1.stackTraces = false) (hI : Inv T) {M : AM} (h : DB S T M) (h0 : ∀ v, srl T v = 0) {k : Int → AM → Prop} {x : String → AM → Prop} (hk : ∀ M', DB S T M' → k 0 M') : MetA K fL_tick [aR 63, aI 3] GG M (cI GG k x) := by
  have e : aTck T 3 = ((0, 0), T) := by
    unfold aTck
    rw [if_pos (by omega)]
    show ((0, (tickC T 3 : Int)), tickS T 3) = _
    rw [(tick_idle h0 3).1, (tick_idle h0 3).2]
    rfl
  refine sw_cI [3] rfl (l_tick (M := sw M) hst hI h.2 ⟨by omega, by omega⟩ (fun M1 r1 f1 => ?_))
  rw [e] at r1 ⊢
  exact ⟨rfl, hk (sw M1) (h.p r1 f1)⟩
theorem o_finisher (hst : K.1.stackTraces = false) (hI : Inv S) {M : AM} (h : DB S T M) {v : Nat} (he : aFin S ((0 : Nat) : Int) = ((0, (v : Int)), S)) {k : Int → AM → Prop} {x : String → AM → Prop} (hk : ∀ M', DB S T M' → k v M') : MetA K fZ_finisher [aR 0, aI 0] GG M (cI GG k x) := by
  refine x_finisher (p := ((0 : Nat) : Int)) hst hI h.1 ⟨by omega, by omega⟩ (fun M1 r1 f1 => ?_)
  rw [he] at r1 ⊢
  exact ⟨rfl, hk M1 (h.o r1 f1)⟩
theorem lp_steps (hst : K.1.stackTraces = false) (hI : Inv3 S) {v : Nat} (hr : RunOk S v) {x2 x3 : Int} {UB SB : Nat} (hUB : UB + 7 ≤ 1000) (hSB : SB + 42 ≤ 6000)
    (hk : ∀ (M' : AM) (uc us : Nat), DB (goN S v (srl S v)) (goN S v (srl S v)) M' → uc ≤ UB + 2 → us ≤ SB + 12 → WM K fL_isRunSo (EM K fL_isRunSo 126 Q) 36 [some (aR 0), some (aR 63), some (aI x2), some (aI (x3 + 1)), none, none, none, none, none] [] GG M' uc us) :
    ∀ (d t : Nat) (M : AM) (uc us : Nat), t + d = srl S v → uc + 7 * d ≤ UB → us + 42 * d ≤ SB → DB (goN S v t) (goN S v t) M →
    WM K fL_isRunSo (EM K fL_isRunSo 126 Q) 71 [some (aR 0), some (aR 63), some (aI x2), some (aI x3), some (aI v), some (aI (srl S v : Nat)), some (aI (srz S v (srl S v - 1) : Nat)), some (aI t), none] [] GG M uc us := by
  have h6 := hI.1.2.1.1
  obtain ⟨q1, q2, q3, q4⟩ := okS_spec hr.1
  have hl := hI.1.2.2.2.1 v (by omega)
  intro d
  induction d with
  | zero =>
    intro t M uc us ht hu hw h
    have ht2 : t = srl S v := by omega
    subst ht2
    have hIt := (goN_ok hI hr (srl S v) (Nat.le_refl _)).1
    have hvt : v < snV (goN S v (srl S v)) := by rw [(goN_same _).1]; exact q1
    obtain ⟨w1, w2, w3⟩ := goN_v (S := S) (v := v) (srl S v)
    refine BL_isRunSo_71 _ _ _ _ _ _ (by omega) (by omega) ⟨fun _ => ?_, fun c => absurd (Int.le_refl _) c⟩
    refine o_zoneOf hst hIt.1 h hvt (fun M1 d1 => ?_)
    have e3 : szn (goN S v (srl S v)) v = srz S v (srl S v - 1) := by
      rw [w3]
      unfold pz
      rw [if_neg (by omega)]
    rw [e3]
    refine ⟨fun _ => o_routeLength hst hIt.1 d1 hvt (fun M2 d2 => ?_), fun c => absurd rfl c⟩
    rw [w1, show srl S v - srl S v = 0 by omega]
    exact ⟨fun _ => hk M2 _ _ d2 (by omega) (by omega), fun c => absurd wr_0 c⟩
  | succ d ih =>
    intro t M uc us ht hu hw h
    obtain ⟨hIt, hrt⟩ := goN_ok hI hr t (by omega)
    have hr9 := hrt (by omega)
    have hm := run_may hIt.1 hr9
    have hvt : v < snV (goN S v t) := by rw [(goN_same _).1]; exact q1
    obtain ⟨w1, w2, w3⟩ := goN_v (S := S) (v := v) t
    have hl0 : 0 < srl (goN S v t) v := by omega
    refine BL_isRunSo_71 _ _ _ _ _ _ (by omega) (by omega) ⟨fun c => ?_, fun _ => ?_⟩
    · rw [wrn (by omega), wrn (by omega)] at c; omega
    · refine o_routeZone (q := 0) hst hIt.1 h hvt hl0 (fun M1 d1 => o_canStep hst hIt.1 d1 hvt (fun M2 d2 => ?_))
      rw [hm]
      refine ⟨fun c => absurd c (by show ¬ wr 1 = 0; rw [wr_1]; decide), fun _ => ?_⟩
      refine lo_step hst hIt.1 d2 hvt hm (fun M3 d3 => ⟨fun _ => ?_, fun c => absurd rfl c⟩)
      refine lq_step hst hIt.1 d3 hvt hm (fun M4 d4 => ⟨fun _ => ?_, fun c => absurd rfl c⟩)
      exact ih (t + 1) M4 _ _ (by omega) (by omega) (by omega) d4
theorem le_m1 {u p q k r s : Nat} (h : u ≤ p + q * k + r + s) (e : r + s ≤ q) : u ≤ p + q * (k + 1) := by
  rw [Nat.mul_succ]
  omega
theorem lp_run (hst : K.1.stackTraces = false) {nJ N : Nat} {ln : Int} (hN : N ≤ 6) (hQ : ∀ S' M', Inv3 S' → snJ S' = nJ → sln S' = ln → DB S' S' M' → Q (.inl (some (aI 1))) GG M') : ∀ (d k : Nat) (S : SS) (M : AM) (uc us : Nat), k + d = N → popc (gS S) = d → Inv3 S → snJ S = nJ → sln S = ln → uc ≤ 10 + 150 * k → us ≤ 60 + 900 * k → DB S S M →
    WM K fL_isRunSo (EM K fL_isRunSo 126 Q) 36 [some (aR 0), some (aR 63), some (aI N), some (aI k), none, none, none, none, none] [] GG M uc us := by
  intro d
  induction d with
  | zero =>
    intro k S M uc us hk hp hI hj hln hu hw h
    have h0 := idle_all hI.1 hp
    refine BL_isRunSo_36 _ _ (by omega) (by omega) ⟨fun _ => ?_, fun c => absurd ?_ c⟩
    · refine o_orders hst hI.1 h (fun M1 d1 => ?_)
      rw [cnt_idle hI.1 hp]
      refine ⟨fun _ => ?_, fun c => absurd rfl c⟩
      refine lo_tick0 hst hI.1 d1 h0 (fun M2 d2 => ⟨fun _ => ?_, fun c => absurd wr_0 c⟩)
      exact lq_tick0 hst hI.1 d2 h0 (fun M3 d3 => ⟨fun _ => hQ S M3 hI hj hln d3, fun c => absurd wr_0 c⟩)
    · rw [wrn (by omega), wrn (by omega)]; omega
  | succ d ih =>
    intro k S M uc us hk hp hI hj hln hu hw h
    have h6 := hI.1.2.1.1
    obtain ⟨v, e1, hr⟩ := first_run hI.1 (by omega)
    obtain ⟨q1, q2, q3, q4⟩ := okS_spec hr.1
    have hl := hI.1.2.2.2.1 v (by omega)
    refine BL_isRunSo_36 _ _ (by omega) (by omega) ⟨fun c => ?_, fun _ => ?_⟩
    · rw [wrn (by omega), wrn (by omega)] at c; omega
    · refine o_finisher hst hI.1 h e1 (fun M1 d1 => o_routeLength hst hI.1 d1 q1 (fun M2 d2 => ?_))
      rw [show ((srl S v : Nat) : Int) - 1 = ((srl S v - 1 : Nat) : Int) by omega]
      refine o_routeZone hst hI.1 d2 q1 (by omega) (fun M3 d3 => ?_)
      refine lp_steps (UB := 10 + 150 * k + 145) (SB := 60 + 900 * k + 870) hst hI hr (by omega) (by omega) (fun M' uc' us' d' hu' hw' => ?_) (srl S v) 0 M3 _ _ (by omega) (by omega) (by omega) d3
      have hIt := (goN_ok hI hr (srl S v) (Nat.le_refl _)).1
      obtain ⟨s1, s2, s3, s4⟩ := goN_same (S := S) (v := v) (srl S v)
      have hb := goN_busy hI.1 hr
      have a1 : uc' ≤ 10 + 150 * (k + 1) := le_m1 hu' (Nat.le_of_ble_eq_true rfl)
      have a2 : us' ≤ 60 + 900 * (k + 1) := le_m1 hw' (Nat.le_of_ble_eq_true rfl)
      have a3 : popc (gS (goN S v (srl S v))) = d := by omega
      exact ih (k + 1) (goN S v (srl S v)) M' uc' us' (by omega) a3 hIt (s2.trans hj) (s3.trans hln) a1 a2 d'
theorem lp_left (hst : K.1.stackTraces = false) (hI : Inv3 S) (hQ : ∀ S' M', Inv3 S' → snJ S' = snJ S → sln S' = sln S → DB S' S' M' → Q (.inl (some (aI 1))) GG M') : ∀ (d i : Nat) (M : AM) (uc us : Nat), i + d = snV S → uc ≤ i → us ≤ 6 * i → DB S S M →
    WM K fL_isRunSo (EM K fL_isRunSo 126 Q) 4 [some (aR 0), some (aR 63), some (aI (bzc (srl S) i : Nat)), some (aI i), none, none, none, none, none] [] GG M uc us := by
  have h6 := hI.1.2.1.1
  intro d
  induction d with
  | zero =>
    intro i M uc us hi hu hw h
    have hi2 : i = snV S := by omega
    have hp := popc_le (g := gS S)
    refine BL_isRunSo_4 _ _ (by omega) (by omega) (o_vehicles hst hI.1 h (fun M1 d1 => ⟨fun _ => ?_, fun c => absurd ?_ c⟩))
    · rw [hi2, bzc_all hI.1]
      exact lp_run hst hp hQ (popc (gS S)) 0 S M1 uc us (by omega) rfl hI rfl rfl (by omega) (by omega) d1
    · rw [wrn (by omega), wrn (by omega)]; omega
  | succ d ih =>
    intro i M uc us hi hu hw h
    have hv : i < snV S := by omega
    have hl := hI.1.2.2.2.1 i (by omega)
    refine BL_isRunSo_4 _ _ (by omega) (by omega) (o_vehicles hst hI.1 h (fun M1 d1 => ⟨fun c => ?_, fun _ => ?_⟩))
    · rw [wrn (by omega), wrn (by omega)] at c; omega
    · refine o_routeLength hst hI.1 d1 hv (fun M2 d2 => ?_)
      rw [wrn (by omega)]
      have := ih (i + 1) M2 (uc + 1) (us + 6) (by omega) (by omega) (by omega) d2
      have e : ((bzc (srl S) (i + 1) : Nat) : Int) = (bzc (srl S) i : Int) + (if 0 < srl S i then 1 else 0) := by
        show ((bzc (srl S) i + (if 0 < srl S i then 1 else 0) : Nat) : Int) = _
        split <;> omega
      rw [e] at this
      refine ⟨fun c => ?_, fun c => ?_⟩
      · rw [if_neg (by omega)] at this; exact this
      · rw [if_pos (by omega)] at this; exact this
theorem l_run (hst : K.1.stackTraces = false) (hI : Inv3 S) {M : AM} (h : DB S S M) (hQ : ∀ S' M', Inv3 S' → snJ S' = snJ S → sln S' = sln S → DB S' S' M' → Q (.inl (some (aI 1))) GG M') : MetA K fL_isRunSo [aR 0, aR 63] GG M Q :=
  EL_isRunSo hst (BL_isRunSo_0 (by omega) (by omega) (lp_left hst hI hQ (snV S) 0 M 0 0 (by omega) (by omega) (by omega) h))
end IR
