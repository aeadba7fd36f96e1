/-! the reference: new vehicles, ticks -/
section MV
variable {K : KX} {S : SS} {M : AM} {Q : Res → AG → AM → Prop}
/-- the cells of the vehicle that is next to come may change -/
theorem RM.at_new {S : SS} {M M' : AM} (h : RM S M) (hh : ∀ c k, c ≠ 76 → c ≠ 77 → (c ≠ 67 ∨ k ≠ snV S) → (c ≠ 68 ∨ k ≠ snV S) → (c ≠ 69 ∨ k ≠ snV S) → (c ≠ 71 ∨ k ≠ snV S) → M' c k = M c k) : RM S M' := by
  obtain ⟨r1, r2, r3, r4, r5, r6, r7, r8⟩ := h
  refine ⟨fun i j hi hj => ?_, ?_, fun x hx => ?_, ⟨?_, fun u hu => ?_⟩, fun u hu => ?_, fun u hu => ?_, ?_, fun j hj => ?_⟩
  · rw [hh 64 _ (by omega) (by omega) (by omega) (by omega) (by omega) (by omega)]; exact r1 i j hi hj
  · rw [hh 63 _ (by omega) (by omega) (by omega) (by omega) (by omega) (by omega)]; exact r2
  · rw [hh 65 _ (by omega) (by omega) (by omega) (by omega) (by omega) (by omega)]; exact r3 x hx
  · rw [hh 63 _ (by omega) (by omega) (by omega) (by omega) (by omega) (by omega)]; exact r4.1
  · obtain ⟨g1, g2, g3, g4⟩ := r4.2 u hu
    refine ⟨?_, ?_, g3, fun k hk => ?_⟩
    · rw [hh 67 _ (by omega) (by omega) (by omega) (by omega) (by omega) (by omega)]; exact g1
    · rw [hh 69 _ (by omega) (by omega) (by omega) (by omega) (by omega) (by omega)]; exact g2
    · rw [hh 70 _ (by omega) (by omega) (by omega) (by omega) (by omega) (by omega)]; exact g4 k hk
  · rw [hh 68 _ (by omega) (by omega) (by omega) (by omega) (by omega) (by omega), hh 71 _ (by omega) (by omega) (by omega) (by omega) (by omega) (by omega)]; exact r5 u hu
  · rw [hh 72 _ (by omega) (by omega) (by omega) (by omega) (by omega) (by omega)]; exact r6 u hu
  · rw [hh 63 _ (by omega) (by omega) (by omega) (by omega) (by omega) (by omega)]; exact r7
  · rw [hh 73 _ (by omega) (by omega) (by omega) (by omega) (by omega) (by omega), hh 74 _ (by omega) (by omega) (by omega) (by omega) (by omega) (by omega), hh 75 _ (by omega) (by omega) (by omega) (by omega) (by omega) (by omega)]; exact r8 j hj
theorem pg_new (h : Inv S) {z : Nat} (hz : z < 20) (hn : snV S < 6) : Pg (snV S + 1) (upN (szn S) (snV S) z) (upN (srl S) (snV S) 0) (upN (srz S) (snV S) (srz S (snV S))) := by
  refine ⟨hn, fun w hw => ?_⟩
  by_cases e : w = snV S
  · rw [e, upN_s, upN_s]
    exact ⟨hz, fun k hk => by omega⟩
  · rw [upN_n e, upN_n e, upN_n e]
    exact h.2.1.2 w (by omega)
theorem m_addVehicle (hst : K.1.stackTraces = false) (hI : Inv S) (hR : RM S M) {p e : Int} (hp : R32 p) (he : R32 e) (hQ : mq (aVeh S p e) M Q) : MetA K fM_addVehicle [aR 63, aI p, aI e] GG M Q := by
  have h6 := hI.2.1.1
  unfold aVeh at hQ
  have no1 : ¬ (zin p ∧ 0 ≤ e ∧ e ≤ 60) → WM K fM_addVehicle (EM K fM_addVehicle 80 Q) 21 [some (aR 63), some (aI p), some (aI e), none, none] [] GG M 0 0 := fun h => by
    rw [if_neg h] at hQ
    refine BM_addVehicle_21 _ _ (BM_addVehicle_22 _ _ _ ⟨fun _ => BM_addVehicle_49 _ _ _ (BM_addVehicle_50 _ _ _ _ ⟨fun _ => BM_addVehicle_103 _ _ _ _ ⟨fun _ => BM_addVehicle_122 _ _ _ _ _ (sp_ref (c := 1) hst (by omega) hR FQ.rf hQ), fun c => absurd wr_0 c⟩, fun c => absurd wr_0 c⟩), fun c => absurd wr_0 c⟩)
  refine EM_addVehicle hst _ _ (BM_addVehicle_0 _ _ (sp_isZone hst hp ⟨rfl, fun c => no1 (fun h => b_ff c h.1), fun c => sp_in hst he ⟨by omega, by omega⟩ ⟨by omega, by omega⟩ ⟨rfl, fun c2 => no1 (fun h => b_ff c2 h.2), fun c2 => ?_⟩⟩))
  have h1 := b_ft c
  have h2 := b_ft c2
  rw [if_pos ⟨h1, h2⟩] at hQ
  obtain ⟨a, rfl⟩ := nat_of h1.1
  have ha : a < 20 := by have := h1.2; omega
  rw [tn] at hQ
  have one : ¬ wr 1 = 0 := by rw [wr_1]; omega
  have ref2 : ¬ (snV S < 6 ∧ fnd (snV S) (szn S) a = none ∧ 0 < cntW S (snV S) a 0 (srz S (snV S))) → ∀ M1, RM S M1 → FQ M M1 → WM K fM_addVehicle (EM K fM_addVehicle 80 Q) 103 [some (aR 63), some (aI a), some (aI e), some (aI 1), some (aI 0)] [] GG M1 0 0 := fun h M1 r1 f1 => by
    rw [if_neg h] at hQ
    exact BM_addVehicle_103 _ _ _ _ ⟨fun c3 => absurd c3 one, fun _ => ⟨fun _ => BM_addVehicle_122 _ _ _ _ _ (sp_ref (c := 2) hst (by omega) r1 f1 hQ), fun c3 => absurd wr_0 c3⟩⟩
  have ref3 : ¬ (snV S < 6 ∧ fnd (snV S) (szn S) a = none ∧ 0 < cntW S (snV S) a 0 (srz S (snV S))) → WM K fM_addVehicle (EM K fM_addVehicle 80 Q) 49 [some (aR 63), some (aI a), some (aI e), some (aI 1), none] [] GG M 0 0 := fun h =>
    BM_addVehicle_49 _ _ _ (BM_addVehicle_50 _ _ _ _ ⟨fun _ => ref2 h M hR FQ.rf, fun c3 => absurd wr_0 c3⟩)
  have hP := hR.2.2.2.1
  refine BM_addVehicle_22 _ _ _ ⟨fun c3 => absurd c3 one, fun _ => ?_⟩
  rw [hP.1, wr_6, wrn (by omega)]
  refine ⟨fun c3 => ref3 (fun h => by omega), fun c3 => sp_mfind hst hI.2.1 hP ha ⟨rfl, ?_⟩⟩
  have hn6 : snV S < 6 := by omega
  dsimp only
  cases hf : fnd (snV S) (szn S) a with
  | some u =>
    have hu := List.mem_range.mp (List.mem_of_find?_eq_some hf)
    have eu : wr (o2i (some u)) = (u : Int) := wrn (by omega)
    refine ⟨fun c4 => ?_, fun _ => ref3 (fun h => by rw [hf] at h; cases h.2.1)⟩
    rw [eu, wr_m1] at c4; omega
  | none =>
    refine ⟨fun _ => BM_addVehicle_50 _ _ _ _ ⟨fun c4 => absurd c4 one, fun _ => ⟨snV S, by rw [hP.1]; exact wrn (by omega), hn6, snV S, by rw [um_ne (by omega), hP.1]; exact wrn (by omega), hn6, ?_⟩⟩, fun c4 => absurd rfl c4⟩
    have e5 : um (um M 67 (snV S) (a : Int)) 69 (snV S) 0 63 5 = (snV S : Int) := by rw [um_ne (by omega), um_ne (by omega)]; exact hP.1
    rw [e5]
    have hP1 : MP (um (um (um M 67 (snV S) (a : Int)) 69 (snV S) 0) 63 5 ((snV S : Int) + 1)) (snV S + 1) (upN (szn S) (snV S) a) (upN (srl S) (snV S) 0) (upN (srz S) (snV S) (srz S (snV S))) := by
      refine ⟨um_self, fun w hw => ?_⟩
      by_cases q : w = snV S
      · subst q
        rw [upN_s, upN_s]
        refine ⟨?_, ?_, by omega, fun k hk => by omega⟩
        · rw [um_ne (by omega), um_ne (by omega), um_self]
        · rw [um_ne (by omega), um_self]; rfl
      · obtain ⟨g1, g2, g3, g4⟩ := hP.2 w (by omega)
        rw [upN_n q, upN_n q, upN_n q]
        refine ⟨?_, ?_, g3, fun k hk => ?_⟩
        · rw [um_ne (by omega), um_ne (by omega), um_ne2 q]; exact g1
        · rw [um_ne (by omega), um_ne2 q, um_ne (by omega)]; exact g2
        · rw [um_ne (by omega), um_ne (by omega), um_ne (by omega)]; exact g4 k hk
    refine sp_msafe hst (pg_new hI ha hn6) hP1 (fun M1 f1 _ _ => ⟨rfl, ?_⟩)
    have ecw : cntW S (snV S) a 0 (srz S (snV S)) = cntP (snV S + 1) (upN (szn S) (snV S) a) (upN (srl S) (snV S) 0) (upN (srz S) (snV S) (srz S (snV S))) 0 := by
      unfold cntW
      rw [if_pos rfl]
    have e6 : M1 63 5 = (snV S : Int) + 1 := by rw [f1 _ _ (by omega) (by omega), um_self]
    dsimp only
    rw [e6, ← ecw]
    have hhF : ∀ c k, c ≠ 76 → c ≠ 77 → (c ≠ 67 ∨ k ≠ snV S) → (c ≠ 69 ∨ k ≠ snV S) → um M1 63 5 ((snV S : Int) + 1 - 1) c k = M c k := fun c k c1 c2 c3 c4 => by
      by_cases q : c = 63
      · subst q
        by_cases q2 : k = 5
        · subst q2; rw [um_self, hP.1]; omega
        · rw [um_ne2 q2, f1 _ _ c1 c2, um_ne2 q2, um_ne (by omega), um_ne (by omega)]
      · rw [um_ne q, f1 _ _ c1 c2, um_ne q]
        by_cases q3 : c = 69
        · subst q3; rw [um_ne2 (by omega), um_ne (by omega)]
        · rw [um_ne q3]
          by_cases q4 : c = 67
          · subst q4; rw [um_ne2 (by omega)]
          · rw [um_ne q4]
    have hR1 : RM S (um M1 63 5 ((snV S : Int) + 1 - 1)) := hR.at_new (fun c k c1 c2 c3 c4 c5 c6 => hhF c k c1 c2 c3 c5)
    have hF1 : FQ M (um M1 63 5 ((snV S : Int) + 1 - 1)) := fun c k hc => hhF c k (by omega) (by omega) (by omega) (by omega)
    by_cases h3 : 0 < cntW S (snV S) a 0 (srz S (snV S))
    · rw [b2i_t h3]
      rw [if_pos ⟨hn6, hf, h3⟩] at hQ
      have f5 : um (um M1 63 5 ((snV S : Int) + 1 - 1)) 63 0 0 63 5 = (snV S : Int) := hR1.code.2.2.2.1.1
      refine BM_addVehicle_103 _ _ _ _ ⟨fun c4 => absurd c4 one, fun _ => ⟨fun c4 => absurd c4 one, fun _ => BM_addVehicle_122 _ _ _ _ _ (sp_ok (x0 := True) hst ⟨snV S, by rw [f5]; exact wrn (by omega), hn6, snV S, by rw [um_ne (by omega), f5]; exact wrn (by omega), hn6, ?_⟩)⟩⟩
      have f7 : um (um (um (um M1 63 5 ((snV S : Int) + 1 - 1)) 63 0 0) 68 (snV S) e) 71 (snV S) 0 63 5 = (snV S : Int) := by rw [um_ne (by omega), um_ne (by omega)]; exact f5
      rw [f7, um_self, show (snV S : Int) + 1 - 1 = (snV S : Int) by omega] at *
      refine hQ _ ?_ ((((hF1.um (by omega)).um (by omega)).um (by omega)).um (by omega)) ?_
      · have r := hR1.code (x := 0)
        obtain ⟨r1, r2, r3, r4, r5, r6, r7, r8⟩ := r
        have i6 := hI.2.2.2.2.2.1 (snV S) (Nat.le_refl _)
        refine ⟨fun i j hi hj => ?_, ?_, fun x hx => ?_, ⟨?_, fun u hu => ?_⟩, fun u hu => ?_, fun u hu => ?_, ?_, fun j hj => ?_⟩
        · rw [um_ne (by omega), um_ne (by omega), um_ne (by omega)]; exact r1 i j hi hj
        · rw [um_ne2 (by omega), um_ne (by omega), um_ne (by omega)]; exact r2
        · rw [um_ne (by omega), um_ne (by omega), um_ne (by omega)]; exact r3 x hx
        · rw [um_self]; rfl
        · show _ = ((upN (szn S) (snV S) a u : Nat) : Int) ∧ _ = (srl S u : Int) ∧ srl S u ≤ 20 ∧ ∀ k, k < srl S u → _ = (srz S u k : Int)
          by_cases q : u = snV S
          · rw [q, upN_s, i6.1]
            refine ⟨?_, ?_, by omega, fun k hk => by omega⟩
            · rw [um_ne (by omega), um_ne (by omega), um_ne (by omega), um_ne (by omega), um_ne (by omega), f1 _ _ (by omega) (by omega), um_ne (by omega), um_ne (by omega), um_self]
            · rw [um_ne (by omega), um_ne (by omega), um_ne (by omega), um_ne (by omega), um_ne (by omega), f1 _ _ (by omega) (by omega), um_ne (by omega), um_self]; rfl
          · obtain ⟨g1, g2, g3, g4⟩ := r4.2 u (by have : u < snV S + 1 := hu; omega)
            rw [upN_n q]
            refine ⟨?_, ?_, g3, fun k hk => ?_⟩
            · rw [um_ne (by omega), um_ne (by omega), um_ne (by omega)]; exact g1
            · rw [um_ne (by omega), um_ne (by omega), um_ne (by omega)]; exact g2
            · rw [um_ne (by omega), um_ne (by omega), um_ne (by omega)]; exact g4 k hk
        · show _ = upN (sen S) (snV S) e u ∧ _ = swt S u
          by_cases q : u = snV S
          · rw [q, upN_s, i6.2.1]
            refine ⟨?_, ?_⟩
            · rw [um_ne (by omega), um_ne (by omega), um_self]
            · rw [um_ne (by omega), um_self]
          · have g := r5 u (by have : u < snV S + 1 := hu; omega)
            rw [upN_n q]
            refine ⟨?_, ?_⟩
            · rw [um_ne (by omega), um_ne (by omega), um_ne2 q]; exact g.1
            · rw [um_ne (by omega), um_ne2 q, um_ne (by omega)]; exact g.2
        · rw [um_ne (by omega), um_ne (by omega), um_ne (by omega)]; exact r6 u hu
        · rw [um_ne2 (by omega), um_ne (by omega), um_ne (by omega)]; exact r7
        · simp (disch := omega) only [um_ne (c := 63) (k := 5), um_ne (c := 71), um_ne (c := 68)]; exact r8 j hj
      · rw [um_ne2 (by omega), um_ne (by omega), um_ne (by omega), um_self]; rfl
    · rw [b2i_f h3]
      exact ref2 (fun h => h3 h.2.2) _ hR1 hF1
end MV
