/-! whether the plant is safe, as the class finds it -/
def FLT (M : AM) (n : Nat) (zn rl : Nat → Nat) (rz : Nat → Nat → Nat) : Prop := M 0 4 = (n : Int) ∧ ∀ v, v < 6 → VX M v (zn v) (rl v) (rz v)
theorem FLT.ft {M M' : AM} {n : Nat} {zn rl : Nat → Nat} {rz : Nat → Nat → Nat} (h : FLT M n zn rl rz) (hF : FT M M') : FLT M' n zn rl rz := ⟨by rw [hF 0 4 (by omega)]; exact h.1, fun v hv => (h.2 v hv).congr (fun k _ => hF _ _ (by omega)) (fun k => hF _ _ (by omega))⟩
def fnd (n : Nat) (zn : Nat → Nat) (z : Nat) : Option Nat := (List.range n).find? (fun v => decide (zn v = z))
theorem Pg.lst {n : Nat} {zn rl : Nat → Nat} {rz : Nat → Nat → Nat} (h : Pg n zn rl rz) {v : Nat} (hv : v < n) : lstz (zn v) (rl v) (rz v) < 20 := by
  unfold lstz
  split
  · exact ((h.2 v hv).2 _ (by omega)).1
  · exact (h.2 v hv).1
theorem Pg.bits {n : Nat} {zn rl : Nat → Nat} {rz : Nat → Nat → Nat} (h : Pg n zn rl rz) {v : Nat} (hv : v < n) : rbt (rz v) (rl v) < 1048576 := rbt_lt (m := 20) (fun k hk => ((h.2 v hv).2 k hk).1)
theorem TXP.less {M : AM} {n : Nat} {zn rl zn' rl' : Nat → Nat} {rz rz' : Nat → Nat → Nat} (h : TXP M n zn rl rz) (hz : ∀ v, v < n → zn' v = zn v ∧ rl' v = rl v ∧ rz' v = rz v) : TXP M n zn' rl' rz' := by
  refine TX.congr h ?_ (fun w hw => ?_)
  · apply Nat.eq_of_testBit_eq
    intro i
    rw [bsy_bit, bsy_bit]
    by_cases hi : i < n
    · rw [(hz i hi).2.1]
    · simp [hi]
  · unfold sBP eBP rBP
    by_cases hi : w < n
    · rw [if_pos hi, if_pos hi, if_pos hi, if_pos hi, if_pos hi, if_pos hi, (hz w hi).1, (hz w hi).2.1, (hz w hi).2.2]
      exact ⟨rfl, rfl, rfl⟩
    · rw [if_neg hi, if_neg hi, if_neg hi, if_neg hi, if_neg hi, if_neg hi]
      exact ⟨rfl, rfl, rfl⟩
theorem b2i_01 (b : Bool) : b2i b = 0 ∨ b2i b = 1 := by cases b <;> simp [b2i]
section SF
variable {K : KX} {n : Nat} {zn rl : Nat → Nat} {rz : Nat → Nat → Nat} {Q : Res → AG → AM → Prop}
theorem sp_putP (hst : K.1.stackTraces = false) {M : AM} (hT : TXP M n zn rl rz) {v z l t : Nat} {r : Nat → Nat} (hv6 : v < 6) (hv : v ≤ n) (hz : z < 20) (hb : rbt r l < 1048576) (ht : t = lstz z l r) (ht20 : t < 20)
    (hQ : ∀ M' : AM, FT M M' → TXP M' (if v = n then n + 1 else n) (upN zn v z) (upN rl v l) (upN rz v r) → Q (.inl none) GG M') : MetA K fT_put [aR 24, aI v, aI z, aI (rbt r l : Nat), aI t] GG M Q := by
  subst ht
  exact sp_put hst hT hv6 hz hb ht20 (fun M' h1 h2 => hQ M' h1 (TXP.put hv h2))
theorem lp_look (hst : K.1.stackTraces = false) (hPg : Pg n zn rl rz) {M0 : AM} (hM0 : FLT M0 n zn rl rz) (hQ : ∀ M' : AM, FT M0 M' → TXP M' n zn rl rz → Q (.inl none) GG M') :
    ∀ (d i : Nat) (M : AM), i + d = n → FT M0 M → TXP M i zn rl rz → WM K fZ_lookAtTraffic (EM K fZ_lookAtTraffic 126 Q) 9 [some (aR 0), some (aI i), none] [] GG M 0 0 := by
  have h6 := hPg.1
  intro d
  induction d with
  | zero =>
    intro i M hi hF hT
    have hin : i = n := by omega
    subst hin
    refine BZ_lookAtTraffic_9 _ ⟨fun _ => hQ M hF hT, fun c => absurd ?_ c⟩
    rw [(hM0.ft hF).1]; omega
  | succ d ih =>
    intro i M hi hF hT
    have hL := hM0.ft hF
    have hin : i < n := by omega
    have hV := hL.2 i (by omega)
    refine BZ_lookAtTraffic_9 _ ⟨fun c => ?_, fun _ => ⟨i, wrn (by omega), by omega, ?_⟩⟩
    · rw [hL.1, wrn (by omega), wrn (by omega)] at c; omega
    · refine sp_lastZone hst (by omega) hV ⟨rfl, ?_⟩
      dsimp only
      rw [hV.1, hV.2.1]
      refine sp_putP hst hT (by omega) (Nat.le_refl _) (hPg.2 i hin).1 (hPg.bits hin) rfl (hPg.lst hin) (fun M' h1 h2 => ⟨rfl, ?_⟩)
      refine ih (i + 1) M' (by omega) (hF.tr h1) ?_
      rw [if_pos rfl] at h2
      refine h2.less (fun w hw => ?_)
      by_cases e : w = i
      · subst e; rw [upN_s, upN_s, upN_s]; exact ⟨rfl, rfl, rfl⟩
      · rw [upN_n e, upN_n e, upN_n e]; exact ⟨rfl, rfl, rfl⟩
theorem sp_look (hst : K.1.stackTraces = false) (hPg : Pg n zn rl rz) {M : AM} (hM : FLT M n zn rl rz) (hQ : ∀ M' : AM, FT M M' → TXP M' n zn rl rz → Q (.inl none) GG M') : MetA K fZ_lookAtTraffic [aR 0] GG M Q := by
  refine EZ_lookAtTraffic hst (BZ_lookAtTraffic_0 (sp_clear hst (fun M' h1 h2 => ⟨rfl, ?_⟩)))
  refine lp_look hst hPg hM hQ n 0 M' (by omega) h1 (h2.congr rfl (fun v hv => ?_))
  unfold sBP eBP rBP
  rw [if_neg (by omega), if_neg (by omega), if_neg (by omega)]
  exact ⟨rfl, rfl, rfl⟩
theorem sp_safe (hst : K.1.stackTraces = false) (hPg : Pg n zn rl rz) {M : AM} (hM : FLT M n zn rl rz) {v z l t : Nat} {r : Nat → Nat} (hv6 : v < 6) (hv : v ≤ n) (ht : t = lstz z l r) (hPg' : Pg (if v = n then n + 1 else n) (upN zn v z) (upN rl v l) (upN rz v r))
    (hQ : ∀ M' : AM, FT M M' → Q (.inl (some (aI (b2i (decide (0 < cntP (if v = n then n + 1 else n) (upN zn v z) (upN rl v l) (upN rz v r) 0)))))) GG M') : MetA K fZ_isSafeWith [aR 0, aI v, aI z, aI (rbt r l : Nat), aI t] GG M Q := by
  have hvn : v < if v = n then n + 1 else n := by split <;> omega
  have e1 := hPg'.lst hvn
  have e2 := hPg'.bits hvn
  have e3 := (hPg'.2 v hvn).1
  rw [upN_s, upN_s, upN_s] at e1
  rw [upN_s, upN_s] at e2
  rw [upN_s] at e3
  refine EZ_isSafeWith hst _ _ _ _ (BZ_isSafeWith_0 _ _ _ _ (sp_look hst hPg hM (fun M1 f1 t1 => ⟨rfl, ?_⟩)))
  refine sp_putP hst t1 hv6 hv e3 e2 ht (by rw [ht]; exact e1) (fun M2 f2 t2 => ⟨rfl, ?_⟩)
  refine sp_count hst t2 (fun M3 f3 c3 => ⟨rfl, ?_⟩)
  have hF : FT M M3 := (f1.tr f2).tr (fun c k hc => f3 c k (by omega))
  have hq := hQ M3 hF
  dsimp only
  rw [cntT_P hPg']
  have bd : cntP (if v = n then n + 1 else n) (upN zn v z) (upN rl v l) (upN rz v r) 0 ≤ 46656 := cnt_bd
  rw [wrn (by omega)]
  unfold b2i at hq
  refine ⟨fun c => ?_, fun c => ?_⟩
  · rw [if_neg (by simp; omega)] at hq; exact hq
  · rw [if_pos (by simp; omega)] at hq; exact hq
theorem sp_safeIdle (hst : K.1.stackTraces = false) (hPg : Pg n zn rl rz) {M : AM} (hM : FLT M n zn rl rz) {v z : Nat} {r : Nat → Nat} (hv6 : v < 6) (hv : v ≤ n) (hPg' : Pg (if v = n then n + 1 else n) (upN zn v z) (upN rl v 0) (upN rz v r))
    (hQ : ∀ M' : AM, FT M M' → Q (.inl (some (aI (b2i (decide (0 < cntP (if v = n then n + 1 else n) (upN zn v z) (upN rl v 0) (upN rz v r) 0)))))) GG M') : MetA K fZ_isSafeWithIdle [aR 0, aI v, aI z] GG M Q := by
  refine EZ_isSafeWithIdle hst _ _ (BZ_isSafeWithIdle_0 _ _ ?_)
  exact sp_safe (l := 0) (r := r) hst hPg hM hv6 hv rfl hPg' (fun M' hF => ⟨rfl, b2i_01 _, hQ M' hF⟩)
theorem lp_find {M : AM} (h6 : n ≤ 6) (hM : FLT M n zn rl rz) (hz20 : ∀ v, v < n → zn v < 20) {z : Nat} (hz : z < 20) (hQ : Q (.inl (some (aI (o2i (fnd n zn z))))) GG M) : ∀ d i : Nat, i + d = n → (∀ y, y < i → zn y ≠ z) → WM K fZ_findIn (EM K fZ_findIn 126 Q) 2 [some (aR 0), some (aI z), some (aI i)] [] GG M 0 0 := by
  intro d
  induction d with
  | zero =>
    intro i hi hb
    refine BZ_findIn_2 _ _ ⟨fun _ => ?_, fun c => absurd ?_ c⟩
    · have : fnd n zn z = none := List.find?_eq_none.mpr (fun x hx => by
        have := hb x (by have := List.mem_range.mp hx; omega)
        simpa using this)
      rw [this] at hQ
      exact hQ
    · rw [hM.1, wrn (by omega), wrn (by omega)]; omega
  | succ d ih =>
    intro i hi hb
    have hin : i < n := by omega
    have := hz20 i hin
    refine BZ_findIn_2 _ _ ⟨fun c => ?_, fun _ => ⟨i, wrn (by omega), by omega, ?_⟩⟩
    · rw [hM.1, wrn (by omega), wrn (by omega)] at c; omega
    · rw [(hM.2 i (by omega)).1, wrn (by omega), wrn (by omega)]
      refine ⟨fun c => ?_, fun c => ?_⟩
      · have : fnd n zn z = some i := List.find?_range_eq_some.mpr ⟨by simp; omega, List.mem_range.mpr hin, fun j hj => by simpa using hb j hj⟩
        rw [this] at hQ
        exact hQ
      · exact ih (i + 1) (by omega) (fun y hy => by
          by_cases e : y = i
          · subst e; omega
          · exact hb y (by omega))
theorem sp_find (hst : K.1.stackTraces = false) {M : AM} (h6 : n ≤ 6) (hM : FLT M n zn rl rz) (hz20 : ∀ v, v < n → zn v < 20) {z : Nat} (hz : z < 20) (hQ : Q (.inl (some (aI (o2i (fnd n zn z))))) GG M) : MetA K fZ_findIn [aR 0, aI z] GG M Q :=
  EZ_findIn hst _ (BZ_findIn_0 _ (lp_find h6 hM hz20 hz hQ n 0 (by omega) (fun y hy => by omega)))
end SF
