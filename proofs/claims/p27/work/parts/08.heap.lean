/-! the cells that there are once the system stands; what segments of code are told with -/
def rsVeh (v : Nat) : List (Option Nat) := [some (31 + 2 * v), none, none, none, none, none, none, none]
/-- the cells of one object of the class -/
def GX : AG := [(4, 0, [some 1, some 24, some 29, some 42, none, none]), (1, 0, [some 2, some 23, none]), (11, 20, (List.range 20).map (fun i => some (3 + i)))] ++ List.replicate 20 (6, 20, []) ++ [(7, 20, []), (2, 0, [some 25, some 26, some 27, some 28, none]), (6, 6, []), (6, 6, []), (6, 6, []), (6, 64, []), (9, 6, (List.range 6).map (fun v => some (30 + 2 * v)))] ++ (List.range 6).flatMap (fun v => [(3, 0, rsVeh v), (6, 20, [])]) ++ [(10, 20, (List.range 20).map (fun j => some (43 + j)))] ++ List.replicate 20 (0, 0, [none, none, none])
/-- a cell list laid b places on -/
def sh (b : Nat) (G : AG) : AG := G.map (fun g => (g.1, g.2.1, g.2.2.map (fun o => o.map (fun r => r + b))))
def GG : AG := GX ++ sh 63 GX
theorem gg_len : GG.length = 126 := by decide +kernel
theorem gg_row : ∀ i, i < 20 → GG[3 + i]? = some (6, 20, []) := by decide +kernel
theorem gg_veh : ∀ v, v < 6 → GG[30 + 2 * v]? = some (3, 0, rsVeh v) := by decide +kernel
theorem gg_vrow : ∀ v, v < 6 → GG[31 + 2 * v]? = some (6, 20, []) := by decide +kernel
theorem gg_job : ∀ j, j < 20 → GG[43 + j]? = some (0, 0, [none, none, none]) := by decide +kernel
theorem rg_at {f : Nat → Option Nat} {n i : Nat} (h : i < n) : ((List.range n).map f)[i]? = some (f i) := by simp [List.getElem?_range h]
theorem rsVeh_0 (v : Nat) : (rsVeh v)[0]? = some (some (31 + 2 * v)) := rfl
def LocLe (L' L : List (Option AV)) : Prop := ∀ (i : Nat) (a : AV), L'[i]? = some (some a) → L[i]? = some (some a)
theorem ll_nil {L : List (Option AV)} : LocLe [] L := fun i a h => by simp at h
theorem ll_n {L' L : List (Option AV)} {x : Option AV} (h : LocLe L' L) : LocLe (none :: L') (x :: L) := fun i a hi => by
  cases i with
  | zero => simp at hi
  | succ i => simpa using h i a (by simpa using hi)
theorem ll_s {L' L : List (Option AV)} {x : Option AV} (h : LocLe L' L) : LocLe (x :: L') (x :: L) := fun i a hi => by
  cases i with
  | zero => exact hi
  | succ i => simpa using h i a (by simpa using hi)
def cI (G0 : AG) (k : Int → AM → Prop) (x : String → AM → Prop) : Res → AG → AM → Prop := fun r G M => G = G0 ∧ match r with
  | .inl (some (.inl b)) => k b M
  | .inr X => x X M
  | _ => False
def cV (G0 : AG) (k : AM → Prop) (x : String → AM → Prop) : Res → AG → AM → Prop := fun r G M => G = G0 ∧ match r with
  | .inl none => k M
  | .inr X => x X M
  | _ => False
def noX : String → AM → Prop := fun _ _ => False
section CQ
variable {K : KX} {F : Fn} {E : CE} {pc : Nat} {L : List (Option AV)} {rest : List AV} {uc us : Nat} {G0 : AG}
theorem q_cI {k : Int → AM → Prop} {x : String → AM → Prop} (hI : ∀ b M1, k b M1 → WM K F E (pc + 3) L (aI b :: rest) G0 M1 uc us) (hX : ∀ X M1, x X M1 → XM K F E pc L rest X G0 M1 uc us) : ∀ r G' M', cI G0 k x r G' M' → KQ K F E pc L rest uc us r G' M' := by
  intro r G' M' h
  obtain ⟨rfl, h⟩ := h
  rcases r with (_ | (b | b)) | X
  · exact h.elim
  · exact hI b M' h
  · exact h.elim
  · exact hX X M' h
theorem q_cV {k : AM → Prop} {x : String → AM → Prop} (hI : ∀ M1, k M1 → WM K F E (pc + 3) L rest G0 M1 uc us) (hX : ∀ X M1, x X M1 → XM K F E pc L rest X G0 M1 uc us) : ∀ r G' M', cV G0 k x r G' M' → KQ K F E pc L rest uc us r G' M' := by
  intro r G' M' h
  obtain ⟨rfl, h⟩ := h
  rcases r with (_ | (b | b)) | X
  · exact hI M' h
  · exact h.elim
  · exact h.elim
  · exact hX X M' h
end CQ
theorem hwd_c {F : Fn} (h : F.2.2.2.2.2.2 = []) (g : Cond.code F.1 F.2.1 F.2.2.1 F.2.2.2.1 ∈ gw) : hwd F ∈ gw := by
  unfold hwd
  rw [if_pos h]
  exact g
theorem hwd_h {F : Fn} (h : ¬ F.2.2.2.2.2.2 = []) (g : Cond.codeWith F.1 F.2.1 F.2.2.1 F.2.2.2.1 F.2.2.2.2.2.2 ∈ gw) : hwd F ∈ gw := by
  unfold hwd
  rw [if_neg h]
  exact g
theorem gm_linkP : Cond.methodLink "ZoneController$Plant" 20 Lib.Math.min.name ∈ gw := gw_at 267 (by decide +kernel) (by decide +kernel)
theorem gm_linkV : Cond.methodLink "ZoneController$Vehicle" 34 Lib.Math.min.name ∈ gw := gw_at 419 (by decide +kernel) (by decide +kernel)
theorem gm_stat : Cond.static Lib.Math.min.name ∈ gw := gw_at 268 (by decide +kernel) (by decide +kernel)
theorem gm_code : Cond.code Lib.Math.min.name Lib.Math.min.code 2 (some .int) ∈ gw := gw_at 269 (by decide +kernel) (by decide +kernel)
theorem gm_init : Cond.initialized "java/lang/Math" ∈ gw := gw_at 29 (by decide +kernel) (by decide +kernel)
def mn (x y : Int) : Int := if wr y < wr x then y else x
theorem s_min {K : KX} {F : Fn} {E : CE} {pc index : Nat} {L : List (Option AV)} {rest : List AV} {G : AG} {M : AM} {uc us : Nat} {x y : Int} (hd : decode F.2.1 pc = .ok (.invokestatic index, 3)) (hl : Cond.methodLink F.1.cls index Lib.Math.min.name ∈ gw) (hrest : rest.length ≤ 4)
    (hr : 1 ≤ F.2.2.2.2.1.frames ∧ 21 ≤ F.2.2.2.2.1.locals ∧ uc ≤ F.2.2.2.2.1.cells ∧ us ≤ F.2.2.2.2.1.slots) (k : WM K F E (pc + 3) L (aI (mn x y) :: rest) G M uc us) : WM K F E pc L (aI y :: aI x :: rest) G M uc us := by
  intro _ p e R s m args below meth c A n0 ad0 al Qe hE C ad H locs ls h1 h2 hP hD hS h3
  obtain ⟨hx1, hb, hml, hown, hts, hK, hA, hz, hw, hlocks, hstt, hR⟩ := id C
  have hcat := cats (ad := ad) rest hrest
  refine va_mmin hx1 hb (hml.trans h3.1.symm) hown (hts _ hl) (hts _ gm_stat) (hts _ gm_init) (hts _ gm_code) (by rw [hR]; exact hr.1) (by rw [hR]; have := hr.2.1; simp only [List.map_map] at hcat ⊢; omega) (by rw [hR]; exact hr.2.2.1) (by rw [hR]; exact hr.2.2.2) hd (W.cst ?_ (k () hE C ad H locs ls h1 h2 hP hD hS h3))
  show Value.int (Int32.ofInt (mn x y)) = _
  unfold mn
  by_cases h : wr y < wr x
  · rw [if_pos h, if_pos (wlt.mpr h)]
  · rw [if_neg h, if_neg (fun q => h (wlt.mp q))]
