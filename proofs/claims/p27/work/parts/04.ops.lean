/-! the instructions, one by one -/
theorem wlt {x y : Int} : Int32.ofInt x < Int32.ofInt y ↔ wr x < wr y := Int32.lt_iff_toInt_lt
theorem wle {x y : Int} : Int32.ofInt x ≤ Int32.ofInt y ↔ wr x ≤ wr y := Int32.le_iff_toInt_le
theorem weq {x y : Int} : Int32.ofInt x = Int32.ofInt y ↔ wr x = wr y := Int32.toInt_inj.symm
theorem wr_bmod (z : Int) : wr z = z.bmod (2 ^ 32) := Int32.toInt_ofInt ..
theorem wr_of {z : Int} (h1 : -2147483648 ≤ z) (h2 : z < 2147483648) : wr z = z := by
  rw [wr_bmod]
  exact Int.bmod_eq_of_le_mul_two (by omega) (by omega)
theorem wr_0 : wr 0 = 0 := wr_of (by omega) (by omega)
theorem wr_lo (z : Int) : -2147483648 ≤ wr z := Int32.le_toInt _
theorem wr_hi (z : Int) : wr z < 2147483648 := Int32.toInt_lt _
theorem wr_ofI (v : Int32) : Int32.ofInt v.toInt = v := Int32.ofInt_toInt v
theorem w_zero : (0 : Int32) = Int32.ofInt 0 := rfl
theorem w_in {i : Int} {j n : Nat} (h : wr i = j) (hj : j < n) : vp_in (Int32.ofInt i) n := vp_in_iff.mpr (by
  have : (Int32.ofInt i).toInt = j := h
  omega)
theorem w_cl {i : Int} {j : Nat} (h : wr i = j) : (Int32.ofInt i).toNatClampNeg = j := by
  have h1 : (Int32.ofInt i).toInt = j := h
  rw [← Int32.toNat_toInt, h1]
  rfl
def wia (x y : Int) : Int := (Int32.ofInt x &&& Int32.ofInt y).toInt
def wio (x y : Int) : Int := (Int32.ofInt x ||| Int32.ofInt y).toInt
def wix (x y : Int) : Int := (Int32.ofInt x ^^^ Int32.ofInt y).toInt
def wsl (x y : Int) : Int := (Int32.ofInt x <<< (Int32.ofInt y &&& 31)).toInt
def wsr (x y : Int) : Int := (Int32.ofInt x >>> (Int32.ofInt y &&& 31)).toInt
def wus (x y : Int) : Int := ((Int32.ofInt x).toUInt32 >>> ((Int32.ofInt y).toUInt32 &&& Int32.toUInt32 31)).toInt32.toInt
def wdv (x y : Int) : Int := (Int32.ofInt x / Int32.ofInt y).toInt
def wcmp (x y : Int) : Int := (lg_cmp (Int64.ofInt x) (Int64.ofInt y)).toInt
def prs (ad : Nat → Nat) (L : List (Option AV)) : List (Nat × Value) := L.zipIdx.filterMap (fun q => q.1.map (fun a => (q.2, cv ad a)))
theorem prs_mem {ad : Nat → Nat} {L : List (Option AV)} {k : Nat} {v : Value} : (k, v) ∈ prs ad L ↔ ∃ a, L[k]? = some (some a) ∧ v = cv ad a := by
  unfold prs
  rw [List.mem_filterMap]
  constructor
  · rintro ⟨⟨o, j⟩, hq, h⟩
    rw [List.mem_zipIdx_iff_getElem?] at hq
    cases o with
    | none => cases h
    | some a =>
      cases h
      exact ⟨a, hq, rfl⟩
  · rintro ⟨a, h, rfl⟩
    exact ⟨(some a, k), by rw [List.mem_zipIdx_iff_getElem?]; exact h, rfl⟩
theorem lvr_has {ad : Nat → Nat} {nL : Nat} {L : List (Option AV)} {ls : Array Slot} (h : lvr ad nL L ls) : lv_has ls nL (prs ad L) := ⟨h.1, h.2.1, fun q hq => by
  obtain ⟨a, h1, h2⟩ := prs_mem.mp hq
  rw [h2]
  exact (h.2.2 q.1 a h1).1⟩
theorem lvr_set {ad : Nat → Nat} {nL i : Nat} {L : List (Option AV)} {ls ls' : Array Slot} {a : AV} (h : lvr ad nL L ls) (ha : (cv ad a).category = 1)
    (h' : lv_has ls' nL ((i, cv ad a) :: (prs ad L).filter (fun q => !(q.1 == i) && !(q.1 + 1 == i && q.2.category == 2)))) : lvr ad nL (L.set i (some a)) ls' := by
  refine ⟨h'.1, h'.2.1, fun k b hk => ?_⟩
  by_cases hi : i = k
  · subst hi
    by_cases hl : i < L.length
    · rw [List.getElem?_set_self hl] at hk
      cases hk
      exact ⟨h'.2.2 _ List.mem_cons_self, ha⟩
    · rw [List.getElem?_eq_none (by simpa using Nat.le_of_not_lt hl)] at hk
      cases hk
  · rw [List.getElem?_set_ne hi] at hk
    obtain ⟨g1, g2⟩ := h.2.2 k b hk
    refine ⟨h'.2.2 (k, cv ad b) (List.mem_cons_of_mem _ (List.mem_filter.mpr ⟨prs_mem.mpr ⟨b, hk, rfl⟩, ?_⟩)), g2⟩
    have h1 : (k == i) = false := by simpa using fun q => hi q.symm
    simp [h1, g2]
section OPS
variable {K : KX} {F : Fn} {E : CE} {pc : Nat} {L : List (Option AV)} {st : List AV} {G : AG} {M : AM} {uc us : Nat}
theorem s_loc {L' : List (Option AV)} (h : ∀ (i : Nat) (a : AV), L'[i]? = some (some a) → L[i]? = some (some a)) (k : WM K F E pc L' st G M uc us) : WM K F E pc L st G M uc us := by
  intro _ p e R s m args below meth c A n0 ad0 al Qe hE C ad H locs ls h1 h2 hP hD hS hl
  exact k () hE C ad H locs ls h1 h2 hP hD hS ⟨hl.1, hl.2.1, fun i a hi => hl.2.2 i a (h i a hi)⟩
theorem s_aload_n {i : Fin 4} {r : Nat} (hd : decode F.2.1 pc = .ok (.aload_n i, 1)) (hl : L[i.val]? = some (some (aR r))) (k : WM K F E (pc + 1) L (aR r :: st) G M uc us) : WM K F E pc L st G M uc us := by
  intro _ p e R s m args below meth c A n0 ad0 al Qe hE C ad H locs ls h1 h2 hP hD hS h3
  exact lv_aload_n C.1 C.2.1 hd rfl (h3.2.2 _ _ hl).1 (k () hE C ad H locs ls h1 h2 hP hD hS h3)
theorem s_aloadX_n {i : Fin 4} {r : Nat} (hd : decode F.2.1 pc = .ok (.aload_n i, 1)) (hl : L[i.val]? = some (some (aX r))) (k : WM K F E (pc + 1) L (aX r :: st) G M uc us) : WM K F E pc L st G M uc us := by
  intro _ p e R s m args below meth c A n0 ad0 al Qe hE C ad H locs ls h1 h2 hP hD hS h3
  exact lv_aload_n C.1 C.2.1 hd rfl (h3.2.2 _ _ hl).1 (k () hE C ad H locs ls h1 h2 hP hD hS h3)
theorem s_aload {i : Nat} {r : Nat} (hd : decode F.2.1 pc = .ok (.aload i, 2)) (hl : L[i]? = some (some (aR r))) (k : WM K F E (pc + 2) L (aR r :: st) G M uc us) : WM K F E pc L st G M uc us := by
  intro _ p e R s m args below meth c A n0 ad0 al Qe hE C ad H locs ls h1 h2 hP hD hS h3
  exact lv_aload C.1 C.2.1 hd (h3.2.2 _ _ hl).1 (k () hE C ad H locs ls h1 h2 hP hD hS h3)
theorem s_iload_n {i : Fin 4} {x : Int} (hd : decode F.2.1 pc = .ok (.iload_n i, 1)) (hl : L[i.val]? = some (some (aI x))) (k : WM K F E (pc + 1) L (aI x :: st) G M uc us) : WM K F E pc L st G M uc us := by
  intro _ p e R s m args below meth c A n0 ad0 al Qe hE C ad H locs ls h1 h2 hP hD hS h3
  exact lv_iload_n C.1 C.2.1 hd rfl (h3.2.2 _ _ hl).1 (k () hE C ad H locs ls h1 h2 hP hD hS h3)
theorem s_iload {i : Nat} {x : Int} (hd : decode F.2.1 pc = .ok (.iload i, 2)) (hl : L[i]? = some (some (aI x))) (k : WM K F E (pc + 2) L (aI x :: st) G M uc us) : WM K F E pc L st G M uc us := by
  intro _ p e R s m args below meth c A n0 ad0 al Qe hE C ad H locs ls h1 h2 hP hD hS h3
  exact lv_iload C.1 C.2.1 hd (h3.2.2 _ _ hl).1 (k () hE C ad H locs ls h1 h2 hP hD hS h3)
theorem s_iconst {n : Int} (hd : decode F.2.1 pc = .ok (.iconst n, 1)) (k : WM K F E (pc + 1) L (aI n :: st) G M uc us) : WM K F E pc L st G M uc us := by
  intro _ p e R s m args below meth c A n0 ad0 al Qe hE C ad H locs ls h1 h2 hP hD hS h3
  exact lv_iconst C.1 C.2.1 hd rfl (k () hE C ad H locs ls h1 h2 hP hD hS h3)
theorem s_bipush {n : Int} (hd : decode F.2.1 pc = .ok (.bipush n, 2)) (hv : (Int8.ofInt n).toInt32 = Int32.ofInt n) (k : WM K F E (pc + 2) L (aI n :: st) G M uc us) : WM K F E pc L st G M uc us := by
  intro _ p e R s m args below meth c A n0 ad0 al Qe hE C ad H locs ls h1 h2 hP hD hS h3
  exact lv_bipush C.1 C.2.1 hd hv (k () hE C ad H locs ls h1 h2 hP hD hS h3)
theorem s_sipush {n : Int} (hd : decode F.2.1 pc = .ok (.sipush n, 3)) (hv : (Int16.ofInt n).toInt32 = Int32.ofInt n) (k : WM K F E (pc + 3) L (aI n :: st) G M uc us) : WM K F E pc L st G M uc us := by
  intro _ p e R s m args below meth c A n0 ad0 al Qe hE C ad H locs ls h1 h2 hP hD hS h3
  exact lv_sipush C.1 C.2.1 hd hv (k () hE C ad H locs ls h1 h2 hP hD hS h3)
theorem s_ldcw {index : Nat} {v : Int32} {z : Int} (hd : decode F.2.1 pc = .ok (.ldc_w index, 3)) (hw : Cond.constant F.1.cls index v ∈ gw) (hv : v = Int32.ofInt z) (k : WM K F E (pc + 3) L (aI z :: st) G M uc us) : WM K F E pc L st G M uc us := by
  intro _ p e R s m args below meth c A n0 ad0 al Qe hE C ad H locs ls h1 h2 hP hD hS h3
  subst hv
  exact lv_ldcw C.1 C.2.1 C.2.2.2.1 (C.2.2.2.2.1 _ hw) hd (k () hE C ad H locs ls h1 h2 hP hD hS h3)
theorem s_istore_n {i : Fin 4} {x : Int} (hd : decode F.2.1 pc = .ok (.istore_n i, 1)) (hn : i.val < F.2.2.1) (k : WM K F E (pc + 1) (L.set i.val (some (aI x))) st G M uc us) : WM K F E pc L (aI x :: st) G M uc us := by
  intro _ p e R s m args below meth c A n0 ad0 al Qe hE C ad H locs ls h1 h2 hP hD hS h3
  exact lv_istore_n C.1 C.2.1 hd rfl (lvr_has h3) hn rfl (fun ls' h' => k () hE C ad H locs ls' h1 h2 hP hD hS (lvr_set h3 rfl h'))
theorem s_istore {i : Nat} {x : Int} (hd : decode F.2.1 pc = .ok (.istore i, 2)) (hn : i < F.2.2.1) (k : WM K F E (pc + 2) (L.set i (some (aI x))) st G M uc us) : WM K F E pc L (aI x :: st) G M uc us := by
  intro _ p e R s m args below meth c A n0 ad0 al Qe hE C ad H locs ls h1 h2 hP hD hS h3
  exact lv_istore C.1 C.2.1 hd (lvr_has h3) hn rfl (fun ls' h' => k () hE C ad H locs ls' h1 h2 hP hD hS (lvr_set h3 rfl h'))
theorem s_astore_n {i : Fin 4} {x : Nat} (hd : decode F.2.1 pc = .ok (.astore_n i, 1)) (hn : i.val < F.2.2.1) (k : WM K F E (pc + 1) (L.set i.val (some (aR x))) st G M uc us) : WM K F E pc L (aR x :: st) G M uc us := by
  intro _ p e R s m args below meth c A n0 ad0 al Qe hE C ad H locs ls h1 h2 hP hD hS h3
  exact lv_astore_n C.1 C.2.1 hd rfl (lvr_has h3) hn rfl (fun ls' h' => k () hE C ad H locs ls' h1 h2 hP hD hS (lvr_set h3 rfl h'))
theorem s_astore {i : Nat} {x : Nat} (hd : decode F.2.1 pc = .ok (.astore i, 2)) (hn : i < F.2.2.1) (k : WM K F E (pc + 2) (L.set i (some (aR x))) st G M uc us) : WM K F E pc L (aR x :: st) G M uc us := by
  intro _ p e R s m args below meth c A n0 ad0 al Qe hE C ad H locs ls h1 h2 hP hD hS h3
  exact lv_astore C.1 C.2.1 hd (lvr_has h3) hn rfl (fun ls' h' => k () hE C ad H locs ls' h1 h2 hP hD hS (lvr_set h3 rfl h'))
theorem s_astoreX_n {i : Fin 4} {x : Nat} (hd : decode F.2.1 pc = .ok (.astore_n i, 1)) (hn : i.val < F.2.2.1) (k : WM K F E (pc + 1) (L.set i.val (some (aX x))) st G M uc us) : WM K F E pc L (aX x :: st) G M uc us := by
  intro _ p e R s m args below meth c A n0 ad0 al Qe hE C ad H locs ls h1 h2 hP hD hS h3
  exact lv_astore_n C.1 C.2.1 hd rfl (lvr_has h3) hn rfl (fun ls' h' => k () hE C ad H locs ls' h1 h2 hP hD hS (lvr_set h3 rfl h'))
theorem s_astoreX {i : Nat} {x : Nat} (hd : decode F.2.1 pc = .ok (.astore i, 2)) (hn : i < F.2.2.1) (k : WM K F E (pc + 2) (L.set i (some (aX x))) st G M uc us) : WM K F E pc L (aX x :: st) G M uc us := by
  intro _ p e R s m args below meth c A n0 ad0 al Qe hE C ad H locs ls h1 h2 hP hD hS h3
  exact lv_astore C.1 C.2.1 hd (lvr_has h3) hn rfl (fun ls' h' => k () hE C ad H locs ls' h1 h2 hP hD hS (lvr_set h3 rfl h'))
theorem s_iinc {i : Nat} {n x : Int} (hd : decode F.2.1 pc = .ok (.iinc i n, 3)) (hl : L[i]? = some (some (aI x))) (hn : i < F.2.2.1) (k : WM K F E (pc + 3) (L.set i (some (aI (x + n)))) st G M uc us) : WM K F E pc L st G M uc us := by
  intro _ p e R s m args below meth c A n0 ad0 al Qe hE C ad H locs ls h1 h2 hP hD hS h3
  obtain ⟨j, hj⟩ := List.getElem?_of_mem (prs_mem (ad := ad).mpr ⟨_, hl, rfl⟩)
  exact lv_iinc (v := Int32.ofInt (x + n)) C.1 C.2.1 hd (lvr_has h3) hj (Int32.ofInt_add ..).symm hn rfl (fun ls' h' => k () hE C ad H locs ls' h1 h2 hP hD hS (lvr_set (a := aI (x + n)) h3 rfl h'))
theorem W.cst {p : Program} {l : Launch} {e : Env} {R : Room} {s : State} {m : MethodId} {args : Array Value} {below : List Frame} {meth : Method} {c : Code} {H : Heap} {locs : List Loc} {cells slots : Nat} {Q : State → Prop} {pc : Nat} {ls : Array Slot} {v w : Value} {rest : List Value} (h : v = w) (k : W p l e R s m args below meth c H locs cells slots Q (F0 m pc ls (v :: rest))) : W p l e R s m args below meth c H locs cells slots Q (F0 m pc ls (w :: rest)) := h ▸ k
theorem s_iadd {x y : Int} (hd : decode F.2.1 pc = .ok (.iadd, 1)) (k : WM K F E (pc + 1) L (aI (x + y) :: st) G M uc us) : WM K F E pc L (aI y :: aI x :: st) G M uc us := by
  intro _ p e R s m args below meth c A n0 ad0 al Qe hE C ad H locs ls h1 h2 hP hD hS h3
  exact lv_iadd C.1 C.2.1 hd (W.cst (congrArg Value.int (Int32.ofInt_add ..)) (k () hE C ad H locs ls h1 h2 hP hD hS h3))
theorem s_isub {x y : Int} (hd : decode F.2.1 pc = .ok (.isub, 1)) (k : WM K F E (pc + 1) L (aI (x - y) :: st) G M uc us) : WM K F E pc L (aI y :: aI x :: st) G M uc us := by
  intro _ p e R s m args below meth c A n0 ad0 al Qe hE C ad H locs ls h1 h2 hP hD hS h3
  exact lv_isub C.1 C.2.1 hd (W.cst (congrArg Value.int (Int32.ofInt_sub ..)) (k () hE C ad H locs ls h1 h2 hP hD hS h3))
theorem s_imul {x y : Int} (hd : decode F.2.1 pc = .ok (.imul, 1)) (k : WM K F E (pc + 1) L (aI (x * y) :: st) G M uc us) : WM K F E pc L (aI y :: aI x :: st) G M uc us := by
  intro _ p e R s m args below meth c A n0 ad0 al Qe hE C ad H locs ls h1 h2 hP hD hS h3
  exact lv_imul C.1 C.2.1 hd (W.cst (congrArg Value.int (Int32.ofInt_mul ..)) (k () hE C ad H locs ls h1 h2 hP hD hS h3))
theorem s_iand {x y : Int} (hd : decode F.2.1 pc = .ok (.iand, 1)) (k : WM K F E (pc + 1) L (aI (wia x y) :: st) G M uc us) : WM K F E pc L (aI y :: aI x :: st) G M uc us := by
  intro _ p e R s m args below meth c A n0 ad0 al Qe hE C ad H locs ls h1 h2 hP hD hS h3
  exact lv_iand C.1 C.2.1 hd (W.cst (congrArg Value.int (wr_ofI _)) (k () hE C ad H locs ls h1 h2 hP hD hS h3))
theorem s_ior {x y : Int} (hd : decode F.2.1 pc = .ok (.ior, 1)) (k : WM K F E (pc + 1) L (aI (wio x y) :: st) G M uc us) : WM K F E pc L (aI y :: aI x :: st) G M uc us := by
  intro _ p e R s m args below meth c A n0 ad0 al Qe hE C ad H locs ls h1 h2 hP hD hS h3
  exact lv_ior C.1 C.2.1 hd (W.cst (congrArg Value.int (wr_ofI _)) (k () hE C ad H locs ls h1 h2 hP hD hS h3))
theorem s_ixor {x y : Int} (hd : decode F.2.1 pc = .ok (.ixor, 1)) (k : WM K F E (pc + 1) L (aI (wix x y) :: st) G M uc us) : WM K F E pc L (aI y :: aI x :: st) G M uc us := by
  intro _ p e R s m args below meth c A n0 ad0 al Qe hE C ad H locs ls h1 h2 hP hD hS h3
  exact lv_ixor C.1 C.2.1 hd (W.cst (congrArg Value.int (wr_ofI _)) (k () hE C ad H locs ls h1 h2 hP hD hS h3))
theorem s_ishl {x y : Int} (hd : decode F.2.1 pc = .ok (.ishl, 1)) (k : WM K F E (pc + 1) L (aI (wsl x y) :: st) G M uc us) : WM K F E pc L (aI y :: aI x :: st) G M uc us := by
  intro _ p e R s m args below meth c A n0 ad0 al Qe hE C ad H locs ls h1 h2 hP hD hS h3
  exact lv_ishl C.1 C.2.1 hd (W.cst (congrArg Value.int (wr_ofI _)) (k () hE C ad H locs ls h1 h2 hP hD hS h3))
theorem s_ishr {x y : Int} (hd : decode F.2.1 pc = .ok (.ishr, 1)) (k : WM K F E (pc + 1) L (aI (wsr x y) :: st) G M uc us) : WM K F E pc L (aI y :: aI x :: st) G M uc us := by
  intro _ p e R s m args below meth c A n0 ad0 al Qe hE C ad H locs ls h1 h2 hP hD hS h3
  exact lv_ishr C.1 C.2.1 hd (W.cst (congrArg Value.int (wr_ofI _)) (k () hE C ad H locs ls h1 h2 hP hD hS h3))
theorem s_iushr {x y : Int} (hd : decode F.2.1 pc = .ok (.iushr, 1)) (k : WM K F E (pc + 1) L (aI (wus x y) :: st) G M uc us) : WM K F E pc L (aI y :: aI x :: st) G M uc us := by
  intro _ p e R s m args below meth c A n0 ad0 al Qe hE C ad H locs ls h1 h2 hP hD hS h3
  exact lv_iushr C.1 C.2.1 hd rfl (W.cst (congrArg Value.int (wr_ofI _)) (k () hE C ad H locs ls h1 h2 hP hD hS h3))
theorem s_idiv {x y : Int} (hd : decode F.2.1 pc = .ok (.idiv, 1)) (hy : ¬ wr y = 0) (k : WM K F E (pc + 1) L (aI (wdv x y) :: st) G M uc us) : WM K F E pc L (aI y :: aI x :: st) G M uc us := by
  intro _ p e R s m args below meth c A n0 ad0 al Qe hE C ad H locs ls h1 h2 hP hD hS h3
  exact lv_idiv C.1 C.2.1 hd (fun q => hy ((weq (y := 0)).mp q |>.trans wr_0)) (W.cst (congrArg Value.int (wr_ofI _)) (k () hE C ad H locs ls h1 h2 hP hD hS h3))
theorem s_irem {x y : Int} (hd : decode F.2.1 pc = .ok (.irem, 1)) (hy : ¬ wr y = 0) (k : WM K F E (pc + 1) L (aI (x - wdv x y * y) :: st) G M uc us) : WM K F E pc L (aI y :: aI x :: st) G M uc us := by
  intro _ p e R s m args below meth c A n0 ad0 al Qe hE C ad H locs ls h1 h2 hP hD hS h3
  exact lv_irem C.1 C.2.1 hd (fun q => hy ((weq (y := 0)).mp q |>.trans wr_0)) (W.cst (congrArg Value.int (by rw [Int32.ofInt_sub, Int32.ofInt_mul, wdv, wr_ofI])) (k () hE C ad H locs ls h1 h2 hP hD hS h3))
theorem s_i2l {x : Int} (hd : decode F.2.1 pc = .ok (.i2l, 1)) (k : WM K F E (pc + 1) L (aL (wr x) :: st) G M uc us) : WM K F E pc L (aI x :: st) G M uc us := by
  intro _ p e R s m args below meth c A n0 ad0 al Qe hE C ad H locs ls h1 h2 hP hD hS h3
  exact lv_i2l (v := Int64.ofInt (wr x)) C.1 C.2.1 hd (by unfold wr; exact (Int64.ofInt_int32ToInt _).symm) (k () hE C ad H locs ls h1 h2 hP hD hS h3)
theorem s_lconst {n : Fin 2} {z : Int} (hd : decode F.2.1 pc = .ok (.lconst n, 1)) (hz : Int64.ofNat (n : Nat) = Int64.ofInt z) (k : WM K F E (pc + 1) L (aL z :: st) G M uc us) : WM K F E pc L st G M uc us := by
  intro _ p e R s m args below meth c A n0 ad0 al Qe hE C ad H locs ls h1 h2 hP hD hS h3
  exact lv_lconst C.1 C.2.1 hd hz (k () hE C ad H locs ls h1 h2 hP hD hS h3)
theorem s_lcmp {x y : Int} (hd : decode F.2.1 pc = .ok (.lcmp, 1)) (k : WM K F E (pc + 1) L (aI (wcmp x y) :: st) G M uc us) : WM K F E pc L (aL y :: aL x :: st) G M uc us := by
  intro _ p e R s m args below meth c A n0 ad0 al Qe hE C ad H locs ls h1 h2 hP hD hS h3
  exact W.lcmp C.1 C.2.1 hd (W.cst (congrArg Value.int (wr_ofI _)) (k () hE C ad H locs ls h1 h2 hP hD hS h3))
theorem s_dupI {x : Int} (hd : decode F.2.1 pc = .ok (.dup, 1)) (k : WM K F E (pc + 1) L (aI x :: aI x :: st) G M uc us) : WM K F E pc L (aI x :: st) G M uc us := by
  intro _ p e R s m args below meth c A n0 ad0 al Qe hE C ad H locs ls h1 h2 hP hD hS h3
  exact lv_dup C.1 C.2.1 hd rfl (k () hE C ad H locs ls h1 h2 hP hD hS h3)
theorem s_dupR {x : Nat} (hd : decode F.2.1 pc = .ok (.dup, 1)) (k : WM K F E (pc + 1) L (aR x :: aR x :: st) G M uc us) : WM K F E pc L (aR x :: st) G M uc us := by
  intro _ p e R s m args below meth c A n0 ad0 al Qe hE C ad H locs ls h1 h2 hP hD hS h3
  exact lv_dup C.1 C.2.1 hd rfl (k () hE C ad H locs ls h1 h2 hP hD hS h3)
theorem s_dup2 {x : Int} {r : Nat} (hd : decode F.2.1 pc = .ok (.dup2, 1)) (k : WM K F E (pc + 1) L (aI x :: aR r :: aI x :: aR r :: st) G M uc us) : WM K F E pc L (aI x :: aR r :: st) G M uc us := by
  intro _ p e R s m args below meth c A n0 ad0 al Qe hE C ad H locs ls h1 h2 hP hD hS h3
  exact lv_dup2_11 C.1 C.2.1 hd rfl rfl (k () hE C ad H locs ls h1 h2 hP hD hS h3)
theorem s_popI {x : Int} (hd : decode F.2.1 pc = .ok (.pop, 1)) (k : WM K F E (pc + 1) L st G M uc us) : WM K F E pc L (aI x :: st) G M uc us := by
  intro _ p e R s m args below meth c A n0 ad0 al Qe hE C ad H locs ls h1 h2 hP hD hS h3
  exact lv_pop C.1 C.2.1 hd rfl (k () hE C ad H locs ls h1 h2 hP hD hS h3)
theorem s_goto {off : Int} {tgt : Nat} (hd : decode F.2.1 pc = .ok (.goto off, 3)) (ht : (pc : Int) + off = (tgt : Int)) (k : WM K F E tgt L st G M uc us) : WM K F E pc L st G M uc us := by
  intro _ p e R s m args below meth c A n0 ad0 al Qe hE C ad H locs ls h1 h2 hP hD hS h3
  exact lv_goto C.1 C.2.1 hd ht (k () hE C ad H locs ls h1 h2 hP hD hS h3)
theorem s_icmp_lt {x y : Int} {off : Int} {tgt : Nat} (hd : decode F.2.1 pc = .ok (.if_icmp .lt off, 3)) (ht : (pc : Int) + off = (tgt : Int)) (kt : wr x < wr y → WM K F E tgt L st G M uc us) (kf : ¬ (wr x < wr y) → WM K F E (pc + 3) L st G M uc us) : WM K F E pc L (aI y :: aI x :: st) G M uc us := by
  intro _ p e R s m args below meth c A n0 ad0 al Qe hE C ad H locs ls h1 h2 hP hD hS h3
  exact lv_icmp_lt C.1 C.2.1 hd ht (fun q => kt (wlt.mp q) () hE C ad H locs ls h1 h2 hP hD hS h3) (fun q => kf (fun z => q (wlt.mpr z)) () hE C ad H locs ls h1 h2 hP hD hS h3)
theorem s_icmp_le {x y : Int} {off : Int} {tgt : Nat} (hd : decode F.2.1 pc = .ok (.if_icmp .le off, 3)) (ht : (pc : Int) + off = (tgt : Int)) (kt : wr x ≤ wr y → WM K F E tgt L st G M uc us) (kf : ¬ (wr x ≤ wr y) → WM K F E (pc + 3) L st G M uc us) : WM K F E pc L (aI y :: aI x :: st) G M uc us := by
  intro _ p e R s m args below meth c A n0 ad0 al Qe hE C ad H locs ls h1 h2 hP hD hS h3
  exact lv_icmp_le C.1 C.2.1 hd ht (fun q => kt (wle.mp q) () hE C ad H locs ls h1 h2 hP hD hS h3) (fun q => kf (fun z => q (wle.mpr z)) () hE C ad H locs ls h1 h2 hP hD hS h3)
theorem s_icmp_gt {x y : Int} {off : Int} {tgt : Nat} (hd : decode F.2.1 pc = .ok (.if_icmp .gt off, 3)) (ht : (pc : Int) + off = (tgt : Int)) (kt : wr y < wr x → WM K F E tgt L st G M uc us) (kf : ¬ (wr y < wr x) → WM K F E (pc + 3) L st G M uc us) : WM K F E pc L (aI y :: aI x :: st) G M uc us := by
  intro _ p e R s m args below meth c A n0 ad0 al Qe hE C ad H locs ls h1 h2 hP hD hS h3
  exact lv_icmp_gt C.1 C.2.1 hd ht (fun q => kt (wlt.mp q) () hE C ad H locs ls h1 h2 hP hD hS h3) (fun q => kf (fun z => q (wlt.mpr z)) () hE C ad H locs ls h1 h2 hP hD hS h3)
theorem s_icmp_ge {x y : Int} {off : Int} {tgt : Nat} (hd : decode F.2.1 pc = .ok (.if_icmp .ge off, 3)) (ht : (pc : Int) + off = (tgt : Int)) (kt : wr y ≤ wr x → WM K F E tgt L st G M uc us) (kf : ¬ (wr y ≤ wr x) → WM K F E (pc + 3) L st G M uc us) : WM K F E pc L (aI y :: aI x :: st) G M uc us := by
  intro _ p e R s m args below meth c A n0 ad0 al Qe hE C ad H locs ls h1 h2 hP hD hS h3
  exact lv_icmp_ge C.1 C.2.1 hd ht (fun q => kt (wle.mp q) () hE C ad H locs ls h1 h2 hP hD hS h3) (fun q => kf (fun z => q (wle.mpr z)) () hE C ad H locs ls h1 h2 hP hD hS h3)
theorem s_icmp_eq {x y : Int} {off : Int} {tgt : Nat} (hd : decode F.2.1 pc = .ok (.if_icmp .eq off, 3)) (ht : (pc : Int) + off = (tgt : Int)) (kt : wr x = wr y → WM K F E tgt L st G M uc us) (kf : ¬ (wr x = wr y) → WM K F E (pc + 3) L st G M uc us) : WM K F E pc L (aI y :: aI x :: st) G M uc us := by
  intro _ p e R s m args below meth c A n0 ad0 al Qe hE C ad H locs ls h1 h2 hP hD hS h3
  exact lv_icmp_eq C.1 C.2.1 hd ht (fun q => kt (weq.mp q) () hE C ad H locs ls h1 h2 hP hD hS h3) (fun q => kf (fun z => q (weq.mpr z)) () hE C ad H locs ls h1 h2 hP hD hS h3)
theorem s_icmp_ne {x y : Int} {off : Int} {tgt : Nat} (hd : decode F.2.1 pc = .ok (.if_icmp .ne off, 3)) (ht : (pc : Int) + off = (tgt : Int)) (kt : ¬ (wr x = wr y) → WM K F E tgt L st G M uc us) (kf : wr x = wr y → WM K F E (pc + 3) L st G M uc us) : WM K F E pc L (aI y :: aI x :: st) G M uc us := by
  intro _ p e R s m args below meth c A n0 ad0 al Qe hE C ad H locs ls h1 h2 hP hD hS h3
  exact lv_icmp_ne C.1 C.2.1 hd ht (fun q => kt (fun z => q (weq.mpr z)) () hE C ad H locs ls h1 h2 hP hD hS h3) (fun q => kf (weq.mp q) () hE C ad H locs ls h1 h2 hP hD hS h3)
theorem s_if_lt {x : Int} {off : Int} {tgt : Nat} (hd : decode F.2.1 pc = .ok (.ifCond .lt off, 3)) (ht : (pc : Int) + off = (tgt : Int)) (kt : wr x < 0 → WM K F E tgt L st G M uc us) (kf : ¬ (wr x < 0) → WM K F E (pc + 3) L st G M uc us) : WM K F E pc L (aI x :: st) G M uc us := by
  intro _ p e R s m args below meth c A n0 ad0 al Qe hE C ad H locs ls h1 h2 hP hD hS h3
  exact lv_if_lt C.1 C.2.1 hd ht (fun q => kt (by have := (wlt (y := 0)).mp q; rw [wr_0] at this; exact this) () hE C ad H locs ls h1 h2 hP hD hS h3) (fun q => kf (fun z => q ((wlt (y := 0)).mpr (by rw [wr_0]; exact z))) () hE C ad H locs ls h1 h2 hP hD hS h3)
theorem s_if_le {x : Int} {off : Int} {tgt : Nat} (hd : decode F.2.1 pc = .ok (.ifCond .le off, 3)) (ht : (pc : Int) + off = (tgt : Int)) (kt : wr x ≤ 0 → WM K F E tgt L st G M uc us) (kf : ¬ (wr x ≤ 0) → WM K F E (pc + 3) L st G M uc us) : WM K F E pc L (aI x :: st) G M uc us := by
  intro _ p e R s m args below meth c A n0 ad0 al Qe hE C ad H locs ls h1 h2 hP hD hS h3
  exact lv_if_le C.1 C.2.1 hd ht (fun q => kt (by have := (wle (y := 0)).mp q; rw [wr_0] at this; exact this) () hE C ad H locs ls h1 h2 hP hD hS h3) (fun q => kf (fun z => q ((wle (y := 0)).mpr (by rw [wr_0]; exact z))) () hE C ad H locs ls h1 h2 hP hD hS h3)
theorem s_if_gt {x : Int} {off : Int} {tgt : Nat} (hd : decode F.2.1 pc = .ok (.ifCond .gt off, 3)) (ht : (pc : Int) + off = (tgt : Int)) (kt : 0 < wr x → WM K F E tgt L st G M uc us) (kf : ¬ (0 < wr x) → WM K F E (pc + 3) L st G M uc us) : WM K F E pc L (aI x :: st) G M uc us := by
  intro _ p e R s m args below meth c A n0 ad0 al Qe hE C ad H locs ls h1 h2 hP hD hS h3
  exact lv_if_gt C.1 C.2.1 hd ht (fun q => kt (by have := (wlt (x := 0)).mp q; rw [wr_0] at this; exact this) () hE C ad H locs ls h1 h2 hP hD hS h3) (fun q => kf (fun z => q ((wlt (x := 0)).mpr (by rw [wr_0]; exact z))) () hE C ad H locs ls h1 h2 hP hD hS h3)
theorem s_if_ge {x : Int} {off : Int} {tgt : Nat} (hd : decode F.2.1 pc = .ok (.ifCond .ge off, 3)) (ht : (pc : Int) + off = (tgt : Int)) (kt : 0 ≤ wr x → WM K F E tgt L st G M uc us) (kf : ¬ (0 ≤ wr x) → WM K F E (pc + 3) L st G M uc us) : WM K F E pc L (aI x :: st) G M uc us := by
  intro _ p e R s m args below meth c A n0 ad0 al Qe hE C ad H locs ls h1 h2 hP hD hS h3
  exact lv_if_ge C.1 C.2.1 hd ht (fun q => kt (by have := (wle (x := 0)).mp q; rw [wr_0] at this; exact this) () hE C ad H locs ls h1 h2 hP hD hS h3) (fun q => kf (fun z => q ((wle (x := 0)).mpr (by rw [wr_0]; exact z))) () hE C ad H locs ls h1 h2 hP hD hS h3)
theorem s_if_eq {x : Int} {off : Int} {tgt : Nat} (hd : decode F.2.1 pc = .ok (.ifCond .eq off, 3)) (ht : (pc : Int) + off = (tgt : Int)) (kt : wr x = 0 → WM K F E tgt L st G M uc us) (kf : ¬ (wr x = 0) → WM K F E (pc + 3) L st G M uc us) : WM K F E pc L (aI x :: st) G M uc us := by
  intro _ p e R s m args below meth c A n0 ad0 al Qe hE C ad H locs ls h1 h2 hP hD hS h3
  exact lv_if_eq C.1 C.2.1 hd ht (fun q => kt (by have := (weq (y := 0)).mp q; rw [wr_0] at this; exact this) () hE C ad H locs ls h1 h2 hP hD hS h3) (fun q => kf (fun z => q ((weq (y := 0)).mpr (by rw [wr_0]; exact z))) () hE C ad H locs ls h1 h2 hP hD hS h3)
theorem s_if_ne {x : Int} {off : Int} {tgt : Nat} (hd : decode F.2.1 pc = .ok (.ifCond .ne off, 3)) (ht : (pc : Int) + off = (tgt : Int)) (kt : ¬ (wr x = 0) → WM K F E tgt L st G M uc us) (kf : wr x = 0 → WM K F E (pc + 3) L st G M uc us) : WM K F E pc L (aI x :: st) G M uc us := by
  intro _ p e R s m args below meth c A n0 ad0 al Qe hE C ad H locs ls h1 h2 hP hD hS h3
  exact lv_if_ne C.1 C.2.1 hd ht (fun q => kt (fun z => q ((weq (y := 0)).mpr (by rw [wr_0]; exact z))) () hE C ad H locs ls h1 h2 hP hD hS h3) (fun q => kf (by have := (weq (y := 0)).mp q; rw [wr_0] at this; exact this) () hE C ad H locs ls h1 h2 hP hD hS h3)
end OPS
