/-! reads of the script, the switch -/
theorem ofI_nat (n : Nat) : Int32.ofInt (n : Int) = Int32.ofNat n := Int32.ofInt_eq_ofNat
/-- the end knows the script: at b, of N whole numbers -/
def XE (E : CE) (b N : Nat) (xs : Nat → Int) : Prop := ∀ {p : Program} {e : Env} {R : Room} {s : State} {m : MethodId} {args : Array Value} {below : List Frame} {meth : Method} {c : Code} {A : Nat → Prop} {n0 : Nat} {ad0 : Nat → Nat} {al : Bool} {Qe : State → Prop}, E p e R s m args below meth c A n0 ad0 al Qe → va_X b N (fun j => Int32.ofInt (xs j)) s s.heap ∧ b < s.heap.size ∧ ¬ A b
section SC
variable {K : KX} {F : Fn} {E : CE} {pc b N : Nat} {L : List (Option AV)} {st : List AV} {G : AG} {M : AM} {uc us : Nat} {xs : Nat → Int}
theorem s_sld {i : Int} {j : Nat} (hX : XE E b N xs) (hj : wr i = j) (hn : j < N) (hd : decode F.2.1 pc = .ok (.iaload, 1)) (k : WM K F E (pc + 1) L (aI (xs j) :: st) G M uc us) : WM K F E pc L (aI i :: aX b :: st) G M uc us := by
  intro _ p e R s m args below meth c A n0 ad0 al Qe hE C ad H locs ls h1 h2 hP hD hS h3
  obtain ⟨x1, x2, x3⟩ := hX hE
  exact va_sld C.1 C.2.1 x1 x2 x3 hS (w_in hj hn) hd (by rw [w_cl hj]; exact k () hE C ad H locs ls h1 h2 hP hD hS h3)
theorem s_slen (hX : XE E b N xs) (hd : decode F.2.1 pc = .ok (.arraylength, 1)) (k : WM K F E (pc + 1) L (aI (N : Int) :: st) G M uc us) : WM K F E pc L (aX b :: st) G M uc us := by
  intro _ p e R s m args below meth c A n0 ad0 al Qe hE C ad H locs ls h1 h2 hP hD hS h3
  obtain ⟨x1, x2, x3⟩ := hX hE
  refine va_slen C.1 C.2.1 x1 x2 x3 hS hd ?_
  have := k () hE C ad H locs ls h1 h2 hP hD hS h3
  rw [← ofI_nat]
  exact this
theorem s_tabOut {x dflt lo hi : Int} {offs : Array Int} {len tgt : Nat} (hd : decode F.2.1 pc = .ok (.tableswitch dflt lo hi offs, len)) (h : wr x < lo ∨ hi < wr x) (ht : (pc : Int) + dflt = (tgt : Int)) (k : WM K F E tgt L st G M uc us) : WM K F E pc L (aI x :: st) G M uc us := by
  intro _ p e R s m args below meth c A n0 ad0 al Qe hE C ad H locs ls h1 h2 hP hD hS h3
  exact lv_tableOut C.1 C.2.1 hd h ht (k () hE C ad H locs ls h1 h2 hP hD hS h3)
theorem s_tabIn {x dflt lo hi off : Int} {offs : Array Int} {len tgt : Nat} (hd : decode F.2.1 pc = .ok (.tableswitch dflt lo hi offs, len)) (ha : ¬ wr x < lo) (hb : ¬ hi < wr x) (ho : offs[(wr x - lo).toNat]? = some off) (ht : (pc : Int) + off = (tgt : Int)) (k : WM K F E tgt L st G M uc us) : WM K F E pc L (aI x :: st) G M uc us := by
  intro _ p e R s m args below meth c A n0 ad0 al Qe hE C ad H locs ls h1 h2 hP hD hS h3
  exact lv_tableIn C.1 C.2.1 hd ha hb ho ht (k () hE C ad H locs ls h1 h2 hP hD hS h3)
theorem s_ldc {index : Nat} {v : Int32} {z : Int} (hd : decode F.2.1 pc = .ok (.ldc index, 2)) (hw : Cond.constant F.1.cls index v ∈ gw) (hv : v = Int32.ofInt z) (k : WM K F E (pc + 2) L (aI z :: st) G M uc us) : WM K F E pc L st G M uc us := by
  intro _ p e R s m args below meth c A n0 ad0 al Qe hE C ad H locs ls h1 h2 hP hD hS h3
  subst hv
  exact lv_ldc C.1 C.2.1 C.2.2.2.1 (C.2.2.2.2.1 _ hw) hd (k () hE C ad H locs ls h1 h2 hP hD hS h3)
end SC
