/-! reading the script -/
def pcS (K : KX) (b N : Nat) (xs : Nat → Int) (args : List AV) (ad : Nat → Nat) (G : AG) (M : AM) (sz : Nat) : Array Value → State → Prop := fun a U => pcF K args ad G M sz a U ∧ va_X b N (fun j => Int32.ofInt (xs j)) U U.heap ∧ b < U.heap.size ∧ ¬ va_A (conc K.2.2 ad G M) sz b
/-- a contract over a start that has the script -/
def MetS (K : KX) (b N : Nat) (xs : Nat → Int) (F : Fn) (args : List AV) (G : AG) (M : AM) (Q : Res → AG → AM → Prop) : Prop :=
  ∀ (ad : Nat → Nat) (sz : Nat), vx_Met K.1 F.1 (wsF F) F.2.2.2.2.1 (pcS K b N xs args ad G M sz) (qcF K F.2.2.2.2.2.1 Q G.length ad (va_A (conc K.2.2 ad G M) sz)) (xcF K Q ad (va_A (conc K.2.2 ad G M) sz)) F.2.2.2.2.1.cells F.2.2.2.2.1.slots (va_A (conc K.2.2 ad G M) sz)
def EMS (K : KX) (b N : Nat) (xs : Nat → Int) (F : Fn) (n : Nat) (Q : Res → AG → AM → Prop) : CE := fun p e R s m args below meth c A n0 ad0 al Qe => EM K F n Q p e R s m args below meth c A n0 ad0 al Qe ∧ va_X b N (fun j => Int32.ofInt (xs j)) s s.heap ∧ b < s.heap.size ∧ ¬ A b
theorem xe_EMS {K : KX} {b N : Nat} {xs : Nat → Int} {F : Fn} {n : Nat} {Q : Res → AG → AM → Prop} : XE (EMS K b N xs F n Q) b N xs := fun hE => hE.2
theorem WM.of {K : KX} {F : Fn} {E E' : CE} {pc : Nat} {L : List (Option AV)} {st : List AV} {G : AG} {M : AM} {uc us : Nat} (hE : ∀ {p e R s m args below meth c A n0 ad0 al Qe}, E' p e R s m args below meth c A n0 ad0 al Qe → E p e R s m args below meth c A n0 ad0 al Qe) (h : WM K F E pc L st G M uc us) : WM K F E' pc L st G M uc us := by
  intro u p e R s m args below meth c A n0 ad0 al Qe he C
  exact h u (hE he) C
section CS
variable {K : KX} {F : Fn} {E : CE} {pc b N : Nat} {xs : Nat → Int} {L : List (Option AV)} {rest : List AV} {G : AG} {M : AM} {uc us : Nat} {Q : Res → AG → AM → Prop}
theorem met_ofS {as : List AV} (hst : K.1.stackTraces = false) (hy : plainName F.1.cls = true) (hh : F.2.2.2.2.2.2 = []) (hc : as.all av1 = true) (hn : as.length ≤ F.2.2.1) (h : WM K F (EMS K b N xs F G.length Q) 0 (loc as F.2.2.1) [] G M 0 0) : MetS K b N xs F as G M Q := by
  intro ad sz
  refine vx_ofW (cc := F.2.1) (maxL := F.2.2.1) (ret := F.2.2.2.1) (ws' := gw) hy (by unfold wsF; rw [if_pos hh]) ?_
  intro p e s m args below meth c s₁ B hml ht hv
  obtain ⟨⟨rfl, hsz, hP, hD, hK, hz, hw⟩, x1, x2, x3⟩ := hv
  subst hsz
  have hts : ∀ w ∈ wsF F, w.before _ s = true := atoms_spec (ws := wsF F) B.pre
  rw [lg_entry_eq]
  have hl := lvr_entry (ad := ad) (args := as) (n := F.2.2.1) hc hn
  have ht2 : c.exceptionTable.toList = tableOf F.2.2.2.2.2.2 := by
    rw [hh]
    cases hx : c.exceptionTable.toList with
    | nil => rfl
    | cons a l => exact (ht a (by rw [hx]; exact List.mem_cons_self)).elim
  exact h () ⟨⟨rfl, rfl, B.returns, (name_of_methodNamed B.named B.method).1, ht2, rfl⟩, x1, x2, x3⟩ ⟨B.exec, B.bytes, hml, findClass_of_methodNamed B.named, fun w hw => hts w (List.mem_cons_of_mem _ hw), hK, fun q hq => Or.inr hq, hz, hw, B.notSynchronized, hst, rfl⟩ ad s.heap [] _ (fun _ _ => rfl) (fun _ => rfl) hP hD.self va_S.rf hl
theorem s_callSS {Fc : Fn} {index : Nat} {as stk : List AV} {Q9 : Res → AG → AM → Prop} (hX : XE E b N xs) (hst : stk = as.reverse ++ rest) (hM : MetS K b N xs Fc as G M Q9)
    (co : CO F Fc index as.length uc us) (hin : Cond.static Fc.1 ∈ gw) (hh : Fc.2.2.2.2.2.2 = []) (hal : Fc.2.2.2.2.2.1 = false) (hrest : rest.length ≤ 4)
    (hd : decode F.2.1 pc = .ok (.invokestatic index, 3)) (hQ : ∀ r G' M', Q9 r G' M' → KQ K F E pc L rest (uc + Fc.2.2.2.2.1.cells) (us + Fc.2.2.2.2.1.slots) r G' M') : WM K F E pc L stk G M uc us := by
  intro _ p e R s m args below meth c A n0 ad0 al Qe hE C ad H locs ls h1 h2 hP hD hS h3
  obtain ⟨x1, x2, x3⟩ := hX hE
  obtain ⟨hx1, hb, hml, hown, hts, hK, hA, hz, hw, hlocks, hstt, hR⟩ := id C
  obtain ⟨o1, o2, o3, o4, o5, o6, o7, o8, o9⟩ := co
  have hP9 := pre_world (as := as) C hP hD hS
  have y1 : va_X b N (fun j => Int32.ofInt (xs j)) s H := x1.kept (hS.2.1 b x2 x3)
  have y2 : b < H.size := Nat.lt_of_lt_of_le x2 hS.1
  have y3 : ¬ va_A (conc K.2.2 ad G M) H.size b := fun z => x3 (hP9.2 b z)
  have hcode : Cond.code Fc.1 Fc.2.1 Fc.2.2.1 Fc.2.2.2.1 ∈ gw := by
    have := o2
    unfold hwd at this
    rw [if_pos hh] at this
    exact this
  refine run_on (as := as) (Fc := Fc) hE C h1 h2 hP hD hS h3 hal ?_ hQ
  refine vx_runS (As := as.map (cv ad)) (n := as.length) (bytes := Fc.2.1) (maxL := Fc.2.2.1) (ret := Fc.2.2.2.1) ⟨hx1, hb, hml, hown, hts⟩ (hM ad H.size) ⟨⟨rfl, rfl, by rw [hR]; exact o6, by rw [hR]; exact o7, ws_good o2 hts, ?_, hts _ hcode, hts _ o3, o4, fun sig h => ?_, hts _ o1⟩, hts _ hin⟩ ⟨?_, ?_⟩ rfl (by simp) h3.1 ?_ (lv_room (cats rest hrest)) hd (by rw [hR]; exact ⟨o8, o9⟩)
  · unfold wsF
    rw [if_pos hh]
    exact List.mem_cons_self
  · rw [h] at o5
    exact (Option.some.inj o5).symm
  · intro a U g mk q
    obtain ⟨q1, q2, q3, q4⟩ := q
    exact ⟨hP9.1.1 a U g mk q1, va_X.moved (u := U) (U := U.calling g mk a) (Vm.Alike.refl U.vm) q2, q3, q4⟩
  · intro U hU hW
    refine ⟨hP9.1.2 U hU hW, ?_, by rw [hU]; exact y2, y3⟩
    rw [hU]
    exact va_X.moved hW.alike y1
  · rw [hst]
    simp
end CS
/-- what cell answers -/
def clS (N : Nat) (xs : Nat → Int) (k : Nat) : Int := if k < N then xs k else 7919 * ((k : Int) + 757) * ((k : Int) + 1069)
section CL
variable {K : KX} {b N : Nat} {xs : Nat → Int} {M : AM} {Q : Res → AG → AM → Prop}
set_option maxRecDepth 20000 in
theorem l_cell (hst : K.1.stackTraces = false) (hN : N ≤ 260) {k : Nat} (hk : k < 1000) (hQ : Q (.inl (some (aI (clS N xs k)))) GG M) : MetS K b N xs fL_cell [aX b, aI k] GG M Q := by
  refine met_ofS hst (by decide +kernel) rfl rfl (Nat.le_of_ble_eq_true rfl) ?_
  show WM K fL_cell (EMS K b N xs fL_cell GG.length Q) 0 [some (aX b), some (aI k)] [] GG M 0 0
  refine s_iload_n (i := 1) (by decide +kernel) rfl ?_
  refine s_aloadX_n (i := 0) (by decide +kernel) rfl ?_
  refine s_slen xe_EMS (by decide +kernel) ?_
  unfold clS at hQ
  refine s_icmp_ge (off := 9) (tgt := 12) (by decide +kernel) (by decide) (fun c => ?_) (fun c => ?_)
  · rw [wrn (by omega), wrn (by omega)] at c
    rw [if_neg (by omega)] at hQ
    refine s_sipush (n := 7919) (by decide +kernel) (by decide +kernel) ?_
    refine s_iload_n (i := 1) (by decide +kernel) rfl ?_
    refine s_sipush (n := 757) (by decide +kernel) (by decide +kernel) ?_
    refine s_iadd (by decide +kernel) ?_
    refine s_imul (by decide +kernel) ?_
    refine s_iload_n (i := 1) (by decide +kernel) rfl ?_
    refine s_sipush (n := 1069) (by decide +kernel) (by decide +kernel) ?_
    refine s_iadd (by decide +kernel) ?_
    refine s_imul (by decide +kernel) ?_
    exact WM.of (fun h => h.1) (s_iret rfl (by decide +kernel) (by decide) (by decide) hQ)
  · rw [wrn (by omega), wrn (by omega)] at c
    rw [if_pos (by omega)] at hQ
    refine s_aloadX_n (i := 0) (by decide +kernel) rfl ?_
    refine s_iload_n (i := 1) (by decide +kernel) rfl ?_
    refine s_sld (j := k) xe_EMS (wrn (by omega)) (by omega) (by decide +kernel) ?_
    refine s_goto (off := 18) (tgt := 27) (by decide +kernel) (by decide) ?_
    exact WM.of (fun h => h.1) (s_iret rfl (by decide +kernel) (by decide) (by decide) hQ)
end CL
