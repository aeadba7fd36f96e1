/-! new arrays -/
section AR
variable {K : KX} {F : Fn} {E : CE} {pc n : Nat} {L : List (Option AV)} {st : List AV} {G : AG} {M : AM} {uc us : Nat}
theorem nat_cl {x : Int} {j : Nat} (hj : wr x = j) : ¬ Int32.ofInt x < 0 ∧ (Int32.ofInt x).toNatClampNeg = j := by
  refine ⟨fun h => ?_, w_cl hj⟩
  rw [w_zero, wlt, wr_0] at h
  omega
/-- what goes on behind a cell that is new -/
theorem go_on {p : Program} {e : Env} {R : Room} {s : State} {m : MethodId} {args : Array Value} {below : List Frame} {meth : Method} {c : Code} {A : Nat → Prop} {n0 : Nat} {ad0 : Nat → Nat} {al : Bool} {Qe : State → Prop} {g : Nat × Nat × List (Option Nat)} {pc2 uc2 us2 q1 : Nat} {e1 : va_E} {ad : Nat → Nat} {H1 : Heap} {locs : List Loc} {ls : Array Slot}
    (hE : E p e R s m args below meth c A n0 ad0 al Qe) (C : CX K F p R s m args meth c A) (hge : GE E G.length) (h1 : ∀ i, i < n0 → ad i = ad0 i) (h3 : lvr ad F.2.2.1 L ls) (hok : okG G.length G = true) (hL : okL G.length L = true) (hst : st.all (okV G.length) = true)
    (he : ce K.2.2 (va_up ad G.length q1) g (fun _ => 0) = e1) (hP1 : va_P K.2.1 vwCl (conc K.2.2 ad G M ++ [(q1, e1)]) H1) (hD1 : va_D A (conc K.2.2 ad G M ++ [(q1, e1)])) (hS1 : va_S A s.heap H1 locs)
    (k : WM K F E pc2 L (aR G.length :: st) (G ++ [g]) (unew M G.length) uc2 us2) : W p K.1 e R s m args below meth c H1 locs uc2 us2 Qe (F0 m pc2 ls (.ref q1 :: st.map (cv ad))) := by
  obtain ⟨hn, ha⟩ := hge hE
  rw [conc_push hok he] at hP1 hD1
  have hag : ∀ i, i < G.length → va_up ad G.length q1 i = ad i := fun i hi => va_up_ne _ _ (by omega)
  have hk := k () hE C (va_up ad G.length q1) H1 locs ls (fun i hi => by rw [hag i (by omega)]; exact h1 i hi) (fun z => by rw [ha] at z; cases z) hP1 hD1 hS1 (lvr_ad hag hL h3)
  have e9 : (aR G.length :: st).map (cv (va_up ad G.length q1)) = .ref q1 :: st.map (cv ad) := by
    rw [List.map_cons, st_ad hag hst]
    show Value.ref (va_up ad G.length q1 G.length) :: _ = _
    rw [va_up_self]
  rw [e9] at hk
  exact hk
theorem ty_eq {s : State} {t : Nat → ClassId} {D : va_G} {cA : ClassId} {ty : FieldType} {i : Nat} (hK : va_K D vwCl (tysL t ++ [(cA, ty)]) s) (hi : (tysL t)[i]? = some (t i, ty)) (hra : ∀ c, va_RA s c ty → s.vm.findClass ("[" ++ ty.toString) = some c) : cA = t i := by
  have hlt : i < (tysL t).length := (List.getElem?_eq_some_iff.mp hi).1
  have h1 := (hK.2 i (t i, ty) (by rw [List.getElem?_append_left hlt]; exact hi)).2
  have h2 := (hK.2 (tysL t).length (cA, ty) (by rw [List.getElem?_append_right (Nat.le_refl _), Nat.sub_self]; rfl)).2
  have e1 := hra _ h1
  have e2 := hra _ h2
  rw [e1] at e2
  exact (Option.some.inj e2).symm
theorem s_newi {x : Int} {j : Nat} {atype : ArrayType} (hty : newarray.typeOf atype = .int) (harr : Cond.arrayClass .int ∈ gw) (hj : wr x = j) (hb9 : j ≤ 1000) (hge : GE E G.length) (hok : okG G.length G = true) (hL : okL G.length L = true) (hst : st.all (okV G.length) = true)
    (hr : uc + 1 ≤ F.2.2.2.2.1.cells ∧ us + j ≤ F.2.2.2.2.1.slots) (hd : decode F.2.1 pc = .ok (.newarray atype, 2)) (k : WM K F E (pc + 2) L (aR G.length :: st) (G ++ [(6, j, [])]) (unew M G.length) (uc + 1) (us + j)) : WM K F E pc L (aI x :: st) G M uc us := by
  intro _ p e R s m args below meth c A n0 ad0 al Qe hE C ad H locs ls h1 h2 hP hD hS h3
  have C0 := C
  obtain ⟨hx1, hb, hml, hown, hts, hK, hA, hz, hw, hlocks, hstt, hR⟩ := C
  obtain ⟨n1, n2⟩ := nat_cl hj
  refine va_newa (a0 := (j, .inl (fun _ => 0))) (ty := .int) hx1 hb (by rw [hty]; exact hts _ harr) hty hK hP hD hS hA (fun cA => rfl) n1 n2 (by show j * 4 ≤ _; omega) (by rw [hR]; exact hr.1) (by rw [hR]; exact hr.2) hd (fun q1 cA H1 hK1 hP1 hD1 hS1 => ?_)
  have hc : cA = K.2.2 0 := ty_eq (i := 0) hK1 rfl (fun c h => h)
  subst hc
  exact go_on hE C0 hge h1 h3 hok hL hst (by rw [ce_int]; rfl) hP1 hD1 hS1 k
theorem s_newz {x : Int} {j : Nat} {atype : ArrayType} (hty : newarray.typeOf atype = .boolean) (harr : Cond.arrayClass .boolean ∈ gw) (hj : wr x = j) (hb9 : j ≤ 1000) (hge : GE E G.length) (hok : okG G.length G = true) (hL : okL G.length L = true) (hst : st.all (okV G.length) = true)
    (hr : uc + 1 ≤ F.2.2.2.2.1.cells ∧ us + j ≤ F.2.2.2.2.1.slots) (hd : decode F.2.1 pc = .ok (.newarray atype, 2)) (k : WM K F E (pc + 2) L (aR G.length :: st) (G ++ [(7, j, [])]) (unew M G.length) (uc + 1) (us + j)) : WM K F E pc L (aI x :: st) G M uc us := by
  intro _ p e R s m args below meth c A n0 ad0 al Qe hE C ad H locs ls h1 h2 hP hD hS h3
  have C0 := C
  obtain ⟨hx1, hb, hml, hown, hts, hK, hA, hz, hw, hlocks, hstt, hR⟩ := C
  obtain ⟨n1, n2⟩ := nat_cl hj
  refine va_newa (a0 := (j, .inl (fun _ => 0))) (ty := .boolean) hx1 hb (by rw [hty]; exact hts _ harr) hty hK hP hD hS hA (fun cA => rfl) n1 n2 (by show j * 1 ≤ _; omega) (by rw [hR]; exact hr.1) (by rw [hR]; exact hr.2) hd (fun q1 cA H1 hK1 hP1 hD1 hS1 => ?_)
  have hc : cA = K.2.2 1 := ty_eq (i := 1) hK1 rfl (fun c h => h)
  subst hc
  exact go_on hE C0 hge h1 h3 hok hL hst (by rw [ce_bool]; rfl) hP1 hD1 hS1 k
theorem s_newV {x : Int} {j index : Nat} (hcl : Cond.classLink F.1.cls index "ZoneController$Vehicle" ∈ gw) (hj : wr x = j) (hb9 : j ≤ 1000) (hge : GE E G.length) (hok : okG G.length G = true) (hL : okL G.length L = true) (hst : st.all (okV G.length) = true)
    (hr : uc + 1 ≤ F.2.2.2.2.1.cells ∧ us + j ≤ F.2.2.2.2.1.slots) (hd : decode F.2.1 pc = .ok (.anewarray index, 3)) (k : WM K F E (pc + 3) L (aR G.length :: st) (G ++ [(9, j, List.replicate j none)]) (unew M G.length) (uc + 1) (us + j)) : WM K F E pc L (aI x :: st) G M uc us := by
  intro _ p e R s m args below meth c A n0 ad0 al Qe hE C ad H locs ls h1 h2 hP hD hS h3
  have C0 := C
  obtain ⟨hx1, hb, hml, hown, hts, hK, hA, hz, hw, hlocks, hstt, hR⟩ := C
  obtain ⟨n1, n2⟩ := nat_cl hj
  refine va_newq hx1 hb hown (hts _ hcl) hw.2.2.2.2.1 hK hP hD hS hA n1 n2 (by omega) (by rw [hR]; exact hr.1) (by rw [hR]; exact hr.2) hd (fun q1 cA H1 hK1 hP1 hD1 hS1 => ?_)
  have hc : cA = K.2.2 3 := ty_eq (i := 3) hK1 rfl (fun c h => by
    obtain ⟨kA, comp, a1, a2, a3, a4⟩ := h
    exact a4)
  subst hc
  refine go_on hE C0 hge h1 h3 hok hL hst (g := (9, j, List.replicate j none)) ?_ hP1 hD1 hS1 k
  have key : ∀ i, ((List.replicate j (none : Option Nat)).getD i none) = none := fun i => by
    rw [List.getD_eq_getElem?_getD, List.getElem?_replicate]
    split <;> rfl
  rw [ce_ref (k := 0)]
  simp only [key]
  rfl
theorem s_newJ {x : Int} {j index : Nat} (hcl : Cond.classLink F.1.cls index "ZoneController$Job" ∈ gw) (hj : wr x = j) (hb9 : j ≤ 1000) (hge : GE E G.length) (hok : okG G.length G = true) (hL : okL G.length L = true) (hst : st.all (okV G.length) = true)
    (hr : uc + 1 ≤ F.2.2.2.2.1.cells ∧ us + j ≤ F.2.2.2.2.1.slots) (hd : decode F.2.1 pc = .ok (.anewarray index, 3)) (k : WM K F E (pc + 3) L (aR G.length :: st) (G ++ [(10, j, List.replicate j none)]) (unew M G.length) (uc + 1) (us + j)) : WM K F E pc L (aI x :: st) G M uc us := by
  intro _ p e R s m args below meth c A n0 ad0 al Qe hE C ad H locs ls h1 h2 hP hD hS h3
  have C0 := C
  obtain ⟨hx1, hb, hml, hown, hts, hK, hA, hz, hw, hlocks, hstt, hR⟩ := C
  obtain ⟨n1, n2⟩ := nat_cl hj
  refine va_newq hx1 hb hown (hts _ hcl) hw.2.2.2.2.2.1 hK hP hD hS hA n1 n2 (by omega) (by rw [hR]; exact hr.1) (by rw [hR]; exact hr.2) hd (fun q1 cA H1 hK1 hP1 hD1 hS1 => ?_)
  have hc : cA = K.2.2 4 := ty_eq (i := 4) hK1 rfl (fun c h => by
    obtain ⟨kA, comp, a1, a2, a3, a4⟩ := h
    exact a4)
  subst hc
  refine go_on hE C0 hge h1 h3 hok hL hst (g := (10, j, List.replicate j none)) ?_ hP1 hD1 hS1 k
  have key : ∀ i, ((List.replicate j (none : Option Nat)).getD i none) = none := fun i => by
    rw [List.getD_eq_getElem?_getD, List.getElem?_replicate]
    split <;> rfl
  rw [ce_ref (k := 1)]
  simp only [key]
  rfl
theorem s_obj {index r : Nat} (hl : Cond.methodLink F.1.cls index Lib.objectInit ∈ gw) (hi : Cond.instanceMethod Lib.objectInit ∈ gw) (hcd : Cond.code Lib.objectInit ⟨#[0xb1]⟩ 1 none ∈ gw) (hrest : st.length ≤ 4) (hr : 1 ≤ F.2.2.2.2.1.frames ∧ 20 ≤ F.2.2.2.2.1.locals) (hd : decode F.2.1 pc = .ok (.invokespecial index, 3)) (k : WM K F E (pc + 3) L st G M uc us) : WM K F E pc L (aR r :: st) G M uc us := by
  intro _ p e R s m args below meth c A n0 ad0 al Qe hE C ad H locs ls h1 h2 hP hD hS h3
  obtain ⟨hx1, hb, hml, hown, hts, hK, hA, hz, hw, hlocks, hstt, hR⟩ := id C
  have hcat := cats (ad := ad) st hrest
  refine W.objInit hx1 hb hown (hts _ hl) (hts _ hi) (hts _ hcd) rfl (h3.1.trans hml.symm) rfl hd (by rw [hR]; exact hr.1) (by rw [hR]; have := hr.2; show 2 * 0 + _ + 12 ≤ _; omega) (k () hE C ad H locs ls h1 h2 hP hD hS h3)
end AR
