/-! throws, calls, catches -/
/-- X is thrown in the body of F, at pc -/
def XM (K : KX) (F : Fn) (E : CE) (pc : Nat) (L : List (Option AV)) (rest : List AV) (X : String) (G : AG) (M : AM) (uc us : Nat) : Prop :=
  ∀ (_ : Unit) {p : Program} {e : Env} {R : Room} {s : State} {m : MethodId} {args : Array Value} {below : List Frame} {meth : Method} {c : Code} {A : Nat → Prop} {n0 : Nat} {ad0 : Nat → Nat} {al : Bool} {Qe : State → Prop},
    E p e R s m args below meth c A n0 ad0 al Qe → CX K F p R s m args meth c A →
    ∀ (ad : Nat → Nat) (H : Heap) (locs : List Loc) (ls : Array Slot) (q : Addr) (cx : Cell), (∀ i, i < n0 → ad i = ad0 i) → (al = false → ad = ad0) → va_P K.2.1 vwCl (conc K.2.2 ad G M) H → va_D A (conc K.2.2 ad G M) → va_S A s.heap H locs → lvr ad F.2.2.1 L ls →
    H[q]? = some cx → cx.vm = .none → s.vm.findClass X = some cx.cls →
    vx_W p K.1 e R s m args below meth c H locs uc us Qe (F0 m pc ls (rest.map (cv ad))) q
def exNames : List String := ["java/lang/RuntimeException", "java/lang/Exception"]
def AtE (ic : Nat) (X : String) : Prop := (∀ w ∈ (vx_atS "ZoneController" ic X exNames).filter goodWord, w ∈ gw) ∧ (∀ w ∈ (vx_atS "ZoneController" ic X exNames).filter (fun w => !goodWord w), w ∈ Cond.castable X X :: deL.map Cond.declares) ∧ (∀ w ∈ vx_atS "ZoneController" ic X exNames, vx_ot w = true) ∧ Bundle.fit X = true ∧ Cond.initialized X ∈ gw ∧ X ∈ exN
theorem gw_allF {ws : List Cond} (h : (ws.filter goodWord).all (fun w => decide (w ∈ lw_tbl) && goodWord w) = true) : ∀ w ∈ ws.filter goodWord, w ∈ gw := gw_all h
set_option maxRecDepth 20000 in
theorem atIAE : AtE 45 "java/lang/IllegalArgumentException" := ⟨gw_allF (by decide +kernel), by decide +kernel, by decide +kernel, by decide +kernel, gw_at 27 (by decide +kernel) (by decide +kernel), by decide +kernel⟩
set_option maxRecDepth 20000 in
theorem atISE : AtE 56 "java/lang/IllegalStateException" := ⟨gw_allF (by decide +kernel), by decide +kernel, by decide +kernel, by decide +kernel, gw_at 28 (by decide +kernel) (by decide +kernel), by decide +kernel⟩
set_option maxRecDepth 20000 in
theorem atIOE : AtE 212 "java/lang/IndexOutOfBoundsException" := ⟨gw_allF (by decide +kernel), by decide +kernel, by decide +kernel, by decide +kernel, gw_at 30 (by decide +kernel) (by decide +kernel), by decide +kernel⟩
theorem ex_fit : ∀ n ∈ exNames, Bundle.fit n = true := by decide +kernel
section INV
variable {K : KX} {F : Fn} {E : CE} {pc n : Nat} {L : List (Option AV)} {st rest : List AV} {G : AG} {M : AM} {uc us : Nat} {Q : Res → AG → AM → Prop}
theorem s_throw {ik is ic : Nat} {X tx : String} (hcls : F.1.cls = "ZoneController") (hat : AtE ic X) (htx : (is, tx) ∈ strL) (hk : Cond.classLink "ZoneController" ik X ∈ gw) (hal : F.2.2.2.2.2.1 = false) (hh : F.2.2.2.2.2.2 = [])
    (d0 : decode F.2.1 pc = .ok (.new ik, 3)) (d3 : decode F.2.1 (pc + 3) = .ok (.dup, 1)) (d4 : decode F.2.1 (pc + 4) = .ok (.ldc is, 2)) (d6 : decode F.2.1 (pc + 6) = .ok (.invokespecial ic, 3)) (d9 : decode F.2.1 (pc + 9) = .ok (.athrow, 1))
    (hrm : 5 < F.2.2.2.2.1.frames ∧ 82 ≤ F.2.2.2.2.1.locals) (hc : uc + 1 ≤ F.2.2.2.2.1.cells) (hs : us + 6 ≤ F.2.2.2.2.1.slots) (hQ : Q (.inr X) G M) : WM K F (EM K F n Q) pc L [] G M uc us := by
  intro _ p e R s m args below meth c A n0 ad0 al Qe hE C ad H locs ls h1 h2 hP hD hS h3
  obtain ⟨e1, rfl, e3, e4, e5, rfl⟩ := hE
  obtain ⟨hx, hb, hml, hown, hts, hK, hA, hz, hw, hlocks, hst, hR⟩ := C
  subst hR
  obtain ⟨a1, a2, a3, a4, a5, a6⟩ := hat
  rw [hcls] at hown
  obtain ⟨sa, hsa⟩ := hw.2.2.2.1 _ htx
  have had : ad = ad0 := h2 (e1.trans hal)
  have hB : (Cond.castable X X).before args s = true := va_Nw.use rfl (hw.1 X a6)
  have hat9 : ∀ w ∈ vx_atS "ZoneController" ic X exNames, w.before args s = true := vx_hat (fun w hw9 => hts w (a1 w hw9)) a2 (fun w hw9 => by
    rcases List.mem_cons.mp hw9 with rfl | hw9
    · exact hB
    · obtain ⟨y, hy, rfl⟩ := List.mem_map.mp hw9
      exact va_Nw.use rfl (hw.2.2.2.2.2.2.2 y hy))
  have hgk : vx_ot (Cond.classLink "ZoneController" ik X) = true := by simp [vx_ot, Cond.onTables]
  have hgi : vx_ot (Cond.initialized X) = true := by simp [vx_ot, Cond.onTables]
  refine vx_throwS hx hb hst hown a4 ex_fit (hts _ hk) (hts _ a5) hsa hat9 (fun w hw9 => ?_) hz.1 hz.2 hS (h3.1.trans hml.symm) d0 d3 d4 d6 d9 ?_ hrm.1 ?_ hc hs hlocks (fun t hvm hle hk9 => ?_) hS.2.2 hc hs
  · rcases List.mem_cons.mp hw9 with rfl | hw9
    · exact hgk
    · rcases List.mem_cons.mp hw9 with rfl | hw9
      · exact hgi
      · exact a3 w hw9
  · intro x hx9
    rw [e5, hh] at hx9
    cases hx9
  · show 0 + (13 * (exNames.length + 1) + 43) ≤ _
    exact hrm.2
  · rw [had] at hP hD
    refine ⟨⟨G, M, hQ, hP.kept (fun k q hq => hk9 q.1 (hP k q hq).lt), hD⟩, ⟨Nat.le_trans hS.1 hle, fun q hq hnA => ?_⟩⟩
    rw [hk9 q (Nat.lt_of_lt_of_le hq hS.1)]
    exact hS.2.1 q hq hnA
theorem x_out {X : String} (hal : F.2.2.2.2.2.1 = false) (hh : F.2.2.2.2.2.2 = []) (hc : uc ≤ F.2.2.2.2.1.cells) (hs : us ≤ F.2.2.2.2.1.slots) (hQ : Q (.inr X) G M) : XM K F (EM K F n Q) pc L rest X G M uc us := by
  intro _ p e R s m args below meth c A n0 ad0 al Qe hE C ad H locs ls q cx h1 h2 hP hD hS h3 hq hv hcl
  obtain ⟨e1, rfl, e3, e4, e5, rfl⟩ := hE
  obtain ⟨hx, hb, hml, hown, hts, hK, hA, hz, hw, hlocks, hst, hR⟩ := C
  have had : ad = ad0 := h2 (e1.trans hal)
  rw [had] at hP hD
  refine vx_out (fun x hx9 => ?_) hlocks hq hv hcl (fun t ht hvm => ⟨⟨G, M, hQ, by rw [ht]; exact hP, hD⟩, hS.F ht⟩) hS.2.2 hc hs
  rw [e5, hh] at hx9
  cases hx9
/-- caught: the handlers ahead name other classes -/
theorem x_catch {X : String} (pre : List (Nat × Nat × Nat × Nat)) (x : Nat × Nat × Nat × Nat) (suf : List (Nat × Nat × Nat × Nat)) (hh : F.2.2.2.2.2.2 = pre ++ x :: suf) (nm : Nat → String)
    (hpre : ∀ z ∈ pre, z.2.2.2 ≠ 0 ∧ Cond.classLink F.1.cls z.2.2.2 (nm z.2.2.2) ∈ gw ∧ (X, nm z.2.2.2) ∈ ncL) (hx : covers ⟨x.1, x.2.1, x.2.2.1, x.2.2.2⟩ pc = true) (h0 : x.2.2.2 ≠ 0) (hl : Cond.classLink F.1.cls x.2.2.2 X ∈ gw) (hX : X ∈ exN)
    (kk : ∀ q, WM K F (EM K F n Q) x.2.2.1 L [aX q] G M uc us) : XM K F (EM K F n Q) pc L rest X G M uc us := by
  intro _ p e R s m args below meth c A n0 ad0 al Qe hE C ad H locs ls q cx h1 h2 hP hD hS h3 hq hv hcl
  have e5 := hE.2.2.2.2.1
  have C0 := C
  obtain ⟨hx1, hb, hml, hown, hts, hK, hA, hz, hw, hlocks, hst, hR⟩ := C
  refine vx_catch hown (tableOf pre) ⟨x.1, x.2.1, x.2.2.1, x.2.2.2⟩ (tableOf suf) (by rw [e5, hh]; simp [tableOf]) (fun z hz9 => ?_) hx h0 (hts _ hl) (va_Nw.use rfl (hw.1 X hX)) hq hv hcl (kk q () hE C0 ad H locs ls h1 h2 hP hD hS h3)
  obtain ⟨w, hw9, rfl⟩ := List.mem_map.mp hz9
  obtain ⟨g1, g2, g3⟩ := hpre w hw9
  exact Or.inr ⟨g1, _, hts _ g2, hw.2.2.1 _ g3⟩
/-- what the caller goes on with -/
def KQ (K : KX) (F : Fn) (E : CE) (pc : Nat) (L : List (Option AV)) (rest : List AV) (uc us : Nat) : Res → AG → AM → Prop := fun r G M => match r with
  | .inl v => WM K F E (pc + 3) L (v.toList ++ rest) G M uc us
  | .inr X => XM K F E pc L rest X G M uc us
theorem pre_world {F9 : Fn} {as : List AV} {p : Program} {R : Room} {s : State} {m : MethodId} {args : Array Value} {meth : Method} {c : Code} {A : Nat → Prop} {ad : Nat → Nat} {H : Heap} {locs : List Loc} (C : CX K F9 p R s m args meth c A) (hP : va_P K.2.1 vwCl (conc K.2.2 ad G M) H) (hD : va_D A (conc K.2.2 ad G M)) (hS : va_S A s.heap H locs) :
    (FrameBlind (pcF K as ad G M H.size) ∧ ∀ U : State, U.heap = H → s.WarmedH U.vm → pcF K as ad G M H.size (as.map (cv ad)).toArray U) ∧ ∀ q, va_A (conc K.2.2 ad G M) H.size q → A q := by
  obtain ⟨hx1, hb, hml, hown, hts, hK, hA, hz, hw, hlocks, hst, hR⟩ := C
  have hF : ∀ q, va_A (conc K.2.2 ad G M) H.size q → A q := fun q hq => by
    rcases hq with ⟨k, e9, h⟩ | h
    · exact hD.2 k (q, e9) h
    · exact hA q (Nat.le_trans hS.1 h)
  refine ⟨⟨?_, ?_⟩, hF⟩
  · intro a U g mk q
    obtain ⟨q0, q1, qP, qD, qK, qz, qw⟩ := q
    exact ⟨q0, q1, qP, qD, va_K.moved (u := U) (U := U.calling g mk a) (Vm.Alike.refl U.vm) qK, zU.moved (u := U) (U := U.calling g mk a) (Vm.Alike.refl U.vm) qz, qw.warm (U := U.calling g mk a) (State.WarmedH.refl U)⟩
  · intro U hU hW
    refine ⟨rfl, by rw [hU], by rw [hU]; exact hP, hD.weaken (fun _ _ _ _ => trivial), va_K.moved hW.alike hK, ?_, hw.warm hW⟩
    rw [hU]
    exact (zU.moved hW.alike (hz.kept (fun a h1 h2 => hS.2.1 a h1 h2) hF))
theorem run_on {Fc : Fn} {as : List AV} {Q9 : Res → AG → AM → Prop} {p : Program} {e : Env} {R : Room} {s : State} {m : MethodId} {args : Array Value} {below : List Frame} {meth : Method} {c : Code} {A : Nat → Prop} {n0 : Nat} {ad0 : Nat → Nat} {al : Bool} {Qe : State → Prop} {ad : Nat → Nat} {H : Heap} {locs : List Loc} {ls : Array Slot} {st0 : List Value}
    (hE : E p e R s m args below meth c A n0 ad0 al Qe) (C : CX K F p R s m args meth c A) (h1 : ∀ i, i < n0 → ad i = ad0 i) (h2 : al = false → ad = ad0) (hP : va_P K.2.1 vwCl (conc K.2.2 ad G M) H) (hD : va_D A (conc K.2.2 ad G M)) (hS : va_S A s.heap H locs) (h3 : lvr ad F.2.2.1 L ls)
    (hal : Fc.2.2.2.2.2.1 = false)
    (hr : vx_Run p K.1 e R s m args below meth c H locs uc us Fc.2.2.2.2.1.cells Fc.2.2.2.2.1.slots (F0 m pc ls st0) (rest.map (cv ad)) (qcF K Fc.2.2.2.2.2.1 Q9 G.length ad (va_A (conc K.2.2 ad G M) H.size) (as.map (cv ad)).toArray) (xcF K Q9 ad (va_A (conc K.2.2 ad G M) H.size)) (va_A (conc K.2.2 ad G M) H.size))
    (hQ : ∀ r G' M', Q9 r G' M' → KQ K F E pc L rest (uc + Fc.2.2.2.2.1.cells) (us + Fc.2.2.2.2.1.slots) r G' M') :
    W p K.1 e R s m args below meth c H locs uc us Qe (F0 m pc ls st0) := by
  have hF := (pre_world (as := as) C hP hD hS).2
  intro T hT X
  rcases hr T hT X with ⟨v, st₀, t, T', L9, h0, X', hL, e1, e2, ⟨⟨r, ad', G', M', hv, hq, g1, g2, g3, g4⟩, hfr⟩, st9⟩ | ⟨q, st₀, t, T', L9, X9, ce9, h0, X', hL, e1, e2, ⟨⟨G', M', hq, g3, g4⟩, hfr⟩, hce, hcv, hcl, st9⟩
  · have had : ad' = ad := g2 hal
    subst had
    cases hv
    obtain ⟨k1, k2, k3⟩ := vx_keep h0 e1 hS (fun q _ h => hF q h) hF hL hfr
    have hk : WM K F E (pc + 3) L (r.toList ++ rest) G' M' (uc + Fc.2.2.2.2.1.cells) (us + Fc.2.2.2.2.1.slots) := hQ _ _ _ hq
    have hw := hk () hE C ad' T'.heap (locs ++ L9) ls h1 h2 (by rw [e1]; exact g3) (g4.weaken (fun _ q _ h => hF q.1 h)) k3 h3
    obtain ⟨t2, a1, b1⟩ := hw T' rfl X'
    refine ⟨t2, st9 t2 ?_, b1⟩
    have hl : (r.toList ++ rest).map (cv ad') = (r.map (cv ad')).toList ++ rest.map (cv ad') := by cases r <;> simp
    rw [hl] at a1
    exact a1
  · obtain ⟨k1, k2, k3⟩ := vx_keep h0 e1 hS (fun q _ h => hF q h) hF hL hfr
    have hk : XM K F E pc L rest X9 G' M' (uc + Fc.2.2.2.2.1.cells) (us + Fc.2.2.2.2.1.slots) := hQ _ _ _ hq
    have hw := hk () hE C ad T'.heap (locs ++ L9) ls q ce9 h1 h2 (by rw [e1]; exact g3) (g4.weaken (fun _ q _ h => hF q.1 h)) k3 h3 (by rw [e1]; exact hce) hcv hcl
    obtain ⟨t2, a1, b1⟩ := hw T' rfl X'
    exact ⟨t2, st9.trans a1, b1⟩
/-- what a call asks of the tables and the room -/
def CO (F Fc : Fn) (index nn uc us : Nat) : Prop := Cond.methodLink F.1.cls index Fc.1 ∈ gw ∧ hwd Fc ∈ gw ∧ Cond.initialized Fc.1.cls ∈ gw ∧ (Fc.1.cls ≠ "java/lang/invoke/MethodHandle" ∧ Fc.1.cls ≠ "java/lang/invoke/VarHandle") ∧ (parseMethodDescriptor Fc.1.desc).map (fun d => d.parameters.length) = some nn ∧
  Fc.2.2.2.2.1.frames + 1 ≤ F.2.2.2.2.1.frames ∧ 8 + (Fc.2.2.1 + 11) + Fc.2.2.2.2.1.locals ≤ F.2.2.2.2.1.locals ∧ uc + Fc.2.2.2.2.1.cells ≤ F.2.2.2.2.1.cells ∧ us + Fc.2.2.2.2.1.slots ≤ F.2.2.2.2.1.slots
theorem ws_good {Fc : Fn} (h : hwd Fc ∈ gw) {s : State} {args : Array Value} (hts : ∀ w ∈ gw, w.before args s = true) : ∀ w ∈ wsF Fc, ∀ (a' : Array Value) (U : State), s.WarmedH U.vm → w.before a' U = true := by
  intro w hw a' U hW
  have hm : w ∈ gw := by
    rcases List.mem_cons.mp hw with rfl | hw
    · exact h
    · exact hw
  exact word_at hW (gw_good hm) (hts w hm)
theorem s_callV {Fc : Fn} {index ci r len : Nat} {rs : List (Option Nat)} {q : vw_C} {as stk : List AV} {Q9 : Res → AG → AM → Prop} (hst : stk = as.reverse ++ aR r :: rest) (hM : MetA K Fc (aR r :: as) G M Q9)
    (hg : G[r]? = some (ci, len, rs)) (hc : vwCl[ci]? = some q) (hci : ci < 6) (hq : q.1 = Fc.1.cls) (co : CO F Fc index as.length uc us) (hin : Cond.instanceMethod Fc.1 ∈ gw) (hse : Cond.selects Fc.1.cls Fc.1 Fc.1 ∈ gw) (hh : Fc.2.2.2.2.2.2 = []) (hal : Fc.2.2.2.2.2.1 = false) (hrest : rest.length ≤ 4)
    (hd : decode F.2.1 pc = .ok (.invokevirtual index, 3)) (hQ : ∀ r G' M', Q9 r G' M' → KQ K F E pc L rest (uc + Fc.2.2.2.2.1.cells) (us + Fc.2.2.2.2.1.slots) r G' M') : WM K F E pc L stk G M uc us := by
  intro _ p e R s m args below meth c A n0 ad0 al Qe hE C ad H locs ls h1 h2 hP hD hS h3
  obtain ⟨hx1, hb, hml, hown, hts, hK, hA, hz, hw, hlocks, hstt, hR⟩ := id C
  obtain ⟨o1, o2, o3, o4, o5, o6, o7, o8, o9⟩ := co
  have hP9 := pre_world (as := aR r :: as) C hP hD hS
  have hcode : Cond.code Fc.1 Fc.2.1 Fc.2.2.1 Fc.2.2.2.1 ∈ gw := by
    have := o2
    unfold hwd at this
    rw [if_pos hh] at this
    exact this
  have hrecv := va_recv (q := q) hK hP hc (by rw [conc_at hg, ce_obj hci])
  refine run_on (as := aR r :: as) (Fc := Fc) hE C h1 h2 hP hD hS h3 hal ?_ hQ
  refine vx_runV (As := as.map (cv ad)) (C := Fc.1.cls) (b := ad r) (n := as.length) (bytes := Fc.2.1) (maxL := Fc.2.2.1) (ret := Fc.2.2.2.1) ⟨hx1, hb, hml, hown, hts⟩ (hM ad H.size) ⟨⟨rfl, rfl, by rw [hR]; exact o6, by rw [hR]; exact o7, ws_good o2 hts, ?_, hts _ hcode, hts _ o3, o4, fun sig h => ?_, hts _ o1⟩, hts _ hin, hts _ hse⟩ ⟨hP9.1.1, by rw [← hq]; exact hrecv, hP9.1.2⟩ rfl (by simp) h3.1 ?_ (lv_room (cats rest hrest)) hd (by rw [hR]; exact ⟨o8, o9⟩)
  · unfold wsF
    rw [if_pos hh]
    exact List.mem_cons_self
  · rw [h] at o5
    exact (Option.some.inj o5).symm
  · rw [hst]
    show (as.reverse ++ aR r :: rest).map (cv ad) = _
    simp [cv]
theorem s_callS {Fc : Fn} {index : Nat} {as stk : List AV} {Q9 : Res → AG → AM → Prop} (hst : stk = as.reverse ++ rest) (hM : MetA K Fc as G M Q9)
    (co : CO F Fc index as.length uc us) (hin : Cond.static Fc.1 ∈ gw) (hh : Fc.2.2.2.2.2.2 = []) (hal : Fc.2.2.2.2.2.1 = false) (hrest : rest.length ≤ 4)
    (hd : decode F.2.1 pc = .ok (.invokestatic index, 3)) (hQ : ∀ r G' M', Q9 r G' M' → KQ K F E pc L rest (uc + Fc.2.2.2.2.1.cells) (us + Fc.2.2.2.2.1.slots) r G' M') : WM K F E pc L stk G M uc us := by
  intro _ p e R s m args below meth c A n0 ad0 al Qe hE C ad H locs ls h1 h2 hP hD hS h3
  obtain ⟨hx1, hb, hml, hown, hts, hK, hA, hz, hw, hlocks, hstt, hR⟩ := id C
  obtain ⟨o1, o2, o3, o4, o5, o6, o7, o8, o9⟩ := co
  have hP9 := pre_world (as := as) C hP hD hS
  have hcode : Cond.code Fc.1 Fc.2.1 Fc.2.2.1 Fc.2.2.2.1 ∈ gw := by
    have := o2
    unfold hwd at this
    rw [if_pos hh] at this
    exact this
  refine run_on (as := as) (Fc := Fc) hE C h1 h2 hP hD hS h3 hal ?_ hQ
  refine vx_runS (As := as.map (cv ad)) (n := as.length) (bytes := Fc.2.1) (maxL := Fc.2.2.1) (ret := Fc.2.2.2.1) ⟨hx1, hb, hml, hown, hts⟩ (hM ad H.size) ⟨⟨rfl, rfl, by rw [hR]; exact o6, by rw [hR]; exact o7, ws_good o2 hts, ?_, hts _ hcode, hts _ o3, o4, fun sig h => ?_, hts _ o1⟩, hts _ hin⟩ ⟨hP9.1.1, hP9.1.2⟩ rfl (by simp) h3.1 ?_ (lv_room (cats rest hrest)) hd (by rw [hR]; exact ⟨o8, o9⟩)
  · unfold wsF
    rw [if_pos hh]
    exact List.mem_cons_self
  · rw [h] at o5
    exact (Option.some.inj o5).symm
  · rw [hst]
    simp
theorem s_callSH {Fc : Fn} {index : Nat} {as stk : List AV} {Q9 : Res → AG → AM → Prop} (hst : stk = as.reverse ++ rest) (hM : MetA K Fc as G M Q9)
    (co : CO F Fc index as.length uc us) (hin : Cond.static Fc.1 ∈ gw) (hh : ¬ Fc.2.2.2.2.2.2 = []) (hal : Fc.2.2.2.2.2.1 = false) (hrest : rest.length ≤ 4)
    (hd : decode F.2.1 pc = .ok (.invokestatic index, 3)) (hQ : ∀ r G' M', Q9 r G' M' → KQ K F E pc L rest (uc + Fc.2.2.2.2.1.cells) (us + Fc.2.2.2.2.1.slots) r G' M') : WM K F E pc L stk G M uc us := by
  intro _ p e R s m args below meth c A n0 ad0 al Qe hE C ad H locs ls h1 h2 hP hD hS h3
  obtain ⟨hx1, hb, hml, hown, hts, hK, hA, hz, hw, hlocks, hstt, hR⟩ := id C
  obtain ⟨o1, o2, o3, o4, o5, o6, o7, o8, o9⟩ := co
  have hP9 := pre_world (as := as) C hP hD hS
  have hcode : Cond.codeWith Fc.1 Fc.2.1 Fc.2.2.1 Fc.2.2.2.1 Fc.2.2.2.2.2.2 ∈ gw := by
    have := o2
    unfold hwd at this
    rw [if_neg hh] at this
    exact this
  refine run_on (as := as) (Fc := Fc) hE C h1 h2 hP hD hS h3 hal ?_ hQ
  refine vx_runSX (As := as.map (cv ad)) (n := as.length) (bytes := Fc.2.1) (maxL := Fc.2.2.1) (ret := Fc.2.2.2.1) (hh := Fc.2.2.2.2.2.2) ⟨hx1, hb, hml, hown, hts⟩ (hM ad H.size) ⟨⟨rfl, rfl, by rw [hR]; exact o6, by rw [hR]; exact o7, ws_good o2 hts, ?_⟩, hts _ hcode, hts _ o3, o4, fun sig h => ?_, hts _ o1, hts _ hin⟩ ⟨hP9.1.1, hP9.1.2⟩ rfl (by simp) h3.1 ?_ (lv_room (cats rest hrest)) hd (by rw [hR]; exact ⟨o8, o9⟩)
  · unfold wsF
    rw [if_neg hh]
    exact List.mem_cons_self
  · rw [h] at o5
    exact (Option.some.inj o5).symm
  · rw [hst]
    simp
end INV
