/-! constructors called -/
section IN
variable {K : KX} {F : Fn} {E : CE} {pc n : Nat} {L : List (Option AV)} {st rest : List AV} {G : AG} {M : AM} {uc us : Nat}
theorem run_onA {Fc : Fn} {as : List AV} {Q9 : Res → AG → AM → Prop} {p : Program} {e : Env} {R : Room} {s : State} {m : MethodId} {args : Array Value} {below : List Frame} {meth : Method} {c : Code} {A : Nat → Prop} {n0 : Nat} {ad0 : Nat → Nat} {al : Bool} {Qe : State → Prop} {ad : Nat → Nat} {H : Heap} {locs : List Loc} {ls : Array Slot} {st0 : List Value}
    (hE : E p e R s m args below meth c A n0 ad0 al Qe) (C : CX K F p R s m args meth c A) (hge : GE E G.length) (h1 : ∀ i, i < n0 → ad i = ad0 i) (hP : va_P K.2.1 vwCl (conc K.2.2 ad G M) H) (hD : va_D A (conc K.2.2 ad G M)) (hS : va_S A s.heap H locs) (h3 : lvr ad F.2.2.1 L ls)
    (hL : okL G.length L = true) (hst : rest.all (okV G.length) = true)
    (hr : vx_Run p K.1 e R s m args below meth c H locs uc us Fc.2.2.2.2.1.cells Fc.2.2.2.2.1.slots (F0 m pc ls st0) (rest.map (cv ad)) (qcF K Fc.2.2.2.2.2.1 Q9 G.length ad (va_A (conc K.2.2 ad G M) H.size) (as.map (cv ad)).toArray) (xcF K Q9 ad (va_A (conc K.2.2 ad G M) H.size)) (va_A (conc K.2.2 ad G M) H.size))
    (hQ : ∀ r G' M', Q9 r G' M' → r = .inl none ∧ WM K F E (pc + 3) L rest G' M' (uc + Fc.2.2.2.2.1.cells) (us + Fc.2.2.2.2.1.slots)) :
    W p K.1 e R s m args below meth c H locs uc us Qe (F0 m pc ls st0) := by
  have hF := (pre_world (as := as) C hP hD hS).2
  obtain ⟨hn, hal⟩ := hge hE
  intro T hT X
  rcases hr T hT X with ⟨v, st₀, t, T', L9, h0, X', hL9, e1, e2, ⟨⟨r, ad', G', M', hv, hq, g1, g2, g3, g4⟩, hfr⟩, st9⟩ | ⟨q, st₀, t, T', L9, X9, ce9, h0, X', hL9, e1, e2, ⟨⟨G', M', hq, g3, g4⟩, hfr⟩, hce, hcv, hcl, st9⟩
  · cases hv
    obtain ⟨k1, k2, k3⟩ := vx_keep h0 e1 hS (fun q _ h => hF q h) hF hL9 hfr
    obtain ⟨hr0, hk⟩ := hQ _ _ _ hq
    cases hr0
    have hw := hk () hE C ad' T'.heap (locs ++ L9) ls (fun i hi => by rw [g1 i (by omega)]; exact h1 i hi) (fun z => by rw [hal] at z; cases z) (by rw [e1]; exact g3) (g4.weaken (fun _ q _ h => hF q.1 h)) k3 (lvr_ad g1 hL h3)
    obtain ⟨t2, a1, b1⟩ := hw T' rfl X'
    refine ⟨t2, st9 t2 ?_, b1⟩
    rw [st_ad g1 hst] at a1
    exact a1
  · have := (hQ _ _ _ hq).1
    cases this
theorem s_callI {Fc : Fn} {index r : Nat} {Q9 : Res → AG → AM → Prop} (hM : MetA K Fc [aR r] G M Q9) (hret : Fc.2.2.2.1 = none) (hnm : Fc.1.name = "<init>")
    (co : CO F Fc index 0 uc us) (hin : Cond.instanceMethod Fc.1 ∈ gw) (hh : Fc.2.2.2.2.2.2 = []) (hge : GE E G.length) (hL : okL G.length L = true) (hst : rest.all (okV G.length) = true) (hrest : rest.length ≤ 4)
    (hd : decode F.2.1 pc = .ok (.invokespecial index, 3)) (hQ : ∀ r G' M', Q9 r G' M' → r = .inl none ∧ WM K F E (pc + 3) L rest G' M' (uc + Fc.2.2.2.2.1.cells) (us + Fc.2.2.2.2.1.slots)) : WM K F E pc L (aR r :: rest) G M uc us := by
  intro _ p e R s m args below meth c A n0 ad0 al Qe hE C ad H locs ls h1 h2 hP hD hS h3
  obtain ⟨hx1, hb, hml, hown, hts, hK, hA, hz, hw, hlocks, hstt, hR⟩ := id C
  obtain ⟨o1, o2, o3, o4, o5, o6, o7, o8, o9⟩ := co
  have hP9 := pre_world (as := [aR r]) C hP hD hS
  have hcode : Cond.code Fc.1 Fc.2.1 Fc.2.2.1 none ∈ gw := by
    have := o2
    unfold hwd at this
    rw [if_pos hh, hret] at this
    exact this
  refine run_onA (as := [aR r]) (Fc := Fc) hE C hge h1 hP hD hS h3 hL hst ?_ hQ
  refine vx_runI (As := []) (b := ad r) (n := 0) (bytes := Fc.2.1) (maxL := Fc.2.2.1) ⟨hx1, hb, hml, hown, hts⟩ (hM ad H.size) ⟨⟨rfl, rfl, by rw [hR]; exact o6, by rw [hR]; exact o7, ws_good o2 hts, ?_, hts _ hcode, hts _ o3, o4, fun sig h => ?_, hts _ o1⟩, hnm, hts _ hin⟩ ⟨hP9.1.1, hP9.1.2⟩ rfl rfl h3.1 rfl (lv_room (cats rest hrest)) hd (by rw [hR]; exact ⟨o8, o9⟩)
  · unfold wsF
    rw [if_pos hh, hret]
    exact List.mem_cons_self
  · rw [h] at o5
    exact (Option.some.inj o5).symm
theorem s_callIN {Fc : Fn} {index r : Nat} {Q9 : Res → AG → AM → Prop} (hM : MetA K Fc [aR r] G M Q9) (hret : Fc.2.2.2.1 = none) (hnm : Fc.1.name = "<init>") (hcls : F.1.cls = "ZoneController") (hne : (index, Fc.1) ∈ nestL)
    (co : hwd Fc ∈ gw ∧ Cond.initialized Fc.1.cls ∈ gw ∧ (Fc.1.cls ≠ "java/lang/invoke/MethodHandle" ∧ Fc.1.cls ≠ "java/lang/invoke/VarHandle") ∧ (parseMethodDescriptor Fc.1.desc).map (fun d => d.parameters.length) = some 0 ∧
      Fc.2.2.2.2.1.frames + 1 ≤ F.2.2.2.2.1.frames ∧ 8 + (Fc.2.2.1 + 11) + Fc.2.2.2.2.1.locals ≤ F.2.2.2.2.1.locals ∧ uc + Fc.2.2.2.2.1.cells ≤ F.2.2.2.2.1.cells ∧ us + Fc.2.2.2.2.1.slots ≤ F.2.2.2.2.1.slots)
    (hin : Cond.instanceMethod Fc.1 ∈ gw) (hh : Fc.2.2.2.2.2.2 = []) (hge : GE E G.length) (hL : okL G.length L = true) (hst : rest.all (okV G.length) = true) (hrest : rest.length ≤ 4)
    (hd : decode F.2.1 pc = .ok (.invokespecial index, 3)) (hQ : ∀ r G' M', Q9 r G' M' → r = .inl none ∧ WM K F E (pc + 3) L rest G' M' (uc + Fc.2.2.2.2.1.cells) (us + Fc.2.2.2.2.1.slots)) : WM K F E pc L (aR r :: rest) G M uc us := by
  intro _ p e R s m args below meth c A n0 ad0 al Qe hE C ad H locs ls h1 h2 hP hD hS h3
  obtain ⟨hx1, hb, hml, hown, hts, hK, hA, hz, hw, hlocks, hstt, hR⟩ := id C
  obtain ⟨o2, o3, o4, o5, o6, o7, o8, o9⟩ := co
  have hP9 := pre_world (as := [aR r]) C hP hD hS
  have hcode : Cond.code Fc.1 Fc.2.1 Fc.2.2.1 none ∈ gw := by
    have := o2
    unfold hwd at this
    rw [if_pos hh, hret] at this
    exact this
  have hnest := hw.2.1 _ hne
  rw [hcls] at hown
  refine run_onA (as := [aR r]) (Fc := Fc) hE C hge h1 hP hD hS h3 hL hst ?_ hQ
  refine vx_runIN (As := []) (b := ad r) (n := 0) (host := "ZoneController") (bytes := Fc.2.1) (maxL := Fc.2.2.1) ⟨hx1, hb, hml, hown, hts⟩ (hM ad H.size) ⟨⟨⟨rfl, rfl, by rw [hR]; exact o6, by rw [hR]; exact o7, ws_good o2 hts, ?_⟩, hts _ hcode, hts _ o3, o4, fun sig h => ?_, va_Nw.use rfl hnest⟩, hnm, hts _ hin⟩ ⟨hP9.1.1, hP9.1.2⟩ rfl rfl h3.1 rfl (lv_room (cats rest hrest)) hd (by rw [hR]; exact ⟨o8, o9⟩)
  · unfold wsF
    rw [if_pos hh, hret]
    exact List.mem_cons_self
  · rw [h] at o5
    exact (Option.some.inj o5).symm
/-- twenty rows of twenty -/
theorem s_rows {index : Nat} (hcl : Cond.classLink F.1.cls index ("[" ++ (FieldType.array FieldType.int).toString) ∈ gw) (harr : Cond.arrayClass .int ∈ gw) (hge : GE E G.length) (hok : okG G.length G = true) (hL : okL G.length L = true) (hst : rest.all (okV G.length) = true)
    (hr : uc + 21 ≤ F.2.2.2.2.1.cells ∧ us + 420 ≤ F.2.2.2.2.1.slots) (hd : decode F.2.1 pc = .ok (.multianewarray index 2, 4))
    (k : WM K F E (pc + 4) L (aR G.length :: rest) (G ++ ((11, 20, (List.range 20).map (fun i => some (G.length + 1 + i))) :: List.replicate 20 (6, 20, []))) (fun c k => if c < G.length then M c k else 0) (uc + 21) (us + 420)) : WM K F E pc L (aI 20 :: aI 20 :: rest) G M uc us := by
  intro _ p e R s m args below meth c A n0 ad0 al Qe hE C ad H locs ls h1 h2 hP hD hS h3
  have C0 := C
  obtain ⟨hx1, hb, hml, hown, hts, hK, hA, hz, hw, hlocks, hstt, hR⟩ := C
  obtain ⟨hn, hal⟩ := hge hE
  obtain ⟨n1, n2⟩ := nat_cl (x := 20) (j := 20) (by rw [wr_lit 20 (by decide)]; rfl)
  have hcy : s.vm.findClass (FieldType.array FieldType.int).toString = some (K.2.2 0) := (hK.2 0 (K.2.2 0, .int) rfl).2
  have hP0 : va_P K.2.1 vwCl (conc K.2.2 ad G M ++ va_pl [] (fun _ => Sum.inr (0, []))) H := by rw [show va_pl [] (fun _ => (Sum.inr (0, []) : va_E)) = [] from rfl, List.append_nil]; exact hP
  have hD0 : va_D A (conc K.2.2 ad G M ++ va_pl [] (fun _ => Sum.inr (0, []))) := by rw [show va_pl [] (fun _ => (Sum.inr (0, []) : va_E)) = [] from rfl, List.append_nil]; exact hD
  refine va_mna (X := conc K.2.2 ad G M) (L := []) (f := fun _ => Sum.inr (0, [])) (ty := .int) (cy := K.2.2 0) (N' := 20) (K' := 20) (z := (20, .inl (fun _ => 0))) hx1 hb hown (hts _ hcl) hw.2.2.2.2.2.2.1 (hts _ harr) hcy hK hP0 hD0 hS hA n1 n1 n2 n2 (by omega) (by decide) (by omega) rfl rfl (by rw [hR]; have := hr.1; omega) (by rw [hR]; have := hr.2; omega) (fun c => rfl) hd (fun q rr cA H1 hinj _ hK1 hP1 hD1 hS1 => ?_)
  have hc : cA = K.2.2 5 := ty_eq (i := 5) hK1 rfl (fun c h => h)
  subst hc
  have hag : ∀ i, i < G.length → (fun i => if i < G.length then ad i else if i = G.length then q else rr (i - G.length - 1)) i = ad i := fun i hi => if_pos hi
  have hcc := conc_add (t := K.2.2) (ad := ad) (ad' := fun i => if i < G.length then ad i else if i = G.length then q else rr (i - G.length - 1)) (G := G) (G2 := (11, 20, (List.range 20).map (fun i => some (G.length + 1 + i))) :: List.replicate 20 (6, 20, [])) (M := M) (M' := fun c k => if c < G.length then M c k else 0)
    (ws := (q, .inl (K.2.2 5, 20, .inr (.inr (.inr (.inr (fun i => if i < 20 then some (rr i) else none)))))) :: va_pl ([] ++ (List.range 20).map rr) (vr_up (fun _ => Sum.inr (0, [])) ((List.range 20).map rr) (.inl (K.2.2 0, 20, .inl (fun _ => 0))))) hok hag (fun i hi => by funext k; exact if_pos hi) (by simp [va_pl]) (fun i g hg => ?_)
  · rw [List.append_assoc, List.singleton_append, hcc] at hP1 hD1
    have hk := k () hE C0 _ H1 locs ls (fun i hi => (hag i (by omega)).trans (h1 i hi)) (fun z => by rw [hal] at z; cases z) hP1 hD1 hS1 (lvr_ad hag hL h3)
    have e9 : (aR G.length :: rest).map (cv (fun i => if i < G.length then ad i else if i = G.length then q else rr (i - G.length - 1))) = .ref q :: rest.map (cv ad) := by
      rw [List.map_cons, st_ad hag hst]
      show Value.ref (if G.length < G.length then ad G.length else if G.length = G.length then q else rr (G.length - G.length - 1)) :: _ = _
      rw [if_neg (by omega), if_pos rfl]
    rw [e9] at hk
    exact hk
  · have hi : i < 21 := by
      have := (List.getElem?_eq_some_iff.mp hg).1
      simpa using this
    cases i with
    | zero =>
      cases hg
      simp only [List.getElem?_cons_zero, Nat.add_zero, Nat.lt_irrefl, if_false, if_true]
      rw [ce_ref (k := 2)]
      congr 9
      funext j
      by_cases hj : j < 20
      · rw [if_pos hj, List.getD_eq_getElem?_getD, List.getElem?_map, List.getElem?_range hj]
        show some (rr j) = some (if G.length + 1 + j < G.length then _ else _)
        rw [if_neg (by omega), if_neg (by omega)]
        congr 2
        omega
      · rw [if_neg hj, List.getD_eq_getElem?_getD, List.getElem?_eq_none (by simp; omega)]
        rfl
    | succ i =>
      have hi2 : i < 20 := by omega
      rw [List.getElem?_cons_succ, List.getElem?_replicate, if_pos hi2] at hg
      cases hg
      rw [List.getElem?_cons_succ]
      unfold va_pl
      rw [List.nil_append, List.map_map, List.getElem?_map, List.getElem?_range hi2]
      show some (rr i, vr_up (fun _ => (Sum.inr (0, []) : va_E)) ((List.range 20).map rr) (Sum.inl (K.2.2 0, 20, Sum.inl (fun _ => 0))) (rr i)) = _
      rw [vr_up_in (List.mem_map.mpr ⟨i, List.mem_range.mpr hi2, rfl⟩), ce_int]
      have ea : (if G.length + (i + 1) < G.length then ad (G.length + (i + 1)) else if G.length + (i + 1) = G.length then q else rr (G.length + (i + 1) - G.length - 1)) = rr i := by
        rw [if_neg (by omega), if_neg (by omega)]
        congr 1
        omega
      have eb : (fun j => Int32.ofInt (if G.length + (i + 1) < G.length then M (G.length + (i + 1)) j else 0)) = fun _ => (0 : Int32) := by
        funext j
        rw [if_neg (by omega)]
        rfl
      rw [ea, eb]
end IN
