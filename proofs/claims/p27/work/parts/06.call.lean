/-! beginnings, ends, calls -/
def av1 (a : AV) : Bool := match a with
  | .inr (.inr (.inl _)) => false
  | _ => true
theorem av1_cat {ad : Nat → Nat} {a : AV} (h : av1 a = true) : (cv ad a).category = 1 := by
  rcases a with a | a | a | a
  · rfl
  · rfl
  · cases h
  · rfl
theorem cv_cat {ad : Nat → Nat} (a : AV) : (cv ad a).category ≤ 2 := by
  rcases a with a | a | a | a <;> exact Nat.le_of_ble_eq_true rfl
theorem cats {ad : Nat → Nat} (st : List AV) (h : st.length ≤ 4) : ((st.map (cv ad)).map fun v => v.category).sum ≤ 8 := by
  have key : ∀ (l : List AV), ((l.map (cv ad)).map fun v => v.category).sum ≤ 2 * l.length := by
    intro l
    induction l with
    | nil => simp
    | cons a l ih =>
      have := cv_cat (ad := ad) a
      simp only [List.map_cons, List.sum_cons, List.length_cons]
      omega
  have := key st
  omega
def loc (args : List AV) (n : Nat) : List (Option AV) := args.map some ++ List.replicate (n - args.length) none
theorem loc_at {args : List AV} {n i : Nat} {a : AV} (h : (loc args n)[i]? = some (some a)) : args[i]? = some a := by
  unfold loc at h
  by_cases hi : i < args.length
  · rw [List.getElem?_append_left (by simpa using hi), List.getElem?_map] at h
    cases hx : args[i]? with
    | none => rw [hx] at h; cases h
    | some b => rw [hx] at h; cases h; rfl
  · rw [List.getElem?_append_right (by simpa using hi)] at h
    rw [List.getElem?_replicate] at h
    split at h <;> cases h
theorem lv_args_at {vs : List Value} : ∀ (k i : Nat) (v : Value), (∀ w ∈ vs, w.category = 1) → vs[i]? = some v → (k + i, v) ∈ lv_args k vs := by
  induction vs with
  | nil => intro k i v _ h; simp at h
  | cons w ws ih =>
    intro k i v hc h
    cases i with
    | zero =>
      simp at h
      subst h
      exact List.mem_cons_self
    | succ i =>
      have hw : w.category = 1 := hc w List.mem_cons_self
      have h2 := ih (k + 1) i v (fun x hx => hc x (List.mem_cons_of_mem _ hx)) (by simpa using h)
      unfold lv_args
      rw [if_neg (by omega)]
      rw [show k + (i + 1) = k + 1 + i by omega]
      exact List.mem_cons_of_mem _ h2
theorem lg_len {vs : List Value} (hc : ∀ w ∈ vs, w.category = 1) : (lg_sl vs).length = vs.length := by
  induction vs with
  | nil => rfl
  | cons w ws ih =>
    have hw : w.category = 1 := hc w List.mem_cons_self
    have := ih (fun x hx => hc x (List.mem_cons_of_mem _ hx))
    simp only [lg_sl, List.flatMap_cons, List.length_append, List.length_cons] at this ⊢
    rw [if_neg (by omega)]
    simp only [List.length_cons, List.length_nil]
    omega
theorem lvr_entry {ad : Nat → Nat} {args : List AV} {n : Nat} (hc : args.all av1 = true) (hn : args.length ≤ n) : lvr ad n (loc args n) ((lg_sl (args.map (cv ad)) ++ List.replicate (n - (lg_sl (args.map (cv ad))).length) Slot.unset).toArray) := by
  have hcat : ∀ w ∈ args.map (cv ad), w.category = 1 := fun w hw => by
    obtain ⟨a, ha, rfl⟩ := List.mem_map.mp hw
    exact av1_cat (List.all_eq_true.mp hc a ha)
  have h := lv_entry (args.map (cv ad)) (n := n) (by rw [lg_len hcat]; simpa using hn)
  refine ⟨h.1, h.2.1, fun i a hi => ?_⟩
  have hi2 := loc_at hi
  refine ⟨h.2.2 (i, cv ad a) ?_, av1_cat (List.all_eq_true.mp hc a (List.mem_of_getElem? hi2))⟩
  have := lv_args_at 0 i (cv ad a) hcat (by rw [List.getElem?_map, hi2]; rfl)
  simpa using this
theorem zU.kept {A A' : Nat → Prop} {U : State} {H H1 : Heap} (h : zU A U H) (hq : ∀ a : Nat, a < H.size → ¬ A a → H1[a]? = H[a]?) (hAB : ∀ q, A' q → A q) : zU A' U H1 := ⟨(h.1.kept hq).narrow hAB, (h.2.kept hq).narrow hAB⟩
theorem zU.moved {A : Nat → Prop} {u U : State} {H : Heap} (hvm : u.vm.Alike U.vm) (h : zU A u H) : zU A U H := ⟨h.1.moved hvm, h.2.moved hvm⟩
theorem gw_good {w : Cond} (h : w ∈ gw) : (w.onTables && w.keeps) = true ∨ ∃ ty, w = .arrayClass ty := good_of_word (List.mem_filter.mp h).2
def hwd (F : Fn) : Cond := if F.2.2.2.2.2.2 = [] then Cond.code F.1 F.2.1 F.2.2.1 F.2.2.2.1 else Cond.codeWith F.1 F.2.1 F.2.2.1 F.2.2.2.1 F.2.2.2.2.2.2
section BEG
variable {K : KX} {F : Fn} {G : AG} {M : AM} {Q : Res → AG → AM → Prop} {as : List AV}
theorem met_of (hst : K.1.stackTraces = false) (hy : plainName F.1.cls = true) (hh : F.2.2.2.2.2.2 = []) (hc : as.all av1 = true) (hn : as.length ≤ F.2.2.1) (h : WM K F (EM K F G.length Q) 0 (loc as F.2.2.1) [] G M 0 0) : MetA K F as G M Q := by
  intro ad sz
  refine vx_ofW (cc := F.2.1) (maxL := F.2.2.1) (ret := F.2.2.2.1) (ws' := gw) hy (by unfold wsF; rw [if_pos hh]) ?_
  intro p e s m args below meth c s₁ B hml ht hv
  obtain ⟨rfl, hsz, hP, hD, hK, hz, hw⟩ := hv
  subst hsz
  have hts : ∀ w ∈ wsF F, w.before _ s = true := atoms_spec (ws := wsF F) B.pre
  rw [lg_entry_eq]
  have hl := lvr_entry (ad := ad) (args := as) (n := F.2.2.1) hc hn
  have ht2 : c.exceptionTable.toList = tableOf F.2.2.2.2.2.2 := by
    rw [hh]
    cases hx : c.exceptionTable.toList with
    | nil => rfl
    | cons a l => exact (ht a (by rw [hx]; exact List.mem_cons_self)).elim
  exact h () ⟨rfl, rfl, B.returns, (name_of_methodNamed B.named B.method).1, ht2, rfl⟩ ⟨B.exec, B.bytes, hml, findClass_of_methodNamed B.named, fun w hw => hts w (List.mem_cons_of_mem _ hw), hK, fun q hq => Or.inr hq, hz, hw, B.notSynchronized, hst, rfl⟩ ad s.heap [] _ (fun _ _ => rfl) (fun _ => rfl) hP hD.self va_S.rf hl
theorem met_ofH (hst : K.1.stackTraces = false) (hy : plainName F.1.cls = true) (hh : ¬ F.2.2.2.2.2.2 = []) (hc : as.all av1 = true) (hn : as.length ≤ F.2.2.1) (h : WM K F (EM K F G.length Q) 0 (loc as F.2.2.1) [] G M 0 0) : MetA K F as G M Q := by
  intro ad sz
  have hwF : wsF F = Cond.codeWith F.1 F.2.1 F.2.2.1 F.2.2.2.1 F.2.2.2.2.2.2 :: gw := by unfold wsF; rw [if_neg hh]
  refine vx_ofWH (cc := F.2.1) (maxL := F.2.2.1) (ret := F.2.2.2.1) (hh := F.2.2.2.2.2.2) (ws' := gw) hy hwF ?_
  intro p e s m args below meth c s₁ B hml hv
  obtain ⟨rfl, hsz, hP, hD, hK, hz, hw⟩ := hv
  subst hsz
  have hts : ∀ w ∈ wsF F, w.before _ s = true := atoms_spec (ws := wsF F) B.pre
  rw [lg_entry_eq]
  have hl := lvr_entry (ad := ad) (args := as) (n := F.2.2.1) hc hn
  have ht2 : c.exceptionTable.toList = tableOf F.2.2.2.2.2.2 := vx_table (x := F.1) B (hts _ (by rw [hwF]; exact List.mem_cons_self))
  exact h () ⟨rfl, rfl, B.returns, (name_of_methodNamed B.named B.method).1, ht2, rfl⟩ ⟨B.exec, B.bytes, hml, findClass_of_methodNamed B.named, fun w hw => hts w (List.mem_cons_of_mem _ hw), hK, fun q hq => Or.inr hq, hz, hw, B.notSynchronized, hst, rfl⟩ ad s.heap [] _ (fun _ _ => rfl) (fun _ => rfl) hP hD.self va_S.rf hl
end BEG
section ENDS
variable {K : KX} {F : Fn} {E : CE} {pc n : Nat} {L : List (Option AV)} {st : List AV} {G : AG} {M : AM} {uc us : Nat} {Q : Res → AG → AM → Prop}
theorem s_iret {x : Int} (hr : F.2.2.2.1 = some .int) (hd : decode F.2.1 pc = .ok (.ireturn, 1)) (hc : uc ≤ F.2.2.2.2.1.cells) (hs : us ≤ F.2.2.2.2.1.slots) (hQ : Q (.inl (some (aI x))) G M) : WM K F (EM K F n Q) pc L [aI x] G M uc us := by
  intro _ p e R s m args below meth c A n0 ad0 al Qe hE C ad H locs ls h1 h2 hP hD hS h3
  obtain ⟨e1, rfl, e3, e4, e5, rfl⟩ := hE
  have hlocks : meth.locks = false := C.2.2.2.2.2.2.2.2.2.1
  refine W.widen hc hs (vx_ret (W.iret C.1 C.2.1 (e3.trans hr) (fun t ht hW => ⟨⟨some (aI x), ad, G, M, rfl, hQ, h1, fun h => h2 (e1.trans h), by rw [ht]; exact hP, hD⟩, hS.F ht⟩) hS.2.2 hd hlocks))
theorem s_zret {x : Int} (hx : x = 0 ∨ x = 1) (hr : F.2.2.2.1 = some .boolean) (hd : decode F.2.1 pc = .ok (.ireturn, 1)) (hc : uc ≤ F.2.2.2.2.1.cells) (hs : us ≤ F.2.2.2.2.1.slots) (hQ : Q (.inl (some (aI x))) G M) : WM K F (EM K F n Q) pc L [aI x] G M uc us := by
  intro _ p e R s m args below meth c A n0 ad0 al Qe hE C ad H locs ls h1 h2 hP hD hS h3
  obtain ⟨e1, rfl, e3, e4, e5, rfl⟩ := hE
  have hlocks : meth.locks = false := C.2.2.2.2.2.2.2.2.2.1
  have hn : narrow .boolean (.int (Int32.ofInt x)) = .int (Int32.ofInt x) := by rcases hx with rfl | rfl <;> rfl
  refine W.widen hc hs (vx_ret (W.zret C.1 C.2.1 (e3.trans hr) hn (fun t ht hW => ⟨⟨some (aI x), ad, G, M, rfl, hQ, h1, fun h => h2 (e1.trans h), by rw [ht]; exact hP, hD⟩, hS.F ht⟩) hS.2.2 hd hlocks))
theorem s_vret (hr : F.2.2.2.1 = none) (hd : decode F.2.1 pc = .ok (.return_, 1)) (hc : uc ≤ F.2.2.2.2.1.cells) (hs : us ≤ F.2.2.2.2.1.slots) (hQ : Q (.inl none) G M) : WM K F (EM K F n Q) pc L [] G M uc us := by
  intro _ p e R s m args below meth c A n0 ad0 al Qe hE C ad H locs ls h1 h2 hP hD hS h3
  obtain ⟨e1, rfl, e3, e4, e5, rfl⟩ := hE
  have hlocks : meth.locks = false := C.2.2.2.2.2.2.2.2.2.1
  refine W.widen hc hs (vx_ret (W.vret C.1 C.2.1 (e3.trans hr) (fun t ht hW => ⟨⟨none, ad, G, M, rfl, hQ, h1, fun h => h2 (e1.trans h), by rw [ht]; exact hP, hD⟩, hS.F ht⟩) hS.2.2 hd hlocks))
end ENDS
