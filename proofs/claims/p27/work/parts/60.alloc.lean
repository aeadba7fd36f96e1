/-! new objects and arrays -/
def okV (n : Nat) (a : AV) : Bool := match a with
  | .inr (.inl r) => decide (r < n)
  | _ => true
def okO (n : Nat) (o : Option Nat) : Bool := match o with
  | some r => decide (r < n)
  | none => true
def okL (n : Nat) (L : List (Option AV)) : Bool := L.all (fun o => match o with | some a => okV n a | none => true)
def okG (n : Nat) (G : AG) : Bool := G.all (fun g => g.2.2.all (okO n))
def unew (M : AM) (n : Nat) : AM := fun c k => if c = n then 0 else M c k
theorem unew_s {M : AM} {n k : Nat} : unew M n n k = 0 := if_pos rfl
theorem unew_n {M : AM} {n c k : Nat} (h : c ≠ n) : unew M n c k = M c k := if_neg h
theorem cv_ad {ad ad' : Nat → Nat} {n : Nat} (h : ∀ i, i < n → ad' i = ad i) {a : AV} (ha : okV n a = true) : cv ad' a = cv ad a := by
  rcases a with a | a | a | a
  · rfl
  · show Value.ref (ad' a) = .ref (ad a)
    rw [h a (of_decide_eq_true ha)]
  · rfl
  · rfl
theorem st_ad {ad ad' : Nat → Nat} {n : Nat} (h : ∀ i, i < n → ad' i = ad i) {st : List AV} (hs : st.all (okV n) = true) : st.map (cv ad') = st.map (cv ad) := List.map_congr_left (fun a ha => cv_ad h (List.all_eq_true.mp hs a ha))
theorem lvr_ad {ad ad' : Nat → Nat} {n nL : Nat} (h : ∀ i, i < n → ad' i = ad i) {L : List (Option AV)} {ls : Array Slot} (hL : okL n L = true) (h3 : lvr ad nL L ls) : lvr ad' nL L ls := by
  refine ⟨h3.1, h3.2.1, fun i a hi => ?_⟩
  have ha : okV n a = true := List.all_eq_true.mp hL (some a) (List.mem_of_getElem? hi)
  rw [cv_ad h ha]
  exact h3.2.2 i a hi
theorem ce_ad {t : Nat → ClassId} {ad ad' : Nat → Nat} {n : Nat} (h : ∀ i, i < n → ad' i = ad i) {g : Nat × Nat × List (Option Nat)} (hg : g.2.2.all (okO n) = true) {row : Nat → Int} : ce t ad' g row = ce t ad g row := by
  have key : ∀ k, (g.2.2.getD k none).map ad' = (g.2.2.getD k none).map ad := fun k => by
    rw [List.getD_eq_getElem?_getD]
    cases hk : g.2.2[k]? with
    | none => rfl
    | some o =>
      cases o with
      | none => rfl
      | some r =>
        have := List.all_eq_true.mp hg (some r) (List.mem_of_getElem? hk)
        show some (ad' r) = some (ad r)
        rw [h r (of_decide_eq_true this)]
  unfold ce
  simp only [key]
theorem conc_add {t : Nat → ClassId} {ad ad' : Nat → Nat} {G G2 : AG} {M M' : AM} {ws : va_W} (hok : okG G.length G = true) (h : ∀ i, i < G.length → ad' i = ad i) (hM : ∀ i, i < G.length → M' i = M i) (hl : ws.length = G2.length)
    (hw : ∀ (i : Nat) (g : Nat × Nat × List (Option Nat)), G2[i]? = some g → ws[i]? = some (ad' (G.length + i), ce t ad' g (M' (G.length + i)))) : conc t ad G M ++ ws = conc t ad' (G ++ G2) M' := by
  apply List.ext_getElem?
  intro i
  by_cases hi : i < G.length
  · obtain ⟨g, hg⟩ : ∃ g, G[i]? = some g := ⟨G[i], List.getElem?_eq_getElem hi⟩
    rw [List.getElem?_append_left (by rw [conc_len]; exact hi), conc_at hg, conc_at (by rw [List.getElem?_append_left hi]; exact hg), h i hi, hM i hi]
    rw [ce_ad h (List.all_eq_true.mp hok g (List.mem_of_getElem? hg))]
  · rw [List.getElem?_append_right (by rw [conc_len]; omega), conc_len]
    cases hg : G2[i - G.length]? with
    | none =>
      rw [conc_none (by rw [List.getElem?_append_right (by omega)]; exact hg)]
      rw [List.getElem?_eq_none_iff] at hg ⊢
      omega
    | some g =>
      rw [hw _ g hg, conc_at (by rw [List.getElem?_append_right (by omega)]; exact hg)]
      rw [show G.length + (i - G.length) = i by omega]
theorem conc_push {t : Nat → ClassId} {ad : Nat → Nat} {G : AG} {M : AM} {g : Nat × Nat × List (Option Nat)} {q : Nat} {e : va_E} (hok : okG G.length G = true) (he : ce t (va_up ad G.length q) g (fun _ => 0) = e) : conc t ad G M ++ [(q, e)] = conc t (va_up ad G.length q) (G ++ [g]) (unew M G.length) := by
  refine conc_add hok (fun i hi => va_up_ne _ _ (by omega)) (fun i hi => ?_) rfl (fun i g2 hg => ?_)
  · funext k
    exact unew_n (by omega)
  · have hi : i < 1 := (List.getElem?_eq_some_iff.mp hg).1
    have : i = 0 := by omega
    subst this
    cases hg
    rw [Nat.add_zero, va_up_self]
    have : unew M G.length G.length = fun _ => 0 := by funext k; exact unew_s
    rw [this, he]
    rfl
/-- the end stands behind the cells so far, and new ones may come -/
def GE (E : CE) (n : Nat) : Prop := ∀ {p : Program} {e : Env} {R : Room} {s : State} {m : MethodId} {args : Array Value} {below : List Frame} {meth : Method} {c : Code} {A : Nat → Prop} {n0 : Nat} {ad0 : Nat → Nat} {al : Bool} {Qe : State → Prop}, E p e R s m args below meth c A n0 ad0 al Qe → n0 ≤ n ∧ al = true
theorem ge_EM {K : KX} {F : Fn} {n n2 : Nat} {Q : Res → AG → AM → Prop} (h : n ≤ n2) (ha : F.2.2.2.2.2.1 = true) : GE (EM K F n Q) n2 := fun hE => ⟨by rw [hE.2.1]; exact h, hE.1.trans ha⟩
theorem ofs_none {ad ad' : Nat → Nat} {ci n : Nat} {row : Nat → Int} : ofs ad ci (List.replicate n none) row = ofs ad' ci (List.replicate n none) row := by
  have key : ∀ k, ((List.replicate n (none : Option Nat)).getD k none) = none := fun k => by
    rw [List.getD_eq_getElem?_getD, List.getElem?_replicate]
    split <;> rfl
  unfold ofs
  simp only [key]
  rfl
def dfl (ci : Nat) (ty : Nat → FieldType) : Prop := ∀ j, j < nF ci → defaultValue (ty j) = if fR ci j = true then Value.null else .int 0
section AL
variable {K : KX} {F : Fn} {E : CE} {pc n : Nat} {L : List (Option AV)} {st : List AV} {G : AG} {M : AM} {uc us : Nat}
theorem s_new {ci index : Nat} {q : vw_C} {ty : Nat → FieldType} (ck : CK ci q ty) (hdef : dfl ci ty) (hcl : Cond.classLink F.1.cls index q.1 ∈ gw) (hinst : Cond.instantiable q.1 q.2.2 ∈ gw) (hini : Cond.initialized q.1 ∈ gw) (hge : GE E G.length) (hok : okG G.length G = true) (hL : okL G.length L = true) (hst : st.all (okV G.length) = true)
    (hr : uc + 1 ≤ F.2.2.2.2.1.cells ∧ us + nF ci ≤ F.2.2.2.2.1.slots) (hd : decode F.2.1 pc = .ok (.new index, 3)) (k : WM K F E (pc + 3) L (aR G.length :: st) (G ++ [(ci, 0, List.replicate (nF ci) none)]) (unew M G.length) (uc + 1) (us + nF ci)) : WM K F E pc L st G M uc us := by
  intro _ p e R s m args below meth c A n0 ad0 al Qe hE C ad H locs ls h1 h2 hP hD hS h3
  obtain ⟨c1, c2, c3, c4, c5, c6⟩ := ck
  obtain ⟨hn, ha⟩ := hge hE
  have C0 := C
  obtain ⟨hx1, hb, hml, hown, hts, hK, hA, hz, hw, hlocks, hstt, hR⟩ := C
  have hfs : ∀ j, j < q.2.2 → defaultValue (ty j) = vp_V (ofs ad ci (List.replicate (nF ci) none) (fun _ => 0)) j := fun j hj => by
    rw [c3] at hj
    rw [hdef j hj]
    unfold vp_V ofs
    rw [List.getD_eq_getElem?_getD, List.getElem?_map, List.getElem?_range hj]
    have e0 : ((List.replicate (nF ci) (none : Option Nat)).getD j none) = none := by
      rw [List.getD_eq_getElem?_getD, List.getElem?_replicate]
      split <;> rfl
    simp only [Option.map_some, Option.getD_some, e0]
    rfl
  refine va_new (c0 := c) (ci := ci) (fs := ofs ad ci (List.replicate (nF ci) none) (fun _ => 0)) (C := q.1) (T := q.2.1) (N := q.2.2) hx1 hb hts c2 ty c5 hown (hts _ hcl) (hts _ hinst) (hts _ hini) hK hP hD hS hA c1 hfs (by rw [hR]; exact hr.1) (by rw [hR, c3]; exact hr.2) hd (fun q1 H1 hP1 hD1 hS1 => ?_)
  rw [conc_push hok (g := (ci, 0, List.replicate (nF ci) none)) (by rw [ce_obj c4, ofs_none (ad' := ad)])] at hP1 hD1
  have hag : ∀ i, i < G.length → va_up ad G.length q1 i = ad i := fun i hi => va_up_ne _ _ (by omega)
  have hk := k () hE C0 (va_up ad G.length q1) H1 locs ls (fun i hi => by rw [hag i (by omega)]; exact h1 i hi) (fun z => by rw [ha] at z; cases z) hP1 hD1 hS1 (lvr_ad hag hL h3)
  have e1 : (aR G.length :: st).map (cv (va_up ad G.length q1)) = .ref q1 :: st.map (cv ad) := by
    rw [List.map_cons, st_ad hag hst]
    show Value.ref (va_up ad G.length q1 G.length) :: _ = _
    rw [va_up_self]
  rw [e1] at hk
  rw [c3]
  exact hk
end AL
