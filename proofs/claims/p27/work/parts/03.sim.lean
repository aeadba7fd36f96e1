/-! an abstract machine over the class, the reference and the law: values with whole numbers, cells by their place in a list -/
abbrev AV : Type := Int ⊕ (Nat ⊕ (Int ⊕ Nat))
abbrev aI (z : Int) : AV := Sum.inl z
abbrev aR (r : Nat) : AV := Sum.inr (Sum.inl r)
abbrev aL (z : Int) : AV := Sum.inr (Sum.inr (Sum.inl z))
abbrev aX (a : Nat) : AV := Sum.inr (Sum.inr (Sum.inr a))
abbrev AG : Type := List (Nat × Nat × List (Option Nat))
abbrev AM : Type := Nat → Nat → Int
abbrev Res : Type := Option AV ⊕ String
abbrev KX : Type := Launch × va_G × (Nat → ClassId)
def cv (ad : Nat → Nat) (a : AV) : Value := match a with
  | .inl z => .int (Int32.ofInt z)
  | .inr (.inl r) => .ref (ad r)
  | .inr (.inr (.inl z)) => .long (Int64.ofInt z)
  | .inr (.inr (.inr q)) => .ref q
/-- the whole number that an int's bits stand for -/
def wr (z : Int) : Int := (Int32.ofInt z).toInt
def nF (c : Nat) : Nat := [3, 3, 5, 8, 6, 19].getD c 0
def fR (c k : Nat) : Bool := ([[false, false, false], [true, true, false], [true, true, true, true, false], [true, false, false, false, false, false, false, false], [true, true, true, true, false, false], [false, true, false, true, true, false, true, true, true, true, true, true, false, true, true, true, true, true, true]].getD c []).getD k false
def ce (t : Nat → ClassId) (ad : Nat → Nat) (g : Nat × Nat × List (Option Nat)) (row : Nat → Int) : va_E :=
  if g.1 < 6 then .inr (g.1, (List.range (nF g.1)).map (fun k => if fR g.1 k = true then va_rf ((g.2.2.getD k none).map ad) else .int (Int32.ofInt (row k))))
  else if g.1 = 8 then .inl (t 2, g.2.1, .inr (.inl (fun j => Int64.ofInt (row j))))
  else if g.1 < 8 then .inl (t (g.1 - 6), g.2.1, .inl (fun j => Int32.ofInt (row j)))
  else .inl (t (g.1 - 6), g.2.1, .inr (.inr (.inr (.inr (fun j => (g.2.2.getD j none).map ad)))))
def conc (t : Nat → ClassId) (ad : Nat → Nat) (G : AG) (M : AM) : va_W := G.zipIdx.map (fun q => (ad q.2, ce t ad q.1 (M q.2)))
def um (M : AM) (c k : Nat) (v : Int) : AM := fun c' k' => if c' = c then (if k' = k then v else M c' k') else M c' k'
theorem um_at {M : AM} {c k : Nat} {v : Int} {c' k' : Nat} : um M c k v c' k' = if c' = c then (if k' = k then v else M c' k') else M c' k' := rfl
theorem um_self {M : AM} {c k : Nat} {v : Int} : um M c k v c k = v := by simp [um]
theorem um_ne {M : AM} {c k : Nat} {v : Int} {c' : Nat} (h : c' ≠ c) (k' : Nat) : um M c k v c' k' = M c' k' := by simp [um, h]
theorem um_ne2 {M : AM} {c k : Nat} {v : Int} {c' k' : Nat} (h : k' ≠ k) : um M c k v c' k' = M c' k' := by simp [um, h]
theorem conc_at {t : Nat → ClassId} {ad : Nat → Nat} {G : AG} {M : AM} {i : Nat} {g : Nat × Nat × List (Option Nat)} (h : G[i]? = some g) : (conc t ad G M)[i]? = some (ad i, ce t ad g (M i)) := by
  simp [conc, List.getElem?_zipIdx, h]
theorem conc_len {t : Nat → ClassId} {ad : Nat → Nat} {G : AG} {M : AM} : (conc t ad G M).length = G.length := by simp [conc]
theorem conc_none {t : Nat → ClassId} {ad : Nat → Nat} {G : AG} {M : AM} {i : Nat} (h : G[i]? = none) : (conc t ad G M)[i]? = none := by
  simp [conc, List.getElem?_zipIdx, h]
theorem conc_set {t : Nat → ClassId} {ad : Nat → Nat} {G : AG} {M M' : AM} {c : Nat} {g : Nat × Nat × List (Option Nat)} {x : va_E} (h : G[c]? = some g) (hx : ce t ad g (M' c) = x) (hM : ∀ i, i ≠ c → M' i = M i) : (conc t ad G M).set c (ad c, x) = conc t ad G M' := by
  apply List.ext_getElem?
  intro i
  by_cases hi : c = i
  · subst hi
    rw [conc_at h, List.getElem?_set_self (by rw [conc_len]; exact (List.getElem?_eq_some_iff.mp h).1), hx]
  · rw [List.getElem?_set_ne hi]
    cases hg : G[i]? with
    | none => rw [conc_none hg, conc_none hg]
    | some g' => rw [conc_at hg, conc_at hg, hM i (fun e => hi e.symm)]
theorem conc_setG {t : Nat → ClassId} {ad : Nat → Nat} {G : AG} {M : AM} {c : Nat} {g g' : Nat × Nat × List (Option Nat)} {x : va_E} (h : G[c]? = some g) (hx : ce t ad g' (M c) = x) : (conc t ad G M).set c (ad c, x) = conc t ad (G.set c g') M := by
  have hlt : c < G.length := (List.getElem?_eq_some_iff.mp h).1
  apply List.ext_getElem?
  intro i
  by_cases hi : c = i
  · subst hi
    rw [List.getElem?_set_self (by rw [conc_len]; exact hlt), conc_at (List.getElem?_set_self hlt), hx]
  · rw [List.getElem?_set_ne hi]
    cases hg : G[i]? with
    | none => rw [conc_none hg, conc_none (by rw [List.getElem?_set_ne hi]; exact hg)]
    | some g9 => rw [conc_at hg, conc_at (by rw [List.getElem?_set_ne hi]; exact hg)]
theorem um_row {M : AM} {c k : Nat} {v : Int} : ∀ i, i ≠ c → um M c k v i = M i := fun i h => by funext k'; simp [um, h]
def tysL (t : Nat → ClassId) : List (ClassId × FieldType) := [(t 0, .int), (t 1, .boolean), (t 2, .int), (t 3, .object "ZoneController$Vehicle"), (t 4, .object "ZoneController$Job"), (t 5, .array .int)]
-- what the tables say beside the good words
def exN : List String := ["java/lang/IllegalArgumentException", "java/lang/IllegalStateException", "java/lang/IndexOutOfBoundsException"]
def nestL : List (Nat × MethodName) := [(18, ⟨"ZoneController$Traffic", "<init>", "()V"⟩), (29, ⟨"ZoneController$Vehicle", "<init>", "()V"⟩), (36, ⟨"ZoneController$Job", "<init>", "()V"⟩)]
def ncL : List (String × String) := [("java/lang/IllegalArgumentException", "java/lang/IllegalStateException"), ("java/lang/IllegalArgumentException", "java/lang/IndexOutOfBoundsException"), ("java/lang/IllegalStateException", "java/lang/IllegalArgumentException"), ("java/lang/IllegalStateException", "java/lang/IndexOutOfBoundsException"), ("java/lang/IndexOutOfBoundsException", "java/lang/IllegalArgumentException"), ("java/lang/IndexOutOfBoundsException", "java/lang/IllegalStateException")]
def strL : List (Nat × String) := [(206, "zones are 0 to 19"), (43, "a lane joins two zones"), (54, "there is a lane between them"), (76, "energy is 0 to 60"), (81, "there are 6 vehicles"), (87, "a vehicle is in the zone"), (92, "the plant would not be safe"), (210, "there is no such vehicle"), (107, "the vehicle can't be assigned to the zone"), (117, "the vehicle is idle"), (130, "the vehicle is not idle"), (132, "the vehicle is not in a charger"), (138, "the vehicle may not step"), (143, "ticks are 1 to 20"), (151, "there are 20 jobs"), (213, "there is no such job"), (175, "the route has no such place"), (201, "the orders have no such place")]
theorem ao_spec {s : State} {t : FieldType} (h : va_AOA t s) :
    ∃ comp c k, s.vm.findClass (FieldType.array t).toString = some comp ∧ (s.vm.classes.findIdx? fun (x : Class) => match x.kind with | .array component _ => component == comp | _ => false) = some c ∧ s.vm.classes[c]? = some k ∧ k.kind = .array comp (.array t) ∧ s.vm.findClass ("[" ++ (FieldType.array t).toString) = some c := by
  unfold va_AOA Cond.before Cond.holds at h
  simp only [Cond.value, beq_iff_eq] at h
  cases hc : s.vm.findClass (FieldType.array t).toString with
  | none => simp [hc] at h
  | some comp =>
    simp only [hc, Option.bind_some, Option.bind_eq_some_iff, Option.map_eq_some_iff] at h
    obtain ⟨c, hi, k, hk, hb⟩ := h
    obtain ⟨hlt, hp, -⟩ := Array.findIdx?_eq_some_iff_getElem.mp hi
    have hkk : s.vm.classes[c] = k := (Array.getElem?_eq_some_iff.mp hk).2
    rw [hkk] at hp
    cases hkind : k.kind with
    | array component ty =>
      rw [hkind] at hb hp
      simp at hb hp
      exact ⟨comp, c, k, rfl, hi, hk, by rw [hkind, hp, hb.1], hb.2⟩
    | _ => rw [hkind] at hb; simp at hb
theorem va_AOA.moved {ty : FieldType} {u U : State} (hvm : u.vm.Alike U.vm) (h : va_AOA ty u) : va_AOA ty U := by
  obtain ⟨comp, c, k, h1, h2, h3, h4, h5⟩ := ao_spec h
  obtain ⟨k', hk', he⟩ := hvm.2.2 _ _ h3
  have hi : (U.vm.classes.findIdx? fun (x : Class) => match x.kind with | .array component _ => component == comp | _ => false) = some c := by
    have e1 := va_idx_bare U.vm comp
    have e2 := va_idx_bare u.vm comp
    refine e1.symm.trans ?_
    first | rw [hvm.bare_eq] | rw [← hvm.bare_eq]
    exact e2.trans h2
  have hkind : k'.kind = .array comp (.array ty) := by rw [he]; exact h4
  have f1 : U.vm.findClass (FieldType.array ty).toString = some comp := by rw [hvm.findClass]; exact h1
  have f2 : U.vm.findClass ("[" ++ (FieldType.array ty).toString) = some c := by rw [hvm.findClass]; exact h5
  unfold va_AOA Cond.before Cond.holds
  simp only [Cond.value]
  rw [f1, Option.bind_some]
  refine (congrArg (fun o : Option Nat => (o.bind (fun c => (U.vm.classes[c]?).map fun (k : Class) => match k.kind with | .array _ t9 => decide (t9 = FieldType.array ty) && decide (U.vm.findClass ("[" ++ (FieldType.array ty).toString) = some c) | _ => false) == some true)) hi).trans ?_
  simp [hk', hkind, f2]
def deL : List MethodName := [⟨"java/lang/RuntimeException", "<init>", "(Ljava/lang/String;)V"⟩, ⟨"java/lang/Exception", "<init>", "(Ljava/lang/String;)V"⟩, ⟨"java/lang/Throwable", "<init>", "(Ljava/lang/String;)V"⟩]
def Wd (U : State) : Prop := (∀ x ∈ exN, va_Nw (.castable x x) U) ∧ (∀ q ∈ nestL, va_Nw (.methodLinkNest "ZoneController" q.1 q.2 "ZoneController") U) ∧ (∀ q ∈ ncL, va_Nc q.1 q.2 U) ∧ (∀ q ∈ strL, ∃ a, vk_R "ZoneController" q.1 q.2 a U) ∧ va_AO "ZoneController$Vehicle" U ∧ va_AO "ZoneController$Job" U ∧ va_AOA .int U ∧ ∀ y ∈ deL, va_Nw (.declares y) U
theorem Wd.warm {s U : State} (hW : s.WarmedH U.vm) (h : Wd s) : Wd U := by
  obtain ⟨h1, h2, h3, h4, h5, h6, h7, h8⟩ := h
  refine ⟨fun x hx => va_Nw.warmC hW (h1 x hx), fun q hq => va_Nw.warmM hW (h2 q hq), fun q hq => va_Nc.moved hW.alike (h3 q hq), fun q hq => ?_, va_AO.moved hW.alike h5, va_AO.moved hW.alike h6, va_AOA.moved hW.alike h7, fun y hy => va_Nw.warmD hW (h8 y hy)⟩
  obtain ⟨a, ha⟩ := h4 q hq
  exact ⟨a, ha.warm hW⟩

-- the judgement
def lvr (ad : Nat → Nat) (nL : Nat) (L : List (Option AV)) (ls : Array Slot) : Prop := ls.size = nL ∧ lv_wf ls ∧ ∀ (i : Nat) (a : AV), L[i]? = some (some a) → ls[i]? = some (.val (cv ad a)) ∧ (cv ad a).category = 1
def wsF (F : Fn) : List Cond := (if F.2.2.2.2.2.2 = [] then Cond.code F.1 F.2.1 F.2.2.1 F.2.2.2.1 else Cond.codeWith F.1 F.2.1 F.2.2.1 F.2.2.2.1 F.2.2.2.2.2.2) :: gw
def zU (A : Nat → Prop) (U : State) (H : Heap) : Prop := vx_Zq Bundle.tN "UNASSIGNED_STACK" Bundle.steD A U H ∧ vx_Zq Bundle.tN "SUPPRESSED_SENTINEL" Bundle.listD A U H
def pcF (K : KX) (args : List AV) (ad : Nat → Nat) (G : AG) (M : AM) (sz : Nat) : Array Value → State → Prop :=
  va_Pc (args.map (cv ad)) (fun U => U.heap.size = sz ∧ va_P K.2.1 vwCl (conc K.2.2 ad G M) U.heap ∧ va_D (fun _ => True) (conc K.2.2 ad G M) ∧ va_K K.2.1 vwCl (tysL K.2.2) U ∧ zU (va_A (conc K.2.2 ad G M) sz) U U.heap ∧ Wd U)
def qcF (K : KX) (al : Bool) (Q : Res → AG → AM → Prop) (n0 : Nat) (ad : Nat → Nat) (A : Nat → Prop) : Array Value → State → Outcome → State → Prop := fun _ st oc t =>
  (∃ (r : Option AV) (ad' : Nat → Nat) (G' : AG) (M' : AM), oc = .returned (r.map (cv ad')) ∧ Q (.inl r) G' M' ∧ (∀ i, i < n0 → ad' i = ad i) ∧ (al = false → ad' = ad) ∧ va_P K.2.1 vwCl (conc K.2.2 ad' G' M') t.heap ∧ va_D A (conc K.2.2 ad' G' M')) ∧ va_F A st t
def xcF (K : KX) (Q : Res → AG → AM → Prop) (ad : Nat → Nat) (A : Nat → Prop) : String → State → State → Prop := fun E st t =>
  (∃ (G' : AG) (M' : AM), Q (.inr E) G' M' ∧ va_P K.2.1 vwCl (conc K.2.2 ad G' M') t.heap ∧ va_D A (conc K.2.2 ad G' M')) ∧ va_F A st t
/-- the method F, called with these in this heap, returns or throws, and Q holds of its end -/
def MetA (K : KX) (F : Fn) (args : List AV) (G : AG) (M : AM) (Q : Res → AG → AM → Prop) : Prop :=
  ∀ (ad : Nat → Nat) (sz : Nat), vx_Met K.1 F.1 (wsF F) F.2.2.2.2.1 (pcF K args ad G M sz) (qcF K F.2.2.2.2.2.1 Q G.length ad (va_A (conc K.2.2 ad G M) sz)) (xcF K Q ad (va_A (conc K.2.2 ad G M) sz)) F.2.2.2.2.1.cells F.2.2.2.2.1.slots (va_A (conc K.2.2 ad G M) sz)
/-- what a body may count on -/
def CX (K : KX) (F : Fn) (p : Program) (R : Room) (s : State) (m : MethodId) (args : Array Value) (meth : Method) (c : Code) (A : Nat → Prop) : Prop :=
  p.tables.exec = Jvm.exec ∧ c.code = F.2.1 ∧ c.maxLocals = F.2.2.1 ∧ s.vm.findClass F.1.cls = some m.cls ∧ (∀ w ∈ gw, w.before args s = true) ∧ va_K K.2.1 vwCl (tysL K.2.2) s ∧ (∀ q, s.heap.size ≤ q → A q) ∧ zU A s s.heap ∧ Wd s ∧ meth.locks = false ∧ K.1.stackTraces = false ∧ R = F.2.2.2.2.1
abbrev CE : Type := Program → Env → Room → State → MethodId → Array Value → List Frame → Method → Code → (Nat → Prop) → Nat → (Nat → Nat) → Bool → (State → Prop) → Prop
/-- the end that a method owes -/
def EM (K : KX) (F : Fn) (n : Nat) (Q : Res → AG → AM → Prop) : CE := fun _ _ _ s _ args below meth c A n0 ad0 al Qe =>
  al = F.2.2.2.2.2.1 ∧ n0 = n ∧ meth.sig.returnType = F.2.2.2.1 ∧ meth.name = F.1.name ∧ c.exceptionTable.toList = tableOf F.2.2.2.2.2.2 ∧
  Qe = vx_MQ below (qcF K F.2.2.2.2.2.1 Q n ad0 A) (xcF K Q ad0 A) args s F.2.2.2.2.1.cells F.2.2.2.2.1.slots A
/-- from here, in every body of F that owes E -/
def WM (K : KX) (F : Fn) (E : CE) (pc : Nat) (L : List (Option AV)) (st : List AV) (G : AG) (M : AM) (uc us : Nat) : Prop :=
  ∀ (_ : Unit) {p : Program} {e : Env} {R : Room} {s : State} {m : MethodId} {args : Array Value} {below : List Frame} {meth : Method} {c : Code} {A : Nat → Prop} {n0 : Nat} {ad0 : Nat → Nat} {al : Bool} {Qe : State → Prop},
    E p e R s m args below meth c A n0 ad0 al Qe → CX K F p R s m args meth c A →
    ∀ (ad : Nat → Nat) (H : Heap) (locs : List Loc) (ls : Array Slot), (∀ i, i < n0 → ad i = ad0 i) → (al = false → ad = ad0) → va_P K.2.1 vwCl (conc K.2.2 ad G M) H → va_D A (conc K.2.2 ad G M) → va_S A s.heap H locs → lvr ad F.2.2.1 L ls →
    W p K.1 e R s m args below meth c H locs uc us Qe (F0 m pc ls (st.map (cv ad)))
