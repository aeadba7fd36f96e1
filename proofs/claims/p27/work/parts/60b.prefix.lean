/-! contracts behind other cells -/
theorem conc_app {t : Nat → ClassId} {ad : Nat → Nat} {X G : AG} {M : AM} : conc t ad (X ++ G.map (rn (fun r => r + X.length))) M = conc t ad X M ++ conc t (fun i => ad (i + X.length)) G (fun c => M (c + X.length)) := by
  apply List.ext_getElem?
  intro i
  by_cases hi : i < X.length
  · have hx : X[i]? = some X[i] := List.getElem?_eq_getElem hi
    rw [List.getElem?_append_left (by rw [conc_len]; exact hi), conc_at hx, conc_at (by rw [List.getElem?_append_left hi]; exact hx)]
  · rw [List.getElem?_append_right (by rw [conc_len]; omega), conc_len]
    cases hg : G[i - X.length]? with
    | none =>
      rw [conc_none hg, conc_none]
      rw [List.getElem?_append_right (by omega), List.getElem?_map, hg]
      rfl
    | some g =>
      rw [conc_at hg, conc_at (g := rn (fun r => r + X.length) g) (by rw [List.getElem?_append_right (by omega), List.getElem?_map, hg]; rfl), ce_rn]
      show some (ad i, ce t _ g (M i)) = some (ad (i - X.length + X.length), ce t _ g (M (i - X.length + X.length)))
      rw [show i - X.length + X.length = i by omega]
theorem conc_pre {t : Nat → ClassId} {ad ad' : Nat → Nat} {X : AG} {M M' : AM} (hok : okG X.length X = true) (h : ∀ i, i < X.length → ad' i = ad i) (hM : ∀ i, i < X.length → M' i = M i) : conc t ad' X M' = conc t ad X M := by
  have := conc_add (t := t) (ad := ad) (ad' := ad') (G := X) (G2 := []) (M := M) (M' := M') (ws := []) hok h hM rfl (fun i g hg => by simp at hg)
  rw [List.append_nil, List.append_nil] at this
  exact this.symm
section PX
variable {D : va_G} {cl : List vw_C} {A B : va_W} {H H1 : Heap}
theorem P_app (h1 : va_P D cl A H) (h2 : va_P D cl B H) : va_P D cl (A ++ B) H := by
  intro k q hk
  by_cases hi : k < A.length
  · rw [List.getElem?_append_left hi] at hk
    exact h1 k q hk
  · rw [List.getElem?_append_right (by omega)] at hk
    exact h2 _ q hk
theorem P_app1 (h : va_P D cl (A ++ B) H) : va_P D cl A H := fun k q hk => h k q (by rw [List.getElem?_append_left (List.getElem?_eq_some_iff.mp hk).1]; exact hk)
theorem P_app2 (h : va_P D cl (A ++ B) H) : va_P D cl B H := fun k q hk => h (A.length + k) q (by rw [List.getElem?_append_right (by omega)]; rw [show A.length + k - A.length = k by omega]; exact hk)
theorem D_app2 {X : Nat → Prop} (h : va_D X (A ++ B)) : va_D X B := by
  have key : ∀ (k : Nat) (q : Nat × va_E), B[k]? = some q → (A ++ B)[A.length + k]? = some q := fun k q hk => by
    rw [List.getElem?_append_right (by omega), show A.length + k - A.length = k by omega]
    exact hk
  refine ⟨fun i j p q hp hq e => ?_, fun k q hk => h.2 _ q (key k q hk)⟩
  have := h.1 _ _ p q (key i p hp) (key j q hq) e
  omega
theorem D_apart {X : Nat → Prop} {sz : Nat} (h : va_D X (A ++ B)) (hP : va_P D cl (A ++ B) H) (hs : H.size = sz) {k : Nat} {q : Nat × va_E} (hk : A[k]? = some q) : ¬ va_A B sz q.1 := by
  have hka : (A ++ B)[k]? = some q := by rw [List.getElem?_append_left (List.getElem?_eq_some_iff.mp hk).1]; exact hk
  rintro (⟨j, e, hj⟩ | hj)
  · have hjb : (A ++ B)[A.length + j]? = some (q.1, e) := by
      rw [List.getElem?_append_right (by omega), show A.length + j - A.length = j by omega]
      exact hj
    have := h.1 _ _ _ _ hka hjb rfl
    have hkl := (List.getElem?_eq_some_iff.mp hk).1
    omega
  · have := (hP k q hka).lt
    omega
theorem A_app2 {sz q : Nat} (h : va_A B sz q) : va_A (A ++ B) sz q := by
  rcases h with ⟨k, e, h⟩ | h
  · exact Or.inl ⟨A.length + k, e, by rw [List.getElem?_append_right (by omega), show A.length + k - A.length = k by omega]; exact h⟩
  · exact Or.inr h
theorem A_app1 {sz : Nat} {k : Nat} {q : Nat × va_E} (h : A[k]? = some q) : va_A (A ++ B) sz q.1 := Or.inl ⟨k, q.2, by rw [List.getElem?_append_left (List.getElem?_eq_some_iff.mp h).1]; exact h⟩
/-- what came back, beside what stood by -/
theorem D_app {C : va_W} {X : Nat → Prop} {sz : Nat} (h : va_D X (A ++ B)) (hP : va_P D cl (A ++ B) H) (hs : H.size = sz) (hC : va_D (va_A B sz) C) : va_D (va_A (A ++ B) sz) (A ++ C) := by
  refine ⟨fun i j p q hp hq e => ?_, fun k q hk => ?_⟩
  · by_cases hi : i < A.length
    · rw [List.getElem?_append_left hi] at hp
      by_cases hj : j < A.length
      · rw [List.getElem?_append_left hj] at hq
        exact h.1 i j p q (by rw [List.getElem?_append_left hi]; exact hp) (by rw [List.getElem?_append_left hj]; exact hq) e
      · rw [List.getElem?_append_right (by omega)] at hq
        exact absurd (e ▸ hC.2 _ _ hq) (D_apart h hP hs hp)
    · rw [List.getElem?_append_right (by omega)] at hp
      by_cases hj : j < A.length
      · rw [List.getElem?_append_left hj] at hq
        exact absurd (e ▸ hC.2 _ _ hp) (D_apart h hP hs hq)
      · rw [List.getElem?_append_right (by omega)] at hq
        have := hC.1 _ _ p q hp hq e
        omega
  · by_cases hi : k < A.length
    · rw [List.getElem?_append_left hi] at hk
      exact A_app1 hk
    · rw [List.getElem?_append_right (by omega)] at hk
      exact A_app2 (hC.2 _ _ hk)
end PX
section PF
variable {K : KX} {F : Fn} {as : List AV} {X G : AG} {M : AM} {Q Q' : Res → AG → AM → Prop}
theorem MetA.behind (hok : okG X.length X = true) (h : MetA K F as G (fun c => M (c + X.length)) Q)
    (hQ : ∀ r G' M0 M', Q r G' M0 → (∀ c, c < X.length → M' c = M c) → (∀ c, M' (c + X.length) = M0 c) → Q' (pr (fun r => r + X.length) r) (X ++ G'.map (rn (fun r => r + X.length))) M') : MetA K F (as.map (pv (fun r => r + X.length))) (X ++ G.map (rn (fun r => r + X.length))) M Q' := by
  intro ad sz
  rw [conc_app]
  have h9 := h (fun i => ad (i + X.length)) sz
  -- an address map and cells for what came back
  have back : ∀ (ad2 : Nat → Nat) (G' : AG) (M' : AM), ∃ (ad3 : Nat → Nat) (M3 : AM), (∀ i, i < X.length → ad3 i = ad i) ∧ (∀ i, ad3 (i + X.length) = ad2 i) ∧ (∀ c, c < X.length → M3 c = M c) ∧ (∀ c, M3 (c + X.length) = M' c) ∧ conc K.2.2 ad3 (X ++ G'.map (rn (fun r => r + X.length))) M3 = conc K.2.2 ad X M ++ conc K.2.2 ad2 G' M' := by
    intro ad2 G' M'
    refine ⟨fun i => if i < X.length then ad i else ad2 (i - X.length), fun c => if c < X.length then M c else M' (c - X.length), fun i hi => if_pos hi, fun i => ?_, fun i hi => if_pos hi, fun i => ?_, ?_⟩
    · show (if i + X.length < X.length then _ else _) = _
      rw [if_neg (by omega), show i + X.length - X.length = i by omega]
    · show (if i + X.length < X.length then _ else _) = _
      rw [if_neg (by omega), show i + X.length - X.length = i by omega]
    · rw [conc_app, conc_pre hok (fun i hi => if_pos hi) (fun i hi => if_pos hi)]
      congr 1
      congr 1
      · funext i
        rw [if_neg (by omega), show i + X.length - X.length = i by omega]
      · funext i
        rw [if_neg (by omega), show i + X.length - X.length = i by omega]
  refine h9.mono (fun a U q => ?_) (fun _ _ _ _ _ h => h) (fun a st o t hp q => ?_)
  · obtain ⟨q0, q1, q2, q3, q4, q5, q6⟩ := q
    rw [conc_app] at q2 q3 q5
    refine ⟨?_, q1, P_app2 q2, D_app2 q3, q4, ⟨q5.1.narrow (fun _ z => A_app2 z), q5.2.narrow (fun _ z => A_app2 z)⟩, q6⟩
    rw [q0, cv_pvs]
  · obtain ⟨p0, p1, p2, p3, p4, p5, p6⟩ := hp
    rw [conc_app] at p2 p3
    have keep : ∀ (C : va_W), va_F (va_A (conc K.2.2 (fun i => ad (i + X.length)) G (fun c => M (c + X.length))) sz) st t → va_P K.2.1 vwCl C t.heap → va_P K.2.1 vwCl (conc K.2.2 ad X M ++ C) t.heap := fun C hF hC =>
      P_app ((P_app1 p2).kept (fun k q hk => hF.2 q.1 ((P_app1 p2) k q hk).lt (D_apart p3 p2 p1 hk))) hC
    rcases q with ⟨⟨⟨r, ad', G', M', hv, hq, g1, g2, g3, g4⟩, hfr⟩, L, hL, hLf⟩ | ⟨q, ho, E, ce9, L, ⟨⟨G', M', hq, g3, g4⟩, hfr⟩, c1, c2, c3, c4, c5, c6⟩
    · obtain ⟨ad3, M3, b1, b2, b3, b4, b5⟩ := back ad' G' M'
      refine Or.inl ⟨⟨⟨r.map (pv (fun r => r + X.length)), ad3, _, M3, ?_, hQ _ _ _ _ hq b3 b4, fun i hi => ?_, fun z => ?_, ?_, ?_⟩, hfr.1, fun q hq hnA => hfr.2 q hq (fun z => hnA (A_app2 z))⟩, L, hL, fun q hq => A_app2 (hLf q hq)⟩
      · rw [hv, cv_pvo]
        congr 3
        funext i
        exact (b2 i).symm
      · rw [List.length_append, List.length_map] at hi
        by_cases hx : i < X.length
        · exact b1 i hx
        · have e := b2 (i - X.length)
          rw [show i - X.length + X.length = i by omega] at e
          rw [e, g1 _ (by omega)]
          show ad (i - X.length + X.length) = ad i
          rw [show i - X.length + X.length = i by omega]
      · funext i
        by_cases hx : i < X.length
        · exact b1 i hx
        · have e := b2 (i - X.length)
          rw [show i - X.length + X.length = i by omega] at e
          rw [e, g2 z]
          show ad (i - X.length + X.length) = ad i
          rw [show i - X.length + X.length = i by omega]
      · rw [b5]; exact keep _ hfr g3
      · rw [b5]; exact D_app p3 p2 p1 g4
    · obtain ⟨ad3, M3, b1, b2, b3, b4, b5⟩ := back (fun i => ad (i + X.length)) G' M'
      have e3 : ad3 = ad := by
        funext i
        by_cases hx : i < X.length
        · exact b1 i hx
        · have e := b2 (i - X.length)
          rw [show i - X.length + X.length = i by omega] at e
          exact e
      subst e3
      refine Or.inr ⟨q, ho, E, ce9, L, ⟨⟨_, M3, hQ _ _ _ _ hq b3 b4, ?_, ?_⟩, hfr.1, fun q hq hnA => hfr.2 q hq (fun z => hnA (A_app2 z))⟩, c1, c2, c3, c4, c5, fun q hq => A_app2 (c6 q hq)⟩
      · rw [b5]; exact keep _ hfr g3
      · rw [b5]; exact D_app p3 p2 p1 g4
end PF
