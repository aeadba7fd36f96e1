/-! contracts in another place: behind other cells, and with two objects changed one for the other -/
def pv (f : Nat → Nat) (a : AV) : AV := match a with
  | .inr (.inl r) => aR (f r)
  | a => a
def pr (f : Nat → Nat) (r : Res) : Res := match r with
  | .inl v => .inl (v.map (pv f))
  | .inr X => .inr X
def rn (f : Nat → Nat) (g : Nat × Nat × List (Option Nat)) : Nat × Nat × List (Option Nat) := (g.1, g.2.1, g.2.2.map (fun o => o.map f))
theorem cv_pv {ad : Nat → Nat} {f : Nat → Nat} (a : AV) : cv ad (pv f a) = cv (fun i => ad (f i)) a := by
  rcases a with a | a | a | a <;> rfl
theorem cv_pvs {ad : Nat → Nat} {f : Nat → Nat} (as : List AV) : (as.map (pv f)).map (cv ad) = as.map (cv (fun i => ad (f i))) := by
  rw [List.map_map]
  exact List.map_congr_left (fun a _ => cv_pv a)
theorem cv_pvo {ad : Nat → Nat} {f : Nat → Nat} (v : Option AV) : (v.map (pv f)).map (cv ad) = v.map (cv (fun i => ad (f i))) := by
  cases v with
  | none => rfl
  | some a => exact congrArg some (cv_pv a)
theorem ce_rn {t : Nat → ClassId} {ad : Nat → Nat} {f : Nat → Nat} {g : Nat × Nat × List (Option Nat)} {row : Nat → Int} : ce t ad (rn f g) row = ce t (fun i => ad (f i)) g row := by
  have key : ∀ k, ((g.2.2.map (fun o => o.map f)).getD k none).map ad = (g.2.2.getD k none).map (fun i => ad (f i)) := fun k => by
    rw [List.getD_eq_getElem?_getD, List.getD_eq_getElem?_getD, List.getElem?_map]
    cases g.2.2[k]? with
    | none => rfl
    | some o => cases o <;> rfl
  unfold ce rn
  simp only [key]
section PL
variable {K : KX} {F : Fn} {as : List AV} {G : AG} {M : AM} {Q Q' : Res → AG → AM → Prop}
theorem MetA.w (h : MetA K F as G M Q) (hQ : ∀ r G' M', Q r G' M' → Q' r G' M') : MetA K F as G M Q' := by
  intro ad sz
  refine (h ad sz).mono (fun _ _ h => h) (fun _ _ _ _ _ h => h) (fun a st o t _ q => ?_)
  rcases q with ⟨⟨⟨r, ad', G', M', hv, hq, g1, g2, g3, g4⟩, hfr⟩, hL⟩ | ⟨q, ho, E, ce9, L, ⟨⟨G', M', hq, g3, g4⟩, hfr⟩, hr⟩
  · exact Or.inl ⟨⟨⟨r, ad', G', M', hv, hQ _ _ _ hq, g1, g2, g3, g4⟩, hfr⟩, hL⟩
  · exact Or.inr ⟨q, ho, E, ce9, L, ⟨⟨G', M', hQ _ _ _ hq, g3, g4⟩, hfr⟩, hr⟩
/-- lists of the same cells, told in another order -/
theorem P_perm {D : va_G} {cl : List vw_C} {A B : va_W} {H : Heap} {σ : Nat → Nat} (hs : ∀ i, B[i]? = A[σ i]?) (h : va_P D cl A H) : va_P D cl B H := fun k q hk => h (σ k) q ((hs k).symm.trans hk)
theorem D_perm {X : Nat → Prop} {A B : va_W} {σ : Nat → Nat} (hi : ∀ i, σ (σ i) = i) (hs : ∀ i, B[i]? = A[σ i]?) (h : va_D X A) : va_D X B := by
  refine ⟨fun i j p q hp hq e => ?_, fun k q hk => h.2 (σ k) q ((hs k).symm.trans hk)⟩
  have := h.1 (σ i) (σ j) p q ((hs i).symm.trans hp) ((hs j).symm.trans hq) e
  rw [← hi i, ← hi j, this]
theorem A_perm {A B : va_W} {sz : Nat} {σ : Nat → Nat} (hi : ∀ i, σ (σ i) = i) (hs : ∀ i, B[i]? = A[σ i]?) : va_A B sz = va_A A sz := by
  funext q
  apply propext
  constructor
  · rintro (⟨k, e, h⟩ | h)
    · exact Or.inl ⟨σ k, e, (hs k).symm.trans h⟩
    · exact Or.inr h
  · rintro (⟨k, e, h⟩ | h)
    · refine Or.inl ⟨σ k, e, ?_⟩
      rw [hs, hi]
      exact h
    · exact Or.inr h
theorem conc_perm {t : Nat → ClassId} {ad : Nat → Nat} {σ : Nat → Nat} (hG : ∀ i, G[σ i]? = (G[i]?).map (rn σ)) (i : Nat) : (conc t (fun i => ad (σ i)) G (fun c => M (σ c)))[i]? = (conc t ad G M)[σ i]? := by
  cases hg : G[i]? with
  | none =>
    have h2 := hG i
    rw [hg] at h2
    rw [conc_none hg, conc_none h2]
  | some g =>
    have h2 := hG i
    rw [hg] at h2
    rw [conc_at hg, conc_at (h2 : G[σ i]? = some (rn σ g)), ce_rn]
theorem MetA.perm {σ : Nat → Nat} (hi : ∀ i, σ (σ i) = i) (hG : ∀ i, G[σ i]? = (G[i]?).map (rn σ)) (hal : F.2.2.2.2.2.1 = false) (h : MetA K F as G (fun c => M (σ c)) Q) (hQ : ∀ r G' M', Q r G' M' → G' = G ∧ Q' (pr σ r) G (fun c => M' (σ c))) : MetA K F (as.map (pv σ)) G M Q' := by
  intro ad sz
  have hs : ∀ (M : AM) i, (conc K.2.2 (fun i => ad (σ i)) G (fun c => M (σ c)))[i]? = (conc K.2.2 ad G M)[σ i]? := fun M i => conc_perm hG i
  have hs2 : ∀ (M : AM) i, (conc K.2.2 ad G (fun c => M (σ c)))[i]? = (conc K.2.2 (fun i => ad (σ i)) G M)[σ i]? := fun M i => by
    have := hs (fun c => M (σ c)) (σ i)
    rw [hi] at this
    rw [← this]
    congr 2
    funext c
    show M (σ (σ c)) = M c
    rw [hi]
  have hA := A_perm (sz := sz) hi (hs M)
  have h9 := h (fun i => ad (σ i)) sz
  rw [hA] at h9
  refine h9.mono (fun a U q => ?_) (fun _ _ _ _ _ h => h) (fun a st o t _ q => ?_)
  · obtain ⟨q0, q1, q2, q3, q4, q5, q6⟩ := q
    refine ⟨?_, q1, P_perm (hs M) q2, D_perm hi (hs M) q3, q4, ?_, q6⟩
    · rw [q0, cv_pvs]
    · rw [hA]; exact q5
  · rcases q with ⟨⟨⟨r, ad', G', M', hv, hq, g1, g2, g3, g4⟩, hfr⟩, hL⟩ | ⟨q, ho, E, ce9, L, ⟨⟨G', M', hq, g3, g4⟩, hfr⟩, hr⟩
    · obtain ⟨rfl, hq⟩ := hQ _ _ _ hq
      have := g2 hal
      subst this
      exact Or.inl ⟨⟨⟨r.map (pv σ), ad, _, _, by rw [hv, cv_pvo], hq, fun _ _ => rfl, fun _ => rfl, P_perm (hs2 M') g3, D_perm hi (hs2 M') g4⟩, hfr⟩, hL⟩
    · obtain ⟨rfl, hq⟩ := hQ _ _ _ hq
      exact Or.inr ⟨q, ho, E, ce9, L, ⟨⟨_, _, hq, P_perm (hs2 M') g3, D_perm hi (hs2 M') g4⟩, hfr⟩, hr⟩
end PL
/-- the two objects changed one for the other -/
def sg (c : Nat) : Nat := if c < 63 then c + 63 else if c < 126 then c - 63 else c
def sw (M : AM) : AM := fun c => M (sg c)
theorem sg_sg (i : Nat) : sg (sg i) = i := by
  unfold sg
  repeat' split
  all_goals omega
theorem sw_sw (M : AM) : sw (sw M) = M := by
  funext c
  show M (sg (sg c)) = M c
  rw [sg_sg]
theorem sw_lo {M : AM} {c : Nat} (h : c < 63) : sw M c = M (c + 63) := by
  show M (sg c) = _
  unfold sg
  rw [if_pos h]
theorem sw_hi {M : AM} {c : Nat} (h : 63 ≤ c) (h2 : c < 126) : sw M c = M (c - 63) := by
  show M (sg c) = _
  unfold sg
  rw [if_neg (by omega), if_pos h2]
theorem sw_far {M : AM} {c : Nat} (h : 126 ≤ c) : sw M c = M c := by
  show M (sg c) = _
  unfold sg
  rw [if_neg (by omega), if_neg (by omega)]
theorem gg_sw : ∀ i, i < 126 → GG[sg i]? = (GG[i]?).map (rn sg) := by decide +kernel
theorem gg_sg (i : Nat) : GG[sg i]? = (GG[i]?).map (rn sg) := by
  by_cases h : i < 126
  · exact gg_sw i h
  · have e : sg i = i := by
      unfold sg
      rw [if_neg (by omega), if_neg h]
    rw [e, List.getElem?_eq_none (by rw [gg_len]; omega)]
    rfl
section SWP
variable {K : KX} {F : Fn} {M : AM}
theorem sw_cI {k : Int → AM → Prop} {x : String → AM → Prop} (is : List Int) (hal : F.2.2.2.2.2.1 = false) (h : MetA K F (aR 0 :: is.map aI) GG (sw M) (cI GG (fun b M' => k b (sw M')) (fun X M' => x X (sw M')))) : MetA K F (aR 63 :: is.map aI) GG M (cI GG k x) := by
  have := MetA.perm (M := M) (Q' := cI GG k x) sg_sg gg_sg hal h (fun r G' M' hq => ?_)
  · rw [List.map_cons, List.map_map] at this
    exact this
  · obtain ⟨rfl, hq⟩ := hq
    refine ⟨rfl, rfl, ?_⟩
    rcases r with (_ | (b | b)) | X
    · exact hq.elim
    · exact hq
    · exact hq.elim
    · exact hq
theorem sw_cV {k : AM → Prop} {x : String → AM → Prop} (is : List Int) (hal : F.2.2.2.2.2.1 = false) (h : MetA K F (aR 0 :: is.map aI) GG (sw M) (cV GG (fun M' => k (sw M')) (fun X M' => x X (sw M')))) : MetA K F (aR 63 :: is.map aI) GG M (cV GG k x) := by
  have := MetA.perm (M := M) (Q' := cV GG k x) sg_sg gg_sg hal h (fun r G' M' hq => ?_)
  · rw [List.map_cons, List.map_map] at this
    exact this
  · obtain ⟨rfl, hq⟩ := hq
    refine ⟨rfl, rfl, ?_⟩
    rcases r with (_ | (b | b)) | X
    · exact hq
    · exact hq.elim
    · exact hq.elim
    · exact hq
end SWP
