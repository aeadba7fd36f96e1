/-! fields and arrays -/
def CK (ci : Nat) (q : vw_C) (ty : Nat → FieldType) : Prop := vwCl[ci]? = some q ∧ (∀ w ∈ u_ws q.1 q.2.1 q.2.2, w ∈ gw) ∧ q.2.2 = nF ci ∧ ci < 6 ∧ (∀ k, k < q.2.2 → parseFieldDescriptor (q.2.1 k).2.2.1 = some (ty k)) ∧ (∀ a, a < q.2.2 → ∀ b, b < q.2.2 → a ≠ b → (q.2.1 a).2.1 ≠ (q.2.1 b).2.1)
theorem gw_all {ws : List Cond} (h : ws.all (fun w => decide (w ∈ lw_tbl) && goodWord w) = true) : ∀ w ∈ ws, w ∈ gw := fun w hw => by
  have h1 := List.all_eq_true.mp h w hw
  simp only [Bool.and_eq_true, decide_eq_true_eq] at h1
  exact List.mem_filter.mpr h1
set_option maxRecDepth 20000 in
theorem ck0 : CK 0 (RX0, TX0, 3) tyX0 := ⟨rfl, gw_all (by decide +kernel), rfl, by decide, tyX0_ok, nmX0⟩
set_option maxRecDepth 20000 in
theorem ck1 : CK 1 (RX1, TX1, 3) tyX1 := ⟨rfl, gw_all (by decide +kernel), rfl, by decide, tyX1_ok, nmX1⟩
set_option maxRecDepth 20000 in
theorem ck2 : CK 2 (RX2, TX2, 5) tyX2 := ⟨rfl, gw_all (by decide +kernel), rfl, by decide, tyX2_ok, nmX2⟩
set_option maxRecDepth 20000 in
theorem ck3 : CK 3 (RX3, TX3, 8) tyX3 := ⟨rfl, gw_all (by decide +kernel), rfl, by decide, tyX3_ok, nmX3⟩
set_option maxRecDepth 20000 in
theorem ck4 : CK 4 (RX4, TX4, 6) tyX4 := ⟨rfl, gw_all (by decide +kernel), rfl, by decide, tyX4_ok, nmX4⟩
set_option maxRecDepth 20000 in
def ofs (ad : Nat → Nat) (ci : Nat) (rs : List (Option Nat)) (row : Nat → Int) : List Value := (List.range (nF ci)).map (fun k => if fR ci k = true then va_rf ((rs.getD k none).map ad) else .int (Int32.ofInt (row k)))
theorem ce_obj {t : Nat → ClassId} {ad : Nat → Nat} {ci len : Nat} {rs : List (Option Nat)} {row : Nat → Int} (h : ci < 6) : ce t ad (ci, len, rs) row = .inr (ci, ofs ad ci rs row) := by
  simp [ce, h, ofs]
theorem ce_int {t : Nat → ClassId} {ad : Nat → Nat} {n : Nat} {rs : List (Option Nat)} {row : Nat → Int} : ce t ad (6, n, rs) row = .inl (t 0, n, .inl (fun j => Int32.ofInt (row j))) := by simp [ce]
theorem ce_bool {t : Nat → ClassId} {ad : Nat → Nat} {n : Nat} {rs : List (Option Nat)} {row : Nat → Int} : ce t ad (7, n, rs) row = .inl (t 1, n, .inl (fun j => Int32.ofInt (row j))) := by simp [ce]
theorem ce_long {t : Nat → ClassId} {ad : Nat → Nat} {n : Nat} {rs : List (Option Nat)} {row : Nat → Int} : ce t ad (8, n, rs) row = .inl (t 2, n, .inr (.inl (fun j => Int64.ofInt (row j)))) := by simp [ce]
theorem ce_ref {t : Nat → ClassId} {ad : Nat → Nat} {k n : Nat} {rs : List (Option Nat)} {row : Nat → Int} : ce t ad (9 + k, n, rs) row = .inl (t (3 + k), n, .inr (.inr (.inr (.inr (fun j => (rs.getD j none).map ad))))) := by
  have h1 : ¬ 9 + k < 6 := by omega
  have h2 : ¬ 9 + k = 8 := by omega
  have h3 : ¬ 9 + k < 8 := by omega
  have h4 : 9 + k - 6 = 3 + k := by omega
  simp [ce, h1, h2, h3, h4]
theorem ofs_int {ad : Nat → Nat} {ci k : Nat} {rs : List (Option Nat)} {row : Nat → Int} (hk : k < nF ci) (hR : fR ci k = false) : (ofs ad ci rs row)[k]? = some (.int (Int32.ofInt (row k))) := by
  simp [ofs, List.getElem?_range hk, hR]
theorem ofs_ref {ad : Nat → Nat} {ci k r : Nat} {rs : List (Option Nat)} {row : Nat → Int} (hk : k < nF ci) (hR : fR ci k = true) (hr : rs[k]? = some (some r)) : (ofs ad ci rs row)[k]? = some (.ref (ad r)) := by
  simp [ofs, List.getElem?_range hk, hR, List.getD_eq_getElem?_getD, hr, va_rf]
theorem ofs_len {ad : Nat → Nat} {ci : Nat} {rs : List (Option Nat)} {row : Nat → Int} : (ofs ad ci rs row).length = nF ci := by simp [ofs]
theorem ofs_setI {ad : Nat → Nat} {ci k : Nat} {rs : List (Option Nat)} {row : Nat → Int} {x : Int} (hR : fR ci k = false) : ofs ad ci rs (fun j => if j = k then x else row j) = (ofs ad ci rs row).set k (.int (Int32.ofInt x)) := by
  apply List.ext_getElem?
  intro i
  by_cases hi : k = i
  · subst hi
    by_cases hk : k < nF ci
    · rw [List.getElem?_set_self (by rw [ofs_len]; exact hk), ofs_int hk hR]
      simp
    · rw [List.getElem?_eq_none (by rw [ofs_len]; omega), List.getElem?_eq_none (by rw [List.length_set, ofs_len]; omega)]
  · rw [List.getElem?_set_ne hi]
    have h2 : ¬ i = k := fun q => hi q.symm
    by_cases hk : i < nF ci
    · simp [ofs, List.getElem?_range hk, h2]
    · rw [List.getElem?_eq_none (by rw [ofs_len]; omega), List.getElem?_eq_none (by rw [ofs_len]; omega)]
theorem ofs_setR {ad : Nat → Nat} {ci k r : Nat} {rs : List (Option Nat)} {row : Nat → Int} (hR : fR ci k = true) (hk9 : k < rs.length) : ofs ad ci (rs.set k (some r)) row = (ofs ad ci rs row).set k (.ref (ad r)) := by
  apply List.ext_getElem?
  intro i
  by_cases hi : k = i
  · subst hi
    by_cases hk : k < nF ci
    · rw [List.getElem?_set_self (by rw [ofs_len]; exact hk), ofs_ref hk hR (List.getElem?_set_self hk9)]
    · rw [List.getElem?_eq_none (by rw [ofs_len]; omega), List.getElem?_eq_none (by rw [List.length_set, ofs_len]; omega)]
  · rw [List.getElem?_set_ne hi]
    by_cases hk : i < nF ci
    · simp [ofs, List.getElem?_range hk, List.getD_eq_getElem?_getD, List.getElem?_set_ne hi]
    · rw [List.getElem?_eq_none (by rw [ofs_len]; omega), List.getElem?_eq_none (by rw [ofs_len]; omega)]
theorem w_bool {x : Int} (h : x = 0 ∨ x = 1) : vp_nar .boolean (Int32.ofInt x) = Int32.ofInt x := by
  rcases h with rfl | rfl <;> decide
theorem upd_row {row : Nat → Int} {j : Nat} {x : Int} : upd (fun j => Int32.ofInt (row j)) j (Int32.ofInt x) = fun i => Int32.ofInt (if i = j then x else row i) := by
  funext i
  by_cases h : i = j <;> simp [upd, h]
theorem updL_row {row : Nat → Int} {j : Nat} {x : Int} : vp_updL (fun j => Int64.ofInt (row j)) j (Int64.ofInt x) = fun i => Int64.ofInt (if i = j then x else row i) := by
  funext i
  by_cases h : i = j <;> simp [vp_updL, h]
theorem um_r {M : AM} {c k : Nat} {v : Int} : um M c k v c = fun j => if j = k then v else M c j := by funext j; simp [um]
section MEM
variable {K : KX} {F : Fn} {E : CE} {pc : Nat} {L : List (Option AV)} {st : List AV} {G : AG} {M : AM} {uc us : Nat}
theorem s_getI {ci k index len r : Nat} {rs : List (Option Nat)} {q : vw_C} {ty : Nat → FieldType} (ck : CK ci q ty) (hg : G[r]? = some (ci, len, rs)) (hk : k < nF ci) (hR : fR ci k = false) (hd : decode F.2.1 pc = .ok (.getfield index, 3))
    (hw : Cond.fieldLink F.1.cls index (q.2.1 k).1 (q.2.1 k).2.1 (q.2.1 k).2.2.1 ∈ gw) (kk : WM K F E (pc + 3) L (aI (M r k) :: st) G M uc us) : WM K F E pc L (aR r :: st) G M uc us := by
  intro _ p e R s m args below meth c A n0 ad0 al Qe hE C ad H locs ls h1 h2 hP hD hS h3
  obtain ⟨c1, c2, c3, c4, c5, c6⟩ := ck
  have he : (conc K.2.2 ad G M)[r]? = some (ad r, .inr (ci, ofs ad ci rs (M r))) := by rw [conc_at hg, ce_obj c4]
  exact va_get C.1 C.2.1 C.2.2.2.2.1 c2 C.2.2.2.1 C.2.2.2.2.2.1 hP r he c1 k (by rw [c3]; exact hk) (C.2.2.2.2.1 _ hw) (fun _ h => h) (ofs_int hk hR) hd (kk () hE C ad H locs ls h1 h2 hP hD hS h3)
theorem s_getR {ci k index len r r2 : Nat} {rs : List (Option Nat)} {q : vw_C} {ty : Nat → FieldType} (ck : CK ci q ty) (hg : G[r]? = some (ci, len, rs)) (hr : rs[k]? = some (some r2)) (hk : k < nF ci) (hR : fR ci k = true) (hd : decode F.2.1 pc = .ok (.getfield index, 3))
    (hw : Cond.fieldLink F.1.cls index (q.2.1 k).1 (q.2.1 k).2.1 (q.2.1 k).2.2.1 ∈ gw) (kk : WM K F E (pc + 3) L (aR r2 :: st) G M uc us) : WM K F E pc L (aR r :: st) G M uc us := by
  intro _ p e R s m args below meth c A n0 ad0 al Qe hE C ad H locs ls h1 h2 hP hD hS h3
  obtain ⟨c1, c2, c3, c4, c5, c6⟩ := ck
  have he : (conc K.2.2 ad G M)[r]? = some (ad r, .inr (ci, ofs ad ci rs (M r))) := by rw [conc_at hg, ce_obj c4]
  exact va_get C.1 C.2.1 C.2.2.2.2.1 c2 C.2.2.2.1 C.2.2.2.2.2.1 hP r he c1 k (by rw [c3]; exact hk) (C.2.2.2.2.1 _ hw) (fun _ h => h) (ofs_ref hk hR hr) hd (kk () hE C ad H locs ls h1 h2 hP hD hS h3)
theorem s_putI {ci k index len r : Nat} {x : Int} {rs : List (Option Nat)} {q : vw_C} {ty : Nat → FieldType} (ck : CK ci q ty) (hg : G[r]? = some (ci, len, rs)) (hk : k < nF ci) (hR : fR ci k = false) (hty : ty k = .int) (hfin : (q.2.1 k).2.2.2 = false) (hd : decode F.2.1 pc = .ok (.putfield index, 3))
    (hw : Cond.fieldLink F.1.cls index (q.2.1 k).1 (q.2.1 k).2.1 (q.2.1 k).2.2.1 ∈ gw) (kk : WM K F E (pc + 3) L st G (um M r k x) uc us) : WM K F E pc L (aI x :: aR r :: st) G M uc us := by
  intro _ p e R s m args below meth c A n0 ad0 al Qe hE C ad H locs ls h1 h2 hP hD hS h3
  obtain ⟨c1, c2, c3, c4, c5, c6⟩ := ck
  have he : (conc K.2.2 ad G M)[r]? = some (ad r, .inr (ci, ofs ad ci rs (M r))) := by rw [conc_at hg, ce_obj c4]
  have hkq : k < q.2.2 := by rw [c3]; exact hk
  refine va_put (v := .int (Int32.ofInt x)) (ty := .int) C.1 C.2.1 C.2.2.2.2.1 c2 ty c5 c6 C.2.2.2.1 C.2.2.2.2.2.1 hP hD hS r he c1 k hkq (C.2.2.2.2.1 _ hw) (fun _ h => h) hfin (by rw [c5 k hkq, hty]) rfl rfl (by rw [ofs_len]; exact hk) hd (fun H1 locs1 hP1 hD1 hS1 => ?_)
  rw [conc_set hg (M' := um M r k x) (by rw [ce_obj c4, um_r, ofs_setI hR]) um_row] at hP1 hD1
  exact kk () hE C ad H1 locs1 ls h1 h2 hP1 hD1 hS1 h3
theorem s_putRF {n : Nat} {Q : Res → AG → AM → Prop} {ci k index len r r2 : Nat} {rs : List (Option Nat)} {q : vw_C} {ty : Nat → FieldType} (ck : CK ci q ty) (hg : G[r]? = some (ci, len, rs)) (hk : k < nF ci) (hR : fR ci k = true) (hrl : k < rs.length) (hty : ∀ a, narrow (ty k) (.ref a) = .ref a ∧ fits (ty k) (.ref a) = true) (hfin : (q.2.1 k).2.2.2 = true)
    (hn : F.1.name = "<init>") (ho : (q.2.1 k).1 = F.1.cls) (hd : decode F.2.1 pc = .ok (.putfield index, 3))
    (hw : Cond.fieldLink F.1.cls index (q.2.1 k).1 (q.2.1 k).2.1 (q.2.1 k).2.2.1 ∈ gw) (kk : WM K F (EM K F n Q) (pc + 3) L st (G.set r (ci, len, rs.set k (some r2))) M uc us) : WM K F (EM K F n Q) pc L (aR r2 :: aR r :: st) G M uc us := by
  intro _ p e R s m args below meth c A n0 ad0 al Qe hE C ad H locs ls h1 h2 hP hD hS h3
  obtain ⟨c1, c2, c3, c4, c5, c6⟩ := ck
  have he : (conc K.2.2 ad G M)[r]? = some (ad r, .inr (ci, ofs ad ci rs (M r))) := by rw [conc_at hg, ce_obj c4]
  have hkq : k < q.2.2 := by rw [c3]; exact hk
  refine va_putF (v := .ref (ad r2)) (ty := ty k) C.1 C.2.1 C.2.2.2.2.1 c2 ty c5 c6 C.2.2.2.1 C.2.2.2.2.2.1 hP hD hS r he c1 k hkq (C.2.2.2.2.1 _ hw) (fun _ h => h) hfin (by rw [hE.2.2.2.1]; exact hn) ho (c5 k hkq) (hty _).1 (hty _).2 (by rw [ofs_len]; exact hk) hd (fun H1 locs1 hP1 hD1 hS1 => ?_)
  rw [conc_setG hg (g' := (ci, len, rs.set k (some r2))) (by rw [ce_obj c4, ofs_setR hR hrl])] at hP1 hD1
  exact kk () hE C ad H1 locs1 ls h1 h2 hP1 hD1 hS1 h3
theorem s_iald {n r j : Nat} {i : Int} {rs : List (Option Nat)} (hg : G[r]? = some (6, n, rs)) (hj : wr i = j) (hn : j < n) (hd : decode F.2.1 pc = .ok (.iaload, 1)) (kk : WM K F E (pc + 1) L (aI (M r j) :: st) G M uc us) : WM K F E pc L (aI i :: aR r :: st) G M uc us := by
  intro _ p e R s m args below meth c A n0 ad0 al Qe hE C ad H locs ls h1 h2 hP hD hS h3
  exact va_iald C.1 C.2.1 C.2.2.2.2.2.1 hP r 0 (by rw [conc_at hg, ce_int]) rfl (w_in hj hn) hd (by rw [w_cl hj]; exact kk () hE C ad H locs ls h1 h2 hP hD hS h3)
theorem s_zald {n r j : Nat} {i : Int} {rs : List (Option Nat)} (hg : G[r]? = some (7, n, rs)) (hj : wr i = j) (hn : j < n) (hd : decode F.2.1 pc = .ok (.baload, 1)) (kk : WM K F E (pc + 1) L (aI (M r j) :: st) G M uc us) : WM K F E pc L (aI i :: aR r :: st) G M uc us := by
  intro _ p e R s m args below meth c A n0 ad0 al Qe hE C ad H locs ls h1 h2 hP hD hS h3
  exact va_zald C.1 C.2.1 C.2.2.2.2.2.1 hP r 1 (by rw [conc_at hg, ce_bool]) rfl (w_in hj hn) hd (by rw [w_cl hj]; exact kk () hE C ad H locs ls h1 h2 hP hD hS h3)
theorem s_iast {n r j : Nat} {i x : Int} {rs : List (Option Nat)} (hg : G[r]? = some (6, n, rs)) (hj : wr i = j) (hn : j < n) (hd : decode F.2.1 pc = .ok (.iastore, 1)) (kk : WM K F E (pc + 1) L st G (um M r j x) uc us) : WM K F E pc L (aI x :: aI i :: aR r :: st) G M uc us := by
  intro _ p e R s m args below meth c A n0 ad0 al Qe hE C ad H locs ls h1 h2 hP hD hS h3
  refine va_iast C.1 C.2.1 C.2.2.2.2.2.1 hP hD hS r 0 (by rw [conc_at hg, ce_int]) rfl (w_in hj hn) hd (fun H1 locs1 hP1 hD1 hS1 => ?_)
  rw [w_cl hj, conc_set hg (M' := um M r j x) (by rw [ce_int, um_r, upd_row]) um_row] at hP1 hD1
  exact kk () hE C ad H1 locs1 ls h1 h2 hP1 hD1 hS1 h3
theorem s_zast {n r j : Nat} {i x : Int} {rs : List (Option Nat)} (hg : G[r]? = some (7, n, rs)) (hj : wr i = j) (hn : j < n) (hx : x = 0 ∨ x = 1) (hd : decode F.2.1 pc = .ok (.bastore, 1)) (kk : WM K F E (pc + 1) L st G (um M r j x) uc us) : WM K F E pc L (aI x :: aI i :: aR r :: st) G M uc us := by
  intro _ p e R s m args below meth c A n0 ad0 al Qe hE C ad H locs ls h1 h2 hP hD hS h3
  refine va_zast C.1 C.2.1 C.2.2.2.2.2.1 hP hD hS r 1 (by rw [conc_at hg, ce_bool]) rfl (w_in hj hn) hd (fun H1 locs1 hP1 hD1 hS1 => ?_)
  rw [w_cl hj, w_bool hx, conc_set hg (M' := um M r j x) (by rw [ce_bool, um_r, upd_row]) um_row] at hP1 hD1
  exact kk () hE C ad H1 locs1 ls h1 h2 hP1 hD1 hS1 h3
theorem s_aaldV {n r r2 j : Nat} {i : Int} {rs : List (Option Nat)} (hg : G[r]? = some (9, n, rs)) (hj : wr i = j) (hn : j < n) (hr : rs[j]? = some (some r2)) (hd : decode F.2.1 pc = .ok (.aaload, 1)) (kk : WM K F E (pc + 1) L (aR r2 :: st) G M uc us) : WM K F E pc L (aI i :: aR r :: st) G M uc us := by
  intro _ p e R s m args below meth c A n0 ad0 al Qe hE C ad H locs ls h1 h2 hP hD hS h3
  refine va_aldq C.1 C.2.1 C.2.2.2.2.2.1 hP r 3 (by rw [conc_at hg, ce_ref (k := 0)]) rfl (w_in hj hn) hd ?_
  rw [w_cl hj, List.getD_eq_getElem?_getD, hr]
  exact kk () hE C ad H locs ls h1 h2 hP hD hS h3
theorem s_aaldJ {n r r2 j : Nat} {i : Int} {rs : List (Option Nat)} (hg : G[r]? = some (10, n, rs)) (hj : wr i = j) (hn : j < n) (hr : rs[j]? = some (some r2)) (hd : decode F.2.1 pc = .ok (.aaload, 1)) (kk : WM K F E (pc + 1) L (aR r2 :: st) G M uc us) : WM K F E pc L (aI i :: aR r :: st) G M uc us := by
  intro _ p e R s m args below meth c A n0 ad0 al Qe hE C ad H locs ls h1 h2 hP hD hS h3
  refine va_aldq C.1 C.2.1 C.2.2.2.2.2.1 hP r 4 (by rw [conc_at hg, ce_ref (k := 1)]) rfl (w_in hj hn) hd ?_
  rw [w_cl hj, List.getD_eq_getElem?_getD, hr]
  exact kk () hE C ad H locs ls h1 h2 hP hD hS h3
theorem s_aaldI {n r r2 j : Nat} {i : Int} {rs : List (Option Nat)} (hg : G[r]? = some (11, n, rs)) (hj : wr i = j) (hn : j < n) (hr : rs[j]? = some (some r2)) (hd : decode F.2.1 pc = .ok (.aaload, 1)) (kk : WM K F E (pc + 1) L (aR r2 :: st) G M uc us) : WM K F E pc L (aI i :: aR r :: st) G M uc us := by
  intro _ p e R s m args below meth c A n0 ad0 al Qe hE C ad H locs ls h1 h2 hP hD hS h3
  have ha : (conc K.2.2 ad G M)[r]? = some (ad r, .inl (K.2.2 5, n, .inr (.inr (.inr (.inr (fun j => (rs.getD j none).map ad)))))) := by rw [conc_at hg, ce_ref (k := 2)]
  have hin := w_in hj hn
  have hlt : (Int32.ofInt i).toNatClampNeg < n := by rw [w_cl hj]; exact hn
  refine W.aald (v := va_rf ((rs.getD (Int32.ofInt i).toNatClampNeg none).map ad)) (ty := .array .int) C.1 C.2.1 (hP r _ ha) ((C.2.2.2.2.2.1.2 5 _ rfl).1 n (fun j => va_rf ((rs.getD j none).map ad))) rfl (fun q => by cases q) (by show ¬ (Int32.ofInt i < 0 ∨ (arrV _ _ _).slots.size ≤ _); rw [arrV_size]; exact hin) (by show (arrV _ _ _).slots[_]? = _; rw [arrV_read _ _ hlt]) rfl rfl hd ?_
  rw [w_cl hj, List.getD_eq_getElem?_getD, hr]
  exact kk () hE C ad H locs ls h1 h2 hP hD hS h3
theorem up_rs {ad : Nat → Nat} {rs : List (Option Nat)} {j r2 : Nat} (hj : j < rs.length) : va_up (fun i => (rs.getD i none).map ad) j (some (ad r2)) = fun i => ((rs.set j (some r2)).getD i none).map ad := by
  funext i
  by_cases h : j = i
  · subst h
    simp [va_up, List.getD_eq_getElem?_getD, List.getElem?_set_self hj]
  · have h2 : ¬ i = j := fun q => h q.symm
    simp [va_up, h2, List.getD_eq_getElem?_getD, List.getElem?_set_ne h]
theorem s_aastV {n r r2 j len2 : Nat} {i : Int} {rs rs2 : List (Option Nat)} (hg : G[r]? = some (9, n, rs)) (hg2 : G[r2]? = some (3, len2, rs2)) (hj : wr i = j) (hn : j < n) (hrl : j < rs.length) (hd : decode F.2.1 pc = .ok (.aastore, 1)) (kk : WM K F E (pc + 1) L st (G.set r (9, n, rs.set j (some r2))) M uc us) : WM K F E pc L (aR r2 :: aI i :: aR r :: st) G M uc us := by
  intro _ p e R s m args below meth c A n0 ad0 al Qe hE C ad H locs ls h1 h2 hP hD hS h3
  refine va_astq C.1 C.2.1 C.2.2.2.2.2.1 hP hD hS r 3 r2 3 (r := (RX3, TX3, 8)) (by rw [conc_at hg, ce_ref (k := 0)]) rfl (by rw [conc_at hg2, ce_obj (by omega)]) rfl (w_in hj hn) hd (fun H1 locs1 hP1 hD1 hS1 => ?_)
  rw [w_cl hj, up_rs hrl, conc_setG hg (g' := (9, n, rs.set j (some r2))) (ce_ref (k := 0))] at hP1 hD1
  exact kk () hE C ad H1 locs1 ls h1 h2 hP1 hD1 hS1 h3
theorem s_aastJ {n r r2 j len2 : Nat} {i : Int} {rs rs2 : List (Option Nat)} (hg : G[r]? = some (10, n, rs)) (hg2 : G[r2]? = some (0, len2, rs2)) (hj : wr i = j) (hn : j < n) (hrl : j < rs.length) (hd : decode F.2.1 pc = .ok (.aastore, 1)) (kk : WM K F E (pc + 1) L st (G.set r (10, n, rs.set j (some r2))) M uc us) : WM K F E pc L (aR r2 :: aI i :: aR r :: st) G M uc us := by
  intro _ p e R s m args below meth c A n0 ad0 al Qe hE C ad H locs ls h1 h2 hP hD hS h3
  refine va_astq C.1 C.2.1 C.2.2.2.2.2.1 hP hD hS r 4 r2 0 (r := (RX0, TX0, 3)) (by rw [conc_at hg, ce_ref (k := 1)]) rfl (by rw [conc_at hg2, ce_obj (by omega)]) rfl (w_in hj hn) hd (fun H1 locs1 hP1 hD1 hS1 => ?_)
  rw [w_cl hj, up_rs hrl, conc_setG hg (g' := (10, n, rs.set j (some r2))) (ce_ref (k := 1))] at hP1 hD1
  exact kk () hE C ad H1 locs1 ls h1 h2 hP1 hD1 hS1 h3
end MEM
