/-! ===== fields, arrays, ends ===== -/
theorem fc_in0 : (wsX00).all (fun w => decide (w ∈ lw_tbl) && goodWord w) = true := by decide +kernel
theorem fc_in1 : (wsX10).all (fun w => decide (w ∈ lw_tbl) && goodWord w) = true := by decide +kernel
theorem fc_in2 : (wsX20).all (fun w => decide (w ∈ lw_tbl) && goodWord w) = true := by decide +kernel
theorem fc_in3 : (wsX30).all (fun w => decide (w ∈ lw_tbl) && goodWord w) = true := by decide +kernel
theorem fc_in4 : (wsX40).all (fun w => decide (w ∈ lw_tbl) && goodWord w) = true := by decide +kernel
theorem fc_in5 : (wsX50).all (fun w => decide (w ∈ lw_tbl) && goodWord w) = true := by decide +kernel
theorem fc_in6 : (wsX60).all (fun w => decide (w ∈ lw_tbl) && goodWord w) = true := by decide +kernel
theorem fc_in7 : (wsX70).all (fun w => decide (w ∈ lw_tbl) && goodWord w) = true := by decide +kernel
theorem fc_in8 : (wsX80).all (fun w => decide (w ∈ lw_tbl) && goodWord w) = true := by decide +kernel
theorem fc_in9 : (wsX90).all (fun w => decide (w ∈ lw_tbl) && goodWord w) = true := by decide +kernel
theorem fc_in10 : (wsX100).all (fun w => decide (w ∈ lw_tbl) && goodWord w) = true := by decide +kernel
theorem fc_in11 : (wsX110).all (fun w => decide (w ∈ lw_tbl) && goodWord w) = true := by decide +kernel
theorem fc_inG {ws : List Cond} (h : ws.all (fun w => decide (w ∈ lw_tbl) && goodWord w) = true) : ∀ w ∈ ws, w ∈ fc_G := by
  intro w hw
  have h1 := List.all_eq_true.mp h w hw
  simp only [Bool.and_eq_true, decide_eq_true_eq] at h1
  exact List.mem_filter.mpr h1
theorem fc_cls {ci : Nat} {q : vw_C} (h : vwCl[ci]? = some q) : (∀ w ∈ u_ws q.1 q.2.1 q.2.2, w ∈ fc_G) ∧ ∃ ty0 : Nat → FieldType, (∀ k, k < q.2.2 → parseFieldDescriptor (q.2.1 k).2.2.1 = some (ty0 k)) ∧ ∀ a, a < q.2.2 → ∀ b, b < q.2.2 → a ≠ b → (q.2.1 a).2.1 ≠ (q.2.1 b).2.1 := by
  match ci, h with
  | 0, h => cases h; exact ⟨fc_inG fc_in0, tyX0, tyX0_ok, nmX0⟩
  | 1, h => cases h; exact ⟨fc_inG fc_in1, tyX1, tyX1_ok, nmX1⟩
  | 2, h => cases h; exact ⟨fc_inG fc_in2, tyX2, tyX2_ok, nmX2⟩
  | 3, h => cases h; exact ⟨fc_inG fc_in3, tyX3, tyX3_ok, nmX3⟩
  | 4, h => cases h; exact ⟨fc_inG fc_in4, tyX4, tyX4_ok, nmX4⟩
  | 5, h => cases h; exact ⟨fc_inG fc_in5, tyX5, tyX5_ok, nmX5⟩
  | 6, h => cases h; exact ⟨fc_inG fc_in6, tyX6, tyX6_ok, nmX6⟩
  | 7, h => cases h; exact ⟨fc_inG fc_in7, tyX7, tyX7_ok, nmX7⟩
  | 8, h => cases h; exact ⟨fc_inG fc_in8, tyX8, tyX8_ok, nmX8⟩
  | 9, h => cases h; exact ⟨fc_inG fc_in9, tyX9, tyX9_ok, nmX9⟩
  | 10, h => cases h; exact ⟨fc_inG fc_in10, tyX10, tyX10_ok, nmX10⟩
  | 11, h => cases h; exact ⟨fc_inG fc_in11, tyX11, tyX11_ok, nmX11⟩
  | k + 12, h => simp [vwCl] at h
theorem fc_cell_obj {base : Nat} {tA : Nat → ClassId} {mi : Nat → Int32} {ml : Nat → Int64} {mr : Nat → Option Nat} {ci : Nat} (h : ci < 20) : fc_cell base tA mi ml mr (ci, 0) = .inr (ci, fc_fs base mi ml mr 0 (fc_ft ci)) := by
  unfold fc_cell
  split <;> first | rfl | (rename_i q; dsimp only at q; omega)
section R2
variable {E : fc_E} {y : fc_M} {d : Nat} {cs : Nat × Nat} {sh : fc_Sh} {pc : Nat} {lv : List (Option Value)} {st : List Value} {mi : fc_Mi} {ml : fc_Ml} {mr : fc_Mr} {Q : fc_Q}
theorem fc_r_get {ci idx q j t : Nat} {r : vw_C} {v : Value} (hd : decode y.2.1 pc = .ok (.getfield idx, 3)) (hc : vwCl[ci]? = some r) (hci : ci < 20) (hj : j < r.2.2) (hlink : Cond.fieldLink y.1.cls idx (r.2.1 j).1 (r.2.1 j).2.1 (r.2.1 j).2.2.1 ∈ fc_G) (ht : (fc_ft ci)[j]? = some t) (hsh : sh[q]? = some (ci, 0))
    (hv : fc_fv E.2.2.2.1 (mi q) (ml q) (mr q) j t = fc_v E v) (k : fc_T E y d cs sh (pc + 3) lv (v :: st) mi ml mr Q) : fc_T E y d cs sh pc lv (.ref q :: st) mi ml mr Q := by
  intro p e s m args below meth c R Qf hC hR hret H locs ls hP hS hl
  obtain ⟨hx, hb, hr, hlk, hown, hml, hts, hK⟩ := id hC
  have hw := fc_ws_get (E := E) (mi := mi) (ml := ml) (mr := mr) hsh
  rw [fc_cell_obj hci] at hw
  refine va_get (ci := ci) (C := r.1) (T := r.2.1) (N := r.2.2) hx hb hts (fc_cls hc).1 hown hK.1 hP q hw hc j hj (hts _ hlink) (fun _ h => h) (v := fc_v E v) ?_ hd (k p e s m args below meth c R Qf hC hR hret H locs ls hP hS hl)
  rw [fc_fs_get, ht, Option.map_some, Nat.zero_add, hv]
theorem fc_r_putW {ci idx q j : Nat} {r : vw_C} {v : Value} {ty : FieldType} {mi' : fc_Mi} {ml' : fc_Ml} {mr' : fc_Mr} (hd : decode y.2.1 pc = .ok (.putfield idx, 3)) (hc : vwCl[ci]? = some r) (hci : ci < 20) (hj : j < r.2.2) (hlink : Cond.fieldLink y.1.cls idx (r.2.1 j).1 (r.2.1 j).2.1 (r.2.1 j).2.2.1 ∈ fc_G) (hjt : j < (fc_ft ci).length) (hsh : sh[q]? = some (ci, 0))
    (hfin : (r.2.1 j).2.2.2 = false) (hty : parseFieldDescriptor (r.2.1 j).2.2.1 = some ty) (hn : narrow ty (fc_v E v) = fc_v E v) (hfit : fits ty (fc_v E v) = true)
    (hi : ∀ a, a ≠ q → mi' a = mi a) (hl0 : ∀ a, a ≠ q → ml' a = ml a) (hr0 : ∀ a, a ≠ q → mr' a = mr a) (he : (fc_fs E.2.2.2.1 (mi q) (ml q) (mr q) 0 (fc_ft ci)).set j (fc_v E v) = fc_fs E.2.2.2.1 (mi' q) (ml' q) (mr' q) 0 (fc_ft ci))
    (k : fc_T E y d cs sh (pc + 3) lv st mi' ml' mr' Q) : fc_T E y d cs sh pc lv (v :: .ref q :: st) mi ml mr Q := by
  intro p e s m args below meth c R Qf hC hR hret H locs ls hP hS hl
  obtain ⟨hx, hb, hr, hlk, hown, hml, hts, hK⟩ := id hC
  have hw := fc_ws_get (E := E) (mi := mi) (ml := ml) (mr := mr) hsh
  rw [fc_cell_obj hci] at hw
  obtain ⟨ty0, hty0, hnm⟩ := (fc_cls hc).2
  refine va_put (ci := ci) (C := r.1) (T := r.2.1) (N := r.2.2) (ty := ty) (v := fc_v E v) hx hb hts (fc_cls hc).1 ty0 hty0 hnm hown hK.1 hP fc_ws_D hS q hw hc j hj (hts _ hlink) (fun _ h => h) hfin hty hn hfit (by rw [fc_fs_len]; exact hjt) hd (fun H1 locs1 hP1 _ hS1 => ?_)
  refine k p e s m args below meth c R Qf hC hR hret H1 locs1 ls ?_ hS1 hl
  rw [← fc_ws_set (E := E) (mi := mi) (ml := ml) (mr := mr) hsh hi hl0 hr0 (e := .inr (ci, (fc_fs E.2.2.2.1 (mi q) (ml q) (mr q) 0 (fc_ft ci)).set j (fc_v E v))) (by rw [fc_cell_obj hci, he])]
  exact hP1
theorem fc_fs_set {base : Nat} {mi mi' : Nat → Int32} {ml ml' : Nat → Int64} {mr mr' : Nat → Option Nat} {ts : List Nat} {j t : Nat} {v : Value} (ht : ts[j]? = some t) (hv : fc_fv base mi' ml' mr' j t = v)
    (ho : ∀ a, a ≠ j → mi' a = mi a ∧ ml' a = ml a ∧ mr' a = mr a) : (fc_fs base mi ml mr 0 ts).set j v = fc_fs base mi' ml' mr' 0 ts := by
  apply List.ext_getElem?
  intro a
  have hlt := (List.getElem?_eq_some_iff.mp ht).1
  by_cases h : a = j
  · subst h
    rw [List.getElem?_set_self (by rw [fc_fs_len]; exact hlt), fc_fs_get, ht, Option.map_some, Nat.zero_add, hv]
  · rw [List.getElem?_set_ne (Ne.symm h), fc_fs_get, fc_fs_get]
    obtain ⟨h1, h2, h3⟩ := ho a h
    cases ts[a]? with
    | none => rfl
    | some z =>
      simp only [Option.map_some, Nat.zero_add, Option.some.injEq]
      unfold fc_fv
      rw [h1, h2, h3]
theorem fc_r_puti {ci idx q j : Nat} {r : vw_C} {x : Int32} (hd : decode y.2.1 pc = .ok (.putfield idx, 3)) (hc : vwCl[ci]? = some r) (hci : ci < 20) (hj : j < r.2.2) (hlink : Cond.fieldLink y.1.cls idx (r.2.1 j).1 (r.2.1 j).2.1 (r.2.1 j).2.2.1 ∈ fc_G) (ht : (fc_ft ci)[j]? = some 0) (hsh : sh[q]? = some (ci, 0))
    (hfin : (r.2.1 j).2.2.2 = false) (hty : parseFieldDescriptor (r.2.1 j).2.2.1 = some .int) (k : fc_T E y d cs sh (pc + 3) lv st (fc_u mi q j x) ml mr Q) : fc_T E y d cs sh pc lv (.int x :: .ref q :: st) mi ml mr Q := by
  refine fc_r_putW (v := .int x) hd hc hci hj hlink (List.getElem?_eq_some_iff.mp ht).1 hsh hfin hty rfl rfl (fun a h => fc_u_off _ _ _ h) (fun _ _ => rfl) (fun _ _ => rfl) (fc_fs_set ht ?_ (fun a h => ⟨?_, rfl, rfl⟩)) k
  · show Value.int (fc_u mi q j x q j) = .int x
    rw [fc_u_row]; simp
  · rw [fc_u_row]; simp [h]
theorem fc_r_putz {ci idx q j : Nat} {r : vw_C} {x : Int32} (hd : decode y.2.1 pc = .ok (.putfield idx, 3)) (hc : vwCl[ci]? = some r) (hci : ci < 20) (hj : j < r.2.2) (hlink : Cond.fieldLink y.1.cls idx (r.2.1 j).1 (r.2.1 j).2.1 (r.2.1 j).2.2.1 ∈ fc_G) (ht : (fc_ft ci)[j]? = some 3) (hsh : sh[q]? = some (ci, 0))
    (hfin : (r.2.1 j).2.2.2 = false) (hty : parseFieldDescriptor (r.2.1 j).2.2.1 = some .boolean) (hx : x = 0 ∨ x = 1) (k : fc_T E y d cs sh (pc + 3) lv st (fc_u mi q j x) ml mr Q) : fc_T E y d cs sh pc lv (.int x :: .ref q :: st) mi ml mr Q := by
  refine fc_r_putW (v := .int x) hd hc hci hj hlink (List.getElem?_eq_some_iff.mp ht).1 hsh hfin hty (by rcases hx with rfl | rfl <;> rfl) (by rcases hx with rfl | rfl <;> rfl) (fun a h => fc_u_off _ _ _ h) (fun _ _ => rfl) (fun _ _ => rfl) (fc_fs_set ht ?_ (fun a h => ⟨?_, rfl, rfl⟩)) k
  · show Value.int (fc_u mi q j x q j) = .int x
    rw [fc_u_row]; simp
  · rw [fc_u_row]; simp [h]
theorem fc_r_putl {ci idx q j : Nat} {r : vw_C} {x : Int64} (hd : decode y.2.1 pc = .ok (.putfield idx, 3)) (hc : vwCl[ci]? = some r) (hci : ci < 20) (hj : j < r.2.2) (hlink : Cond.fieldLink y.1.cls idx (r.2.1 j).1 (r.2.1 j).2.1 (r.2.1 j).2.2.1 ∈ fc_G) (ht : (fc_ft ci)[j]? = some 1) (hsh : sh[q]? = some (ci, 0))
    (hfin : (r.2.1 j).2.2.2 = false) (hty : parseFieldDescriptor (r.2.1 j).2.2.1 = some .long) (k : fc_T E y d cs sh (pc + 3) lv st mi (fc_u ml q j x) mr Q) : fc_T E y d cs sh pc lv (.long x :: .ref q :: st) mi ml mr Q := by
  refine fc_r_putW (v := .long x) hd hc hci hj hlink (List.getElem?_eq_some_iff.mp ht).1 hsh hfin hty rfl rfl (fun _ _ => rfl) (fun a h => fc_u_off _ _ _ h) (fun _ _ => rfl) (fc_fs_set ht ?_ (fun a h => ⟨rfl, ?_, rfl⟩)) k
  · show Value.long (fc_u ml q j x q j) = .long x
    rw [fc_u_row]; simp
  · rw [fc_u_row]; simp [h]
theorem fc_r_putr {ci idx q j x : Nat} {r : vw_C} {ty : FieldType} (hd : decode y.2.1 pc = .ok (.putfield idx, 3)) (hc : vwCl[ci]? = some r) (hci : ci < 20) (hj : j < r.2.2) (hlink : Cond.fieldLink y.1.cls idx (r.2.1 j).1 (r.2.1 j).2.1 (r.2.1 j).2.2.1 ∈ fc_G) (ht : (fc_ft ci)[j]? = some 2) (hsh : sh[q]? = some (ci, 0))
    (hfin : (r.2.1 j).2.2.2 = false) (hty : parseFieldDescriptor (r.2.1 j).2.2.1 = some ty) (hr : ty.isReference = true) (k : fc_T E y d cs sh (pc + 3) lv st mi ml (fc_u mr q j (some x)) Q) : fc_T E y d cs sh pc lv (.ref x :: .ref q :: st) mi ml mr Q := by
  refine fc_r_putW (v := .ref x) hd hc hci hj hlink (List.getElem?_eq_some_iff.mp ht).1 hsh hfin hty (by cases ty <;> first | rfl | cases hr) (by cases ty <;> first | rfl | cases hr) (fun _ _ => rfl) (fun _ _ => rfl) (fun a h => fc_u_off _ _ _ h) (fc_fs_set ht ?_ (fun a h => ⟨rfl, rfl, ?_⟩)) k
  · show va_rf ((fc_u mr q j (some x) q j).map (E.2.2.2.1 + ·)) = .ref (E.2.2.2.1 + x)
    rw [fc_u_row]; simp [va_rf]
  · rw [fc_u_row]; simp [h]
theorem fc_r_iald {q n : Nat} {i : Int32} (hd : decode y.2.1 pc = .ok (.iaload, 1)) (hsh : sh[q]? = some (20, n)) (hi : vp_in i n) (k : fc_T E y d cs sh (pc + 1) lv (.int (mi q i.toNatClampNeg) :: st) mi ml mr Q) : fc_T E y d cs sh pc lv (.int i :: .ref q :: st) mi ml mr Q :=
  fun p e s m args below meth c R Qf hC hR hret H locs ls hP hS hl => va_iald hC.1 hC.2.1 hC.2.2.2.2.2.2.2.1 hP q 0 (fc_ws_get hsh) rfl hi hd (k p e s m args below meth c R Qf hC hR hret H locs ls hP hS hl)
theorem fc_r_cald {q n : Nat} {i : Int32} (hd : decode y.2.1 pc = .ok (.caload, 1)) (hsh : sh[q]? = some (23, n)) (hi : vp_in i n) (k : fc_T E y d cs sh (pc + 1) lv (.int (mi q i.toNatClampNeg) :: st) mi ml mr Q) : fc_T E y d cs sh pc lv (.int i :: .ref q :: st) mi ml mr Q :=
  fun p e s m args below meth c R Qf hC hR hret H locs ls hP hS hl => va_cald hC.1 hC.2.1 hC.2.2.2.2.2.2.2.1 hP q 3 (fc_ws_get hsh) rfl hi hd (k p e s m args below meth c R Qf hC hR hret H locs ls hP hS hl)
theorem fc_r_zald {q n : Nat} {i : Int32} (hd : decode y.2.1 pc = .ok (.baload, 1)) (hsh : sh[q]? = some (22, n)) (hi : vp_in i n) (k : fc_T E y d cs sh (pc + 1) lv (.int (mi q i.toNatClampNeg) :: st) mi ml mr Q) : fc_T E y d cs sh pc lv (.int i :: .ref q :: st) mi ml mr Q :=
  fun p e s m args below meth c R Qf hC hR hret H locs ls hP hS hl => va_zald hC.1 hC.2.1 hC.2.2.2.2.2.2.2.1 hP q 2 (fc_ws_get hsh) rfl hi hd (k p e s m args below meth c R Qf hC hR hret H locs ls hP hS hl)
theorem fc_r_lald {q n : Nat} {i : Int32} (hd : decode y.2.1 pc = .ok (.laload, 1)) (hsh : sh[q]? = some (21, n)) (hi : vp_in i n) (k : fc_T E y d cs sh (pc + 1) lv (.long (ml q i.toNatClampNeg) :: st) mi ml mr Q) : fc_T E y d cs sh pc lv (.int i :: .ref q :: st) mi ml mr Q :=
  fun p e s m args below meth c R Qf hC hR hret H locs ls hP hS hl => va_lald hC.1 hC.2.1 hC.2.2.2.2.2.2.2.1 hP q 1 (fc_ws_get hsh) rfl hi hd (k p e s m args below meth c R Qf hC hR hret H locs ls hP hS hl)
theorem fc_r_aald24 {q n x : Nat} {i : Int32} (hd : decode y.2.1 pc = .ok (.aaload, 1)) (hsh : sh[q]? = some (24, n)) (hi : vp_in i n) (hx : mr q i.toNatClampNeg = some x) (k : fc_T E y d cs sh (pc + 1) lv (.ref x :: st) mi ml mr Q) : fc_T E y d cs sh pc lv (.int i :: .ref q :: st) mi ml mr Q := by
  intro p e s m args below meth c R Qf hC hR hret H locs ls hP hS hl
  have hlt : i.toNatClampNeg < n := Nat.not_le.mp fun q => hi (Or.inr q)
  have hw := hP q _ (fc_ws_get hsh)
  refine W.aald (v := .ref (E.2.2.2.1 + x)) (ty := .object "FirstChimney$State") hC.1 hC.2.1 hw ((hC.2.2.2.2.2.2.2.1.2 4 _ rfl).1 n (fun j => va_rf (fc_rows E.2.2.2.1 (mr q) j))) rfl (fun q => by cases q) (by show ¬ (i < 0 ∨ (arrV _ _ _).slots.size ≤ _); rw [arrV_size]; exact hi) (by show (arrV _ _ _).slots[_]? = _; rw [arrV_read _ _ hlt]; simp [fc_rows, hx, va_rf]) rfl rfl hd (k p e s m args below meth c R Qf hC hR hret H locs ls hP hS hl)
theorem fc_r_aald25 {q n x : Nat} {i : Int32} (hd : decode y.2.1 pc = .ok (.aaload, 1)) (hsh : sh[q]? = some (25, n)) (hi : vp_in i n) (hx : mr q i.toNatClampNeg = some x) (k : fc_T E y d cs sh (pc + 1) lv (.ref x :: st) mi ml mr Q) : fc_T E y d cs sh pc lv (.int i :: .ref q :: st) mi ml mr Q := by
  intro p e s m args below meth c R Qf hC hR hret H locs ls hP hS hl
  have hlt : i.toNatClampNeg < n := Nat.not_le.mp fun q => hi (Or.inr q)
  have hw := hP q _ (fc_ws_get hsh)
  refine W.aald (v := .ref (E.2.2.2.1 + x)) (ty := .object "FirstChimney$Seen") hC.1 hC.2.1 hw ((hC.2.2.2.2.2.2.2.1.2 5 _ rfl).1 n (fun j => va_rf (fc_rows E.2.2.2.1 (mr q) j))) rfl (fun q => by cases q) (by show ¬ (i < 0 ∨ (arrV _ _ _).slots.size ≤ _); rw [arrV_size]; exact hi) (by show (arrV _ _ _).slots[_]? = _; rw [arrV_read _ _ hlt]; simp [fc_rows, hx, va_rf]) rfl rfl hd (k p e s m args below meth c R Qf hC hR hret H locs ls hP hS hl)
theorem fc_r_aald26 {q n x : Nat} {i : Int32} (hd : decode y.2.1 pc = .ok (.aaload, 1)) (hsh : sh[q]? = some (26, n)) (hi : vp_in i n) (hx : mr q i.toNatClampNeg = some x) (k : fc_T E y d cs sh (pc + 1) lv (.ref x :: st) mi ml mr Q) : fc_T E y d cs sh pc lv (.int i :: .ref q :: st) mi ml mr Q := by
  intro p e s m args below meth c R Qf hC hR hret H locs ls hP hS hl
  have hlt : i.toNatClampNeg < n := Nat.not_le.mp fun q => hi (Or.inr q)
  have hw := hP q _ (fc_ws_get hsh)
  refine W.aald (v := .ref (E.2.2.2.1 + x)) (ty := .array .int) hC.1 hC.2.1 hw ((hC.2.2.2.2.2.2.2.1.2 6 _ rfl).1 n (fun j => va_rf (fc_rows E.2.2.2.1 (mr q) j))) rfl (fun q => by cases q) (by show ¬ (i < 0 ∨ (arrV _ _ _).slots.size ≤ _); rw [arrV_size]; exact hi) (by show (arrV _ _ _).slots[_]? = _; rw [arrV_read _ _ hlt]; simp [fc_rows, hx, va_rf]) rfl rfl hd (k p e s m args below meth c R Qf hC hR hret H locs ls hP hS hl)
theorem fc_r_iast {q n : Nat} {i x : Int32} (hd : decode y.2.1 pc = .ok (.iastore, 1)) (hsh : sh[q]? = some (20, n)) (hi : vp_in i n) (k : fc_T E y d cs sh (pc + 1) lv st (fc_u mi q i.toNatClampNeg x) ml mr Q) : fc_T E y d cs sh pc lv (.int x :: .int i :: .ref q :: st) mi ml mr Q := by
  intro p e s m args below meth c R Qf hC hR hret H locs ls hP hS hl
  refine va_iast hC.1 hC.2.1 hC.2.2.2.2.2.2.2.1 hP fc_ws_D hS q 0 (fc_ws_get hsh) rfl hi hd (fun H1 locs1 hP1 _ hS1 => k p e s m args below meth c R Qf hC hR hret H1 locs1 ls ?_ hS1 hl)
  rw [← fc_ws_set (E := E) (mi := mi) (ml := ml) (mr := mr) (mi' := fc_u mi q i.toNatClampNeg x) hsh (fun a h => fc_u_off _ _ _ h) (fun _ _ => rfl) (fun _ _ => rfl) rfl]
  show va_P _ _ ((fc_ws E sh mi ml mr).set q (_, .inl (_, _, .inl (fc_u mi q i.toNatClampNeg x q)))) H1
  rw [fc_u_row]
  exact hP1
theorem fc_r_cast {q n : Nat} {i x : Int32} (hd : decode y.2.1 pc = .ok (.castore, 1)) (hsh : sh[q]? = some (23, n)) (hi : vp_in i n) (k : fc_T E y d cs sh (pc + 1) lv st (fc_u mi q i.toNatClampNeg (vp_nar .char x)) ml mr Q) : fc_T E y d cs sh pc lv (.int x :: .int i :: .ref q :: st) mi ml mr Q := by
  intro p e s m args below meth c R Qf hC hR hret H locs ls hP hS hl
  refine va_cast hC.1 hC.2.1 hC.2.2.2.2.2.2.2.1 hP fc_ws_D hS q 3 (fc_ws_get hsh) rfl hi hd (fun H1 locs1 hP1 _ hS1 => k p e s m args below meth c R Qf hC hR hret H1 locs1 ls ?_ hS1 hl)
  rw [← fc_ws_set (E := E) (mi := mi) (ml := ml) (mr := mr) (mi' := fc_u mi q i.toNatClampNeg (vp_nar .char x)) hsh (fun a h => fc_u_off _ _ _ h) (fun _ _ => rfl) (fun _ _ => rfl) rfl]
  show va_P _ _ ((fc_ws E sh mi ml mr).set q (_, .inl (_, _, .inl (fc_u mi q i.toNatClampNeg (vp_nar .char x) q)))) H1
  rw [fc_u_row]
  exact hP1
theorem fc_r_zast {q n : Nat} {i x : Int32} (hd : decode y.2.1 pc = .ok (.bastore, 1)) (hsh : sh[q]? = some (22, n)) (hi : vp_in i n) (k : fc_T E y d cs sh (pc + 1) lv st (fc_u mi q i.toNatClampNeg (vp_nar .boolean x)) ml mr Q) : fc_T E y d cs sh pc lv (.int x :: .int i :: .ref q :: st) mi ml mr Q := by
  intro p e s m args below meth c R Qf hC hR hret H locs ls hP hS hl
  refine va_zast hC.1 hC.2.1 hC.2.2.2.2.2.2.2.1 hP fc_ws_D hS q 2 (fc_ws_get hsh) rfl hi hd (fun H1 locs1 hP1 _ hS1 => k p e s m args below meth c R Qf hC hR hret H1 locs1 ls ?_ hS1 hl)
  rw [← fc_ws_set (E := E) (mi := mi) (ml := ml) (mr := mr) (mi' := fc_u mi q i.toNatClampNeg (vp_nar .boolean x)) hsh (fun a h => fc_u_off _ _ _ h) (fun _ _ => rfl) (fun _ _ => rfl) rfl]
  show va_P _ _ ((fc_ws E sh mi ml mr).set q (_, .inl (_, _, .inl (fc_u mi q i.toNatClampNeg (vp_nar .boolean x) q)))) H1
  rw [fc_u_row]
  exact hP1
theorem fc_r_last {q n : Nat} {i : Int32} {x : Int64} (hd : decode y.2.1 pc = .ok (.lastore, 1)) (hsh : sh[q]? = some (21, n)) (hi : vp_in i n) (k : fc_T E y d cs sh (pc + 1) lv st mi (fc_u ml q i.toNatClampNeg x) mr Q) : fc_T E y d cs sh pc lv (.long x :: .int i :: .ref q :: st) mi ml mr Q := by
  intro p e s m args below meth c R Qf hC hR hret H locs ls hP hS hl
  refine va_last hC.1 hC.2.1 hC.2.2.2.2.2.2.2.1 hP fc_ws_D hS q 1 (fc_ws_get hsh) rfl hi hd (fun H1 locs1 hP1 _ hS1 => k p e s m args below meth c R Qf hC hR hret H1 locs1 ls ?_ hS1 hl)
  rw [← fc_ws_set (E := E) (mi := mi) (ml := ml) (mr := mr) (ml' := fc_u ml q i.toNatClampNeg x) hsh (fun _ _ => rfl) (fun a h => fc_u_off _ _ _ h) (fun _ _ => rfl) rfl]
  show va_P _ _ ((fc_ws E sh mi ml mr).set q (_, .inl (_, _, .inr (.inl (fc_u ml q i.toNatClampNeg x q))))) H1
  rw [fc_u_row]
  exact hP1
theorem fc_r_alenL {q n : Nat} (hd : decode y.2.1 pc = .ok (.arraylength, 1)) (hsh : sh[q]? = some (21, n)) (k : fc_T E y d cs sh (pc + 1) lv (.int (Int32.ofNat n) :: st) mi ml mr Q) : fc_T E y d cs sh pc lv (.ref q :: st) mi ml mr Q :=
  fun p e s m args below meth c R Qf hC hR hret H locs ls hP hS hl => va_alen hC.1 hC.2.1 hC.2.2.2.2.2.2.2.1 hP q 1 (fc_ws_get hsh) rfl rfl hd (k p e s m args below meth c R Qf hC hR hret H locs ls hP hS hl)
theorem fc_r_alenI {q n : Nat} (hd : decode y.2.1 pc = .ok (.arraylength, 1)) (hsh : sh[q]? = some (20, n)) (k : fc_T E y d cs sh (pc + 1) lv (.int (Int32.ofNat n) :: st) mi ml mr Q) : fc_T E y d cs sh pc lv (.ref q :: st) mi ml mr Q :=
  fun p e s m args below meth c R Qf hC hR hret H locs ls hP hS hl => va_alen hC.1 hC.2.1 hC.2.2.2.2.2.2.2.1 hP q 0 (fc_ws_get hsh) rfl rfl hd (k p e s m args below meth c R Qf hC hR hret H locs ls hP hS hl)
theorem fc_r_ret {v : Option Value} (hrt : fc_rt y pc v) (hq : Q v mi ml mr) : fc_T E y d cs sh pc lv v.toList mi ml mr Q := by
  intro p e s m args below meth c R Qf hC hR hret H locs ls hP hS hl
  have h := hret v mi ml mr H locs ls pc hq hP hS hrt
  cases v <;> exact h
theorem fc_r_ldcw {idx : Nat} {x : Int32} (hd : decode y.2.1 pc = .ok (.ldc_w idx, 3)) (hc : Cond.constant y.1.cls idx x ∈ fc_G) (k : fc_T E y d cs sh (pc + 3) lv (.int x :: st) mi ml mr Q) : fc_T E y d cs sh pc lv st mi ml mr Q :=
  fun p e s m args below meth c R Qf hC hR hret H locs ls hP hS hl => lv_ldcw hC.1 hC.2.1 hC.2.2.2.2.1 (hC.2.2.2.2.2.2.1 _ hc) hd (k p e s m args below meth c R Qf hC hR hret H locs ls hP hS hl)
theorem fc_r_sald {i : Int32} (hd : decode y.2.1 pc = .ok (.iaload, 1)) (hi : vp_in i E.2.2.2.2.2.2.1) (k : fc_T E y d cs sh (pc + 1) lv (.int (E.2.2.2.2.2.2.2 i.toNatClampNeg) :: st) mi ml mr Q) : fc_T E y d cs sh pc lv (.int i :: .float 5 :: st) mi ml mr Q := by
  intro p e s m args below meth c R Qf hC hR hret H locs ls hP hS hl
  obtain ⟨h1, h2, h3, h4, h5, h6, h7⟩ := hC.2.2.2.2.2.2.2
  have hlt : E.2.2.2.2.1 5 < s.heap.size := by
    obtain ⟨scr, g1, -⟩ := id h5
    exact (Array.getElem?_eq_some_iff.mp g1).1
  exact va_sld hC.1 hC.2.1 h5 hlt h6 hS hi hd (k p e s m args below meth c R Qf hC hR hret H locs ls hP hS hl)
theorem fc_r_gs0 {idx : Nat} (hd : decode y.2.1 pc = .ok (.getstatic idx, 3)) (hl0 : Cond.fieldLink y.1.cls idx "java/lang/String" "COMPACT_STRINGS" "Z" ∈ fc_G) (k : fc_T E y d cs sh (pc + 3) lv (.int 1 :: st) mi ml mr Q) : fc_T E y d cs sh pc lv st mi ml mr Q := by
  intro p e s m args below meth c R Qf hC hR hret H locs ls hP hS hl
  exact va_gets hC.1 hC.2.1 hC.2.2.2.2.2.2.2.2.2.2.2.2.2.1 hS hC.2.2.2.2.1 (hC.2.2.2.2.2.2.1 _ hl0) (fun _ h => h) hd (k p e s m args below meth c R Qf hC hR hret H locs ls hP hS hl)
theorem fc_r_gs1 {idx : Nat} (hd : decode y.2.1 pc = .ok (.getstatic idx, 3)) (hl0 : Cond.fieldLink y.1.cls idx "jdk/internal/util/Preconditions" "SIOOBE_FORMATTER" "Ljava/util/function/BiFunction;" ∈ fc_G) (k : fc_T E y d cs sh (pc + 3) lv (.null :: st) mi ml mr Q) (k2 : fc_T E y d cs sh (pc + 3) lv (.float 6 :: st) mi ml mr Q) : fc_T E y d cs sh pc lv st mi ml mr Q := by
  intro p e s m args below meth c R Qf hC hR hret H locs ls hP hS hl
  rcases hC.2.2.2.2.2.2.2.2.2.2.2.2.2.2.1 with hZ | hZ
  · exact va_gets hC.1 hC.2.1 hZ hS hC.2.2.2.2.1 (hC.2.2.2.2.2.2.1 _ hl0) (fun _ h => h) hd (k p e s m args below meth c R Qf hC hR hret H locs ls hP hS hl)
  · exact va_gets hC.1 hC.2.1 hZ hS hC.2.2.2.2.1 (hC.2.2.2.2.2.2.1 _ hl0) (fun _ h => h) hd (k2 p e s m args below meth c R Qf hC hR hret H locs ls hP hS hl)
theorem fc_r_gtv {idx : Nat} {u : UInt32} (hu : u.toNat < 5) (hd : decode y.2.1 pc = .ok (.getfield idx, 3)) (hl0 : Cond.fieldLink y.1.cls idx "java/lang/String" "value" "[B" ∈ fc_G) (k : fc_T E y d cs sh (pc + 3) lv (.retAddr u.toNat :: st) mi ml mr Q) : fc_T E y d cs sh pc lv (.float u :: st) mi ml mr Q := by
  intro p e s m args below meth c R Qf hC hR hret H locs ls hP hS hl
  obtain ⟨h1, h2, h3, h4, h5, h6, h7⟩ := hC.2.2.2.2.2.2.2
  exact vk_getf hC.1 hC.2.1 (h3.1 u.toNat hu).2.2.1 hS hC.2.2.2.2.1 (hC.2.2.2.2.2.2.1 _ hl0) (fun _ h => h) hd (k p e s m args below meth c R Qf hC hR hret H locs ls hP hS hl)
theorem fc_r_gtc {idx : Nat} {u : UInt32} (hu : u.toNat < 5) (hd : decode y.2.1 pc = .ok (.getfield idx, 3)) (hl0 : Cond.fieldLink y.1.cls idx "java/lang/String" "coder" "B" ∈ fc_G) (k : fc_T E y d cs sh (pc + 3) lv (.int 0 :: st) mi ml mr Q) : fc_T E y d cs sh pc lv (.float u :: st) mi ml mr Q := by
  intro p e s m args below meth c R Qf hC hR hret H locs ls hP hS hl
  obtain ⟨h1, h2, h3, h4, h5, h6, h7⟩ := hC.2.2.2.2.2.2.2
  exact vk_getf hC.1 hC.2.1 (h3.1 u.toNat hu).2.1 hS hC.2.2.2.2.1 (hC.2.2.2.2.2.2.1 _ hl0) (fun _ h => h) hd (k p e s m args below meth c R Qf hC hR hret H locs ls hP hS hl)
theorem fc_r_tald {i : Int32} {q : Nat} (hq : q < 5) (hd : decode y.2.1 pc = .ok (.baload, 1)) (hi : vp_in i (fc_tl.getD q 0)) (k : fc_T E y d cs sh (pc + 1) lv (.int ((fc_tb.getD q []).getD i.toNatClampNeg 0) :: st) mi ml mr Q) : fc_T E y d cs sh pc lv (.int i :: .retAddr q :: st) mi ml mr Q := by
  intro p e s m args below meth c R Qf hC hR hret H locs ls hP hS hl
  obtain ⟨h1, h2, h3, h4, h5, h6, h7⟩ := hC.2.2.2.2.2.2.2
  exact va_tb hC.1 hC.2.1 (h3.1 q hq).2.2.2 hS hi rfl hd (k p e s m args below meth c R Qf hC hR hret H locs ls hP hS hl)
theorem fc_r_tlen {q : Nat} (hq : q < 5) (hd : decode y.2.1 pc = .ok (.arraylength, 1)) (k : fc_T E y d cs sh (pc + 1) lv (.int (Int32.ofNat (fc_tl.getD q 0)) :: st) mi ml mr Q) : fc_T E y d cs sh pc lv (.retAddr q :: st) mi ml mr Q := by
  intro p e s m args below meth c R Qf hC hR hret H locs ls hP hS hl
  obtain ⟨h1, h2, h3, h4, h5, h6, h7⟩ := hC.2.2.2.2.2.2.2
  obtain ⟨cell, g1, g2, g3, g4, g5, g6, g7⟩ := ((h3.1 q hq).2.2.2).kept hS.2.1
  exact W.alen hC.1 hC.2.1 g1 g2 g5 rfl rfl hd (k p e s m args below meth c R Qf hC hR hret H locs ls hP hS hl)
theorem fc_r_slen (hd : decode y.2.1 pc = .ok (.arraylength, 1)) (k : fc_T E y d cs sh (pc + 1) lv (.int (Int32.ofNat E.2.2.2.2.2.2.1) :: st) mi ml mr Q) : fc_T E y d cs sh pc lv (.float 5 :: st) mi ml mr Q := by
  intro p e s m args below meth c R Qf hC hR hret H locs ls hP hS hl
  obtain ⟨h1, h2, h3, h4, h5, h6, h7⟩ := hC.2.2.2.2.2.2.2
  have hlt : E.2.2.2.2.1 5 < s.heap.size := by
    obtain ⟨scr, g1, -⟩ := id h5
    exact (Array.getElem?_eq_some_iff.mp g1).1
  exact va_slen hC.1 hC.2.1 h5 hlt h6 hS hd (k p e s m args below meth c R Qf hC hR hret H locs ls hP hS hl)
theorem fc_r_ldc {idx : Nat} {x : Int32} (hd : decode y.2.1 pc = .ok (.ldc idx, 2)) (hc : Cond.constant y.1.cls idx x ∈ fc_G) (k : fc_T E y d cs sh (pc + 2) lv (.int x :: st) mi ml mr Q) : fc_T E y d cs sh pc lv st mi ml mr Q :=
  fun p e s m args below meth c R Qf hC hR hret H locs ls hP hS hl => lv_ldc hC.1 hC.2.1 hC.2.2.2.2.1 (hC.2.2.2.2.2.2.1 _ hc) hd (k p e s m args below meth c R Qf hC hR hret H locs ls hP hS hl)
theorem fc_r_ldc2 {idx : Nat} {x : Int64} (hd : decode y.2.1 pc = .ok (.ldc2_w idx, 3)) (hc : Cond.constantLong y.1.cls idx x ∈ fc_G) (k : fc_T E y d cs sh (pc + 3) lv (.long x :: st) mi ml mr Q) : fc_T E y d cs sh pc lv st mi ml mr Q :=
  fun p e s m args below meth c R Qf hC hR hret H locs ls hP hS hl => lv_ldc2 hC.1 hC.2.1 hC.2.2.2.2.1 (hC.2.2.2.2.2.2.1 _ hc) hd (k p e s m args below meth c R Qf hC hR hret H locs ls hP hS hl)
end R2
