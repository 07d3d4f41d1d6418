/-! ===== new objects, final fields, calls of constructors, arrays of references ===== -/
theorem fc_fs_z (base : Nat) : ∀ (ts : List Nat) (j : Nat), fc_fs base (fun _ => 0) (fun _ => 0) (fun _ => none) j ts = fc_fs 0 (fun _ => 0) (fun _ => 0) (fun _ => none) j ts
  | [], _ => rfl
  | t :: ts, j => by
    have e : fc_fv base (fun _ => 0) (fun _ => 0) (fun _ => none) j t = fc_fv 0 (fun _ => 0) (fun _ => 0) (fun _ => none) j t := by unfold fc_fv; split <;> rfl
    rw [fc_fs, fc_fs, e, fc_fs_z base ts (j + 1)]
/-- what is said of a class that is made -/
def fc_nok (ci : Nat) (r : vw_C) : Prop := vwCl[ci]? = some r ∧ ci < 20 ∧ Cond.instantiable r.1 r.2.2 ∈ fc_G ∧ Cond.initialized r.1 ∈ fc_G ∧ ∀ j, j < r.2.2 → (parseFieldDescriptor (r.2.1 j).2.2.1).map defaultValue = some (vp_V (fc_fs 0 (fun _ => 0) (fun _ => 0) (fun _ => none) 0 (fc_ft ci)) j)
theorem nkX0 : fc_nok 0 (RX0, TX0, 15) := ⟨rfl, by decide, fc_G_of 334 (by decide +kernel) rfl, fc_G_of 114 (by decide +kernel) rfl, by decide +kernel⟩
theorem nkX1 : fc_nok 1 (RX1, TX1, 3) := ⟨rfl, by decide, fc_G_of 181 (by decide +kernel) rfl, fc_G_of 108 (by decide +kernel) rfl, by decide +kernel⟩
theorem nkX2 : fc_nok 2 (RX2, TX2, 3) := ⟨rfl, by decide, fc_G_of 340 (by decide +kernel) rfl, fc_G_of 115 (by decide +kernel) rfl, by decide +kernel⟩
theorem nkX3 : fc_nok 3 (RX3, TX3, 4) := ⟨rfl, by decide, fc_G_of 187 (by decide +kernel) rfl, fc_G_of 109 (by decide +kernel) rfl, by decide +kernel⟩
theorem nkX4 : fc_nok 4 (RX4, TX4, 6) := ⟨rfl, by decide, fc_G_of 278 (by decide +kernel) rfl, fc_G_of 112 (by decide +kernel) rfl, by decide +kernel⟩
theorem nkX5 : fc_nok 5 (RX5, TX5, 4) := ⟨rfl, by decide, fc_G_of 447 (by decide +kernel) rfl, fc_G_of 116 (by decide +kernel) rfl, by decide +kernel⟩
theorem nkX6 : fc_nok 6 (RX6, TX6, 4) := ⟨rfl, by decide, fc_G_of 288 (by decide +kernel) rfl, fc_G_of 113 (by decide +kernel) rfl, by decide +kernel⟩
theorem nkX7 : fc_nok 7 (RX7, TX7, 9) := ⟨rfl, by decide, fc_G_of 236 (by decide +kernel) rfl, fc_G_of 111 (by decide +kernel) rfl, by decide +kernel⟩
theorem nkX8 : fc_nok 8 (RX8, TX8, 8) := ⟨rfl, by decide, fc_G_of 140 (by decide +kernel) rfl, fc_G_of 107 (by decide +kernel) rfl, by decide +kernel⟩
theorem nkX9 : fc_nok 9 (RX9, TX9, 3) := ⟨rfl, by decide, fc_G_of 217 (by decide +kernel) rfl, fc_G_of 110 (by decide +kernel) rfl, by decide +kernel⟩
theorem nkX10 : fc_nok 10 (RX10, TX10, 12) := ⟨rfl, by decide, fc_G_of 132 (by decide +kernel) rfl, fc_G_of 106 (by decide +kernel) rfl, by decide +kernel⟩
theorem nkX11 : fc_nok 11 (RX11, TX11, 30) := ⟨rfl, by decide, fc_G_of 1287 (by decide +kernel) rfl, fc_G_of 117 (by decide +kernel) rfl, by decide +kernel⟩
theorem fc_oi1 : Cond.instanceMethod Lib.objectInit ∈ fc_G := fc_G_of 137 (by decide +kernel) rfl
theorem fc_oi2 : Cond.code Lib.objectInit ⟨#[0xb1]⟩ 1 none ∈ fc_G := fc_G_of 138 (by decide +kernel) rfl
/-- THE CONTRACT of a constructor: it makes mc cells, shape sh becomes shF -/
def fc_RN (E : fc_E) (y : fc_M) (d mc ms : Nat) (sh shF : fc_Sh) (As : List Value) (mi : fc_Mi) (ml : fc_Ml) (mr : fc_Mr) (Q : fc_Q) : Prop :=
  Met E.1 y.1 (fc_w y) (fc_rmN d mc ms) (va_Pc (As.map (fc_v E)) (fun U => va_P E.2.1 vwCl (fc_ws E sh mi ml mr) U.heap ∧ fc_K E U ∧ fc_AO U ∧ U.heap.size = E.2.2.2.1 + sh.length)) (fc_Qc E shF Q) mc ms (fc_A E)
/-- a row of the new table -/
theorem fc_mlt {E : fc_E} {U : State} {n : Nat} {comp : ClassId} {f : Nat → Int32} {g : Nat → Int64} {h : Nat → Option Nat} {cc : Cell} (hf : f = fun _ => 0) (hcm : comp = E.2.2.1 0) (hin : cc = arrV comp 7 (fun _ => .int 0)) (hU : U.heap[E.2.2.2.1 + n]? = some cc) : va_at E.2.1 vwCl (E.2.2.2.1 + n, fc_cell E.2.2.2.1 E.2.2.1 f g h (20, 7)) U.heap := by
  subst hf
  show U.heap[_]? = some (vp_cell _ _)
  rw [hU, hin, hcm]
  rfl
section N2
variable {E : fc_E} {y : fc_M} {d : Nat} {tot : Nat × Nat} {shF : fc_Sh} {b : Bool} {cs : Nat × Nat} {sh : fc_Sh} {pc : Nat} {lv : List (Option Value)} {st : List Value} {mi : fc_Mi} {ml : fc_Ml} {mr : fc_Mr} {Q Q' : fc_Q}
theorem fc_n_new {idx ci : Nat} {r : vw_C} (hd : decode y.2.1 pc = .ok (.new idx, 3)) (hnk : fc_nok ci r) (hclink : Cond.classLink y.1.cls idx r.1 ∈ fc_G) (h1 : cs.1 + 1 ≤ tot.1) (h2 : cs.2 + r.2.2 ≤ tot.2) (hf : fc_f0 sh.length mi ml mr)
    (k : fc_TN E y d tot shF true (cs.1 + 1, cs.2 + r.2.2) (sh ++ [(ci, 0)]) (pc + 3) lv (.ref sh.length :: st) mi ml mr Q) : fc_TN E y d tot shF true cs sh pc lv st mi ml mr Q := by
  intro p e s m args below meth c R Qf hC hR hZ hret H locs ls hP hS hl T hT X
  have hsz := fc_hsz hZ hP hS hT X
  obtain ⟨hx, hb, hr, hlk, hown, hml, hts, hK⟩ := id hC
  obtain ⟨hc, hci, hins, hini, hfs⟩ := hnk
  have hKn := hK.1.1 ci _ hc
  refine (show W p E.1 e R s m args below meth c H locs cs.1 cs.2 Qf (F0 m pc ls (st.map (fc_v E))) from ?_) T hT X
  refine W.newcK (h := E.2.2.2.1 + sh.length) hx hb hown (hts _ hclink) (hts _ hins) (hts _ hini) rfl hd (Nat.le_trans h1 hZ.1.1) (Nat.le_trans h2 hZ.1.2) hKn.2.1 hsz (fun H1 kC hkC e1 z1 o1 => ?_)
  have o2 : ∀ q, q < H.size → H1[q]? = H[q]? := fun q hq => o1 q (by rw [← hsz]; exact hq)
  refine k p e s m args below meth c R Qf hC (fc_RmUp hR hZ h1 h2) (fc_ZzUp hZ rfl (by omega)) hret H1 locs ls (fc_pushP hP o2 ?_) (fc_pushS hS (by omega) o2) hl
  obtain ⟨f1, f2, f3⟩ := hf _ (Nat.le_refl _)
  rw [f1, f2, f3, fc_cell_obj hci, fc_fs_z]
  obtain ⟨ty0, hty0, hnm⟩ := (fc_cls hc).2
  refine ⟨_, hc, (u_born ty0 hts (fc_cls hc).1 hKn hkC e1 hty0).to (fun j hj => ?_)⟩
  have h := hfs j hj
  rw [hty0 j hj] at h
  exact Option.some.inj h
theorem fc_n_putF {ci idx q j x : Nat} {r : vw_C} {ty : FieldType} (hd : decode y.2.1 pc = .ok (.putfield idx, 3)) (hc : vwCl[ci]? = some r) (hci : ci < 20) (hj : j < r.2.2) (hlink : Cond.fieldLink y.1.cls idx (r.2.1 j).1 (r.2.1 j).2.1 (r.2.1 j).2.2.1 ∈ fc_G) (ht : (fc_ft ci)[j]? = some 2) (hsh : sh[q]? = some (ci, 0))
    (hfin : (r.2.1 j).2.2.2 = true) (hinit : y.1.name = "<init>") (hdecl : (r.2.1 j).1 = y.1.cls) (hty : parseFieldDescriptor (r.2.1 j).2.2.1 = some ty) (hr : ty.isReference = true) (k : fc_TN E y d tot shF b cs sh (pc + 3) lv st mi ml (fc_u mr q j (some x)) Q) : fc_TN E y d tot shF b cs sh pc lv (.ref x :: .ref q :: st) mi ml mr Q := by
  intro p e s m args below meth c R Qf hC hR hZ hret H locs ls hP hS hl
  obtain ⟨hx, hb, hr0, hlk, hown, hml, hts, hK⟩ := id hC
  have hw := fc_ws_get (E := E) (mi := mi) (ml := ml) (mr := mr) hsh
  rw [fc_cell_obj hci] at hw
  obtain ⟨ty0, hty0, hnm⟩ := (fc_cls hc).2
  have he : (fc_fs E.2.2.2.1 (mi q) (ml q) (mr q) 0 (fc_ft ci)).set j (.ref (E.2.2.2.1 + x)) = fc_fs E.2.2.2.1 (mi q) (ml q) (fc_u mr q j (some x) q) 0 (fc_ft ci) := by
    refine fc_fs_set ht ?_ (fun a h => ⟨rfl, rfl, ?_⟩)
    · show va_rf ((fc_u mr q j (some x) q j).map (E.2.2.2.1 + ·)) = .ref (E.2.2.2.1 + x)
      rw [fc_u_row]; simp [va_rf]
    · rw [fc_u_row]; simp [h]
  refine va_putF (ci := ci) (C := r.1) (T := r.2.1) (N := r.2.2) (ty := ty) (v := .ref (E.2.2.2.1 + x)) hx hb hts (fc_cls hc).1 ty0 hty0 hnm hown hK.1 hP fc_ws_D hS q hw hc j hj (hts _ hlink) (fun _ h => h) hfin (hZ.2.1 hinit) hdecl hty (by cases ty <;> first | rfl | cases hr) (by cases ty <;> first | rfl | cases hr) (by rw [fc_fs_len]; exact (List.getElem?_eq_some_iff.mp ht).1) hd (fun H1 locs1 hP1 _ hS1 => ?_)
  refine k p e s m args below meth c R Qf hC hR hZ hret H1 locs1 ls ?_ hS1 hl
  rw [← fc_ws_set (E := E) (mi := mi) (ml := ml) (mr := mr) hsh (fun _ _ => rfl) (fun _ _ => rfl) (fun a h => fc_u_off _ _ _ h) (e := .inr (ci, (fc_fs E.2.2.2.1 (mi q) (ml q) (mr q) 0 (fc_ft ci)).set j (.ref (E.2.2.2.1 + x)))) (by rw [fc_cell_obj hci, he])]
  exact hP1
theorem fc_n_oinit {idx q : Nat} (hd : decode y.2.1 pc = .ok (.invokespecial idx, 3)) (hlink : Cond.methodLink y.1.cls idx Lib.objectInit ∈ fc_G) (hroom : (st.map fun v => v.category).sum ≤ 8) (k : fc_TN E y d tot shF b cs sh (pc + 3) lv st mi ml mr Q) : fc_TN E y d tot shF b cs sh pc lv (.ref q :: st) mi ml mr Q := by
  intro p e s m args below meth c R Qf hC hR hZ hret H locs ls hP hS hl
  obtain ⟨hx, hb, hr0, hlk, hown, hml, hts, hK⟩ := id hC
  have hrm := lv_room (m := m) (pc := pc) (ls := ls) (rest := (.ref q :: st).map (fc_v E)) (st := st.map (fc_v E)) (by rw [fc_sum]; exact hroom)
  refine W.objInit hx hb hown (hts _ hlink) (hts _ fc_oi1) (hts _ fc_oi2) rfl (hl.1.trans hml.symm) (a := E.2.2.2.1 + q) (rest := st.map (fc_v E)) rfl hd (by have := hR.1; omega) (by have := hR.2.1; omega) ?_
  exact k p e s m args below meth c R Qf hC hR hZ hret H locs ls hP hS hl
theorem fc_n_ret {v : Option Value} (hrt : fc_rt y pc v) (hq : Q v mi ml mr) (h1 : cs.1 ≤ tot.1) (h2 : cs.2 ≤ tot.2) : fc_TN E y d tot shF b cs shF pc lv v.toList mi ml mr Q := by
  intro p e s m args below meth c R Qf hC hR hZ hret H locs ls hP hS hl
  have h := W.widen h1 h2 (hret v mi ml mr H locs ls pc hq hP hS hrt)
  cases v <;> exact h
theorem fc_n_fall (k : fc_T E y d cs sh pc lv st mi ml mr Q) : fc_TN E y d cs sh b cs sh pc lv st mi ml mr Q := fun p e s m args below meth c R Qf hC hR hZ hret H locs ls hP hS hl => k p e s m args below meth c R Qf hC hR hret H locs ls hP hS hl
theorem fc_n_off (k : fc_TN E y d tot shF false cs sh pc lv st mi ml mr Q) : fc_TN E y d tot shF b cs sh pc lv st mi ml mr Q := fun p e s m args below meth c R Qf hC hR hZ hret H locs ls hP hS hl => k p e s m args below meth c R Qf hC hR ⟨hZ.1, hZ.2.1, hZ.2.2.1, fun h => by cases h⟩ hret H locs ls hP hS hl
theorem fc_n_anew {κ t0 idx N : Nat} {n : Int32} {C : String} (hd : decode y.2.1 pc = .ok (.anewarray idx, 3)) (hκ : ∀ (f : Nat → Int32) (g : Nat → Int64) (h : Nat → Option Nat), fc_cell E.2.2.2.1 E.2.2.1 f g h (κ, N) = .inl (E.2.2.1 t0, N, .inr (.inr (.inr (.inr (fc_rows E.2.2.2.1 h)))))) (htt : (fc_tys E.2.2.1)[t0]? = some (E.2.2.1 t0, .object C)) (hao : ∀ U : State, fc_AO U → va_AO C U)
    (hclink : Cond.classLink y.1.cls idx C ∈ fc_G) (hN : n = nI N) (hN2 : N ≤ 10000) (h1 : cs.1 + 1 ≤ tot.1) (h2 : cs.2 + N ≤ tot.2) (hf : fc_f0 sh.length mi ml mr) (k : fc_TN E y d tot shF true (cs.1 + 1, cs.2 + N) (sh ++ [(κ, N)]) (pc + 3) lv (.ref sh.length :: st) mi ml mr Q) : fc_TN E y d tot shF true cs sh pc lv (.int n :: st) mi ml mr Q := by
  intro p e s m args below meth c R Qf hC hR hZ hret H locs ls hP hS hl T hT X
  have hsz := fc_hsz hZ hP hS hT X
  obtain ⟨hx, hb, hr, hlk, hown, hml, hts, hK⟩ := id hC
  have hcl : n.toNatClampNeg = N := by subst hN; exact nI_clamp (by omega)
  have hng : ¬ n < 0 := by subst hN; exact nI_pos (by omega)
  refine (show W p E.1 e R s m args below meth c H locs cs.1 cs.2 Qf (F0 m pc ls ((.int n :: st).map (fc_v E))) from ?_) T hT X
  refine W.anew hx hb hown (hts _ hclink) (va_AO.use (hao _ hZ.2.2.1)) rfl hd rfl hng (by rw [hcl]; omega) (Nat.le_trans h1 hZ.1.1) (by rw [hcl]; exact Nat.le_trans h2 hZ.1.2) (fun cA kA comp f1 f2 f3 f4 => ?_)
  rw [hcl]
  generalize hH1 : H.push ({ cls := cA, slots := Array.replicate N .null, vm := .none } : Cell) = H1
  have z1 : H1.size = H.size + 1 := by rw [← hH1, Array.size_push]
  have e1 : H1[H.size]? = some (arrV cA N (fun _ => .null)) := by rw [← hH1, Array.getElem?_push_size, ← arrV_new]
  have o2 : ∀ q : Nat, q < H.size → H1[q]? = H[q]? := fun q hq => by rw [← hH1, Array.getElem?_push, if_neg (Nat.ne_of_lt hq)]
  obtain ⟨kA', comp', g1, g2, g3, g4⟩ := (hK.1.2 t0 _ htt).2
  have hcA : cA = E.2.2.1 t0 := Option.some.inj (f1.symm.trans g4)
  have hv : Value.ref H.size = fc_v E (.ref sh.length) := by rw [hsz]; rfl
  rw [hv]
  refine k p e s m args below meth c R Qf hC (fc_RmUp hR hZ h1 h2) (fc_ZzUp hZ rfl (by omega)) hret H1 locs ls (fc_pushP hP o2 ?_) (fc_pushS hS (by omega) o2) hl
  obtain ⟨q1, q2, q3⟩ := hf _ (Nat.le_refl _)
  rw [q1, q2, q3, hκ]
  show H1[_]? = some (vp_cell _ _)
  rw [← hsz, ← hcA]
  exact e1
theorem fc_n_aast {κ t0 q n x ci : Nat} {r : vw_C} {i : Int32} (hd : decode y.2.1 pc = .ok (.aastore, 1)) (hκ : ∀ (f : Nat → Int32) (g : Nat → Int64) (h : Nat → Option Nat), fc_cell E.2.2.2.1 E.2.2.1 f g h (κ, n) = .inl (E.2.2.1 t0, n, .inr (.inr (.inr (.inr (fc_rows E.2.2.2.1 h)))))) (htt : (fc_tys E.2.2.1)[t0]? = some (E.2.2.1 t0, .object r.1)) (hsh : sh[q]? = some (κ, n)) (hc : vwCl[ci]? = some r) (hci : ci < 20) (hx0 : sh[x]? = some (ci, 0)) (hi : vp_in i n)
    (k : fc_TN E y d tot shF b cs sh (pc + 1) lv st mi ml (fc_u mr q i.toNatClampNeg (some x)) Q) : fc_TN E y d tot shF b cs sh pc lv (.ref x :: .int i :: .ref q :: st) mi ml mr Q := by
  intro p e s m args below meth c R Qf hC hR hZ hret H locs ls hP hS hl
  obtain ⟨hx, hb, hr0, hlk, hown, hml, hts, hK⟩ := id hC
  have ha := fc_ws_get (E := E) (mi := mi) (ml := ml) (mr := mr) hsh
  rw [hκ] at ha
  have hv := fc_ws_get (E := E) (mi := mi) (ml := ml) (mr := mr) hx0
  rw [fc_cell_obj hci] at hv
  refine va_astq hx hb hK.1 hP fc_ws_D hS q t0 x ci ha htt hv hc hi hd (fun H1 locs1 hP1 _ hS1 => k p e s m args below meth c R Qf hC hR hZ hret H1 locs1 ls ?_ hS1 hl)
  have hrow : fc_rows E.2.2.2.1 (fc_u mr q i.toNatClampNeg (some x) q) = va_up (fc_rows E.2.2.2.1 (mr q)) i.toNatClampNeg (some (E.2.2.2.1 + x)) := by
    funext j
    unfold fc_rows va_up
    rw [fc_u_row]
    by_cases h : j = i.toNatClampNeg
    · simp [h]
    · simp [h]
  rw [← fc_ws_set (E := E) (mi := mi) (ml := ml) (mr := mr) (mr' := fc_u mr q i.toNatClampNeg (some x)) hsh (fun _ _ => rfl) (fun _ _ => rfl) (fun a h => fc_u_off _ _ _ h) (e := .inl (E.2.2.1 t0, n, .inr (.inr (.inr (.inr (va_up (fc_rows E.2.2.2.1 (mr q)) i.toNatClampNeg (some (E.2.2.2.1 + x)))))))) (by rw [hκ, hrow])]
  exact hP1
theorem fc_ws_apps {l : fc_Sh} : fc_ws E (sh ++ l) mi ml mr = fc_ws E sh mi ml mr ++ l.mapIdx (fun k c => (E.2.2.2.1 + (k + sh.length), fc_cell E.2.2.2.1 E.2.2.1 (mi (k + sh.length)) (ml (k + sh.length)) (mr (k + sh.length)) c)) := by
  simp [fc_ws, List.mapIdx_append]
theorem fc_ws_off {mr' : fc_Mr} (h : ∀ k, k < sh.length → mr' k = mr k) : fc_ws E sh mi ml mr' = fc_ws E sh mi ml mr := by
  apply List.ext_getElem?
  intro i
  simp only [fc_ws, List.getElem?_mapIdx]
  cases hs : sh[i]? with
  | none => rfl
  | some c => rw [h i (fc_shl hs)]
theorem fc_n_multi {idx : Nat} (hd : decode y.2.1 pc = .ok (.multianewarray idx 2, 4)) (hclink : Cond.classLink y.1.cls idx ("[" ++ (FieldType.array .int).toString) ∈ fc_G) (h1 : cs.1 + 8 ≤ tot.1) (h2 : cs.2 + 56 ≤ tot.2) (hf : fc_f0 sh.length mi ml mr)
    (k : fc_TN E y d tot shF true (cs.1 + 8, cs.2 + 56) (sh ++ [(26, 7), (20, 7), (20, 7), (20, 7), (20, 7), (20, 7), (20, 7), (20, 7)]) (pc + 4) lv (.ref sh.length :: st) mi ml (fc_ur mr sh.length (fun j => if j < 7 then some (sh.length + 1 + j) else none)) Q) : fc_TN E y d tot shF true cs sh pc lv (.int 7 :: .int 7 :: st) mi ml mr Q := by
  intro p e s m args below meth c R Qf hC hR hZ hret H locs ls hP hS hl T hT X
  have hsz := fc_hsz hZ hP hS hT X
  obtain ⟨hx, hb, hr, hlk, hown, hml, hts, hK⟩ := id hC
  have h7 : (7 : Int32).toNatClampNeg = 7 := by decide
  have hc1 := Nat.le_trans h1 hZ.1.1
  have hc2 := Nat.le_trans h2 hZ.1.2
  obtain ⟨vm₁, cA, comp, hW, hfA, hfC, X1, step⟩ := mu_step (w := 7) (N := 7) (g := F0 m pc ls ((.int 7 :: .int 7 :: st).map (fc_v E))) (rest := st.map (fc_v E)) X hx hown (hts _ hclink) hZ.2.2.1.2.2.1 (hts _ (fc_G_of 205 (by decide +kernel) rfl)) rfl (by rw [hb]; exact hd) rfl (by decide) h7 (by decide) (by omega) (by omega)
  obtain ⟨f1, f2, f3, f4, fo, fi⟩ := mu_f (T.setVm vm₁) cA comp 7 7
  generalize hU : mu_S (T.setVm vm₁) cA comp 7 7 = U at X1 step f1 f2 f3 f4 fo fi
  have hTs : (T.setVm vm₁).heap.size = E.2.2.2.1 + sh.length := by rw [← hsz, ← hT]; rfl
  rw [hTs] at f1 f2 fi
  have hcA : cA = E.2.2.1 6 := Option.some.inj (hfA.symm.trans (hK.1.2 6 _ rfl).2)
  have hcm : comp = E.2.2.1 0 := Option.some.inj (hfC.symm.trans (hK.1.2 0 _ rfl).2)
  have o2 : ∀ q : Nat, q < H.size → U.heap[q]? = H[q]? := fun q hq => by rw [fo q (by show q < T.heap.size; rw [hT]; exact hq), ← hT]; rfl
  have hz : H.size ≤ U.heap.size := by omega
  have hout : mu_o cA (E.2.2.2.1 + sh.length) 7 7 = arrV cA 7 (fun j => va_rf (fc_rows E.2.2.2.1 (fun j => if j < 7 then some (sh.length + 1 + j) else none) j)) := by
    unfold mu_o
    refine congrArg (arrV cA 7) (funext fun j => ?_)
    show (if j < 7 then Value.ref (E.2.2.2.1 + sh.length + 1 + j) else .null) = va_rf ((if j < 7 then some (sh.length + 1 + j) else none).map (E.2.2.2.1 + ·))
    by_cases h7 : j < 7
    · rw [if_pos h7, if_pos h7]
      exact congrArg Value.ref (show E.2.2.2.1 + sh.length + 1 + j = E.2.2.2.1 + (sh.length + 1 + j) by omega)
    · rw [if_neg h7, if_neg h7]; rfl
  have hin : arrV comp 7 (fun _ => Value.int 0) = arrV comp 7 (fun _ => .int 0) := rfl
  have hk := k p e s m args below meth c R Qf hC (fc_RmUp hR hZ h1 h2) (fc_ZzUp hZ rfl (by omega)) hret U.heap locs ls ?_ (fc_pushS hS hz o2) hl
  · obtain ⟨t, a1, b1⟩ := hk U rfl X1
    refine ⟨t, step t ?_, b1⟩
    have e1 : T.heap.size = E.2.2.2.1 + sh.length := by rw [hT]; exact hsz
    rw [e1]
    exact a1
  · rw [fc_ws_apps]
    refine va_P.app ?_ ?_
    · rw [fc_ws_off (mr := mr) (fun k hk => fc_ur_off _ _ (by omega))]
      exact hP.kept (fun k q hk => o2 q.1 ((hP k q hk).lt))
    · intro j q hq
      rw [List.getElem?_mapIdx] at hq
      match j, hq with
      | 0, hq =>
        cases hq
        rw [Nat.zero_add, fc_ur_row]
        show U.heap[_]? = some (vp_cell _ _)
        rw [f2, hout, hcA]
        rfl
      | 1, hq => cases hq; exact fc_mlt (hf _ (by omega)).1 hcm hin (by rw [show 1 + sh.length = sh.length + 1 + 0 by omega, ← Nat.add_assoc, ← Nat.add_assoc]; exact fi 0 (by omega))
      | 2, hq => cases hq; exact fc_mlt (hf _ (by omega)).1 hcm hin (by rw [show 2 + sh.length = sh.length + 1 + 1 by omega, ← Nat.add_assoc, ← Nat.add_assoc]; exact fi 1 (by omega))
      | 3, hq => cases hq; exact fc_mlt (hf _ (by omega)).1 hcm hin (by rw [show 3 + sh.length = sh.length + 1 + 2 by omega, ← Nat.add_assoc, ← Nat.add_assoc]; exact fi 2 (by omega))
      | 4, hq => cases hq; exact fc_mlt (hf _ (by omega)).1 hcm hin (by rw [show 4 + sh.length = sh.length + 1 + 3 by omega, ← Nat.add_assoc, ← Nat.add_assoc]; exact fi 3 (by omega))
      | 5, hq => cases hq; exact fc_mlt (hf _ (by omega)).1 hcm hin (by rw [show 5 + sh.length = sh.length + 1 + 4 by omega, ← Nat.add_assoc, ← Nat.add_assoc]; exact fi 4 (by omega))
      | 6, hq => cases hq; exact fc_mlt (hf _ (by omega)).1 hcm hin (by rw [show 6 + sh.length = sh.length + 1 + 5 by omega, ← Nat.add_assoc, ← Nat.add_assoc]; exact fi 5 (by omega))
      | 7, hq => cases hq; exact fc_mlt (hf _ (by omega)).1 hcm hin (by rw [show 7 + sh.length = sh.length + 1 + 6 by omega, ← Nat.add_assoc, ← Nat.add_assoc]; exact fi 6 (by omega))
      | j + 8, hq => simp at hq
theorem fc_metN {mc ms : Nat} {As : List Value} (hy : plainName y.1.cls = true) (hn : (lg_sl As).length ≤ y.2.2.1)
    (h : fc_TN E y d (mc, ms) shF true (0, 0) sh 0 (fc_l1 y.2.2.1 As) [] mi ml mr Q) : fc_RN E y d mc ms sh shF As mi ml mr Q := by
  refine Met.ofW (cc := y.2.1) (maxL := y.2.2.1) (ret := y.2.2.2) hy rfl ?_
  intro p e s m args below meth c s₁ B hml hv
  obtain ⟨rfl, hP, hK, hA, hsz⟩ := hv
  have hts := atoms_spec (ws := fc_w y) B.pre
  have hown : s.vm.findClass y.1.cls = some m.cls := findClass_of_methodNamed B.named
  have hlocks := B.notSynchronized
  have hl := lv_entry (As.map (fc_v E)) (n := y.2.2.1) (by rw [fc_lsl]; exact hn)
  rw [lg_entry_eq]
  refine h p e s m _ below meth c (fc_rmN d mc ms) _ ⟨B.exec, B.bytes, B.returns, hlocks, hown, hml, fun w hw => hts w (List.mem_cons_of_mem _ hw), hK⟩ ⟨Nat.le_refl _, Nat.le_refl _, Nat.zero_le _, Nat.zero_le _⟩ ⟨⟨Nat.le_refl _, Nat.le_refl _⟩, fun q => ((name_of_methodNamed B.named B.method).1).trans q, hA, fun _ => ⟨hsz, Or.inr rfl⟩⟩ ?_ s.heap [] _ hP va_S.rf
    ⟨hl.1, hl.2.1, fun i v hi => hl.2.2 (i, fc_v E v) (by simpa using fc_l0_args E As 0 i v (fc_l1_get hi))⟩
  intro v mi' ml' mr' H locs ls pc hq hP1 hS1 hrt
  have fin : ∀ t : State, t.heap = H → fc_Qc E shF Q (As.map (fc_v E)).toArray s (.returned (v.map (fc_v E))) t := fun t ht => ⟨⟨v, mi', ml', mr', hq, rfl, by rw [ht]; exact hP1⟩, hS1.F ht⟩
  match v, hrt with
  | none, hrt => exact W.vret B.exec B.bytes (B.returns.trans hrt.2) (fun t ht _ => fin t ht) hS1.2.2 hrt.1 hlocks
  | some (.int x), hrt =>
    rcases hrt.2 with h | ⟨h, hx⟩ | ⟨h, hx⟩ | ⟨h, hx⟩
    · exact W.iret (v := x) B.exec B.bytes (B.returns.trans h) (fun t ht _ => fin t ht) hS1.2.2 hrt.1 hlocks
    · exact W.zret (v := x) (ty := .boolean) B.exec B.bytes (B.returns.trans h) (by rcases hx with rfl | rfl <;> rfl) (fun t ht _ => fin t ht) hS1.2.2 hrt.1 hlocks
    · exact W.zret (v := x) (ty := .char) B.exec B.bytes (B.returns.trans h) hx (fun t ht _ => fin t ht) hS1.2.2 hrt.1 hlocks
    · exact W.zret (v := x) (ty := .byte) B.exec B.bytes (B.returns.trans h) hx (fun t ht _ => fin t ht) hS1.2.2 hrt.1 hlocks
theorem fc_callKN {mc ms : Nat} {shC : fc_Sh} {p : Program} {e : Env} {R : Room} {s : State} {m : MethodId} {args : Array Value} {below : List Frame} {meth : Method} {c : Code} {H : Heap} {locs : List Loc} {ls : Array Slot} {st0 rest : List Value} {a : Array Value} {Qf : State → Prop}
    (hr : va_Run p E.1 e R s m args below meth c H locs cs.1 cs.2 mc ms (F0 m pc ls st0) rest (fc_Qc E shC Q' a) (fc_A E)) (hS : va_S (fc_A E) s.heap H locs)
    (kk : ∀ (v : Option Value) (mi : fc_Mi) (ml : fc_Ml) (mr : fc_Mr) (H1 : Heap) (locs1 : List Loc), Q' v mi ml mr → va_P E.2.1 vwCl (fc_ws E shC mi ml mr) H1 → va_S (fc_A E) s.heap H1 locs1 → W p E.1 e R s m args below meth c H1 locs1 (cs.1 + mc) (cs.2 + ms) Qf (F0 m (pc + 3) ls ((v.map (fc_v E)).toList ++ rest))) :
    W p E.1 e R s m args below meth c H locs cs.1 cs.2 Qf (F0 m pc ls st0) := by
  intro T hT X
  obtain ⟨v, st₀, t, T', L, h0, X', hL, e1, e2, ⟨⟨w, mi, ml, mr, hq, hv, hp⟩, hz, hk⟩, stp⟩ := hr T hT X
  cases hv
  rw [h0] at hz hk
  obtain ⟨t2, a1, b1⟩ := kk w mi ml mr T'.heap (locs ++ L) hq (by rw [e1]; exact hp)
    ⟨Nat.le_trans hS.1 (by rw [e1]; exact hz), fun q h1 h2 => by rw [e1, hk q (Nat.lt_of_lt_of_le h1 hS.1) h2]; exact hS.2.1 q h1 h2, fun q hq => by
      rcases List.mem_append.mp hq with h | h
      · exact hS.2.2 q h
      · exact hL q h⟩ T' rfl X'
  exact ⟨t2, stp t2 a1, b1⟩
theorem fc_blindN {As : List Value} : FrameBlind (va_Pc (As.map (fc_v E)) (fun U => va_P E.2.1 vwCl (fc_ws E sh mi ml mr) U.heap ∧ fc_K E U ∧ fc_AO U ∧ U.heap.size = E.2.2.2.1 + sh.length)) := by
  intro a U g mk q
  obtain ⟨q0, qP, qK, qA, qs⟩ := q
  exact ⟨q0, qP, qK.calling a g mk, qA.calling a g mk, qs⟩
theorem fc_preN {As : List Value} {s : State} {H : Heap} {locs : List Loc} (hK : fc_K E s) (hA : fc_AO s) (hP : va_P E.2.1 vwCl (fc_ws E sh mi ml mr) H) (hS : va_S (fc_A E) s.heap H locs) (hsz : H.size = E.2.2.2.1 + sh.length) : ∀ U : State, U.heap = H → s.WarmedH U.vm → va_Pc (As.map (fc_v E)) (fun U => va_P E.2.1 vwCl (fc_ws E sh mi ml mr) U.heap ∧ fc_K E U ∧ fc_AO U ∧ U.heap.size = E.2.2.2.1 + sh.length) (As.map (fc_v E)).toArray U :=
  fun U hU hW => ⟨rfl, by rw [hU]; exact hP, hK.moved hW (fun a h1 h2 => by rw [hU]; exact hS.2.1 a h1 h2), hA.moved hW, by rw [hU]; exact hsz⟩
theorem fc_ZzC {R : Room} {s : State} {meth : Method} {mc ms : Nat} {shC : fc_Sh} (hZ : fc_Zz E y tot true s meth cs sh R) (hlen : shC.length = sh.length + mc) (h0 : 0 < shC.length) : fc_Zz E y tot true s meth (cs.1 + mc, cs.2 + ms) shC R := ⟨hZ.1, hZ.2.1, hZ.2.2.1, fun _ => by
  obtain ⟨h2, h3⟩ := hZ.2.2.2 rfl
  exact ⟨by dsimp only; omega, Or.inl h0⟩⟩
/-- a constructor without arguments is called -/
theorem fc_n_ctor {z : fc_M} {idx q mc ms : Nat} {shC : fc_Sh} (hd : decode y.2.1 pc = .ok (.invokespecial idx, 3)) (hM : fc_RN E z d mc ms sh shC [.ref q] mi ml mr Q') (hz : fc_mw z 0) (hz0 : z.2.2.2 = none) (hnm : z.1.name = "<init>") (hinst : Cond.instanceMethod z.1 ∈ fc_G) (hlink : Cond.methodLink y.1.cls idx z.1 ∈ fc_G)
    (hroom : (st.map fun v => v.category).sum ≤ 8) (h1 : cs.1 + mc ≤ tot.1) (h2 : cs.2 + ms ≤ tot.2) (hlen : shC.length = sh.length + mc) (h0 : 0 < shC.length) (k : ∀ v mi' ml' mr', Q' v mi' ml' mr' → fc_TN E y (d + 1) tot shF true (cs.1 + mc, cs.2 + ms) shC (pc + 3) lv (v.toList ++ st) mi' ml' mr' Q) : fc_TN E y (d + 1) tot shF true cs sh pc lv (.ref q :: st) mi ml mr Q := by
  intro p e s m args below meth c R Qf hC hR hZ hret H locs ls hP hS hl T hT X
  have hsz := fc_hsz hZ hP hS hT X
  obtain ⟨hx, hb, hr, hlk, hown, hml, hts, hK⟩ := id hC
  obtain ⟨z1, z2, z3, z4⟩ := z
  dsimp only at hz0 hnm hinst hlink
  subst hz0
  obtain ⟨hz1, hz2, hz3, hz4⟩ := hz
  have hrun := va_runI (p := p) (e := e) (below := below) (meth := meth) (locs := locs) (cells := cs.1) (slots := cs.2) (R := R) (H := H) (g := F0 m pc ls ((.ref q :: st).map (fc_v E))) (rest := st.map (fc_v E)) (As := []) (b := E.2.2.2.1 + q) (S := ⟨hx, hb, hml, hown, hts⟩) hM
    (cwI 0 hts (fc_w_good hz1) rfl rfl rfl (hts _ hz2) (hts _ hlink) (hts _ hinst) hnm hz3 ⟨by show d + 1 + 1 ≤ _; exact hR.1, by show 8 + (z3 + 11) + 64 * (d + 1) ≤ _; have := hR.2.1; have h4 : z3 ≤ 45 := hz4; omega⟩)
    ⟨fc_blindN, fc_preN (As := [.ref q]) hK hZ.2.2.1 hP hS hsz⟩ rfl rfl hl.1 rfl (lv_room (by rw [fc_sum]; exact hroom)) hd ⟨Nat.le_trans h1 hZ.1.1, Nat.le_trans h2 hZ.1.2⟩
  refine (show W p E.1 e R s m args below meth c H locs cs.1 cs.2 Qf (F0 m pc ls ((.ref q :: st).map (fc_v E))) from ?_) T hT X
  refine fc_callKN hrun hS (fun v mi' ml' mr' H1 locs1 hq hP1 hS1 => ?_)
  rw [fc_toL, ← List.map_append]
  exact k v mi' ml' mr' hq p e s m args below meth c R Qf hC (fc_RmUp hR hZ h1 h2) (fc_ZzC hZ hlen h0) hret H1 locs1 ls hP1 hS1 hl
theorem fc_n_ctorN {z : fc_M} {idx q mc ms : Nat} {shC : fc_Sh} (hd : decode y.2.1 pc = .ok (.invokespecial idx, 3)) (hM : fc_RN E z d mc ms sh shC [.ref q] mi ml mr Q') (hz : fc_mw z 0) (hz0 : z.2.2.2 = none) (hnm : z.1.name = "<init>") (hinst : Cond.instanceMethod z.1 ∈ fc_G) (hlink : (y.1.cls, idx, z.1) ∈ fc_N2)
    (hroom : (st.map fun v => v.category).sum ≤ 8) (h1 : cs.1 + mc ≤ tot.1) (h2 : cs.2 + ms ≤ tot.2) (hlen : shC.length = sh.length + mc) (h0 : 0 < shC.length) (k : ∀ v mi' ml' mr', Q' v mi' ml' mr' → fc_TN E y (d + 1) tot shF true (cs.1 + mc, cs.2 + ms) shC (pc + 3) lv (v.toList ++ st) mi' ml' mr' Q) : fc_TN E y (d + 1) tot shF true cs sh pc lv (.ref q :: st) mi ml mr Q := by
  intro p e s m args below meth c R Qf hC hR hZ hret H locs ls hP hS hl T hT X
  have hsz := fc_hsz hZ hP hS hT X
  obtain ⟨hx, hb, hr, hlk, hown, hml, hts, hK⟩ := id hC
  obtain ⟨z1, z2, z3, z4⟩ := z
  dsimp only at hz0 hnm hinst hlink
  subst hz0
  obtain ⟨hz1, hz2, hz3, hz4⟩ := hz
  have hrun := va_runIN (p := p) (e := e) (below := below) (meth := meth) (locs := locs) (cells := cs.1) (slots := cs.2) (R := R) (H := H) (g := F0 m pc ls ((.ref q :: st).map (fc_v E))) (rest := st.map (fc_v E)) (As := []) (b := E.2.2.2.1 + q) (host := "FirstChimney") (S := ⟨hx, hb, hml, hown, hts⟩) hM
    ⟨va_cnB 0 hts (fc_w_good hz1) rfl rfl rfl (hZ.2.2.1.2.2.2 _ hlink) (hts _ hz2) hz3 ⟨by show d + 1 + 1 ≤ _; exact hR.1, by show 8 + (z3 + 11) + 64 * (d + 1) ≤ _; have := hR.2.1; have h4 : z3 ≤ 45 := hz4; omega⟩, hnm, hts _ hinst⟩
    ⟨fc_blindN, fc_preN (As := [.ref q]) hK hZ.2.2.1 hP hS hsz⟩ rfl rfl hl.1 rfl (lv_room (by rw [fc_sum]; exact hroom)) hd ⟨Nat.le_trans h1 hZ.1.1, Nat.le_trans h2 hZ.1.2⟩
  refine (show W p E.1 e R s m args below meth c H locs cs.1 cs.2 Qf (F0 m pc ls ((.ref q :: st).map (fc_v E))) from ?_) T hT X
  refine fc_callKN hrun hS (fun v mi' ml' mr' H1 locs1 hq hP1 hS1 => ?_)
  rw [fc_toL, ← List.map_append]
  exact k v mi' ml' mr' hq p e s m args below meth c R Qf hC (fc_RmUp hR hZ h1 h2) (fc_ZzC hZ hlen h0) hret H1 locs1 ls hP1 hS1 hl
end N2
