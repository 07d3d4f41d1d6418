/-! ===== calls ===== -/
theorem fc_sum (E : fc_E) (st : List Value) : ((st.map (fc_v E)).map fun v => v.category).sum = (st.map fun v => v.category).sum := by
  rw [List.map_map]
  congr 1
  apply List.map_congr_left
  intro v _
  exact fc_v_cat E v
theorem fc_rmL (d : Nat) : (fc_rm d).locals = 64 * (d + 1) := rfl
theorem fc_rmF (d : Nat) : (fc_rm d).frames = d + 1 := rfl
theorem fc_w_good {z : fc_M} (h : Cond.code z.1 z.2.1 z.2.2.1 z.2.2.2 ∈ fc_G) : GoodIn fc_G (fc_w z) := by
  intro w hw
  have hw : w ∈ fc_G := by
    rcases List.mem_cons.mp hw with rfl | hw
    · exact h
    · exact hw
  exact ⟨hw, good_of_word (List.mem_filter.mp hw).2⟩
section R3
variable {E : fc_E} {y : fc_M} {d : Nat} {cs : Nat × Nat} {sh : fc_Sh} {pc : Nat} {lv : List (Option Value)} {st : List Value} {mi : fc_Mi} {ml : fc_Ml} {mr : fc_Mr} {Q Q' : fc_Q}
theorem fc_callK {p : Program} {e : Env} {R : Room} {s : State} {m : MethodId} {args : Array Value} {below : List Frame} {meth : Method} {c : Code} {H : Heap} {locs : List Loc} {ls : Array Slot} {st0 rest : List Value} {a : Array Value} {Qf : State → Prop}
    (hr : va_Run p E.1 e R s m args below meth c H locs cs.1 cs.2 0 0 (F0 m pc ls st0) rest (fc_Qc E sh Q' a) (fc_A E)) (hS : va_S (fc_A E) s.heap H locs)
    (kk : ∀ (v : Option Value) (mi : fc_Mi) (ml : fc_Ml) (mr : fc_Mr) (H1 : Heap) (locs1 : List Loc), Q' v mi ml mr → va_P E.2.1 vwCl (fc_ws E sh mi ml mr) H1 → va_S (fc_A E) s.heap H1 locs1 → W p E.1 e R s m args below meth c H1 locs1 cs.1 cs.2 Qf (F0 m (pc + 3) ls ((v.map (fc_v E)).toList ++ rest))) :
    W p E.1 e R s m args below meth c H locs cs.1 cs.2 Qf (F0 m pc ls st0) := by
  intro T hT X
  obtain ⟨v, st₀, t, T', L, h0, X', hL, e1, e2, ⟨⟨w, mi, ml, mr, hq, hv, hp⟩, hz, hk⟩, stp⟩ := hr T hT X
  cases hv
  rw [h0] at hz hk
  obtain ⟨t2, a1, b1⟩ := kk w mi ml mr T'.heap (locs ++ L) hq (by rw [e1]; exact hp)
    ⟨Nat.le_trans hS.1 (by rw [e1]; exact hz), fun q h1 h2 => by rw [e1, hk q (Nat.lt_of_lt_of_le h1 hS.1) h2]; exact hS.2.1 q h1 h2, fun q hq => by
      rcases List.mem_append.mp hq with h | h
      · exact hS.2.2 q h
      · exact hL q h⟩ T' rfl X'
  exact ⟨t2, stp t2 a1, b1⟩
theorem fc_blind {As : List Value} : FrameBlind (va_Pc (As.map (fc_v E)) (fun U => va_P E.2.1 vwCl (fc_ws E sh mi ml mr) U.heap ∧ fc_K E U)) := by
  intro a U g mk q
  obtain ⟨q0, qP, qK⟩ := q
  exact ⟨q0, qP, qK.calling a g mk⟩
theorem fc_pre {As : List Value} {s : State} {H : Heap} {locs : List Loc} (hK : fc_K E s) (hP : va_P E.2.1 vwCl (fc_ws E sh mi ml mr) H) (hS : va_S (fc_A E) s.heap H locs) : ∀ U : State, U.heap = H → s.WarmedH U.vm → va_Pc (As.map (fc_v E)) (fun U => va_P E.2.1 vwCl (fc_ws E sh mi ml mr) U.heap ∧ fc_K E U) (As.map (fc_v E)).toArray U :=
  fun U hU hW => ⟨rfl, by rw [hU]; exact hP, hK.moved hW (fun a h1 h2 => by rw [hU]; exact hS.2.1 a h1 h2)⟩
theorem fc_toL (v : Option Value) : (v.map (fc_v E)).toList = v.toList.map (fc_v E) := by cases v <;> rfl
theorem fc_r_callV {z : fc_M} {idx ci q n : Nat} {r : vw_C} {As : List Value} (hd : decode y.2.1 pc = .ok (.invokevirtual idx, 3)) (hM : fc_R E z d sh (.ref q :: As) mi ml mr Q') (hz : fc_mw z n) (hn : As.length = n) (hinst : Cond.instanceMethod z.1 ∈ fc_G) (hsel : Cond.selects z.1.cls z.1 z.1 ∈ fc_G) (hlink : Cond.methodLink y.1.cls idx z.1 ∈ fc_G)
    (hc : vwCl[ci]? = some r) (hrc : r.1 = z.1.cls) (hci : ci < 20) (hsh : sh[q]? = some (ci, 0)) (hroom : (st.map fun v => v.category).sum ≤ 8) (k : ∀ v mi' ml' mr', Q' v mi' ml' mr' → fc_T E y (d + 1) cs sh (pc + 3) lv (v.toList ++ st) mi' ml' mr' Q) : fc_T E y (d + 1) cs sh pc lv (As.reverse ++ .ref q :: st) mi ml mr Q := by
  intro p e s m args below meth c R Qf hC hR hret H locs ls hP hS hl
  obtain ⟨hx, hb, hr, hlk, hown, hml, hts, hK⟩ := id hC
  obtain ⟨hz1, hz2, hz3, hz4⟩ := hz
  have hw := fc_ws_get (E := E) (mi := mi) (ml := ml) (mr := mr) hsh
  rw [fc_cell_obj hci] at hw
  have hrun := va_runV (p := p) (e := e) (below := below) (meth := meth) (locs := locs) (cells := cs.1) (slots := cs.2) (R := R) (H := H) (g := F0 m pc ls ((As.reverse ++ .ref q :: st).map (fc_v E))) (rest := st.map (fc_v E)) (As := As.map (fc_v E)) (b := E.2.2.2.1 + q) (C := z.1.cls) (S := ⟨hx, hb, hml, hown, hts⟩) hM
    ⟨callB_of n hts (fc_w_good hz1) rfl rfl rfl (hts _ hz2) (hts _ hlink) hz3 ⟨by rw [fc_rmF]; exact hR.1, by rw [fc_rmL]; have := hR.2.1; omega⟩, hts _ hinst, hts _ hsel⟩
    ⟨fc_blind, by rw [← hrc]; exact va_recv hK.1 hP hc hw, fc_pre (As := .ref q :: As) hK hP hS⟩ rfl (by rw [List.length_map]; exact hn) hl.1 (by show List.map _ _ = _; rw [List.map_append, List.map_reverse]; rfl) (lv_room (by rw [fc_sum]; exact hroom)) hd ⟨hR.2.2.1, hR.2.2.2⟩
  refine fc_callK hrun hS (fun v mi' ml' mr' H1 locs1 hq hP1 hS1 => ?_)
  rw [fc_toL, ← List.map_append]
  exact k v mi' ml' mr' hq p e s m args below meth c R Qf hC hR hret H1 locs1 ls hP1 hS1 hl
theorem fc_r_callS {z : fc_M} {idx n : Nat} {As : List Value} (hd : decode y.2.1 pc = .ok (.invokestatic idx, 3)) (hM : fc_R E z d sh As mi ml mr Q') (hz : fc_mw z n) (hn : As.length = n) (hstat : Cond.static z.1 ∈ fc_G) (hlink : Cond.methodLink y.1.cls idx z.1 ∈ fc_G)
    (hroom : (st.map fun v => v.category).sum ≤ 8) (k : ∀ v mi' ml' mr', Q' v mi' ml' mr' → fc_T E y (d + 1) cs sh (pc + 3) lv (v.toList ++ st) mi' ml' mr' Q) : fc_T E y (d + 1) cs sh pc lv (As.reverse ++ st) mi ml mr Q := by
  intro p e s m args below meth c R Qf hC hR hret H locs ls hP hS hl
  obtain ⟨hx, hb, hr, hlk, hown, hml, hts, hK⟩ := id hC
  obtain ⟨hz1, hz2, hz3, hz4⟩ := hz
  have hrun := va_runS (p := p) (e := e) (below := below) (meth := meth) (locs := locs) (cells := cs.1) (slots := cs.2) (R := R) (H := H) (g := F0 m pc ls ((As.reverse ++ st).map (fc_v E))) (rest := st.map (fc_v E)) (As := As.map (fc_v E)) (S := ⟨hx, hb, hml, hown, hts⟩) hM
    ⟨callB_of n hts (fc_w_good hz1) rfl rfl rfl (hts _ hz2) (hts _ hlink) hz3 ⟨by rw [fc_rmF]; exact hR.1, by rw [fc_rmL]; have := hR.2.1; omega⟩, hts _ hstat⟩
    ⟨fc_blind, fc_pre (As := As) hK hP hS⟩ rfl (by rw [List.length_map]; exact hn) hl.1 (by show List.map _ _ = _; rw [List.map_append, List.map_reverse]) (lv_room (by rw [fc_sum]; exact hroom)) hd ⟨hR.2.2.1, hR.2.2.2⟩
  refine fc_callK hrun hS (fun v mi' ml' mr' H1 locs1 hq hP1 hS1 => ?_)
  rw [fc_toL, ← List.map_append]
  exact k v mi' ml' mr' hq p e s m args below meth c R Qf hC hR hret H1 locs1 ls hP1 hS1 hl
theorem fc_r_callN {z : fc_M} {idx n : Nat} {As : List Value} (hd : decode y.2.1 pc = .ok (.invokestatic idx, 3)) (hM : fc_R E z d sh As mi ml mr Q') (hz : fc_mw z n) (hn : As.length = n) (hstat : Cond.static z.1 ∈ fc_G) (hlink : (y.1.cls, idx, z.1) ∈ fc_N)
    (hroom : (st.map fun v => v.category).sum ≤ 8) (k : ∀ v mi' ml' mr', Q' v mi' ml' mr' → fc_T E y (d + 1) cs sh (pc + 3) lv (v.toList ++ st) mi' ml' mr' Q) : fc_T E y (d + 1) cs sh pc lv (As.reverse ++ st) mi ml mr Q := by
  intro p e s m args below meth c R Qf hC hR hret H locs ls hP hS hl
  obtain ⟨hx, hb, hr, hlk, hown, hml, hts, hK⟩ := id hC
  obtain ⟨hz1, hz2, hz3, hz4⟩ := hz
  have hrun := va_runSN (p := p) (e := e) (below := below) (meth := meth) (locs := locs) (cells := cs.1) (slots := cs.2) (R := R) (H := H) (g := F0 m pc ls ((As.reverse ++ st).map (fc_v E))) (rest := st.map (fc_v E)) (As := As.map (fc_v E)) (host := "FirstChimney") (S := ⟨hx, hb, hml, hown, hts⟩) hM
    ⟨va_cnB n hts (fc_w_good hz1) rfl rfl rfl (hK.2.1 _ hlink) (hts _ hz2) hz3 ⟨by rw [fc_rmF]; exact hR.1, by rw [fc_rmL]; have := hR.2.1; omega⟩, hts _ hstat, trivial⟩
    ⟨fc_blind, fc_pre (As := As) hK hP hS⟩ rfl (by rw [List.length_map]; exact hn) hl.1 (by show List.map _ _ = _; rw [List.map_append, List.map_reverse]) (lv_room (by rw [fc_sum]; exact hroom)) hd ⟨hR.2.2.1, hR.2.2.2⟩
  refine fc_callK hrun hS (fun v mi' ml' mr' H1 locs1 hq hP1 hS1 => ?_)
  rw [fc_toL, ← List.map_append]
  exact k v mi' ml' mr' hq p e s m args below meth c R Qf hC hR hret H1 locs1 ls hP1 hS1 hl
/-- a virtual call on a constant text -/
theorem fc_r_callT {z : fc_M} {idx n : Nat} {u : UInt32} {As : List Value} (hd : decode y.2.1 pc = .ok (.invokevirtual idx, 3)) (hM : fc_R E z d sh (.float u :: As) mi ml mr Q') (hz : fc_mw z n) (hn : As.length = n) (hinst : Cond.instanceMethod z.1 ∈ fc_G) (hsel : Cond.selects z.1.cls z.1 z.1 ∈ fc_G) (hlink : Cond.methodLink y.1.cls idx z.1 ∈ fc_G)
    (hrc : z.1.cls = "java/lang/String") (hu : u.toNat < 5) (hroom : (st.map fun v => v.category).sum ≤ 8) (k : ∀ v mi' ml' mr', Q' v mi' ml' mr' → fc_T E y (d + 1) cs sh (pc + 3) lv (v.toList ++ st) mi' ml' mr' Q) : fc_T E y (d + 1) cs sh pc lv (As.reverse ++ .float u :: st) mi ml mr Q := by
  intro p e s m args below meth c R Qf hC hR hret H locs ls hP hS hl
  obtain ⟨hx, hb, hr, hlk, hown, hml, hts, hK⟩ := id hC
  obtain ⟨hz1, hz2, hz3, hz4⟩ := hz
  have hrun := va_runV (p := p) (e := e) (below := below) (meth := meth) (locs := locs) (cells := cs.1) (slots := cs.2) (R := R) (H := H) (g := F0 m pc ls ((As.reverse ++ .float u :: st).map (fc_v E))) (rest := st.map (fc_v E)) (As := As.map (fc_v E)) (b := E.2.2.2.2.1 u.toNat) (C := z.1.cls) (S := ⟨hx, hb, hml, hown, hts⟩) hM
    ⟨callB_of n hts (fc_w_good hz1) rfl rfl rfl (hts _ hz2) (hts _ hlink) hz3 ⟨by rw [fc_rmF]; exact hR.1, by rw [fc_rmL]; have := hR.2.1; omega⟩, hts _ hinst, hts _ hsel⟩
    ⟨fc_blind, by rw [hrc]; exact vk_recv hK.2.2.1 hu hS, fc_pre (As := .float u :: As) hK hP hS⟩ rfl (by rw [List.length_map]; exact hn) hl.1 (by show List.map _ _ = _; rw [List.map_append, List.map_reverse]; rfl) (lv_room (by rw [fc_sum]; exact hroom)) hd ⟨hR.2.2.1, hR.2.2.2⟩
  refine fc_callK hrun hS (fun v mi' ml' mr' H1 locs1 hq hP1 hS1 => ?_)
  rw [fc_toL, ← List.map_append]
  exact k v mi' ml' mr' hq p e s m args below meth c R Qf hC hR hret H1 locs1 ls hP1 hS1 hl
theorem fc_r_max {idx : Nat} {x z : Int32} (hd : decode y.2.1 pc = .ok (.invokestatic idx, 3)) (hlink : Cond.methodLink y.1.cls idx Lib.Math.max.name ∈ fc_G) (hstat : Cond.static Lib.Math.max.name ∈ fc_G) (hini : Cond.initialized "java/lang/Math" ∈ fc_G) (hcode : Cond.code Lib.Math.max.name Lib.Math.max.code 2 (some .int) ∈ fc_G) (hroom : (st.map fun v => v.category).sum ≤ 8)
    (k : fc_T E y d cs sh (pc + 3) lv (.int (if x < z then z else x) :: st) mi ml mr Q) : fc_T E y d cs sh pc lv (.int z :: .int x :: st) mi ml mr Q := by
  intro p e s m args below meth c R Qf hC hR hret H locs ls hP hS hl
  obtain ⟨hx, hb, hr, hlk, hown, hml, hts, hK⟩ := id hC
  exact va_mmax hx hb (hml.trans hl.1.symm) hown (hts _ hlink) (hts _ hstat) (hts _ hini) (hts _ hcode) (by have := hR.1; omega) (by rw [fc_sum]; have := hR.2.1; omega) hR.2.2.1 hR.2.2.2 hd (k p e s m args below meth c R Qf hC hR hret H locs ls hP hS hl)
theorem fc_r_min {idx : Nat} {x z : Int32} (hd : decode y.2.1 pc = .ok (.invokestatic idx, 3)) (hlink : Cond.methodLink y.1.cls idx Lib.Math.min.name ∈ fc_G) (hstat : Cond.static Lib.Math.min.name ∈ fc_G) (hini : Cond.initialized "java/lang/Math" ∈ fc_G) (hcode : Cond.code Lib.Math.min.name Lib.Math.min.code 2 (some .int) ∈ fc_G) (hroom : (st.map fun v => v.category).sum ≤ 8)
    (k : fc_T E y d cs sh (pc + 3) lv (.int (if z < x then z else x) :: st) mi ml mr Q) : fc_T E y d cs sh pc lv (.int z :: .int x :: st) mi ml mr Q := by
  intro p e s m args below meth c R Qf hC hR hret H locs ls hP hS hl
  obtain ⟨hx, hb, hr, hlk, hown, hml, hts, hK⟩ := id hC
  exact va_mmin hx hb (hml.trans hl.1.symm) hown (hts _ hlink) (hts _ hstat) (hts _ hini) (hts _ hcode) (by have := hR.1; omega) (by rw [fc_sum]; have := hR.2.1; omega) hR.2.2.1 hR.2.2.2 hd (k p e s m args below meth c R Qf hC hR hret H locs ls hP hS hl)
theorem fc_r_copy {idx q0 q1 n0 n1 : Nat} {sp dp n : Int32} (hd : decode y.2.1 pc = .ok (.invokestatic idx, 3)) (hlink : Cond.methodLink y.1.cls idx arraycopyName ∈ fc_G) (hnat : Cond.native arraycopyName ∈ fc_G) (hstat : Cond.static arraycopyName ∈ fc_G) (hini : Cond.initialized "java/lang/System" ∈ fc_G)
    (h0 : sh[q0]? = some (20, n0)) (h1 : sh[q1]? = some (20, n1)) (h2 : ¬ sp < 0) (h3 : ¬ dp < 0) (h4 : ¬ n < 0) (h5 : sp.toNatClampNeg + n.toNatClampNeg ≤ n0) (h6 : dp.toNatClampNeg + n.toNatClampNeg ≤ n1) (hroom : (st.map fun v => v.category).sum ≤ 8)
    (k : fc_T E y d cs sh (pc + 3) lv st (fc_ur mi q1 (va_cpy (mi q0) (mi q1) sp.toNatClampNeg dp.toNatClampNeg n.toNatClampNeg)) ml mr Q) : fc_T E y d cs sh pc lv (.int n :: .int dp :: .ref q1 :: .int sp :: .ref q0 :: st) mi ml mr Q := by
  intro p e s m args below meth c R Qf hC hR hret H locs ls hP hS hl
  obtain ⟨hx, hb, hr, hlk, hown, hml, hts, hK⟩ := id hC
  have hnw : nativeFrameWords "java/lang/System" "arraycopy" 5 ≤ 40 := Nat.le_of_ble_eq_true rfl
  have hf1 : 1 ≤ R.frames := by have := hR.1; omega
  have hf2 : ((st.map (fc_v E)).map fun v => v.category).sum + (nativeFrameWords "java/lang/System" "arraycopy" 5 + 11) ≤ R.locals := by
    rw [fc_sum]
    have := hR.2.1
    omega
  refine va_copyi hx hb (hml.trans hl.1.symm) hown (hts _ hlink) (hts _ hnat) (hts _ hstat) (hts _ hini) hK.1 hP fc_ws_D hS q0 q1 0 0 (fc_ws_get h0) (fc_ws_get h1) rfl rfl rfl h2 h3 h4 h5 h6 (fun _ _ => rfl) hf1 hf2 hd (fun H1 locs1 hP1 _ hS1 => k p e s m args below meth c R Qf hC hR hret H1 locs1 ls ?_ hS1 hl)
  rw [← fc_ws_set (E := E) (mi := mi) (ml := ml) (mr := mr) (mi' := fc_ur mi q1 (va_cpy (mi q0) (mi q1) sp.toNatClampNeg dp.toNatClampNeg n.toNatClampNeg)) h1 (fun a h => fc_ur_off _ _ h) (fun _ _ => rfl) (fun _ _ => rfl) rfl]
  show va_P _ _ ((fc_ws E sh mi ml mr).set q1 (_, .inl (_, _, .inl (fc_ur mi q1 _ q1)))) H1
  rw [fc_ur_row]
  exact hP1
theorem fc_r_ldcS {idx : Nat} {u : UInt32} {tx : String} (hd : decode y.2.1 pc = .ok (.ldc idx, 2)) (hc : fc_tx[u.toNat]? = some (y.1.cls, idx, tx)) (k : fc_T E y d cs sh (pc + 2) lv (.float u :: st) mi ml mr Q) : fc_T E y d cs sh pc lv st mi ml mr Q :=
  fun p e s m args below meth c R Qf hC hR hret H locs ls hP hS hl => va_ldcS hC.1 hC.2.1 hC.2.2.2.2.1 (hC.2.2.2.2.2.2.2.2.2.2.1 _ _ hc) hd (k p e s m args below meth c R Qf hC hR hret H locs ls hP hS hl)
theorem fc_r_tableIn {dflt lo hi off : Int} {offs : Array Int} {len tgt : Nat} {x : Int32} (hd : decode y.2.1 pc = .ok (.tableswitch dflt lo hi offs, len)) (h1 : ¬ x.toInt < lo) (h2 : ¬ hi < x.toInt) (ho : offs[(x.toInt - lo).toNat]? = some off) (ht : (pc : Int) + off = (tgt : Int)) (k : fc_T E y d cs sh tgt lv st mi ml mr Q) : fc_T E y d cs sh pc lv (.int x :: st) mi ml mr Q :=
  fun p e s m args below meth c R Qf hC hR hret H locs ls hP hS hl => lv_tableIn hC.1 hC.2.1 hd h1 h2 ho ht (k p e s m args below meth c R Qf hC hR hret H locs ls hP hS hl)
theorem fc_r_tableOut {dflt lo hi : Int} {offs : Array Int} {len tgt : Nat} {x : Int32} (hd : decode y.2.1 pc = .ok (.tableswitch dflt lo hi offs, len)) (h : x.toInt < lo ∨ hi < x.toInt) (ht : (pc : Int) + dflt = (tgt : Int)) (k : fc_T E y d cs sh tgt lv st mi ml mr Q) : fc_T E y d cs sh pc lv (.int x :: st) mi ml mr Q :=
  fun p e s m args below meth c R Qf hC hR hret H locs ls hP hS hl => lv_tableOut hC.1 hC.2.1 hd h ht (k p e s m args below meth c R Qf hC hR hret H locs ls hP hS hl)
theorem fc_r_lookup {dflt off : Int} {ps : Array (Int × Int)} {len tgt : Nat} {x : Int32} (hd : decode y.2.1 pc = .ok (.lookupswitch dflt ps, len)) (hp : (ps.toList.zip (ps.toList.drop 1)).all (fun (a, next) => a.1 < next.1) = true) (ho : Op.lookupswitch.offset ps.toList dflt x.toInt = off) (ht : (pc : Int) + off = (tgt : Int)) (k : fc_T E y d cs sh tgt lv st mi ml mr Q) : fc_T E y d cs sh pc lv (.int x :: st) mi ml mr Q :=
  fun p e s m args below meth c R Qf hC hR hret H locs ls hP hS hl => lv_lookup hC.1 hC.2.1 hd hp ho ht (k p e s m args below meth c R Qf hC hR hret H locs ls hP hS hl)
/-- less is known of the locals -/
theorem fc_weak {lv' : List (Option Value)} (h : ∀ (i : Nat) (v : Value), lv'[i]? = some (some v) → lv[i]? = some (some v)) (k : fc_T E y d cs sh pc lv' st mi ml mr Q) : fc_T E y d cs sh pc lv st mi ml mr Q :=
  fun p e s m args below meth c R Qf hC hR hret H locs ls hP hS hl => k p e s m args below meth c R Qf hC hR hret H locs ls hP hS ⟨hl.1, hl.2.1, fun i v hi => hl.2.2 i v (h i v hi)⟩
end R3
