/-! ===== rests in the law; the law's loop ===== -/
section MJ
variable {mi mi' : fc_Mi} {ml ml' : fc_Ml} {mr mr' : fc_Mr} {b b2 sc sc2 n m t sm np len sl kp k q T : Nat}
theorem Sim_q2 (hC : SimC mi ml mr b b2 sc sc2 n m t sm np len sl kp k q T) (hR : SimR mi ml n m t sm np (cl mi b) (cv mi 17) (cw mi b len) (sA ml b m n t) T (mi 2) k (fun x => mi (sc + x)) q (fun x => mi (214 + x)) kp (fun u => cv mi (psl sl kp u)) (mi 37) (fun j => cv mi (166 + 12 * j)) (fun j x => mi (174 + 12 * j + x))) (g : FrC b mi mi') (g2 : FrR mi mi') (gl : ∀ x, x ≠ 0 → x ≠ 252 → x ≠ 272 → ml' x = ml x) (hW : fc_Wd mr') (hr : ∀ j, j = 7 ∨ j = 8 ∨ j = 9 ∨ j = 10 → mr' 0 j = mr 0 j) (hen : fc_en mr') : Sim mi' ml' mr' := by
  have hb : 218 ≤ b ∧ b ≤ 231 := by rcases hC.2.1.2.2.1 with ⟨e, _⟩ | ⟨e, _⟩ <;> omega
  have hsc : sc = 244 ∨ sc = 248 := by rcases hC.2.1.2.2.2.1 with ⟨e, _⟩ | ⟨e, _⟩ <;> omega
  obtain ⟨e1, e2, e3, e4, e5, e6⟩ := hC.rows g
  have eA : sA ml' b m n t = sA ml b m n t := by
    unfold sA
    rw [show (fun x => if x < 4 then ml' (b + x) else fun _ => 0) = fun x => if x < 4 then ml (b + x) else fun _ => 0 from funext (fun x => ?_)]
    by_cases hx : x < 4
    · rw [if_pos hx, if_pos hx]; exact gl _ (by omega) (by omega) (by omega)
    · rw [if_neg hx, if_neg hx]
  refine ⟨b, b2, sc, sc2, n, m, t, sm, np, len, sl, kp, k, q, T, hC.off g (fun x q => gl x (by omega) (by omega) (by omega)) hW hr hen, ?_⟩
  have hkp : kp ≤ 16 := hC.2.2.2.2.2.2.2.1.1.2.2.2
  have hq8 : q ≤ 8 := hC.2.2.2.2.2.2.1.2.1
  have h := hR.off hkp hq8 g2 (ml' := ml') (gl 257 (by decide) (by decide) (by decide)) (gl 261 (by decide) (by decide) (by decide))
  rw [e1, e2, e3, e4, eA, e6]
  refine h.cg (fun x q1 q2 => ?_) (fun x q1 q2 => ?_) (fun u hu => ?_) (fun j hj => ⟨rfl, ?_, fun x hx => ?_⟩)
  · exact g (sc + x) (by omega) (by omega) (by omega) (by omega) (by omega)
  · exact g (214 + x) (by omega) (by omega) (by omega) (by omega) (by omega)
  · have hp := psl_lt sl kp u
    exact cv_off (fun x q1 q2 => g x (by omega) (by omega) (by omega) (by omega) (by omega))
  · exact cv_off (fun x q1 q2 => g x (by omega) (by omega) (by omega) (by omega) (by omega))
  · exact g (174 + 12 * j + x) (by omega) (by omega) (by omega) (by omega) (by omega)
end MJ
theorem wL_good : GoodIn fc_G (va_wsS "FirstChimneyLaw" 186 yL_rests wL_rests) := by
  intro w hw
  have hm : w ∈ fc_G := by
    unfold va_wsS at hw
    rcases List.mem_append.mp hw with h | h
    · simp only [List.mem_cons, List.not_mem_nil, or_false] at h
      rcases h with rfl | rfl | rfl
      · exact fc_G_of 1196 (by decide +kernel) rfl
      · exact fc_G_of 1197 (by decide +kernel) rfl
      · exact fc_G_of 105 (by decide +kernel) rfl
    · rcases List.mem_cons.mp h with rfl | h
      · exact fc_G_of 1198 (by decide +kernel) rfl
      · exact h
  exact ⟨hm, good_of_word (List.mem_filter.mp hm).2⟩
theorem dL_1475 : decode cL_law 1475 = .ok (.invokestatic 186, 3) := by decide +kernel
theorem fc_retW {E : fc_E} {y : fc_M} {cs tot : Nat × Nat} {sh : fc_Sh} {p : Program} {e : Env} {s : State} {m : MethodId} {args : Array Value} {below : List Frame} {meth : Method} {c : Code} {R : Room} {Qf : State → Prop} {Q : fc_Q} (h1 : cs.1 ≤ tot.1) (h2 : cs.2 ≤ tot.2) (h : fc_ret E y tot sh p e s m args below meth c R Qf Q) : fc_ret E y cs sh p e s m args below meth c R Qf Q :=
  fun v mi ml mr H locs ls pc g1 g2 g3 g4 => W.widen h1 h2 (h v mi ml mr H locs ls pc g1 g2 g3 g4)
/-- the law's room, and its end -/
def lwX (E : fc_E) (tot : Nat × Nat) (Q : fc_Q) : fc_Px := fun p e s m args below meth c R Qf => (tot.1 ≤ R.cells ∧ tot.2 ≤ R.slots) ∧ fc_ret E mL_law tot fc_sh p e s m args below meth c R Qf Q
section MK
variable {E : fc_E} {Q : fc_Q} {cs tot : Nat × Nat} {i : Nat} {x5 x6 : Option Value} {mi : fc_Mi} {ml : fc_Ml} {mr : fc_Mr} {lv : List (Option Value)}
theorem p_rests {bo lo ga w : Int32} (hl : E.1.stackTraces = false) (h1 : cs.1 + 1 ≤ tot.1) (h2 : cs.2 + 6 ≤ tot.2)
    (k : ∀ v mi' ml' mr', rlQ mi ml mr (rs_t bo lo ga w) (rs_a bo lo ga w) v mi' ml' mr' → fc_TP E mL_law 41 (lwX E tot Q) (cs.1 + 1, cs.2 + 6) fc_sh 1478 lv v.toList mi' ml' mr' Q) : fc_TP E mL_law 41 (lwX E tot Q) cs fc_sh 1475 lv [.ref 272, .int w, .int ga, .int lo, .int bo, .ref 0] mi ml mr Q := by
  intro p e s m args below meth c R Qf hC hR hX hret H locs ls hP hS hlv
  obtain ⟨hx, hb, hr, hlk, hown, hml, hts, hK⟩ := id hC
  have hR2 : 64 * (41 + 1) ≤ R.locals := hR.2.1
  have hrun := vx_runSW (p := p) (e := e) (below := below) (meth := meth) (locs := locs) (cells := cs.1) (slots := cs.2) (R := R) (H := H) (hh := [(0, 14, 17, 13)]) (g := F0 m 1475 ls (([.ref 272, .int w, .int ga, .int lo, .int bo, .ref 0] : List Value).map (fc_v E))) (rest := []) (As := ([.ref 0, .int bo, .int lo, .int ga, .int w, .ref 272] : List Value).map (fc_v E)) (S := ⟨hx, hb, hml, hown, hts⟩) (k_rests (d := 33) (mi := mi) (ml := ml) (mr := mr) hl bo lo ga w)
    (vx_cwSW 6 hts wL_good rfl rfl rfl (by decide +kernel) ⟨hR.1, by show 8 + (7 + 11) + 64 * (33 + 7 + 1) ≤ R.locals; omega⟩)
    ⟨fc_blind, fc_pre (As := [.ref 0, .int bo, .int lo, .int ga, .int w, .ref 272]) hK hP hS⟩ rfl rfl hlv.1 rfl (lv_room (by decide)) dL_1475 ⟨Nat.le_trans h1 hX.1.1, Nat.le_trans h2 hX.1.2⟩
  intro T hT X
  obtain ⟨v, st₀, t, T', L, h0, X', hL, e1, e2, ⟨⟨w', mi', ml', mr', ⟨rfl, hq2⟩, hv, hp⟩, hz, hk⟩, stp⟩ := hrun T hT X
  cases hv
  rw [h0] at hz hk
  obtain ⟨t2, a1, b1⟩ := k _ mi' ml' mr' ⟨rfl, hq2⟩ p e s m args below meth c R Qf hC ⟨hR.1, hR.2.1, Nat.le_trans h1 hX.1.1, Nat.le_trans h2 hX.1.2⟩ hX (fc_retW h1 h2 hX.2) T'.heap (locs ++ L) ls (by rw [e1]; exact hp)
    ⟨Nat.le_trans hS.1 (by rw [e1]; exact hz), fun q h1 h2 => by rw [e1, hk q (Nat.lt_of_lt_of_le h1 hS.1) h2]; exact hS.2.1 q h1 h2, fun q hq => by
      rcases List.mem_append.mp hq with h | h
      · exact hS.2.2 q h
      · exact hL q h⟩ hlv T' rfl X'
  exact ⟨t2, stp t2 a1, b1⟩
set_option maxRecDepth 40000 in
theorem lw_c39 (hl : E.1.stackTraces = false) (hi : i + 7 ≤ E.2.2.2.2.2.2.1) (hL : E.2.2.2.2.2.2.1 ≤ 3584) (hS : Sim mi ml mr) (h1 : cs.1 + 1 ≤ tot.1) (h2 : cs.2 + 6 ≤ tot.2) (K : ∀ (x5 x6 : Option Value) a b c, Sim a b c → fc_TP E mL_law 41 (lwX E tot Q) (cs.1 + 1, cs.2 + 6) fc_sh 1668 [some (.float 5), some (.ref 0), some (.ref 252), some (.ref 272), some (.int (nI i)), x5, x6] [] a b c Q) : fc_TP E mL_law 41 (lwX E tot Q) cs fc_sh 1449 [some (.float 5), some (.ref 0), some (.ref 252), some (.ref 272), some (.int (nI i)), x5, x6] [] mi ml mr Q := by
  obtain ⟨b, b2, sc, sc2, n, m, t, sm, np, len, sl, kp, k, q, T, hC, hR⟩ := hS
  refine fc_prun oL_law (fun pc => pc == 1475) 100 ?_
  refine And.intro rfl (Exists.intro _ (And.intro (lxn (j := 1) rfl (by decide) hi hL) ?_))
  refine And.intro rfl (Exists.intro _ (And.intro (lxn (j := 2) rfl (by decide) hi hL) ?_))
  refine And.intro rfl (Exists.intro _ (And.intro (lxn (j := 3) rfl (by decide) hi hL) ?_))
  refine And.intro rfl (Exists.intro _ (And.intro (lxn (j := 4) rfl (by decide) hi hL) ?_))
  refine p_rests (bo := E.2.2.2.2.2.2.2 (i + 1)) (lo := E.2.2.2.2.2.2.2 (i + 2)) (ga := E.2.2.2.2.2.2.2 (i + 3)) (w := E.2.2.2.2.2.2.2 (i + 4)) hl h1 h2 ?_
  rintro _ m1 l1 r1 ⟨rfl, rfl, rfl, hl1⟩
  have hs : Sim (fc_u m1 252 0 (fc_b (rs_t (E.2.2.2.2.2.2.2 (i + 1)) (E.2.2.2.2.2.2.2 (i + 2)) (E.2.2.2.2.2.2.2 (i + 3)) (E.2.2.2.2.2.2.2 (i + 4))))) l1 r1 := Sim_q2 hC hR (FrC_0 _) (FrR_0 _) (fun x _ _ hx => by
    rw [hl1]
    cases rs_t (E.2.2.2.2.2.2.2 (i + 1)) (E.2.2.2.2.2.2.2 (i + 2)) (E.2.2.2.2.2.2.2 (i + 3)) (E.2.2.2.2.2.2.2 (i + 4))
    · exact fc_u_off _ _ _ hx
    · rfl) hC.w (fun _ _ => rfl) hC.2.1.2.2.2.2
  refine fc_prun oL_law (fun pc => pc == 1668) 100 ?_
  refine And.intro rfl (Exists.intro _ (And.intro (lxn (j := 1) rfl (by decide) hi hL) ?_))
  refine And.intro rfl (Exists.intro _ (And.intro (lxn (j := 2) rfl (by decide) hi hL) ?_))
  refine And.intro rfl (Exists.intro _ (And.intro (lxn (j := 3) rfl (by decide) hi hL) ?_))
  refine And.intro rfl (Exists.intro _ (And.intro (lxn (j := 4) rfl (by decide) hi hL) ?_))
  refine And.intro rfl (Exists.intro _ (And.intro (c_rrests (d := 39) hC.w _ _ _ _) ?_))
  rintro _ _ _ _ ⟨rfl, rfl, rfl, rfl⟩
  refine And.intro rfl (Exists.intro _ (And.intro (c_rthrown (d := 40) hC.w) ?_))
  rintro _ _ _ _ ⟨rfl, rfl, rfl, rfl⟩
  refine And.intro (fun _ => ?_) (fun h => absurd rfl h)
  refine And.intro (fun h0 => ?_) (fun h0 => ?_)
  · have ht : rs_t (E.2.2.2.2.2.2.2 (i + 1)) (E.2.2.2.2.2.2.2 (i + 2)) (E.2.2.2.2.2.2.2 (i + 3)) (E.2.2.2.2.2.2.2 (i + 4)) = false := fc_b0.mp h0
    have hv : l1 272 0 = (rs_a (E.2.2.2.2.2.2.2 (i + 1)) (E.2.2.2.2.2.2.2 (i + 2)) (E.2.2.2.2.2.2.2 (i + 3)) (E.2.2.2.2.2.2.2 (i + 4))).toInt64 := by rw [hl1, ht]; rfl
    refine Exists.intro 1 (Exists.intro 0 (And.intro rfl (And.intro (show fc_ix 0 1 0 from fc_ix_nI (p := 0) (by decide) (by decide)) ?_)))
    refine And.intro (fun _ => ?_) (fun h => absurd (lg_cmp0.mpr hv) h)
    exact K _ _ _ _ _ hs
  · exact K _ _ _ _ _ hs
theorem lw_cmp {L i : Nat} (hL : L ≤ 3584) (hi : i ≤ 4000) (h : ¬ Int32.ofNat L - 7 < nI i) : i + 7 ≤ L := by
  by_cases h7 : 7 ≤ L
  · rw [show Int32.ofNat L - 7 = nI (L - 7) from nI_subn (a := L) (b := 7) h7] at h
    have h2 : ¬ L - 7 < i := fun q => h (nI_lt q (by omega))
    omega
  · exfalso
    refine h ?_
    have h0 : Int32.ofNat L - 7 < 0 := by
      rcases (by omega : L = 0 ∨ L = 1 ∨ L = 2 ∨ L = 3 ∨ L = 4 ∨ L = 5 ∨ L = 6) with rfl | rfl | rfl | rfl | rfl | rfl | rfl <;> decide
    have h1 : ¬ nI i < 0 := nI_pos (by omega)
    rw [Int32.lt_iff_toInt_lt] at h0 h1 ⊢
    omega
def lw_T : List Nat := [228, 375, 388, 401, 438, 475, 512, 549, 586, 623, 636, 649, 674, 711, 748, 773, 798, 835, 848, 873, 910, 947, 1000, 1025, 1050, 1063, 1076, 1101, 1138, 1151, 1164, 1189, 1254, 1267, 1280, 1293, 1346, 1371, 1412, 1449, 1541, 1590, 1643, 1668]
set_option maxRecDepth 40000 in
theorem lw_head {X : fc_Px} (hL : E.2.2.2.2.2.2.1 ≤ 3584) (hi : i ≤ 4000) (K1 : Q (some (.int 1)) mi ml mr) (K : i + 7 ≤ E.2.2.2.2.2.2.1 → ∀ pc, pc ∈ lw_T → fc_TP E mL_law 41 X cs fc_sh pc [some (.float 5), some (.ref 0), some (.ref 252), some (.ref 272), some (.int (nI i)), x5, x6] [] mi ml mr Q) : fc_TP E mL_law 41 X cs fc_sh 23 [some (.float 5), some (.ref 0), some (.ref 252), some (.ref 272), some (.int (nI i)), x5, x6] [] mi ml mr Q := by
  refine fc_prun oL_law (fun pc => Nat.ble 228 pc && Nat.ble pc 1668) 60 ?_
  refine And.intro rfl ?_
  refine And.intro (fun _ => ⟨Or.inr rfl, K1⟩) (fun h => ?_)
  have h7 := lw_cmp hL hi h
  refine And.intro rfl (Exists.intro i (And.intro (fc_ix_nI (by omega) (by omega)) ?_))
  refine And.intro (fun _ => K h7 1668 (by decide)) (fun _ => And.intro ?_ (by decide))
  exact ⟨fun _ => K h7 228 (by decide), fun _ => K h7 375 (by decide), fun _ => K h7 388 (by decide), fun _ => K h7 401 (by decide), fun _ => K h7 438 (by decide), fun _ => K h7 475 (by decide), fun _ => K h7 512 (by decide), fun _ => K h7 549 (by decide), fun _ => K h7 586 (by decide), fun _ => K h7 623 (by decide), fun _ => K h7 636 (by decide), fun _ => K h7 649 (by decide), fun _ => K h7 674 (by decide), fun _ => K h7 711 (by decide), fun _ => K h7 748 (by decide), fun _ => K h7 773 (by decide), fun _ => K h7 798 (by decide), fun _ => K h7 835 (by decide), fun _ => K h7 848 (by decide), fun _ => K h7 873 (by decide), fun _ => K h7 910 (by decide), fun _ => K h7 947 (by decide), fun _ => K h7 1000 (by decide), fun _ => K h7 1025 (by decide), fun _ => K h7 1050 (by decide), fun _ => K h7 1063 (by decide), fun _ => K h7 1076 (by decide), fun _ => K h7 1101 (by decide), fun _ => K h7 1138 (by decide), fun _ => K h7 1151 (by decide), fun _ => K h7 1164 (by decide), fun _ => K h7 1189 (by decide), fun _ => K h7 1254 (by decide), fun _ => K h7 1267 (by decide), fun _ => K h7 1280 (by decide), fun _ => K h7 1293 (by decide), fun _ => K h7 1346 (by decide), fun _ => K h7 1371 (by decide), fun _ => K h7 1412 (by decide), fun _ => K h7 1449 (by decide), fun _ => K h7 1541 (by decide), fun _ => K h7 1590 (by decide), fun _ => K h7 1643 (by decide), trivial⟩
theorem lw_inc (i : Nat) : nI i + Int32.ofInt 7 = nI (i + 7) := (Int32.ofNat_add i 7).symm
set_option maxRecDepth 40000 in
theorem lw_loop (hl : E.1.stackTraces = false) (hL : E.2.2.2.2.2.2.1 ≤ 3584) : ∀ (j i : Nat) (cs : Nat × Nat) (x5 x6 : Option Value) (mi : fc_Mi) (ml : fc_Ml) (mr : fc_Mr), E.2.2.2.2.2.2.1 ≤ i + 7 * j + 6 → i ≤ 3591 → cs.1 + j ≤ tot.1 → cs.2 + 6 * j ≤ tot.2 → Sim mi ml mr → fc_TP E mL_law 41 (lwX E tot (fun v _ _ _ => v = some (.int 1))) cs fc_sh 23 [some (.float 5), some (.ref 0), some (.ref 252), some (.ref 272), some (.int (nI i)), x5, x6] [] mi ml mr (fun v _ _ _ => v = some (.int 1)) := by
  intro j
  induction j with
  | zero =>
    intro i cs x5 x6 mi ml mr h1 h2 h3 h4 hS
    exact lw_head hL (by omega) rfl (fun h7 => by omega)
  | succ j ih =>
    intro i cs x5 x6 mi ml mr h1 h2 h3 h4 hS
    refine lw_head hL (by omega) rfl (fun h7 pc hpc => ?_)
    have KK : ∀ (cs' : Nat × Nat) (x5 x6 : Option Value) (a : fc_Mi) (b : fc_Ml) (c : fc_Mr), cs'.1 + j ≤ tot.1 → cs'.2 + 6 * j ≤ tot.2 → Sim a b c → fc_TP E mL_law 41 (lwX E tot (fun v _ _ _ => v = some (.int 1))) cs' fc_sh 1668 [some (.float 5), some (.ref 0), some (.ref 252), some (.ref 272), some (.int (nI i)), x5, x6] [] a b c (fun v _ _ _ => v = some (.int 1)) := by
      intro cs' x5 x6 a b c g1 g2 hs
      have h := ih (i + 7) cs' x5 x6 a b c (by omega) (by omega) g1 g2 hs
      rw [← lw_inc] at h
      refine fc_prun oL_law (fun pc => pc == 23) 10 ?_
      exact h
    have K := fun a b c (hs : Sim a b c) => KK cs x5 x6 a b c (by omega) (by omega) hs
    simp only [lw_T, List.mem_cons, List.not_mem_nil, or_false] at hpc
    rcases hpc with rfl | rfl | rfl | rfl | rfl | rfl | rfl | rfl | rfl | rfl | rfl | rfl | rfl | rfl | rfl | rfl | rfl | rfl | rfl | rfl | rfl | rfl | rfl | rfl | rfl | rfl | rfl | rfl | rfl | rfl | rfl | rfl | rfl | rfl | rfl | rfl | rfl | rfl | rfl | rfl | rfl | rfl | rfl | rfl
    · exact lw_c0 h7 hL hS K
    · exact lw_c1 h7 hL hS K
    · exact lw_c2 h7 hL hS K
    · exact lw_c3 h7 hL hS K
    · exact lw_c4 h7 hL hS K
    · exact lw_c5 h7 hL hS K
    · exact lw_c6 h7 hL hS K
    · exact lw_c7 h7 hL hS K
    · exact lw_c8 h7 hL hS K
    · exact lw_c9 h7 hL hS K
    · exact lw_c10 h7 hL hS K
    · exact lw_c11 h7 hL hS K
    · exact lw_c12 h7 hL hS K
    · exact lw_c13 h7 hL hS K
    · exact lw_c14 h7 hL hS K
    · exact lw_c15 h7 hL hS K
    · exact lw_c16 h7 hL hS K
    · exact lw_c17 h7 hL hS K
    · exact lw_c18 h7 hL hS K
    · exact lw_c19 h7 hL hS K
    · exact lw_c20 h7 hL hS K
    · exact lw_c21 h7 hL hS K
    · exact lw_c22 h7 hL hS K
    · exact lw_c23 h7 hL hS K
    · exact lw_c24 h7 hL hS K
    · exact lw_c25 h7 hL hS K
    · exact lw_c26 h7 hL hS K
    · exact lw_c27 h7 hL hS K
    · exact lw_c28 h7 hL hS K
    · exact lw_c29 h7 hL hS K
    · exact lw_c30 h7 hL hS K
    · exact lw_c31 h7 hL hS K
    · exact lw_c32 h7 hL hS K
    · exact lw_c33 h7 hL hS K
    · exact lw_c34 h7 hL hS K
    · exact lw_c35 h7 hL hS K
    · exact lw_c36 h7 hL hS K
    · exact lw_c37 h7 hL hS K
    · exact lw_c38 h7 hL hS K
    · exact lw_c39 hl h7 hL hS (by omega) (by omega) (fun x5 x6 a b c hs => KK (cs.1 + 1, cs.2 + 6) x5 x6 a b c (by dsimp only; omega) (by dsimp only; omega) hs)
    · exact lw_c40 h7 hL hS K
    · exact lw_c41 h7 hL hS K
    · exact lw_c42 h7 hL hS K
    · exact K _ _ _ hS
theorem fc_loop_ok : fc_loop 37 := by
  intro E a m1 g1 g2 hl hL p e s m args below meth c R Qf hC hR hZ hret H locs ls hP hS hlv
  have h := lw_loop (E := E) (tot := (601024, 7293034)) hl hL 512 0 (273, 18371) none none a ml0 mr0 (by omega) (by omega) (by decide) (by decide) (Sim0 g1 g2)
  have h2 : fc_TP E mL_law 41 (lwX E (601024, 7293034) (fun v _ _ _ => v = some (.int 1))) (273, 18371) fc_sh 20 [some (.float 5), some (.ref 0), some (.ref 252), some (.ref 272), none, none, none] [] a ml0 mr0 (fun v _ _ _ => v = some (.int 1)) := by
    refine fc_p_iconst (v := nI 0) dL_20 rfl ?_
    refine fc_p_istore dL_21 (by decide) ?_
    exact h
  exact h2 p e s m args below meth c R Qf hC hR ⟨hZ.1, hret⟩ (fc_retW (by decide) (by decide) hret) H locs ls hP hS hlv
end MK
