/-! ===== the law: its cases ===== -/
theorem lxn {i L j : Nat} {z : Int32} (hz : z = nI j) (hj : j < 7) (h : i + 7 ≤ L) (hL : L ≤ 3584) : fc_ix (nI i + z) L (i + j) := by
  rw [hz, show nI i + nI j = nI (i + j) from (Int32.ofNat_add i j).symm]
  exact fc_ix_nI (by omega) (by omega)
section MI
variable {E : fc_E} {X : fc_Px} {Q : fc_Q} {cs : Nat × Nat} {i : Nat} {x5 x6 : Option Value} {mi : fc_Mi} {ml : fc_Ml} {mr : fc_Mr}
set_option maxRecDepth 40000 in
theorem lw_c0 (hi : i + 7 ≤ E.2.2.2.2.2.2.1) (hL : E.2.2.2.2.2.2.1 ≤ 3584) (hS : Sim mi ml mr) (K : ∀ a b c, Sim a b c → fc_TP E mL_law 41 X cs fc_sh 1668 [some (.float 5), some (.ref 0), some (.ref 252), some (.ref 272), some (.int (nI i)), x5, x6] [] a b c Q) : fc_TP E mL_law 41 X cs fc_sh 228 [some (.float 5), some (.ref 0), some (.ref 252), some (.ref 272), some (.int (nI i)), x5, x6] [] mi ml mr Q := by
  obtain ⟨b, b2, sc, sc2, n, m, t, sm, np, len, sl, kp, k, q, T, hC, hR⟩ := hS
  refine fc_prun oL_law (fun pc => pc == 1668) 200 ?_
  refine And.intro rfl (Exists.intro _ (And.intro (lxn (j := 1) rfl (by decide) hi hL) ?_))
  refine And.intro rfl (Exists.intro _ (And.intro (lxn (j := 2) rfl (by decide) hi hL) ?_))
  refine And.intro rfl (Exists.intro _ (And.intro (lxn (j := 3) rfl (by decide) hi hL) ?_))
  refine And.intro rfl (Exists.intro _ (And.intro (lxn (j := 4) rfl (by decide) hi hL) ?_))
  refine And.intro rfl (Exists.intro _ (And.intro (lxn (j := 5) rfl (by decide) hi hL) ?_))
  refine And.intro rfl (Exists.intro _ (And.intro (lxn (j := 6) rfl (by decide) hi hL) ?_))
  refine And.intro rfl (Exists.intro _ (And.intro (b_feed (E := E) hC hR _ _ _).choose_spec ?_))
  rintro _ m1 l1 r1 ⟨rfl, hb⟩
  refine And.intro rfl (Exists.intro _ (And.intro (lxn (j := 1) rfl (by decide) hi hL) ?_))
  refine And.intro rfl (Exists.intro _ (And.intro (lxn (j := 2) rfl (by decide) hi hL) ?_))
  refine And.intro rfl (Exists.intro _ (And.intro (lxn (j := 3) rfl (by decide) hi hL) ?_))
  refine And.intro rfl (Exists.intro _ (And.intro (lxn (j := 4) rfl (by decide) hi hL) ?_))
  refine And.intro rfl (Exists.intro _ (And.intro (lxn (j := 5) rfl (by decide) hi hL) ?_))
  refine And.intro rfl (Exists.intro _ (And.intro (lxn (j := 6) rfl (by decide) hi hL) ?_))
  refine And.intro rfl (Exists.intro _ (And.intro hb ?_))
  rintro _ m2 l2 r2 ⟨rfl, hs⟩
  refine And.intro (fun _ => ?_) (fun h => absurd rfl h)
  exact K m2 l2 r2 hs
set_option maxRecDepth 40000 in
theorem lw_c1 (hi : i + 7 ≤ E.2.2.2.2.2.2.1) (hL : E.2.2.2.2.2.2.1 ≤ 3584) (hS : Sim mi ml mr) (K : ∀ a b c, Sim a b c → fc_TP E mL_law 41 X cs fc_sh 1668 [some (.float 5), some (.ref 0), some (.ref 252), some (.ref 272), some (.int (nI i)), x5, x6] [] a b c Q) : fc_TP E mL_law 41 X cs fc_sh 375 [some (.float 5), some (.ref 0), some (.ref 252), some (.ref 272), some (.int (nI i)), x5, x6] [] mi ml mr Q := by
  obtain ⟨b, b2, sc, sc2, n, m, t, sm, np, len, sl, kp, k, q, T, hC, hR⟩ := hS
  refine fc_prun oL_law (fun pc => pc == 1668) 200 ?_
  refine And.intro rfl (Exists.intro _ (And.intro (b_land (E := E) hC hR).choose_spec ?_))
  rintro _ m1 l1 r1 ⟨rfl, hb⟩
  refine And.intro rfl (Exists.intro _ (And.intro hb ?_))
  rintro _ m2 l2 r2 ⟨rfl, hs⟩
  refine And.intro (fun _ => ?_) (fun h => absurd rfl h)
  exact K m2 l2 r2 hs
set_option maxRecDepth 40000 in
theorem lw_c2 (hi : i + 7 ≤ E.2.2.2.2.2.2.1) (hL : E.2.2.2.2.2.2.1 ≤ 3584) (hS : Sim mi ml mr) (K : ∀ a b c, Sim a b c → fc_TP E mL_law 41 X cs fc_sh 1668 [some (.float 5), some (.ref 0), some (.ref 252), some (.ref 272), some (.int (nI i)), x5, x6] [] a b c Q) : fc_TP E mL_law 41 X cs fc_sh 388 [some (.float 5), some (.ref 0), some (.ref 252), some (.ref 272), some (.int (nI i)), x5, x6] [] mi ml mr Q := by
  obtain ⟨b, b2, sc, sc2, n, m, t, sm, np, len, sl, kp, k, q, T, hC, hR⟩ := hS
  refine fc_prun oL_law (fun pc => pc == 1668) 200 ?_
  refine And.intro rfl (Exists.intro _ (And.intro (b_morning (E := E) hC hR).choose_spec ?_))
  rintro _ m1 l1 r1 ⟨rfl, hb⟩
  refine And.intro rfl (Exists.intro _ (And.intro hb ?_))
  rintro _ m2 l2 r2 ⟨rfl, hs⟩
  refine And.intro (fun _ => ?_) (fun h => absurd rfl h)
  exact K m2 l2 r2 hs
set_option maxRecDepth 40000 in
theorem lw_c3 (hi : i + 7 ≤ E.2.2.2.2.2.2.1) (hL : E.2.2.2.2.2.2.1 ≤ 3584) (hS : Sim mi ml mr) (K : ∀ a b c, Sim a b c → fc_TP E mL_law 41 X cs fc_sh 1668 [some (.float 5), some (.ref 0), some (.ref 252), some (.ref 272), some (.int (nI i)), x5, x6] [] a b c Q) : fc_TP E mL_law 41 X cs fc_sh 401 [some (.float 5), some (.ref 0), some (.ref 252), some (.ref 272), some (.int (nI i)), x5, x6] [] mi ml mr Q := by
  obtain ⟨b, b2, sc, sc2, n, m, t, sm, np, len, sl, kp, k, q, T, hC, hR⟩ := hS
  refine fc_prun oL_law (fun pc => pc == 1668) 200 ?_
  refine And.intro rfl (Exists.intro _ (And.intro (lxn (j := 1) rfl (by decide) hi hL) ?_))
  refine And.intro rfl (Exists.intro _ (And.intro (lxn (j := 2) rfl (by decide) hi hL) ?_))
  refine And.intro rfl (Exists.intro _ (And.intro (b_place (E := E) hC hR _ _).choose_spec ?_))
  rintro _ m1 l1 r1 ⟨rfl, hb⟩
  refine And.intro rfl (Exists.intro _ (And.intro (lxn (j := 1) rfl (by decide) hi hL) ?_))
  refine And.intro rfl (Exists.intro _ (And.intro (lxn (j := 2) rfl (by decide) hi hL) ?_))
  refine And.intro rfl (Exists.intro _ (And.intro hb ?_))
  rintro _ m2 l2 r2 ⟨rfl, hs⟩
  refine And.intro (fun _ => ?_) (fun h => absurd rfl h)
  exact K m2 l2 r2 hs
set_option maxRecDepth 40000 in
theorem lw_c4 (hi : i + 7 ≤ E.2.2.2.2.2.2.1) (hL : E.2.2.2.2.2.2.1 ≤ 3584) (hS : Sim mi ml mr) (K : ∀ a b c, Sim a b c → fc_TP E mL_law 41 X cs fc_sh 1668 [some (.float 5), some (.ref 0), some (.ref 252), some (.ref 272), some (.int (nI i)), x5, x6] [] a b c Q) : fc_TP E mL_law 41 X cs fc_sh 438 [some (.float 5), some (.ref 0), some (.ref 252), some (.ref 272), some (.int (nI i)), x5, x6] [] mi ml mr Q := by
  obtain ⟨b, b2, sc, sc2, n, m, t, sm, np, len, sl, kp, k, q, T, hC, hR⟩ := hS
  refine fc_prun oL_law (fun pc => pc == 1668) 200 ?_
  refine And.intro rfl (Exists.intro _ (And.intro (lxn (j := 1) rfl (by decide) hi hL) ?_))
  refine And.intro rfl (Exists.intro _ (And.intro (lxn (j := 2) rfl (by decide) hi hL) ?_))
  refine And.intro rfl (Exists.intro _ (And.intro (b_person (E := E) hC hR _ _).choose_spec ?_))
  rintro _ m1 l1 r1 ⟨rfl, hb⟩
  refine And.intro rfl (Exists.intro _ (And.intro (lxn (j := 1) rfl (by decide) hi hL) ?_))
  refine And.intro rfl (Exists.intro _ (And.intro (lxn (j := 2) rfl (by decide) hi hL) ?_))
  refine And.intro rfl (Exists.intro _ (And.intro hb ?_))
  rintro _ m2 l2 r2 ⟨rfl, hs⟩
  refine And.intro (fun _ => ?_) (fun h => absurd rfl h)
  exact K m2 l2 r2 hs
set_option maxRecDepth 40000 in
theorem lw_c5 (hi : i + 7 ≤ E.2.2.2.2.2.2.1) (hL : E.2.2.2.2.2.2.1 ≤ 3584) (hS : Sim mi ml mr) (K : ∀ a b c, Sim a b c → fc_TP E mL_law 41 X cs fc_sh 1668 [some (.float 5), some (.ref 0), some (.ref 252), some (.ref 272), some (.int (nI i)), x5, x6] [] a b c Q) : fc_TP E mL_law 41 X cs fc_sh 475 [some (.float 5), some (.ref 0), some (.ref 252), some (.ref 272), some (.int (nI i)), x5, x6] [] mi ml mr Q := by
  obtain ⟨b, b2, sc, sc2, n, m, t, sm, np, len, sl, kp, k, q, T, hC, hR⟩ := hS
  refine fc_prun oL_law (fun pc => pc == 1668) 200 ?_
  refine And.intro rfl (Exists.intro _ (And.intro (lxn (j := 1) rfl (by decide) hi hL) ?_))
  refine And.intro rfl (Exists.intro _ (And.intro (lxn (j := 2) rfl (by decide) hi hL) ?_))
  refine And.intro rfl (Exists.intro _ (And.intro (b_thing (E := E) hC hR _ _).choose_spec ?_))
  rintro _ m1 l1 r1 ⟨rfl, hb⟩
  refine And.intro rfl (Exists.intro _ (And.intro (lxn (j := 1) rfl (by decide) hi hL) ?_))
  refine And.intro rfl (Exists.intro _ (And.intro (lxn (j := 2) rfl (by decide) hi hL) ?_))
  refine And.intro rfl (Exists.intro _ (And.intro hb ?_))
  rintro _ m2 l2 r2 ⟨rfl, hs⟩
  refine And.intro (fun _ => ?_) (fun h => absurd rfl h)
  exact K m2 l2 r2 hs
set_option maxRecDepth 40000 in
theorem lw_c6 (hi : i + 7 ≤ E.2.2.2.2.2.2.1) (hL : E.2.2.2.2.2.2.1 ≤ 3584) (hS : Sim mi ml mr) (K : ∀ a b c, Sim a b c → fc_TP E mL_law 41 X cs fc_sh 1668 [some (.float 5), some (.ref 0), some (.ref 252), some (.ref 272), some (.int (nI i)), x5, x6] [] a b c Q) : fc_TP E mL_law 41 X cs fc_sh 512 [some (.float 5), some (.ref 0), some (.ref 252), some (.ref 272), some (.int (nI i)), x5, x6] [] mi ml mr Q := by
  obtain ⟨b, b2, sc, sc2, n, m, t, sm, np, len, sl, kp, k, q, T, hC, hR⟩ := hS
  refine fc_prun oL_law (fun pc => pc == 1668) 200 ?_
  refine And.intro rfl (Exists.intro _ (And.intro (lxn (j := 1) rfl (by decide) hi hL) ?_))
  refine And.intro rfl (Exists.intro _ (And.intro (lxn (j := 2) rfl (by decide) hi hL) ?_))
  refine And.intro rfl (Exists.intro _ (And.intro (b_walk (E := E) hC hR _ _).choose_spec ?_))
  rintro _ m1 l1 r1 ⟨rfl, hb⟩
  refine And.intro rfl (Exists.intro _ (And.intro (lxn (j := 1) rfl (by decide) hi hL) ?_))
  refine And.intro rfl (Exists.intro _ (And.intro (lxn (j := 2) rfl (by decide) hi hL) ?_))
  refine And.intro rfl (Exists.intro _ (And.intro hb ?_))
  rintro _ m2 l2 r2 ⟨rfl, hs⟩
  refine And.intro (fun _ => ?_) (fun h => absurd rfl h)
  exact K m2 l2 r2 hs
set_option maxRecDepth 40000 in
theorem lw_c7 (hi : i + 7 ≤ E.2.2.2.2.2.2.1) (hL : E.2.2.2.2.2.2.1 ≤ 3584) (hS : Sim mi ml mr) (K : ∀ a b c, Sim a b c → fc_TP E mL_law 41 X cs fc_sh 1668 [some (.float 5), some (.ref 0), some (.ref 252), some (.ref 272), some (.int (nI i)), x5, x6] [] a b c Q) : fc_TP E mL_law 41 X cs fc_sh 549 [some (.float 5), some (.ref 0), some (.ref 252), some (.ref 272), some (.int (nI i)), x5, x6] [] mi ml mr Q := by
  obtain ⟨b, b2, sc, sc2, n, m, t, sm, np, len, sl, kp, k, q, T, hC, hR⟩ := hS
  refine fc_prun oL_law (fun pc => pc == 1668) 200 ?_
  refine And.intro rfl (Exists.intro _ (And.intro (lxn (j := 1) rfl (by decide) hi hL) ?_))
  refine And.intro rfl (Exists.intro _ (And.intro (lxn (j := 2) rfl (by decide) hi hL) ?_))
  refine And.intro rfl (Exists.intro _ (And.intro (b_give (E := E) hC hR _ _).choose_spec ?_))
  rintro _ m1 l1 r1 ⟨rfl, hb⟩
  refine And.intro rfl (Exists.intro _ (And.intro (lxn (j := 1) rfl (by decide) hi hL) ?_))
  refine And.intro rfl (Exists.intro _ (And.intro (lxn (j := 2) rfl (by decide) hi hL) ?_))
  refine And.intro rfl (Exists.intro _ (And.intro hb ?_))
  rintro _ m2 l2 r2 ⟨rfl, hs⟩
  refine And.intro (fun _ => ?_) (fun h => absurd rfl h)
  exact K m2 l2 r2 hs
set_option maxRecDepth 40000 in
theorem lw_c8 (hi : i + 7 ≤ E.2.2.2.2.2.2.1) (hL : E.2.2.2.2.2.2.1 ≤ 3584) (hS : Sim mi ml mr) (K : ∀ a b c, Sim a b c → fc_TP E mL_law 41 X cs fc_sh 1668 [some (.float 5), some (.ref 0), some (.ref 252), some (.ref 272), some (.int (nI i)), x5, x6] [] a b c Q) : fc_TP E mL_law 41 X cs fc_sh 586 [some (.float 5), some (.ref 0), some (.ref 252), some (.ref 272), some (.int (nI i)), x5, x6] [] mi ml mr Q := by
  obtain ⟨b, b2, sc, sc2, n, m, t, sm, np, len, sl, kp, k, q, T, hC, hR⟩ := hS
  refine fc_prun oL_law (fun pc => pc == 1668) 200 ?_
  refine And.intro rfl (Exists.intro _ (And.intro (lxn (j := 1) rfl (by decide) hi hL) ?_))
  refine And.intro rfl (Exists.intro _ (And.intro (lxn (j := 2) rfl (by decide) hi hL) ?_))
  refine And.intro rfl (Exists.intro _ (And.intro (b_vow (E := E) hC hR _ _).choose_spec ?_))
  rintro _ m1 l1 r1 ⟨rfl, hb⟩
  refine And.intro rfl (Exists.intro _ (And.intro (lxn (j := 1) rfl (by decide) hi hL) ?_))
  refine And.intro rfl (Exists.intro _ (And.intro (lxn (j := 2) rfl (by decide) hi hL) ?_))
  refine And.intro rfl (Exists.intro _ (And.intro hb ?_))
  rintro _ m2 l2 r2 ⟨rfl, hs⟩
  refine And.intro (fun _ => ?_) (fun h => absurd rfl h)
  exact K m2 l2 r2 hs
set_option maxRecDepth 40000 in
theorem lw_c9 (hi : i + 7 ≤ E.2.2.2.2.2.2.1) (hL : E.2.2.2.2.2.2.1 ≤ 3584) (hS : Sim mi ml mr) (K : ∀ a b c, Sim a b c → fc_TP E mL_law 41 X cs fc_sh 1668 [some (.float 5), some (.ref 0), some (.ref 252), some (.ref 272), some (.int (nI i)), x5, x6] [] a b c Q) : fc_TP E mL_law 41 X cs fc_sh 623 [some (.float 5), some (.ref 0), some (.ref 252), some (.ref 272), some (.int (nI i)), x5, x6] [] mi ml mr Q := by
  obtain ⟨b, b2, sc, sc2, n, m, t, sm, np, len, sl, kp, k, q, T, hC, hR⟩ := hS
  refine fc_prun oL_law (fun pc => pc == 1668) 200 ?_
  refine And.intro rfl (Exists.intro _ (And.intro (b_minute (E := E) hC hR).choose_spec ?_))
  rintro _ m1 l1 r1 ⟨rfl, hb⟩
  refine And.intro rfl (Exists.intro _ (And.intro hb ?_))
  rintro _ m2 l2 r2 ⟨rfl, hs⟩
  refine And.intro (fun _ => ?_) (fun h => absurd rfl h)
  exact K m2 l2 r2 hs
set_option maxRecDepth 40000 in
theorem lw_c10 (hi : i + 7 ≤ E.2.2.2.2.2.2.1) (hL : E.2.2.2.2.2.2.1 ≤ 3584) (hS : Sim mi ml mr) (K : ∀ a b c, Sim a b c → fc_TP E mL_law 41 X cs fc_sh 1668 [some (.float 5), some (.ref 0), some (.ref 252), some (.ref 272), some (.int (nI i)), x5, x6] [] a b c Q) : fc_TP E mL_law 41 X cs fc_sh 636 [some (.float 5), some (.ref 0), some (.ref 252), some (.ref 272), some (.int (nI i)), x5, x6] [] mi ml mr Q := by
  obtain ⟨b, b2, sc, sc2, n, m, t, sm, np, len, sl, kp, k, q, T, hC, hR⟩ := hS
  refine fc_prun oL_law (fun pc => pc == 1668) 200 ?_
  refine And.intro rfl (Exists.intro _ (And.intro (b_undo (E := E) hC hR).choose_spec ?_))
  rintro _ m1 l1 r1 ⟨rfl, hb⟩
  refine And.intro rfl (Exists.intro _ (And.intro hb ?_))
  rintro _ m2 l2 r2 ⟨rfl, hs⟩
  refine And.intro (fun _ => ?_) (fun h => absurd rfl h)
  exact K m2 l2 r2 hs
set_option maxRecDepth 40000 in
theorem lw_c11 (hi : i + 7 ≤ E.2.2.2.2.2.2.1) (hL : E.2.2.2.2.2.2.1 ≤ 3584) (hS : Sim mi ml mr) (K : ∀ a b c, Sim a b c → fc_TP E mL_law 41 X cs fc_sh 1668 [some (.float 5), some (.ref 0), some (.ref 252), some (.ref 272), some (.int (nI i)), x5, x6] [] a b c Q) : fc_TP E mL_law 41 X cs fc_sh 649 [some (.float 5), some (.ref 0), some (.ref 252), some (.ref 272), some (.int (nI i)), x5, x6] [] mi ml mr Q := by
  obtain ⟨b, b2, sc, sc2, n, m, t, sm, np, len, sl, kp, k, q, T, hC, hR⟩ := hS
  refine fc_prun oL_law (fun pc => pc == 1668) 200 ?_
  refine And.intro rfl (Exists.intro _ (And.intro (lxn (j := 1) rfl (by decide) hi hL) ?_))
  refine And.intro rfl (Exists.intro _ (And.intro (b_judged (E := E) hC hR _).choose_spec ?_))
  rintro _ m1 l1 r1 ⟨rfl, hb⟩
  refine And.intro rfl (Exists.intro _ (And.intro (lxn (j := 1) rfl (by decide) hi hL) ?_))
  refine And.intro rfl (Exists.intro _ (And.intro hb ?_))
  rintro _ m2 l2 r2 ⟨rfl, hs⟩
  refine And.intro (fun _ => ?_) (fun h => absurd rfl h)
  exact K m2 l2 r2 hs
set_option maxRecDepth 40000 in
theorem lw_c12 (hi : i + 7 ≤ E.2.2.2.2.2.2.1) (hL : E.2.2.2.2.2.2.1 ≤ 3584) (hS : Sim mi ml mr) (K : ∀ a b c, Sim a b c → fc_TP E mL_law 41 X cs fc_sh 1668 [some (.float 5), some (.ref 0), some (.ref 252), some (.ref 272), some (.int (nI i)), x5, x6] [] a b c Q) : fc_TP E mL_law 41 X cs fc_sh 674 [some (.float 5), some (.ref 0), some (.ref 252), some (.ref 272), some (.int (nI i)), x5, x6] [] mi ml mr Q := by
  obtain ⟨b, b2, sc, sc2, n, m, t, sm, np, len, sl, kp, k, q, T, hC, hR⟩ := hS
  refine fc_prun oL_law (fun pc => pc == 1668) 200 ?_
  refine And.intro rfl (Exists.intro _ (And.intro (lxn (j := 1) rfl (by decide) hi hL) ?_))
  refine And.intro rfl (Exists.intro _ (And.intro (lxn (j := 2) rfl (by decide) hi hL) ?_))
  refine And.intro rfl (Exists.intro _ (And.intro (b_soon (E := E) hC hR _ _).choose_spec ?_))
  rintro _ m1 l1 r1 ⟨rfl, hb⟩
  refine And.intro rfl (Exists.intro _ (And.intro (lxn (j := 1) rfl (by decide) hi hL) ?_))
  refine And.intro rfl (Exists.intro _ (And.intro (lxn (j := 2) rfl (by decide) hi hL) ?_))
  refine And.intro rfl (Exists.intro _ (And.intro hb ?_))
  rintro _ m2 l2 r2 ⟨rfl, hs⟩
  refine And.intro (fun _ => ?_) (fun h => absurd rfl h)
  exact K m2 l2 r2 hs
set_option maxRecDepth 40000 in
theorem lw_c13 (hi : i + 7 ≤ E.2.2.2.2.2.2.1) (hL : E.2.2.2.2.2.2.1 ≤ 3584) (hS : Sim mi ml mr) (K : ∀ a b c, Sim a b c → fc_TP E mL_law 41 X cs fc_sh 1668 [some (.float 5), some (.ref 0), some (.ref 252), some (.ref 272), some (.int (nI i)), x5, x6] [] a b c Q) : fc_TP E mL_law 41 X cs fc_sh 711 [some (.float 5), some (.ref 0), some (.ref 252), some (.ref 272), some (.int (nI i)), x5, x6] [] mi ml mr Q := by
  obtain ⟨b, b2, sc, sc2, n, m, t, sm, np, len, sl, kp, k, q, T, hC, hR⟩ := hS
  refine fc_prun oL_law (fun pc => pc == 1668) 200 ?_
  refine And.intro rfl (Exists.intro _ (And.intro (lxn (j := 1) rfl (by decide) hi hL) ?_))
  refine And.intro rfl (Exists.intro _ (And.intro (lxn (j := 2) rfl (by decide) hi hL) ?_))
  refine And.intro rfl (Exists.intro _ (And.intro (b_meet (E := E) hC hR _ _).choose_spec ?_))
  rintro _ m1 l1 r1 ⟨rfl, hb⟩
  refine And.intro rfl (Exists.intro _ (And.intro (lxn (j := 1) rfl (by decide) hi hL) ?_))
  refine And.intro rfl (Exists.intro _ (And.intro (lxn (j := 2) rfl (by decide) hi hL) ?_))
  refine And.intro rfl (Exists.intro _ (And.intro hb ?_))
  rintro _ m2 l2 r2 ⟨rfl, hs⟩
  refine And.intro (fun _ => ?_) (fun h => absurd rfl h)
  exact K m2 l2 r2 hs
set_option maxRecDepth 40000 in
theorem lw_c14 (hi : i + 7 ≤ E.2.2.2.2.2.2.1) (hL : E.2.2.2.2.2.2.1 ≤ 3584) (hS : Sim mi ml mr) (K : ∀ a b c, Sim a b c → fc_TP E mL_law 41 X cs fc_sh 1668 [some (.float 5), some (.ref 0), some (.ref 252), some (.ref 272), some (.int (nI i)), x5, x6] [] a b c Q) : fc_TP E mL_law 41 X cs fc_sh 748 [some (.float 5), some (.ref 0), some (.ref 252), some (.ref 272), some (.int (nI i)), x5, x6] [] mi ml mr Q := by
  obtain ⟨b, b2, sc, sc2, n, m, t, sm, np, len, sl, kp, k, q, T, hC, hR⟩ := hS
  refine fc_prun oL_law (fun pc => pc == 1668) 200 ?_
  refine And.intro rfl (Exists.intro _ (And.intro (lxn (j := 1) rfl (by decide) hi hL) ?_))
  refine And.intro rfl (Exists.intro _ (And.intro (b_all (E := E) hC hR _).choose_spec ?_))
  rintro _ m1 l1 r1 ⟨rfl, hb⟩
  refine And.intro rfl (Exists.intro _ (And.intro (lxn (j := 1) rfl (by decide) hi hL) ?_))
  refine And.intro rfl (Exists.intro _ (And.intro hb ?_))
  rintro _ m2 l2 r2 ⟨rfl, hs⟩
  refine And.intro (fun _ => ?_) (fun h => absurd rfl h)
  exact K m2 l2 r2 hs
set_option maxRecDepth 40000 in
theorem lw_c15 (hi : i + 7 ≤ E.2.2.2.2.2.2.1) (hL : E.2.2.2.2.2.2.1 ≤ 3584) (hS : Sim mi ml mr) (K : ∀ a b c, Sim a b c → fc_TP E mL_law 41 X cs fc_sh 1668 [some (.float 5), some (.ref 0), some (.ref 252), some (.ref 272), some (.int (nI i)), x5, x6] [] a b c Q) : fc_TP E mL_law 41 X cs fc_sh 773 [some (.float 5), some (.ref 0), some (.ref 252), some (.ref 272), some (.int (nI i)), x5, x6] [] mi ml mr Q := by
  obtain ⟨b, b2, sc, sc2, n, m, t, sm, np, len, sl, kp, k, q, T, hC, hR⟩ := hS
  refine fc_prun oL_law (fun pc => pc == 1668) 200 ?_
  refine And.intro rfl (Exists.intro _ (And.intro (lxn (j := 1) rfl (by decide) hi hL) ?_))
  refine And.intro rfl (Exists.intro _ (And.intro (b_tour (E := E) hC hR _).choose_spec ?_))
  rintro _ m1 l1 r1 ⟨rfl, hb⟩
  refine And.intro rfl (Exists.intro _ (And.intro (lxn (j := 1) rfl (by decide) hi hL) ?_))
  refine And.intro rfl (Exists.intro _ (And.intro hb ?_))
  rintro _ m2 l2 r2 ⟨rfl, hs⟩
  refine And.intro (fun _ => ?_) (fun h => absurd rfl h)
  exact K m2 l2 r2 hs
set_option maxRecDepth 40000 in
theorem lw_c16 (hi : i + 7 ≤ E.2.2.2.2.2.2.1) (hL : E.2.2.2.2.2.2.1 ≤ 3584) (hS : Sim mi ml mr) (K : ∀ a b c, Sim a b c → fc_TP E mL_law 41 X cs fc_sh 1668 [some (.float 5), some (.ref 0), some (.ref 252), some (.ref 272), some (.int (nI i)), x5, x6] [] a b c Q) : fc_TP E mL_law 41 X cs fc_sh 798 [some (.float 5), some (.ref 0), some (.ref 252), some (.ref 272), some (.int (nI i)), x5, x6] [] mi ml mr Q := by
  obtain ⟨b, b2, sc, sc2, n, m, t, sm, np, len, sl, kp, k, q, T, hC, hR⟩ := hS
  refine fc_prun oL_law (fun pc => pc == 1668) 200 ?_
  refine And.intro rfl (Exists.intro _ (And.intro (lxn (j := 1) rfl (by decide) hi hL) ?_))
  refine And.intro rfl (Exists.intro _ (And.intro (lxn (j := 2) rfl (by decide) hi hL) ?_))
  refine And.intro rfl (Exists.intro _ (And.intro (b_intime (E := E) hC hR _ _).choose_spec ?_))
  rintro _ m1 l1 r1 ⟨rfl, hb⟩
  refine And.intro rfl (Exists.intro _ (And.intro (lxn (j := 1) rfl (by decide) hi hL) ?_))
  refine And.intro rfl (Exists.intro _ (And.intro (lxn (j := 2) rfl (by decide) hi hL) ?_))
  refine And.intro rfl (Exists.intro _ (And.intro hb ?_))
  rintro _ m2 l2 r2 ⟨rfl, hs⟩
  refine And.intro (fun _ => ?_) (fun h => absurd rfl h)
  exact K m2 l2 r2 hs
set_option maxRecDepth 40000 in
theorem lw_c17 (hi : i + 7 ≤ E.2.2.2.2.2.2.1) (hL : E.2.2.2.2.2.2.1 ≤ 3584) (hS : Sim mi ml mr) (K : ∀ a b c, Sim a b c → fc_TP E mL_law 41 X cs fc_sh 1668 [some (.float 5), some (.ref 0), some (.ref 252), some (.ref 272), some (.int (nI i)), x5, x6] [] a b c Q) : fc_TP E mL_law 41 X cs fc_sh 835 [some (.float 5), some (.ref 0), some (.ref 252), some (.ref 272), some (.int (nI i)), x5, x6] [] mi ml mr Q := by
  obtain ⟨b, b2, sc, sc2, n, m, t, sm, np, len, sl, kp, k, q, T, hC, hR⟩ := hS
  refine fc_prun oL_law (fun pc => pc == 1668) 200 ?_
  refine And.intro rfl (Exists.intro _ (And.intro (b_back (E := E) hC hR).choose_spec ?_))
  rintro _ m1 l1 r1 ⟨rfl, hb⟩
  refine And.intro rfl (Exists.intro _ (And.intro hb ?_))
  rintro _ m2 l2 r2 ⟨rfl, hs⟩
  refine And.intro (fun _ => ?_) (fun h => absurd rfl h)
  exact K m2 l2 r2 hs
set_option maxRecDepth 40000 in
theorem lw_c18 (hi : i + 7 ≤ E.2.2.2.2.2.2.1) (hL : E.2.2.2.2.2.2.1 ≤ 3584) (hS : Sim mi ml mr) (K : ∀ a b c, Sim a b c → fc_TP E mL_law 41 X cs fc_sh 1668 [some (.float 5), some (.ref 0), some (.ref 252), some (.ref 272), some (.int (nI i)), x5, x6] [] a b c Q) : fc_TP E mL_law 41 X cs fc_sh 848 [some (.float 5), some (.ref 0), some (.ref 252), some (.ref 272), some (.int (nI i)), x5, x6] [] mi ml mr Q := by
  obtain ⟨b, b2, sc, sc2, n, m, t, sm, np, len, sl, kp, k, q, T, hC, hR⟩ := hS
  refine fc_prun oL_law (fun pc => pc == 1668) 200 ?_
  refine And.intro rfl (Exists.intro _ (And.intro (lxn (j := 1) rfl (by decide) hi hL) ?_))
  refine And.intro rfl (Exists.intro _ (And.intro (b_could (E := E) hC hR _).choose_spec ?_))
  rintro _ m1 l1 r1 ⟨rfl, hb⟩
  refine And.intro rfl (Exists.intro _ (And.intro (lxn (j := 1) rfl (by decide) hi hL) ?_))
  refine And.intro rfl (Exists.intro _ (And.intro hb ?_))
  rintro _ m2 l2 r2 ⟨rfl, hs⟩
  refine And.intro (fun _ => ?_) (fun h => absurd rfl h)
  exact K m2 l2 r2 hs
set_option maxRecDepth 40000 in
theorem lw_c19 (hi : i + 7 ≤ E.2.2.2.2.2.2.1) (hL : E.2.2.2.2.2.2.1 ≤ 3584) (hS : Sim mi ml mr) (K : ∀ a b c, Sim a b c → fc_TP E mL_law 41 X cs fc_sh 1668 [some (.float 5), some (.ref 0), some (.ref 252), some (.ref 272), some (.int (nI i)), x5, x6] [] a b c Q) : fc_TP E mL_law 41 X cs fc_sh 873 [some (.float 5), some (.ref 0), some (.ref 252), some (.ref 272), some (.int (nI i)), x5, x6] [] mi ml mr Q := by
  obtain ⟨b, b2, sc, sc2, n, m, t, sm, np, len, sl, kp, k, q, T, hC, hR⟩ := hS
  refine fc_prun oL_law (fun pc => pc == 1668) 200 ?_
  refine And.intro rfl (Exists.intro _ (And.intro (lxn (j := 1) rfl (by decide) hi hL) ?_))
  refine And.intro rfl (Exists.intro _ (And.intro (lxn (j := 2) rfl (by decide) hi hL) ?_))
  refine And.intro rfl (Exists.intro _ (And.intro (b_would (E := E) hC hR _ _).choose_spec ?_))
  rintro _ m1 l1 r1 ⟨rfl, hb⟩
  refine And.intro rfl (Exists.intro _ (And.intro (lxn (j := 1) rfl (by decide) hi hL) ?_))
  refine And.intro rfl (Exists.intro _ (And.intro (lxn (j := 2) rfl (by decide) hi hL) ?_))
  refine And.intro rfl (Exists.intro _ (And.intro hb ?_))
  rintro _ m2 l2 r2 ⟨rfl, hs⟩
  refine And.intro (fun _ => ?_) (fun h => absurd rfl h)
  exact K m2 l2 r2 hs
set_option maxRecDepth 40000 in
theorem lw_c20 (hi : i + 7 ≤ E.2.2.2.2.2.2.1) (hL : E.2.2.2.2.2.2.1 ≤ 3584) (hS : Sim mi ml mr) (K : ∀ a b c, Sim a b c → fc_TP E mL_law 41 X cs fc_sh 1668 [some (.float 5), some (.ref 0), some (.ref 252), some (.ref 272), some (.int (nI i)), x5, x6] [] a b c Q) : fc_TP E mL_law 41 X cs fc_sh 910 [some (.float 5), some (.ref 0), some (.ref 252), some (.ref 272), some (.int (nI i)), x5, x6] [] mi ml mr Q := by
  obtain ⟨b, b2, sc, sc2, n, m, t, sm, np, len, sl, kp, k, q, T, hC, hR⟩ := hS
  refine fc_prun oL_law (fun pc => pc == 1668) 200 ?_
  refine And.intro rfl (Exists.intro _ (And.intro (lxn (j := 1) rfl (by decide) hi hL) ?_))
  refine And.intro rfl (Exists.intro _ (And.intro (lxn (j := 2) rfl (by decide) hi hL) ?_))
  refine And.intro rfl (Exists.intro _ (And.intro (b_when (E := E) hC hR _ _).choose_spec ?_))
  rintro _ m1 l1 r1 ⟨rfl, hb⟩
  refine And.intro rfl (Exists.intro _ (And.intro (lxn (j := 1) rfl (by decide) hi hL) ?_))
  refine And.intro rfl (Exists.intro _ (And.intro (lxn (j := 2) rfl (by decide) hi hL) ?_))
  refine And.intro rfl (Exists.intro _ (And.intro hb ?_))
  rintro _ m2 l2 r2 ⟨rfl, hs⟩
  refine And.intro (fun _ => ?_) (fun h => absurd rfl h)
  exact K m2 l2 r2 hs
set_option maxRecDepth 40000 in
theorem lw_c21 (hi : i + 7 ≤ E.2.2.2.2.2.2.1) (hL : E.2.2.2.2.2.2.1 ≤ 3584) (hS : Sim mi ml mr) (K : ∀ a b c, Sim a b c → fc_TP E mL_law 41 X cs fc_sh 1668 [some (.float 5), some (.ref 0), some (.ref 252), some (.ref 272), some (.int (nI i)), x5, x6] [] a b c Q) : fc_TP E mL_law 41 X cs fc_sh 947 [some (.float 5), some (.ref 0), some (.ref 252), some (.ref 272), some (.int (nI i)), x5, x6] [] mi ml mr Q := by
  obtain ⟨b, b2, sc, sc2, n, m, t, sm, np, len, sl, kp, k, q, T, hC, hR⟩ := hS
  by_cases hz : E.2.2.2.2.2.2.2 (i + 2) = 0
  · refine fc_prun oL_law (fun pc => pc == 1668) 200 ?_
    refine And.intro rfl (Exists.intro _ (And.intro (lxn (j := 1) rfl (by decide) hi hL) ?_))
    refine And.intro rfl (Exists.intro _ (And.intro (lxn (j := 2) rfl (by decide) hi hL) ?_))
    refine And.intro (fun _ => ?_) (fun h => absurd hz h)
    refine And.intro rfl (Exists.intro _ (And.intro (b_vows (E := E) hC hR _ _).choose_spec ?_))
    rintro _ m1 l1 r1 ⟨rfl, hb⟩
    refine And.intro rfl (Exists.intro _ (And.intro (lxn (j := 1) rfl (by decide) hi hL) ?_))
    refine And.intro rfl (Exists.intro _ (And.intro (lxn (j := 2) rfl (by decide) hi hL) ?_))
    refine And.intro (fun _ => ?_) (fun h => absurd hz h)
    refine And.intro rfl (Exists.intro _ (And.intro hb ?_))
    rintro _ m2 l2 r2 ⟨rfl, hs⟩
    refine And.intro (fun _ => ?_) (fun h => absurd rfl h)
    exact K m2 l2 r2 hs
  · refine fc_prun oL_law (fun pc => pc == 1668) 200 ?_
    refine And.intro rfl (Exists.intro _ (And.intro (lxn (j := 1) rfl (by decide) hi hL) ?_))
    refine And.intro rfl (Exists.intro _ (And.intro (lxn (j := 2) rfl (by decide) hi hL) ?_))
    refine And.intro (fun h => absurd h hz) (fun _ => ?_)
    refine And.intro rfl (Exists.intro _ (And.intro (b_vows (E := E) hC hR _ _).choose_spec ?_))
    rintro _ m1 l1 r1 ⟨rfl, hb⟩
    refine And.intro rfl (Exists.intro _ (And.intro (lxn (j := 1) rfl (by decide) hi hL) ?_))
    refine And.intro rfl (Exists.intro _ (And.intro (lxn (j := 2) rfl (by decide) hi hL) ?_))
    refine And.intro (fun h => absurd h hz) (fun _ => ?_)
    refine And.intro rfl (Exists.intro _ (And.intro hb ?_))
    rintro _ m2 l2 r2 ⟨rfl, hs⟩
    refine And.intro (fun _ => ?_) (fun h => absurd rfl h)
    exact K m2 l2 r2 hs
set_option maxRecDepth 40000 in
theorem lw_c22 (hi : i + 7 ≤ E.2.2.2.2.2.2.1) (hL : E.2.2.2.2.2.2.1 ≤ 3584) (hS : Sim mi ml mr) (K : ∀ a b c, Sim a b c → fc_TP E mL_law 41 X cs fc_sh 1668 [some (.float 5), some (.ref 0), some (.ref 252), some (.ref 272), some (.int (nI i)), x5, x6] [] a b c Q) : fc_TP E mL_law 41 X cs fc_sh 1000 [some (.float 5), some (.ref 0), some (.ref 252), some (.ref 272), some (.int (nI i)), x5, x6] [] mi ml mr Q := by
  obtain ⟨b, b2, sc, sc2, n, m, t, sm, np, len, sl, kp, k, q, T, hC, hR⟩ := hS
  refine fc_prun oL_law (fun pc => pc == 1668) 200 ?_
  refine And.intro rfl (Exists.intro _ (And.intro (lxn (j := 1) rfl (by decide) hi hL) ?_))
  refine And.intro rfl (Exists.intro _ (And.intro (b_sees (E := E) hC hR _).choose_spec ?_))
  rintro _ m1 l1 r1 ⟨rfl, hb⟩
  refine And.intro rfl (Exists.intro _ (And.intro (lxn (j := 1) rfl (by decide) hi hL) ?_))
  refine And.intro rfl (Exists.intro _ (And.intro hb ?_))
  rintro _ m2 l2 r2 ⟨rfl, hs⟩
  refine And.intro (fun _ => ?_) (fun h => absurd rfl h)
  exact K m2 l2 r2 hs
set_option maxRecDepth 40000 in
theorem lw_c23 (hi : i + 7 ≤ E.2.2.2.2.2.2.1) (hL : E.2.2.2.2.2.2.1 ≤ 3584) (hS : Sim mi ml mr) (K : ∀ a b c, Sim a b c → fc_TP E mL_law 41 X cs fc_sh 1668 [some (.float 5), some (.ref 0), some (.ref 252), some (.ref 272), some (.int (nI i)), x5, x6] [] a b c Q) : fc_TP E mL_law 41 X cs fc_sh 1025 [some (.float 5), some (.ref 0), some (.ref 252), some (.ref 272), some (.int (nI i)), x5, x6] [] mi ml mr Q := by
  obtain ⟨b, b2, sc, sc2, n, m, t, sm, np, len, sl, kp, k, q, T, hC, hR⟩ := hS
  refine fc_prun oL_law (fun pc => pc == 1668) 200 ?_
  refine And.intro rfl (Exists.intro _ (And.intro (lxn (j := 1) rfl (by decide) hi hL) ?_))
  refine And.intro rfl (Exists.intro _ (And.intro (b_heard (E := E) hC hR _).choose_spec ?_))
  rintro _ m1 l1 r1 ⟨rfl, hb⟩
  refine And.intro rfl (Exists.intro _ (And.intro (lxn (j := 1) rfl (by decide) hi hL) ?_))
  refine And.intro rfl (Exists.intro _ (And.intro hb ?_))
  rintro _ m2 l2 r2 ⟨rfl, hs⟩
  refine And.intro (fun _ => ?_) (fun h => absurd rfl h)
  exact K m2 l2 r2 hs
set_option maxRecDepth 40000 in
theorem lw_c24 (hi : i + 7 ≤ E.2.2.2.2.2.2.1) (hL : E.2.2.2.2.2.2.1 ≤ 3584) (hS : Sim mi ml mr) (K : ∀ a b c, Sim a b c → fc_TP E mL_law 41 X cs fc_sh 1668 [some (.float 5), some (.ref 0), some (.ref 252), some (.ref 272), some (.int (nI i)), x5, x6] [] a b c Q) : fc_TP E mL_law 41 X cs fc_sh 1050 [some (.float 5), some (.ref 0), some (.ref 252), some (.ref 272), some (.int (nI i)), x5, x6] [] mi ml mr Q := by
  obtain ⟨b, b2, sc, sc2, n, m, t, sm, np, len, sl, kp, k, q, T, hC, hR⟩ := hS
  refine fc_prun oL_law (fun pc => pc == 1668) 200 ?_
  refine And.intro rfl (Exists.intro _ (And.intro (b_news (E := E) hC hR).choose_spec ?_))
  rintro _ m1 l1 r1 ⟨rfl, hb⟩
  refine And.intro rfl (Exists.intro _ (And.intro hb ?_))
  rintro _ m2 l2 r2 ⟨rfl, hs⟩
  refine And.intro (fun _ => ?_) (fun h => absurd rfl h)
  exact K m2 l2 r2 hs
set_option maxRecDepth 40000 in
theorem lw_c25 (hi : i + 7 ≤ E.2.2.2.2.2.2.1) (hL : E.2.2.2.2.2.2.1 ≤ 3584) (hS : Sim mi ml mr) (K : ∀ a b c, Sim a b c → fc_TP E mL_law 41 X cs fc_sh 1668 [some (.float 5), some (.ref 0), some (.ref 252), some (.ref 272), some (.int (nI i)), x5, x6] [] a b c Q) : fc_TP E mL_law 41 X cs fc_sh 1063 [some (.float 5), some (.ref 0), some (.ref 252), some (.ref 272), some (.int (nI i)), x5, x6] [] mi ml mr Q := by
  obtain ⟨b, b2, sc, sc2, n, m, t, sm, np, len, sl, kp, k, q, T, hC, hR⟩ := hS
  refine fc_prun oL_law (fun pc => pc == 1668) 200 ?_
  refine And.intro rfl (Exists.intro _ (And.intro (b_alone (E := E) hC hR).choose_spec ?_))
  rintro _ m1 l1 r1 ⟨rfl, hb⟩
  refine And.intro rfl (Exists.intro _ (And.intro hb ?_))
  rintro _ m2 l2 r2 ⟨rfl, hs⟩
  refine And.intro (fun _ => ?_) (fun h => absurd rfl h)
  exact K m2 l2 r2 hs
set_option maxRecDepth 40000 in
theorem lw_c26 (hi : i + 7 ≤ E.2.2.2.2.2.2.1) (hL : E.2.2.2.2.2.2.1 ≤ 3584) (hS : Sim mi ml mr) (K : ∀ a b c, Sim a b c → fc_TP E mL_law 41 X cs fc_sh 1668 [some (.float 5), some (.ref 0), some (.ref 252), some (.ref 272), some (.int (nI i)), x5, x6] [] a b c Q) : fc_TP E mL_law 41 X cs fc_sh 1076 [some (.float 5), some (.ref 0), some (.ref 252), some (.ref 272), some (.int (nI i)), x5, x6] [] mi ml mr Q := by
  obtain ⟨b, b2, sc, sc2, n, m, t, sm, np, len, sl, kp, k, q, T, hC, hR⟩ := hS
  refine fc_prun oL_law (fun pc => pc == 1668) 200 ?_
  refine And.intro rfl (Exists.intro _ (And.intro (lxn (j := 1) rfl (by decide) hi hL) ?_))
  refine And.intro rfl (Exists.intro _ (And.intro (b_reach (E := E) hC hR _).choose_spec ?_))
  rintro _ m1 l1 r1 ⟨rfl, hb⟩
  refine And.intro rfl (Exists.intro _ (And.intro (lxn (j := 1) rfl (by decide) hi hL) ?_))
  refine And.intro rfl (Exists.intro _ (And.intro hb ?_))
  rintro _ m2 l2 r2 ⟨rfl, hs⟩
  refine And.intro (fun _ => ?_) (fun h => absurd rfl h)
  exact K m2 l2 r2 hs
set_option maxRecDepth 40000 in
theorem lw_c27 (hi : i + 7 ≤ E.2.2.2.2.2.2.1) (hL : E.2.2.2.2.2.2.1 ≤ 3584) (hS : Sim mi ml mr) (K : ∀ a b c, Sim a b c → fc_TP E mL_law 41 X cs fc_sh 1668 [some (.float 5), some (.ref 0), some (.ref 252), some (.ref 272), some (.int (nI i)), x5, x6] [] a b c Q) : fc_TP E mL_law 41 X cs fc_sh 1101 [some (.float 5), some (.ref 0), some (.ref 252), some (.ref 272), some (.int (nI i)), x5, x6] [] mi ml mr Q := by
  obtain ⟨b, b2, sc, sc2, n, m, t, sm, np, len, sl, kp, k, q, T, hC, hR⟩ := hS
  refine fc_prun oL_law (fun pc => pc == 1668) 200 ?_
  refine And.intro rfl (Exists.intro _ (And.intro (lxn (j := 1) rfl (by decide) hi hL) ?_))
  refine And.intro rfl (Exists.intro _ (And.intro (lxn (j := 2) rfl (by decide) hi hL) ?_))
  refine And.intro rfl (Exists.intro _ (And.intro (b_far (E := E) hC hR _ _).choose_spec ?_))
  rintro _ m1 l1 r1 ⟨rfl, hb⟩
  refine And.intro rfl (Exists.intro _ (And.intro (lxn (j := 1) rfl (by decide) hi hL) ?_))
  refine And.intro rfl (Exists.intro _ (And.intro (lxn (j := 2) rfl (by decide) hi hL) ?_))
  refine And.intro rfl (Exists.intro _ (And.intro hb ?_))
  rintro _ m2 l2 r2 ⟨rfl, hs⟩
  refine And.intro (fun _ => ?_) (fun h => absurd rfl h)
  exact K m2 l2 r2 hs
set_option maxRecDepth 40000 in
theorem lw_c28 (hi : i + 7 ≤ E.2.2.2.2.2.2.1) (hL : E.2.2.2.2.2.2.1 ≤ 3584) (hS : Sim mi ml mr) (K : ∀ a b c, Sim a b c → fc_TP E mL_law 41 X cs fc_sh 1668 [some (.float 5), some (.ref 0), some (.ref 252), some (.ref 272), some (.int (nI i)), x5, x6] [] a b c Q) : fc_TP E mL_law 41 X cs fc_sh 1138 [some (.float 5), some (.ref 0), some (.ref 252), some (.ref 272), some (.int (nI i)), x5, x6] [] mi ml mr Q := by
  obtain ⟨b, b2, sc, sc2, n, m, t, sm, np, len, sl, kp, k, q, T, hC, hR⟩ := hS
  refine fc_prun oL_law (fun pc => pc == 1668) 200 ?_
  refine And.intro rfl (Exists.intro _ (And.intro (b_cuts (E := E) hC hR).choose_spec ?_))
  rintro _ m1 l1 r1 ⟨rfl, hb⟩
  refine And.intro rfl (Exists.intro _ (And.intro hb ?_))
  rintro _ m2 l2 r2 ⟨rfl, hs⟩
  refine And.intro (fun _ => ?_) (fun h => absurd rfl h)
  exact K m2 l2 r2 hs
set_option maxRecDepth 40000 in
theorem lw_c29 (hi : i + 7 ≤ E.2.2.2.2.2.2.1) (hL : E.2.2.2.2.2.2.1 ≤ 3584) (hS : Sim mi ml mr) (K : ∀ a b c, Sim a b c → fc_TP E mL_law 41 X cs fc_sh 1668 [some (.float 5), some (.ref 0), some (.ref 252), some (.ref 272), some (.int (nI i)), x5, x6] [] a b c Q) : fc_TP E mL_law 41 X cs fc_sh 1151 [some (.float 5), some (.ref 0), some (.ref 252), some (.ref 272), some (.int (nI i)), x5, x6] [] mi ml mr Q := by
  obtain ⟨b, b2, sc, sc2, n, m, t, sm, np, len, sl, kp, k, q, T, hC, hR⟩ := hS
  refine fc_prun oL_law (fun pc => pc == 1668) 200 ?_
  refine And.intro rfl (Exists.intro _ (And.intro (b_hub (E := E) hC hR).choose_spec ?_))
  rintro _ m1 l1 r1 ⟨rfl, hb⟩
  refine And.intro rfl (Exists.intro _ (And.intro hb ?_))
  rintro _ m2 l2 r2 ⟨rfl, hs⟩
  refine And.intro (fun _ => ?_) (fun h => absurd rfl h)
  exact K m2 l2 r2 hs
set_option maxRecDepth 40000 in
theorem lw_c30 (hi : i + 7 ≤ E.2.2.2.2.2.2.1) (hL : E.2.2.2.2.2.2.1 ≤ 3584) (hS : Sim mi ml mr) (K : ∀ a b c, Sim a b c → fc_TP E mL_law 41 X cs fc_sh 1668 [some (.float 5), some (.ref 0), some (.ref 252), some (.ref 272), some (.int (nI i)), x5, x6] [] a b c Q) : fc_TP E mL_law 41 X cs fc_sh 1164 [some (.float 5), some (.ref 0), some (.ref 252), some (.ref 272), some (.int (nI i)), x5, x6] [] mi ml mr Q := by
  obtain ⟨b, b2, sc, sc2, n, m, t, sm, np, len, sl, kp, k, q, T, hC, hR⟩ := hS
  refine fc_prun oL_law (fun pc => pc == 1668) 200 ?_
  refine And.intro rfl (Exists.intro _ (And.intro (lxn (j := 1) rfl (by decide) hi hL) ?_))
  refine And.intro rfl (Exists.intro _ (And.intro (b_links (E := E) hC hR _).choose_spec ?_))
  rintro _ m1 l1 r1 ⟨rfl, hb⟩
  refine And.intro rfl (Exists.intro _ (And.intro (lxn (j := 1) rfl (by decide) hi hL) ?_))
  refine And.intro rfl (Exists.intro _ (And.intro hb ?_))
  rintro _ m2 l2 r2 ⟨rfl, hs⟩
  refine And.intro (fun _ => ?_) (fun h => absurd rfl h)
  exact K m2 l2 r2 hs
set_option maxRecDepth 40000 in
theorem lw_c31 (hi : i + 7 ≤ E.2.2.2.2.2.2.1) (hL : E.2.2.2.2.2.2.1 ≤ 3584) (hS : Sim mi ml mr) (K : ∀ a b c, Sim a b c → fc_TP E mL_law 41 X cs fc_sh 1668 [some (.float 5), some (.ref 0), some (.ref 252), some (.ref 272), some (.int (nI i)), x5, x6] [] a b c Q) : fc_TP E mL_law 41 X cs fc_sh 1189 [some (.float 5), some (.ref 0), some (.ref 252), some (.ref 272), some (.int (nI i)), x5, x6] [] mi ml mr Q := by
  obtain ⟨b, b2, sc, sc2, n, m, t, sm, np, len, sl, kp, k, q, T, hC, hR⟩ := hS
  by_cases hz : E.2.2.2.2.2.2.2 (i + 3) = 0
  · refine fc_prun oL_law (fun pc => pc == 1668) 200 ?_
    refine And.intro rfl (Exists.intro _ (And.intro (lxn (j := 1) rfl (by decide) hi hL) ?_))
    refine And.intro rfl (Exists.intro _ (And.intro (lxn (j := 2) rfl (by decide) hi hL) ?_))
    refine And.intro rfl (Exists.intro _ (And.intro (lxn (j := 3) rfl (by decide) hi hL) ?_))
    refine And.intro (fun _ => ?_) (fun h => absurd hz h)
    refine And.intro rfl (Exists.intro _ (And.intro (b_see (E := E) hC hR _ _ (Or.inl rfl)).choose_spec ?_))
    rintro _ m1 l1 r1 ⟨rfl, hb⟩
    refine And.intro rfl (Exists.intro _ (And.intro (lxn (j := 1) rfl (by decide) hi hL) ?_))
    refine And.intro rfl (Exists.intro _ (And.intro (lxn (j := 2) rfl (by decide) hi hL) ?_))
    refine And.intro rfl (Exists.intro _ (And.intro (lxn (j := 3) rfl (by decide) hi hL) ?_))
    refine And.intro (fun _ => ?_) (fun h => absurd hz h)
    refine And.intro rfl (Exists.intro _ (And.intro hb ?_))
    rintro _ m2 l2 r2 ⟨rfl, hs⟩
    refine And.intro (fun _ => ?_) (fun h => absurd rfl h)
    exact K m2 l2 r2 hs
  · refine fc_prun oL_law (fun pc => pc == 1668) 200 ?_
    refine And.intro rfl (Exists.intro _ (And.intro (lxn (j := 1) rfl (by decide) hi hL) ?_))
    refine And.intro rfl (Exists.intro _ (And.intro (lxn (j := 2) rfl (by decide) hi hL) ?_))
    refine And.intro rfl (Exists.intro _ (And.intro (lxn (j := 3) rfl (by decide) hi hL) ?_))
    refine And.intro (fun h => absurd h hz) (fun _ => ?_)
    refine And.intro rfl (Exists.intro _ (And.intro (b_see (E := E) hC hR _ _ (Or.inr rfl)).choose_spec ?_))
    rintro _ m1 l1 r1 ⟨rfl, hb⟩
    refine And.intro rfl (Exists.intro _ (And.intro (lxn (j := 1) rfl (by decide) hi hL) ?_))
    refine And.intro rfl (Exists.intro _ (And.intro (lxn (j := 2) rfl (by decide) hi hL) ?_))
    refine And.intro rfl (Exists.intro _ (And.intro (lxn (j := 3) rfl (by decide) hi hL) ?_))
    refine And.intro (fun h => absurd h hz) (fun _ => ?_)
    refine And.intro rfl (Exists.intro _ (And.intro hb ?_))
    rintro _ m2 l2 r2 ⟨rfl, hs⟩
    refine And.intro (fun _ => ?_) (fun h => absurd rfl h)
    exact K m2 l2 r2 hs
set_option maxRecDepth 40000 in
theorem lw_c32 (hi : i + 7 ≤ E.2.2.2.2.2.2.1) (hL : E.2.2.2.2.2.2.1 ≤ 3584) (hS : Sim mi ml mr) (K : ∀ a b c, Sim a b c → fc_TP E mL_law 41 X cs fc_sh 1668 [some (.float 5), some (.ref 0), some (.ref 252), some (.ref 272), some (.int (nI i)), x5, x6] [] a b c Q) : fc_TP E mL_law 41 X cs fc_sh 1254 [some (.float 5), some (.ref 0), some (.ref 252), some (.ref 272), some (.int (nI i)), x5, x6] [] mi ml mr Q := by
  obtain ⟨b, b2, sc, sc2, n, m, t, sm, np, len, sl, kp, k, q, T, hC, hR⟩ := hS
  refine fc_prun oL_law (fun pc => pc == 1668) 200 ?_
  refine And.intro rfl (Exists.intro _ (And.intro (b_who (E := E) hC hR).choose_spec ?_))
  rintro _ m1 l1 r1 ⟨rfl, hb⟩
  refine And.intro rfl (Exists.intro _ (And.intro hb ?_))
  rintro _ m2 l2 r2 ⟨rfl, hs⟩
  refine And.intro (fun _ => ?_) (fun h => absurd rfl h)
  exact K m2 l2 r2 hs
set_option maxRecDepth 40000 in
theorem lw_c33 (hi : i + 7 ≤ E.2.2.2.2.2.2.1) (hL : E.2.2.2.2.2.2.1 ≤ 3584) (hS : Sim mi ml mr) (K : ∀ a b c, Sim a b c → fc_TP E mL_law 41 X cs fc_sh 1668 [some (.float 5), some (.ref 0), some (.ref 252), some (.ref 272), some (.int (nI i)), x5, x6] [] a b c Q) : fc_TP E mL_law 41 X cs fc_sh 1267 [some (.float 5), some (.ref 0), some (.ref 252), some (.ref 272), some (.int (nI i)), x5, x6] [] mi ml mr Q := by
  obtain ⟨b, b2, sc, sc2, n, m, t, sm, np, len, sl, kp, k, q, T, hC, hR⟩ := hS
  refine fc_prun oL_law (fun pc => pc == 1668) 200 ?_
  refine And.intro rfl (Exists.intro _ (And.intro (b_ask (E := E) hC hR).choose_spec ?_))
  rintro _ m1 l1 r1 ⟨rfl, hb⟩
  refine And.intro rfl (Exists.intro _ (And.intro hb ?_))
  rintro _ m2 l2 r2 ⟨rfl, hs⟩
  refine And.intro (fun _ => ?_) (fun h => absurd rfl h)
  exact K m2 l2 r2 hs
set_option maxRecDepth 40000 in
theorem lw_c34 (hi : i + 7 ≤ E.2.2.2.2.2.2.1) (hL : E.2.2.2.2.2.2.1 ≤ 3584) (hS : Sim mi ml mr) (K : ∀ a b c, Sim a b c → fc_TP E mL_law 41 X cs fc_sh 1668 [some (.float 5), some (.ref 0), some (.ref 252), some (.ref 272), some (.int (nI i)), x5, x6] [] a b c Q) : fc_TP E mL_law 41 X cs fc_sh 1280 [some (.float 5), some (.ref 0), some (.ref 252), some (.ref 272), some (.int (nI i)), x5, x6] [] mi ml mr Q := by
  obtain ⟨b, b2, sc, sc2, n, m, t, sm, np, len, sl, kp, k, q, T, hC, hR⟩ := hS
  refine fc_prun oL_law (fun pc => pc == 1668) 200 ?_
  refine And.intro rfl (Exists.intro _ (And.intro (b_wide (E := E) hC hR).choose_spec ?_))
  rintro _ m1 l1 r1 ⟨rfl, hb⟩
  refine And.intro rfl (Exists.intro _ (And.intro hb ?_))
  rintro _ m2 l2 r2 ⟨rfl, hs⟩
  refine And.intro (fun _ => ?_) (fun h => absurd rfl h)
  exact K m2 l2 r2 hs
set_option maxRecDepth 40000 in
theorem lw_c35 (hi : i + 7 ≤ E.2.2.2.2.2.2.1) (hL : E.2.2.2.2.2.2.1 ≤ 3584) (hS : Sim mi ml mr) (K : ∀ a b c, Sim a b c → fc_TP E mL_law 41 X cs fc_sh 1668 [some (.float 5), some (.ref 0), some (.ref 252), some (.ref 272), some (.int (nI i)), x5, x6] [] a b c Q) : fc_TP E mL_law 41 X cs fc_sh 1293 [some (.float 5), some (.ref 0), some (.ref 252), some (.ref 272), some (.int (nI i)), x5, x6] [] mi ml mr Q := by
  obtain ⟨b, b2, sc, sc2, n, m, t, sm, np, len, sl, kp, k, q, T, hC, hR⟩ := hS
  by_cases hz : E.2.2.2.2.2.2.2 (i + 2) = 0
  · refine fc_prun oL_law (fun pc => pc == 1668) 200 ?_
    refine And.intro rfl (Exists.intro _ (And.intro (lxn (j := 1) rfl (by decide) hi hL) ?_))
    refine And.intro rfl (Exists.intro _ (And.intro (lxn (j := 2) rfl (by decide) hi hL) ?_))
    refine And.intro (fun _ => ?_) (fun h => absurd hz h)
    refine And.intro rfl (Exists.intro _ (And.intro (b_has (E := E) hC hR _ _).choose_spec ?_))
    rintro _ m1 l1 r1 ⟨rfl, hb⟩
    refine And.intro rfl (Exists.intro _ (And.intro (lxn (j := 1) rfl (by decide) hi hL) ?_))
    refine And.intro rfl (Exists.intro _ (And.intro (lxn (j := 2) rfl (by decide) hi hL) ?_))
    refine And.intro (fun _ => ?_) (fun h => absurd hz h)
    refine And.intro rfl (Exists.intro _ (And.intro hb ?_))
    rintro _ m2 l2 r2 ⟨rfl, hs⟩
    refine And.intro (fun _ => ?_) (fun h => absurd rfl h)
    exact K m2 l2 r2 hs
  · refine fc_prun oL_law (fun pc => pc == 1668) 200 ?_
    refine And.intro rfl (Exists.intro _ (And.intro (lxn (j := 1) rfl (by decide) hi hL) ?_))
    refine And.intro rfl (Exists.intro _ (And.intro (lxn (j := 2) rfl (by decide) hi hL) ?_))
    refine And.intro (fun h => absurd h hz) (fun _ => ?_)
    refine And.intro rfl (Exists.intro _ (And.intro (b_has (E := E) hC hR _ _).choose_spec ?_))
    rintro _ m1 l1 r1 ⟨rfl, hb⟩
    refine And.intro rfl (Exists.intro _ (And.intro (lxn (j := 1) rfl (by decide) hi hL) ?_))
    refine And.intro rfl (Exists.intro _ (And.intro (lxn (j := 2) rfl (by decide) hi hL) ?_))
    refine And.intro (fun h => absurd h hz) (fun _ => ?_)
    refine And.intro rfl (Exists.intro _ (And.intro hb ?_))
    rintro _ m2 l2 r2 ⟨rfl, hs⟩
    refine And.intro (fun _ => ?_) (fun h => absurd rfl h)
    exact K m2 l2 r2 hs
set_option maxRecDepth 40000 in
theorem lw_c36 (hi : i + 7 ≤ E.2.2.2.2.2.2.1) (hL : E.2.2.2.2.2.2.1 ≤ 3584) (hS : Sim mi ml mr) (K : ∀ a b c, Sim a b c → fc_TP E mL_law 41 X cs fc_sh 1668 [some (.float 5), some (.ref 0), some (.ref 252), some (.ref 272), some (.int (nI i)), x5, x6] [] a b c Q) : fc_TP E mL_law 41 X cs fc_sh 1346 [some (.float 5), some (.ref 0), some (.ref 252), some (.ref 272), some (.int (nI i)), x5, x6] [] mi ml mr Q := by
  obtain ⟨b, b2, sc, sc2, n, m, t, sm, np, len, sl, kp, k, q, T, hC, hR⟩ := hS
  refine fc_prun oL_law (fun pc => pc == 1668) 200 ?_
  refine And.intro rfl (Exists.intro _ (And.intro (lxn (j := 1) rfl (by decide) hi hL) ?_))
  refine And.intro rfl (Exists.intro _ (And.intro (b_sleeps (E := E) hC hR _).choose_spec ?_))
  rintro _ m1 l1 r1 ⟨rfl, hb⟩
  refine And.intro rfl (Exists.intro _ (And.intro (lxn (j := 1) rfl (by decide) hi hL) ?_))
  refine And.intro rfl (Exists.intro _ (And.intro hb ?_))
  rintro _ m2 l2 r2 ⟨rfl, hs⟩
  refine And.intro (fun _ => ?_) (fun h => absurd rfl h)
  exact K m2 l2 r2 hs
set_option maxRecDepth 40000 in
theorem lw_c37 (hi : i + 7 ≤ E.2.2.2.2.2.2.1) (hL : E.2.2.2.2.2.2.1 ≤ 3584) (hS : Sim mi ml mr) (K : ∀ a b c, Sim a b c → fc_TP E mL_law 41 X cs fc_sh 1668 [some (.float 5), some (.ref 0), some (.ref 252), some (.ref 272), some (.int (nI i)), x5, x6] [] a b c Q) : fc_TP E mL_law 41 X cs fc_sh 1371 [some (.float 5), some (.ref 0), some (.ref 252), some (.ref 272), some (.int (nI i)), x5, x6] [] mi ml mr Q := by
  obtain ⟨b, b2, sc, sc2, n, m, t, sm, np, len, sl, kp, k, q, T, hC, hR⟩ := hS
  by_cases hz : E.2.2.2.2.2.2.2 (i + 1) = 0
  · refine fc_prun oL_law (fun pc => pc == 1668) 200 ?_
    refine And.intro rfl (Exists.intro _ (And.intro (lxn (j := 1) rfl (by decide) hi hL) ?_))
    refine And.intro (fun _ => ?_) (fun h => absurd hz h)
    refine And.intro rfl (Exists.intro _ (And.intro (b_rich (E := E) hC hR _).choose_spec ?_))
    rintro _ m1 l1 r1 ⟨rfl, hb⟩
    refine And.intro rfl (Exists.intro _ (And.intro (lxn (j := 1) rfl (by decide) hi hL) ?_))
    refine And.intro (fun _ => ?_) (fun h => absurd hz h)
    refine And.intro rfl (Exists.intro _ (And.intro hb ?_))
    rintro _ m2 l2 r2 ⟨rfl, hs⟩
    refine And.intro (fun _ => ?_) (fun h => absurd rfl h)
    exact K m2 l2 r2 hs
  · refine fc_prun oL_law (fun pc => pc == 1668) 200 ?_
    refine And.intro rfl (Exists.intro _ (And.intro (lxn (j := 1) rfl (by decide) hi hL) ?_))
    refine And.intro (fun h => absurd h hz) (fun _ => ?_)
    refine And.intro rfl (Exists.intro _ (And.intro (b_rich (E := E) hC hR _).choose_spec ?_))
    rintro _ m1 l1 r1 ⟨rfl, hb⟩
    refine And.intro rfl (Exists.intro _ (And.intro (lxn (j := 1) rfl (by decide) hi hL) ?_))
    refine And.intro (fun h => absurd h hz) (fun _ => ?_)
    refine And.intro rfl (Exists.intro _ (And.intro hb ?_))
    rintro _ m2 l2 r2 ⟨rfl, hs⟩
    refine And.intro (fun _ => ?_) (fun h => absurd rfl h)
    exact K m2 l2 r2 hs
set_option maxRecDepth 40000 in
theorem lw_c38 (hi : i + 7 ≤ E.2.2.2.2.2.2.1) (hL : E.2.2.2.2.2.2.1 ≤ 3584) (hS : Sim mi ml mr) (K : ∀ a b c, Sim a b c → fc_TP E mL_law 41 X cs fc_sh 1668 [some (.float 5), some (.ref 0), some (.ref 252), some (.ref 272), some (.int (nI i)), x5, x6] [] a b c Q) : fc_TP E mL_law 41 X cs fc_sh 1412 [some (.float 5), some (.ref 0), some (.ref 252), some (.ref 272), some (.int (nI i)), x5, x6] [] mi ml mr Q := by
  obtain ⟨b, b2, sc, sc2, n, m, t, sm, np, len, sl, kp, k, q, T, hC, hR⟩ := hS
  refine fc_prun oL_law (fun pc => pc == 1668) 200 ?_
  refine And.intro rfl (Exists.intro _ (And.intro (lxn (j := 1) rfl (by decide) hi hL) ?_))
  refine And.intro rfl (Exists.intro _ (And.intro (lxn (j := 2) rfl (by decide) hi hL) ?_))
  refine And.intro rfl (Exists.intro _ (And.intro (b_chance (E := E) hC hR _ _).choose_spec ?_))
  rintro _ m1 l1 r1 ⟨rfl, hb⟩
  refine And.intro rfl (Exists.intro _ (And.intro (lxn (j := 1) rfl (by decide) hi hL) ?_))
  refine And.intro rfl (Exists.intro _ (And.intro (lxn (j := 2) rfl (by decide) hi hL) ?_))
  refine And.intro rfl (Exists.intro _ (And.intro hb ?_))
  rintro _ m2 l2 r2 ⟨rfl, hs⟩
  refine And.intro (fun _ => ?_) (fun h => absurd rfl h)
  exact K m2 l2 r2 hs
set_option maxRecDepth 40000 in
theorem lw_c40 (hi : i + 7 ≤ E.2.2.2.2.2.2.1) (hL : E.2.2.2.2.2.2.1 ≤ 3584) (hS : Sim mi ml mr) (K : ∀ a b c, Sim a b c → fc_TP E mL_law 41 X cs fc_sh 1668 [some (.float 5), some (.ref 0), some (.ref 252), some (.ref 272), some (.int (nI i)), x5, x6] [] a b c Q) : fc_TP E mL_law 41 X cs fc_sh 1541 [some (.float 5), some (.ref 0), some (.ref 252), some (.ref 272), some (.int (nI i)), x5, x6] [] mi ml mr Q := by
  obtain ⟨b, b2, sc, sc2, n, m, t, sm, np, len, sl, kp, k, q, T, hC, hR⟩ := hS
  refine fc_prun oL_law (fun pc => pc == 1668) 200 ?_
  refine And.intro rfl (Exists.intro _ (And.intro (lxn (j := 1) rfl (by decide) hi hL) ?_))
  refine And.intro rfl (Exists.intro _ (And.intro (lxn (j := 2) rfl (by decide) hi hL) ?_))
  refine And.intro rfl (Exists.intro _ (And.intro (lxn (j := 3) rfl (by decide) hi hL) ?_))
  refine And.intro rfl (Exists.intro _ (And.intro (b_mornings (E := E) hC hR _ _ _).choose_spec ?_))
  rintro _ m1 l1 r1 ⟨rfl, hb⟩
  refine And.intro rfl (Exists.intro _ (And.intro (lxn (j := 1) rfl (by decide) hi hL) ?_))
  refine And.intro rfl (Exists.intro _ (And.intro (lxn (j := 2) rfl (by decide) hi hL) ?_))
  refine And.intro rfl (Exists.intro _ (And.intro (lxn (j := 3) rfl (by decide) hi hL) ?_))
  refine And.intro rfl (Exists.intro _ (And.intro hb ?_))
  rintro _ m2 l2 r2 ⟨rfl, hs⟩
  refine And.intro (fun _ => ?_) (fun h => absurd rfl h)
  exact K m2 l2 r2 hs
set_option maxRecDepth 40000 in
theorem lw_c41 (hi : i + 7 ≤ E.2.2.2.2.2.2.1) (hL : E.2.2.2.2.2.2.1 ≤ 3584) (hS : Sim mi ml mr) (K : ∀ a b c, Sim a b c → fc_TP E mL_law 41 X cs fc_sh 1668 [some (.float 5), some (.ref 0), some (.ref 252), some (.ref 272), some (.int (nI i)), x5, x6] [] a b c Q) : fc_TP E mL_law 41 X cs fc_sh 1590 [some (.float 5), some (.ref 0), some (.ref 252), some (.ref 272), some (.int (nI i)), x5, x6] [] mi ml mr Q := by
  obtain ⟨b, b2, sc, sc2, n, m, t, sm, np, len, sl, kp, k, q, T, hC, hR⟩ := hS
  by_cases hz : E.2.2.2.2.2.2.2 (i + 2) = 0
  · refine fc_prun oL_law (fun pc => pc == 1668) 200 ?_
    refine And.intro rfl (Exists.intro _ (And.intro (lxn (j := 1) rfl (by decide) hi hL) ?_))
    refine And.intro rfl (Exists.intro _ (And.intro (lxn (j := 2) rfl (by decide) hi hL) ?_))
    refine And.intro (fun _ => ?_) (fun h => absurd hz h)
    refine And.intro rfl (Exists.intro _ (And.intro (b_mark (E := E) hC hR _ _).choose_spec ?_))
    rintro _ m1 l1 r1 ⟨rfl, hb⟩
    refine And.intro rfl (Exists.intro _ (And.intro (lxn (j := 1) rfl (by decide) hi hL) ?_))
    refine And.intro rfl (Exists.intro _ (And.intro (lxn (j := 2) rfl (by decide) hi hL) ?_))
    refine And.intro (fun _ => ?_) (fun h => absurd hz h)
    refine And.intro rfl (Exists.intro _ (And.intro hb ?_))
    rintro _ m2 l2 r2 ⟨rfl, hs⟩
    refine And.intro (fun _ => ?_) (fun h => absurd rfl h)
    exact K m2 l2 r2 hs
  · refine fc_prun oL_law (fun pc => pc == 1668) 200 ?_
    refine And.intro rfl (Exists.intro _ (And.intro (lxn (j := 1) rfl (by decide) hi hL) ?_))
    refine And.intro rfl (Exists.intro _ (And.intro (lxn (j := 2) rfl (by decide) hi hL) ?_))
    refine And.intro (fun h => absurd h hz) (fun _ => ?_)
    refine And.intro rfl (Exists.intro _ (And.intro (b_mark (E := E) hC hR _ _).choose_spec ?_))
    rintro _ m1 l1 r1 ⟨rfl, hb⟩
    refine And.intro rfl (Exists.intro _ (And.intro (lxn (j := 1) rfl (by decide) hi hL) ?_))
    refine And.intro rfl (Exists.intro _ (And.intro (lxn (j := 2) rfl (by decide) hi hL) ?_))
    refine And.intro (fun h => absurd h hz) (fun _ => ?_)
    refine And.intro rfl (Exists.intro _ (And.intro hb ?_))
    rintro _ m2 l2 r2 ⟨rfl, hs⟩
    refine And.intro (fun _ => ?_) (fun h => absurd rfl h)
    exact K m2 l2 r2 hs
set_option maxRecDepth 40000 in
theorem lw_c42 (hi : i + 7 ≤ E.2.2.2.2.2.2.1) (hL : E.2.2.2.2.2.2.1 ≤ 3584) (hS : Sim mi ml mr) (K : ∀ a b c, Sim a b c → fc_TP E mL_law 41 X cs fc_sh 1668 [some (.float 5), some (.ref 0), some (.ref 252), some (.ref 272), some (.int (nI i)), x5, x6] [] a b c Q) : fc_TP E mL_law 41 X cs fc_sh 1643 [some (.float 5), some (.ref 0), some (.ref 252), some (.ref 272), some (.int (nI i)), x5, x6] [] mi ml mr Q := by
  obtain ⟨b, b2, sc, sc2, n, m, t, sm, np, len, sl, kp, k, q, T, hC, hR⟩ := hS
  refine fc_prun oL_law (fun pc => pc == 1668) 200 ?_
  refine And.intro rfl (Exists.intro _ (And.intro (lxn (j := 1) rfl (by decide) hi hL) ?_))
  refine And.intro rfl (Exists.intro _ (And.intro (b_count (E := E) hC hR _).choose_spec ?_))
  rintro _ m1 l1 r1 ⟨rfl, hb⟩
  refine And.intro rfl (Exists.intro _ (And.intro (lxn (j := 1) rfl (by decide) hi hL) ?_))
  refine And.intro rfl (Exists.intro _ (And.intro hb ?_))
  rintro _ m2 l2 r2 ⟨rfl, hs⟩
  refine And.intro (fun _ => ?_) (fun h => absurd rfl h)
  exact K m2 l2 r2 hs
end MI
