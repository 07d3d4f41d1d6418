/-! ===== walk, give, vow, minute ===== -/
section M99
variable {E : fc_E} {mi mi' : fc_Mi} {ml ml' : fc_Ml} {mr mr' : fc_Mr} {b b2 sc sc2 n m t sm np len sl kp k q T : Nat}
theorem kp_off {x : Nat} (hs : sl < 16) (h : x ≠ 33) (h2 : x < 38 + 8 * sl ∨ 46 + 8 * sl ≤ x) : sp_kp mi sl kp x = mi x := by
  unfold sp_kp
  rw [fc_u_off _ _ _ h, fc_u_off _ _ _ h]
  unfold sp_cp
  rw [fc_ur_off _ _ (by omega), fc_ur_off _ _ (by omega), fc_ur_off _ _ (by omega), fc_ur_off _ _ (by omega), fc_ur_off _ _ (by omega), fc_ur_off _ _ (by omega), fc_ur_off _ _ (by omega), fc_u_off _ _ _ (by omega), fc_u_off _ _ _ (by omega)]
theorem both_deed {yC yR : fc_M} {args : List Value} {v : Int32} {τ : fc_Mi} (hC : SimC mi ml mr b b2 sc sc2 n m t sm np len sl kp k q T) (hR : SimR mi ml n m t sm np (cl mi b) (cv mi 17) (cw mi b len) (sA ml b m n t) T (mi 2) k (fun x => mi (sc + x)) q (fun x => mi (214 + x)) kp (fun u => cv mi (psl sl kp u)) (mi 37) (fun j => cv mi (166 + 12 * j)) (fun j x => mi (174 + 12 * j + x))) (c1 : fc_R E yC 40 fc_sh (.ref 0 :: args) mi ml mr (fun v1 m1 l1 r1 => v1 = some (.int v) ∧ fc_dm 17 b (sp_kp mi sl kp) m1 ∧ cv m1 17 = τ ∧ ml = l1 ∧ mr = r1)) (hok : as_ok n m t sm τ) (hz : zr n τ) (c2 : ∀ m1, SimR m1 ml n m t sm np (cl mi b) (cv mi 17) (cw mi b len) (sA ml b m n t) T (mi 2) k (fun x => mi (sc + x)) q (fun x => mi (214 + x)) kp (fun u => cv mi (psl sl kp u)) (mi 37) (fun j => cv mi (166 + 12 * j)) (fun j x => mi (174 + 12 * j + x)) → fc_R E yR 40 fc_sh (.ref 252 :: args) m1 ml mr (rq 0 n t (some (.int v)) τ (rkp (fc_u m1 252 0 0) kp) ml mr)) : Both E yC yR args mi ml mr := by
  obtain ⟨e1, e2, e3, e4, l5, l7, l6⟩ := hC.e
  have hb : 218 ≤ b ∧ b ≤ 231 := by rcases hC.2.1.2.2.1 with ⟨e, _⟩ | ⟨e, _⟩ <;> omega
  obtain ⟨p3, p4, p5, p6⟩ := hC.2.2.2.2.2.2.2.1.1
  have hq8 : q ≤ 8 := hC.2.2.2.2.2.2.1.2.1
  refine ⟨v, fc_conR c1 ?_⟩
  rintro _ m1 _ _ ⟨rfl, d1, d2, rfl, rfl⟩
  have hm : ∀ x, 252 ≤ x → m1 x = mi x := fun x h => (d1 x (by omega) (by omega)).trans (kp_off p4 (by omega) (by omega))
  have hFr : FrR mi m1 := ⟨fun k _ => by rw [hm 252 (by omega)], fun x q => hm x (by omega), fun j _ => by rw [hm 268 (by omega)]⟩
  refine ⟨rfl, fc_conR (c2 m1 (hR.off p6 hq8 hFr rfl rfl)) ?_⟩
  rintro _ m2 _ _ ⟨rfl, g1, g2, rfl, rfl⟩
  refine ⟨rfl, ?_⟩
  have hlow : ∀ x, x < 252 → m2 x = m1 x := fun x h => by
    rw [g2.1 x (by omega) (by omega) (by omega) (by omega)]
    unfold rkp
    rw [fc_u_off _ _ _ (by omega), fc_ur_off _ _ (by omega), fc_u_off _ _ _ (by omega)]
  have ecv : cv m2 17 = τ := (cv_off (fun x h1 h2 => hlow x (by omega))).trans d2
  refine Sim_deed hC hR (fun x h1 h2 h3 h4 h5 => ?_) ⟨?_, ?_⟩ ?_ (by rw [ecv]; exact hok) (by rw [ecv]; exact hz) (by rw [ecv]; exact g1) (fun x h => ?_) (fun j h => ?_) ?_ (fun j h => ?_)
  · rw [hlow x h1, d1 x h2 h3]; exact kp_off p4 h4 h5
  · rw [hlow 33 (by omega), d1 33 (by omega) (by omega)]; rfl
  · rw [hlow 33 (by omega), d1 33 (by omega) (by omega)]; rfl
  · refine cv_off (fun x h1 h2 => ?_)
    rw [hlow x (by omega), d1 x (by omega) (by omega)]
    unfold sp_kp
    rw [fc_u_off _ _ _ (by omega), fc_u_off _ _ _ (by omega)]
  · rw [g2.1 x (by omega) (by omega) (by omega) (by omega)]
    unfold rkp
    rw [fc_u_off _ _ _ (by omega), fc_ur_off _ _ (by omega), fc_u_off _ _ _ (by omega)]
    exact hm x (by omega)
  · rw [g2.1 252 (by decide) (by decide) (by decide) (by decide)]
    unfold rkp
    rw [fc_u_nj _ _ _ _ (by omega), fc_ur_off _ _ (by decide), fc_u_nj _ _ _ _ (by omega), hm 252 (by omega)]
  · rw [g2.1 252 (by decide) (by decide) (by decide) (by decide)]
    exact fc_u_at _ _ _ _
  · rw [g2.2 j (by omega)]
    show kpt (fc_u m1 252 0 0 268) kp j = _
    rw [fc_u_off _ _ _ (by decide), hm 268 (by omega)]
theorem kp_cv (hs : sl < 16) : cv (sp_kp mi sl kp) 17 = cv mi 17 := cv_off (fun x h1 h2 => kp_off hs (by omega) (by omega))
theorem cw_has {ne np' : Int32} {wk ac w pt : Nat → Int32} {mn x z : Int32} (h : sp_cw ne np' wk ac w pt mn x z = true) : sp_has ne x = true ∧ sp_has np' z = true := by
  unfold sp_cw at h
  simp only [Bool.and_eq_true] at h
  exact ⟨h.1, h.2.1⟩
theorem cg_has {nt ne : Int32} {ho wk ac w : Nat → Int32} {mn x z : Int32} (h : sp_cg nt ne ho wk ac w mn x z = true) : sp_has nt x = true ∧ sp_has ne z = true := by
  unfold sp_cg at h
  simp only [Bool.and_eq_true] at h
  exact ⟨h.1, h.2.1⟩
theorem b_walk (hC : SimC mi ml mr b b2 sc sc2 n m t sm np len sl kp k q T) (hR : SimR mi ml n m t sm np (cl mi b) (cv mi 17) (cw mi b len) (sA ml b m n t) T (mi 2) k (fun x => mi (sc + x)) q (fun x => mi (214 + x)) kp (fun u => cv mi (psl sl kp u)) (mi 37) (fun j => cv mi (166 + 12 * j)) (fun j x => mi (174 + 12 * j + x))) (x z : Int32) : Both E mX10_walk mX11_walk [.int x, .int z] mi ml mr := by
  obtain ⟨e1, e2, e3, e4, l5, l7, l6⟩ := hC.e
  have hb : 218 ≤ b ∧ b ≤ 231 := by rcases hC.2.1.2.2.1 with ⟨e, _⟩ | ⟨e, _⟩ <;> omega
  obtain ⟨p3, p4, p5, p6⟩ := id hC.2.2.2.2.2.2.2.1.1
  have c1 := c_walk (E := E) (d := 37) (ml := ml) hC.1 hC.2.2.2.2.2.2.2.1.1 x z
  rw [e1, e2] at c1
  cases hw : sp_cw (nI n) (nI m) (mi (b + 7)) (mi 19) (mi 18) (mi (b + 4)) (mi 17 1) x z with
  | false =>
    rw [hw, if_neg (by decide)] at c1
    have c2 := c_rwalk (E := E) (d := 36) (ml := ml) hC.w hR.1 hR.2.2.2.2.2.2.2.1.1 p6 x z
    rw [show sp_cw (nI n) (nI m) (cl mi b 7) (cv mi 17 2) (cv mi 17 1) (cl mi b 4) (cv mi 17 0 1) x z = false from hw, if_neg (by decide)] at c2
    exact both_q hC hR rfl c1 c2
  | true =>
    rw [hw, if_pos rfl] at c1
    obtain ⟨h1, h2⟩ := cw_has hw
    obtain ⟨p, hp, rfl⟩ := sp_hasN (by omega) h1
    obtain ⟨y, hy, rfl⟩ := sp_hasN (by omega) h2
    refine both_deed (v := 1) (τ := as_wk (cl mi b) (cv mi 17) p (nI y)) hC hR (fc_conR c1 ?_) (as_wk_ok hC.2.2.1.1.2.2 hp hy) (zr_wk hC.2.2.1.2.2.2.2.2) (fun m1 h => ?_)
    · rintro _ _ _ _ ⟨rfl, rfl, rfl, rfl⟩
      refine ⟨rfl, ((fc_dm.rf).u (by omega)).u (by omega), ?_, rfl, rfl⟩
      unfold q_walk as_wk
      rw [show (19 : Nat) = 17 + 2 from rfl, cv_u _ _ (by omega), show (18 : Nat) = 17 + 1 from rfl, cv_u _ _ (by omega), kp_cv p4, nI_clamp (by omega)]
      rfl
    · have c2 := c_rwalk (E := E) (d := 36) (ml := ml) hC.w h.1 h.2.2.2.2.2.2.2.1.1 p6 (nI p) (nI y)
      rw [show sp_cw (nI n) (nI m) (cl mi b 7) (cv mi 17 2) (cv mi 17 1) (cl mi b 4) (cv mi 17 0 1) (nI p) (nI y) = true from hw, if_pos rfl, nI_clamp (by omega)] at c2
      exact c2
theorem b_give (hC : SimC mi ml mr b b2 sc sc2 n m t sm np len sl kp k q T) (hR : SimR mi ml n m t sm np (cl mi b) (cv mi 17) (cw mi b len) (sA ml b m n t) T (mi 2) k (fun x => mi (sc + x)) q (fun x => mi (214 + x)) kp (fun u => cv mi (psl sl kp u)) (mi 37) (fun j => cv mi (166 + 12 * j)) (fun j x => mi (174 + 12 * j + x))) (x z : Int32) : Both E mX10_give mX11_give [.int x, .int z] mi ml mr := by
  obtain ⟨e1, e2, e3, e4, l5, l7, l6⟩ := hC.e
  have hb : 218 ≤ b ∧ b ≤ 231 := by rcases hC.2.1.2.2.1 with ⟨e, _⟩ | ⟨e, _⟩ <;> omega
  obtain ⟨p3, p4, p5, p6⟩ := id hC.2.2.2.2.2.2.2.1.1
  have hA := hC.2.2.1.2.2.1
  have c1 := c_give (E := E) (d := 35) (ml := ml) hC.1 hC.2.2.2.2.2.2.2.1.1 hA x z
  rw [e1, e3] at c1
  cases hw : sp_cg (nI t) (nI n) (mi 23) (mi (b + 7)) (mi 19) (mi 18) (mi 17 1) x z with
  | false =>
    rw [hw, if_neg (by decide)] at c1
    have c2 := c_rgive (E := E) (d := 36) (ml := ml) hC.w hR.1 hR.2.2.2.2.2.2.2.1.1 p6 hR.2.2.1 x z
    rw [show sp_cg (nI t) (nI n) (cv mi 17 6) (cl mi b 7) (cv mi 17 2) (cv mi 17 1) (cv mi 17 0 1) x z = false from hw, if_neg (by decide)] at c2
    exact both_q hC hR rfl c1 c2
  | true =>
    rw [hw, if_pos rfl] at c1
    obtain ⟨h1, h2⟩ := cg_has hw
    obtain ⟨p, hp, rfl⟩ := sp_hasN (by omega) h1
    obtain ⟨y, hy, rfl⟩ := sp_hasN (by omega) h2
    have ebd : sp_bi (q_gs mi b n len (nI p) (nI y)) = as_bd (cl mi b) (cv mi 17) n (cw mi b len) (cl mi b 8 p) (cv mi 17 0 1) (cv mi 17 6 p).toNatClampNeg y := by
      unfold q_gs
      rw [nI_clamp (by omega), nI_clamp (by omega)]
      exact as_bd_cw (a := 17) hA _ _ _ _ _
    refine both_deed (v := fc_b (sp_bi (q_gs mi b n len (nI p) (nI y)))) (τ := as_gv (cv mi 17) p (cv mi 17 6 p).toNatClampNeg (nI y) (sp_bi (q_gs mi b n len (nI p) (nI y)))) hC hR (fc_conR c1 ?_) (as_gv_ok hC.2.2.1.1.2.2 hy) (zr_gv hC.2.2.1.2.2.2.2.2) (fun m1 h => ?_)
    · rintro _ _ _ _ ⟨rfl, rfl, rfl, rfl⟩
      have hg := sp_gv_cv (mi := sp_kp mi sl kp) (a := 17) (b := b) (q := (nI p).toNatClampNeg) (p := (mi 23 (nI p).toNatClampNeg).toNatClampNeg) (z := nI y) (st := q_gs mi b n len (nI p) (nI y)) (by omega)
      refine ⟨rfl, hg.2, ?_, rfl, rfl⟩
      refine hg.1.trans ?_
      rw [kp_cv p4, nI_clamp (by omega)]
      rfl
    · have c2 := c_rgive (E := E) (d := 36) (ml := ml) hC.w h.1 h.2.2.2.2.2.2.2.1.1 p6 h.2.2.1 (nI p) (nI y)
      rw [show sp_cg (nI t) (nI n) (cv mi 17 6) (cl mi b 7) (cv mi 17 2) (cv mi 17 1) (cv mi 17 0 1) (nI p) (nI y) = true from hw, if_pos rfl, nI_clamp (show p < 2 ^ 31 by omega), nI_clamp (show y < 2 ^ 31 by omega), ← ebd] at c2
      exact c2
theorem b_vow (hC : SimC mi ml mr b b2 sc sc2 n m t sm np len sl kp k q T) (hR : SimR mi ml n m t sm np (cl mi b) (cv mi 17) (cw mi b len) (sA ml b m n t) T (mi 2) k (fun x => mi (sc + x)) q (fun x => mi (214 + x)) kp (fun u => cv mi (psl sl kp u)) (mi 37) (fun j => cv mi (166 + 12 * j)) (fun j x => mi (174 + 12 * j + x))) (x z : Int32) : Both E mX10_vow mX11_vow [.int x, .int z] mi ml mr := by
  obtain ⟨e1, e2, e3, e4, l5, l7, l6⟩ := hC.e
  have hb : 218 ≤ b ∧ b ≤ 231 := by rcases hC.2.1.2.2.1 with ⟨e, _⟩ | ⟨e, _⟩ <;> omega
  obtain ⟨p3, p4, p5, p6⟩ := id hC.2.2.2.2.2.2.2.1.1
  have hA := hC.2.2.1.2.2.1
  have c1 := c_vow (E := E) (d := 36) (ml := ml) hC.1 hC.2.2.2.2.2.2.2.1.1 hA x z
  rw [e1] at c1
  cases hw : sp_cv (nI n) (mi (b + 7)) (mi 19) (mi 18) (mi (b + 5)) (mi 21) (mi 17 1) x z with
  | false =>
    rw [hw, if_neg (by decide)] at c1
    have c2 := c_rvow (E := E) (d := 36) (ml := ml) hC.w hR.1 hR.2.2.2.2.2.2.2.1.1 p6 hR.2.2.1 x z
    rw [show sp_cv (nI n) (cl mi b 7) (cv mi 17 2) (cv mi 17 1) (cl mi b 5) (cv mi 17 4) (cv mi 17 0 1) x z = false from hw, if_neg (by decide)] at c2
    exact both_q hC hR rfl c1 c2
  | true =>
    rw [hw, if_pos rfl] at c1
    obtain ⟨h1, h2, h3⟩ := sp_cv_has hw
    obtain ⟨p, hp, rfl⟩ := sp_hasN (by omega) h1
    obtain ⟨y, hy, rfl⟩ := sp_hasN (by omega) h2
    have hne : ¬ p = y := fun e => h3 (by rw [e])
    have ebd : sp_bi (q_vs mi b n len (nI p) (nI y)) = as_bd (cl mi b) (cv mi 17) n (cw mi b len) 0 (cv mi 17 0 1) p y := by
      unfold q_vs
      rw [nI_clamp (by omega), nI_clamp (by omega)]
      exact as_bd_cw (a := 17) hA _ _ _ _ _
    refine both_deed (v := fc_b (sp_bi (q_vs mi b n len (nI p) (nI y)))) (τ := as_vw (cv mi 17) p y (sp_bi (q_vs mi b n len (nI p) (nI y)))) hC hR (fc_conR c1 ?_) (as_vw_ok l5 hC.2.2.1.1.2.2 hp hy hne) (zr_vw hp hy hC.2.2.1.2.2.2.2.2) (fun m1 h => ?_)
    · rintro _ _ _ _ ⟨rfl, rfl, rfl, rfl⟩
      have hg := sp_vw_cv (mi := sp_kp mi sl kp) (a := 17) (b := b) (p := (nI p).toNatClampNeg) (q := (nI y).toNatClampNeg) (st := q_vs mi b n len (nI p) (nI y)) (by omega)
      refine ⟨rfl, hg.2, ?_, rfl, rfl⟩
      refine hg.1.trans ?_
      rw [kp_cv p4, nI_clamp (show p < 2 ^ 31 by omega), nI_clamp (show y < 2 ^ 31 by omega)]
    · have c2 := c_rvow (E := E) (d := 36) (ml := ml) hC.w h.1 h.2.2.2.2.2.2.2.1.1 p6 h.2.2.1 (nI p) (nI y)
      rw [show sp_cv (nI n) (cl mi b 7) (cv mi 17 2) (cv mi 17 1) (cl mi b 5) (cv mi 17 4) (cv mi 17 0 1) (nI p) (nI y) = true from hw, if_pos rfl, nI_clamp (show p < 2 ^ 31 by omega), nI_clamp (show y < 2 ^ 31 by omega), ← ebd] at c2
      exact c2
theorem b_minute (hC : SimC mi ml mr b b2 sc sc2 n m t sm np len sl kp k q T) (hR : SimR mi ml n m t sm np (cl mi b) (cv mi 17) (cw mi b len) (sA ml b m n t) T (mi 2) k (fun x => mi (sc + x)) q (fun x => mi (214 + x)) kp (fun u => cv mi (psl sl kp u)) (mi 37) (fun j => cv mi (166 + 12 * j)) (fun j x => mi (174 + 12 * j + x))) : Both E mX10_minute mX11_minute [] mi ml mr := by
  obtain ⟨e1, e2, e3, e4, l5, l7, l6⟩ := hC.e
  have hb : 218 ≤ b ∧ b ≤ 231 := by rcases hC.2.1.2.2.1 with ⟨e, _⟩ | ⟨e, _⟩ <;> omega
  obtain ⟨p3, p4, p5, p6⟩ := id hC.2.2.2.2.2.2.2.1.1
  have kb : sp_kp mi sl kp b = mi b := kp_off p4 (by omega) (by omega)
  have k17 : sp_kp mi sl kp 17 = mi 17 := kp_off p4 (by omega) (by omega)
  refine both_deed (v := if nI sm ≤ cv mi 17 0 1 + 1 then 1 else 0) (τ := as_pass (cl mi b) (cv mi 17) n m (nI sm)) hC hR (fc_conR (c_minute (E := E) (d := 37) (ml := ml) hC.1 hC.2.2.2.2.2.2.2.1.1) ?_) (as_pass_ok hC.2.2.1.1.2.1 hC.2.2.1.1.2.2) (zr_pass hC.2.2.1.2.2.2.2.2) (fun m1 h => c_rminute (E := E) (d := 36) (ml := ml) hC.w h.1 h.2.2.2.2.2.2.2.1.1 p6)
  intro v m1 l1 r1 h
  obtain ⟨h1, h2, h3, rfl, rfl⟩ := sp_pass_cv (a := 17) (b := b) (by omega) h
  refine ⟨?_, h3, ?_, rfl, rfl⟩
  · rw [h1, kb, k17, e4]
    show some (Value.int (fc_b (decide (nI sm ≤ mi 17 1 + 1)))) = some (Value.int (if nI sm ≤ mi 17 1 + 1 then 1 else 0))
    by_cases e : nI sm ≤ mi 17 1 + 1
    · rw [decide_eq_true e, if_pos e]; rfl
    · rw [decide_eq_false e, if_neg e]; rfl
  · rw [h2, kp_cv p4, kb, e4, cl_off (f := sp_kp mi sl kp) (g := mi) (fun x h1 h2 => kp_off p4 (by omega) (by omega))]
end M99
