/-! ===== questions that use rows of their own ===== -/
section M97
variable {E : fc_E} {mi mi' : fc_Mi} {ml ml' : fc_Ml} {mr mr' : fc_Mr} {b b2 sc sc2 n m t sm np len sl kp k q T : Nat}
def C1 (mi : fc_Mi) (ml : fc_Ml) (mr : fc_Mr) (b : Nat) (v : Int32) : fc_Q := fun v1 m1 l1 r1 => v1 = some (.int v) ∧ FrC b mi m1 ∧ (∀ x, 252 ≤ x → m1 x = mi x) ∧ (∀ x, x ≠ 0 → l1 x = ml x) ∧ fc_Wd r1 ∧ (∀ j, j = 7 ∨ j = 8 ∨ j = 9 ∨ j = 10 → r1 0 j = mr 0 j) ∧ fc_en r1
def C2 (mi : fc_Mi) (ml : fc_Ml) (mr : fc_Mr) (v : Int32) : fc_Q := fun v2 m2 l2 r2 => v2 = some (.int v) ∧ FrR mi m2 ∧ (∀ x, x < 252 → m2 x = mi x) ∧ (∀ x, x ≠ 252 → l2 x = ml x) ∧ mr = r2
theorem both_s {yC yR : fc_M} {args : List Value} {v : Int32} (hC : SimC mi ml mr b b2 sc sc2 n m t sm np len sl kp k q T) (hR : SimR mi ml n m t sm np (cl mi b) (cv mi 17) (cw mi b len) (sA ml b m n t) T (mi 2) k (fun x => mi (sc + x)) q (fun x => mi (214 + x)) kp (fun u => cv mi (psl sl kp u)) (mi 37) (fun j => cv mi (166 + 12 * j)) (fun j x => mi (174 + 12 * j + x))) (c1 : fc_R E yC 40 fc_sh (.ref 0 :: args) mi ml mr (C1 mi ml mr b v)) (c2 : ∀ m1 l1 r1, fc_Wd r1 → SimR m1 l1 n m t sm np (cl mi b) (cv mi 17) (cw mi b len) (sA ml b m n t) T (mi 2) k (fun x => mi (sc + x)) q (fun x => mi (214 + x)) kp (fun u => cv mi (psl sl kp u)) (mi 37) (fun j => cv mi (166 + 12 * j)) (fun j x => mi (174 + 12 * j + x)) → fc_R E yR 40 fc_sh (.ref 252 :: args) m1 l1 r1 (C2 m1 l1 r1 v)) : Both E yC yR args mi ml mr := by
  refine ⟨v, fc_conR c1 ?_⟩
  rintro _ m1 l1 r1 ⟨rfl, f1, f2, f3, f4, f5, f6⟩
  have hFr : FrR mi m1 := ⟨fun k _ => by rw [f2 252 (by omega)], fun x q => f2 x (by omega), fun j _ => by rw [f2 268 (by omega)]⟩
  have hkp : kp ≤ 16 := hC.2.2.2.2.2.2.2.1.1.2.2.2
  have hq8 : q ≤ 8 := hC.2.2.2.2.2.2.1.2.1
  refine ⟨rfl, fc_conR (c2 m1 l1 r1 f4 (hR.off hkp hq8 hFr (f3 257 (by decide)) (f3 261 (by decide)))) ?_⟩
  rintro _ m2 l2 r2 ⟨rfl, g1, g2, g3, rfl⟩
  exact ⟨rfl, Sim_q hC hR (f1.tr (fun x q _ _ _ _ => g2 x q)) (hFr.tr g1) (fun x q1 q2 => (g3 x q2).trans (f3 x q1)) f4 f5 f6⟩
theorem FrC_12 {r : Nat → Int32} : FrC b mi (fc_ur mi (b + 12) r) := fun x _ _ _ _ q => fc_ur_off _ _ q
theorem dm_C {m1 : fc_Mi} (hb : 218 ≤ b ∧ b ≤ 231) (h : fc_dm 25 b mi m1) : FrC b mi m1 ∧ ∀ x, 252 ≤ x → m1 x = mi x := ⟨fun x q1 q2 q3 q4 q5 => h x (by omega) q5, fun x q => h x (by omega) (by omega)⟩
theorem rqw_C {v : Int32} {v2 : Option Value} {m2 : fc_Mi} {l2 : fc_Ml} {r2 : fc_Mr} (h : rqw v (fc_u mi 252 0 0) ml mr v2 m2 l2 r2) : C2 mi ml mr v v2 m2 l2 r2 := by
  obtain ⟨rfl, h1, rfl, rfl⟩ := h
  refine ⟨rfl, ⟨fun k q => ?_, fun x q => ?_, fun j _ => ?_⟩, fun x q => ?_, fun _ _ => rfl, rfl⟩
  · rw [h1 252 (by decide) (by decide), fc_u_nj _ _ _ _ (by omega)]
  · rw [h1 x (by omega) (by omega), fc_u_off _ _ _ (by omega)]
  · rw [h1 268 (by decide) (by decide), fc_u_off _ _ _ (by decide)]
  · rw [h1 x (by omega) (by omega), fc_u_off _ _ _ (by omega)]
theorem rf_C {B : Nat} (hB : 1344 ≤ B) {m2 : fc_Mi} (h : rf B (fc_u mi 252 0 0) m2) : FrR mi m2 ∧ ∀ x, x < 252 → m2 x = mi x := by
  refine ⟨⟨fun k q => ?_, fun x q => ?_, fun j hj => ?_⟩, fun x q => ?_⟩
  · rw [h.1 252 (by decide) (by decide) (by decide) (by decide), fc_u_nj _ _ _ _ (by omega)]
  · rw [h.1 x (by omega) (by omega) (by omega) (by omega), fc_u_off _ _ _ (by omega)]
  · rw [h.2 j (by omega), fc_u_off _ _ _ (by decide)]
  · rw [h.1 x (by omega) (by omega) (by omega) (by omega), fc_u_off _ _ _ (by omega)]
theorem ra_to {M : fc_Mi} {B : Nat} {L σ τ : fc_Mi} (h : ra M B n m t sm L σ) (g : as_ag n t τ σ) : ra M B n m t sm L τ := ⟨h.1, h.2.1, h.2.2.1, h.2.2.2.1.ag g.sy, h.2.2.2.2.1, g.tr h.2.2.2.2.2⟩
theorem b_would (hC : SimC mi ml mr b b2 sc sc2 n m t sm np len sl kp k q T) (hR : SimR mi ml n m t sm np (cl mi b) (cv mi 17) (cw mi b len) (sA ml b m n t) T (mi 2) k (fun x => mi (sc + x)) q (fun x => mi (214 + x)) kp (fun u => cv mi (psl sl kp u)) (mi 37) (fun j => cv mi (166 + 12 * j)) (fun j x => mi (174 + 12 * j + x))) (x z : Int32) : Both E mX10_would mX11_would [.int x, .int z] mi ml mr := by
  obtain ⟨e1, e2, e3, e4, l5, l7, l6⟩ := hC.e
  have hb : 218 ≤ b ∧ b ≤ 231 := by rcases hC.2.1.2.2.1 with ⟨e, _⟩ | ⟨e, _⟩ <;> omega
  refine both_s (v := fc_b (q_gift mi b x z && q_bd mi b n len x z (mi 17 1))) hC hR (fc_conR (c_would (d := 36) hC.1 hC.2.2.1.2.2.1 x z) ?_) (fun m1 l1 r1 hW h => fc_conR (c_rwould (d := 36) hW h.1 h.2.2.1 x z) (fun v2 m2 l2 r2 g => ?_))
  · rintro _ _ _ _ ⟨r, rfl, rfl, rfl, rfl⟩
    exact ⟨rfl, FrC_12, fun y q => fc_ur_off _ _ (by omega), fun _ _ => rfl, hC.w, fun _ _ => rfl, hC.2.1.2.2.2.2⟩
  · have ev : fc_b (q_gift mi b x z && q_bd mi b n len x z (mi 17 1)) = fc_b ((sp_has (nI t) x && (sp_has (nI n) z && !decide (cv mi 17 6 x.toNatClampNeg = z))) && as_bd (cl mi b) (cv mi 17) n (cw mi b len) (cl mi b 8 x.toNatClampNeg) (cv mi 17 0 1) (cv mi 17 6 x.toNatClampNeg).toNatClampNeg z.toNatClampNeg) := by
      unfold q_gift
      rw [e3, e1]
      rfl
    rw [ev]
    exact rqw_C g
theorem b_when (hC : SimC mi ml mr b b2 sc sc2 n m t sm np len sl kp k q T) (hR : SimR mi ml n m t sm np (cl mi b) (cv mi 17) (cw mi b len) (sA ml b m n t) T (mi 2) k (fun x => mi (sc + x)) q (fun x => mi (214 + x)) kp (fun u => cv mi (psl sl kp u)) (mi 37) (fun j => cv mi (166 + 12 * j)) (fun j x => mi (174 + 12 * j + x))) (x z : Int32) : Both E mX10_when mX11_when [.int x, .int z] mi ml mr := by
  obtain ⟨e1, e2, e3, e4, l5, l7, l6⟩ := hC.e
  have hb : 218 ≤ b ∧ b ≤ 231 := by rcases hC.2.1.2.2.1 with ⟨e, _⟩ | ⟨e, _⟩ <;> omega
  obtain ⟨mn, h1, h2⟩ := sim_mn hC
  have hs60 : sm ≤ 60 := hC.2.2.1.1.2.1.2.2.2.2.1
  refine both_s (v := if q_gift mi b x z then sp_wn (fun ck => q_bd mi b n len x z ck) (sm - mn) mn else -1) hC hR (fc_conR (c_when (d := 36) hC.1 hC.2.2.1.2.2.1 (s := sm) (mn := mn) e4 hs60 h2 h1 x z) ?_) (fun m1 l1 r1 hW h => fc_conR (c_rwhen (d := 36) hW h.1 h.2.2.1 (mn := mn) h2 h1 x z) (fun v2 m2 l2 r2 g => ?_))
  · rintro _ _ _ _ ⟨r, rfl, rfl, rfl, rfl⟩
    exact ⟨rfl, FrC_12, fun y q => fc_ur_off _ _ (by omega), fun _ _ => rfl, hC.w, fun _ _ => rfl, hC.2.1.2.2.2.2⟩
  · have ev : (if q_gift mi b x z then sp_wn (fun ck => q_bd mi b n len x z ck) (sm - mn) mn else -1) = (if (sp_has (nI t) x && (sp_has (nI n) z && !decide (cv mi 17 6 x.toNatClampNeg = z))) then sp_wn (fun ck => as_bd (cl mi b) (cv mi 17) n (cw mi b len) (cl mi b 8 x.toNatClampNeg) ck (cv mi 17 6 x.toNatClampNeg).toNatClampNeg z.toNatClampNeg) (sm - mn) mn else -1) := by
      unfold q_gift
      rw [e3, e1]
      rfl
    rw [ev]
    exact rqw_C g
theorem b_tour (hC : SimC mi ml mr b b2 sc sc2 n m t sm np len sl kp k q T) (hR : SimR mi ml n m t sm np (cl mi b) (cv mi 17) (cw mi b len) (sA ml b m n t) T (mi 2) k (fun x => mi (sc + x)) q (fun x => mi (214 + x)) kp (fun u => cv mi (psl sl kp u)) (mi 37) (fun j => cv mi (166 + 12 * j)) (fun j x => mi (174 + 12 * j + x))) (x : Int32) : Both E mX10_tour mX11_tour [.int x] mi ml mr := by
  obtain ⟨e1, e2, e3, e4, l5, l7, l6⟩ := hC.e
  have hb : 218 ≤ b ∧ b ≤ 231 := by rcases hC.2.1.2.2.1 with ⟨e, _⟩ | ⟨e, _⟩ <;> omega
  refine both_s (v := if sp_has (mi b 12) x then sp_non (sp_mo (mi (b + 7)) (mi 19) (mi (b + 5)) (mi 17 1) x.toNatClampNeg (tp (fun i => sp_any (tw (mi (b + 4)) m (mi 18 x.toNatClampNeg).toNatClampNeg i (fg_it (mi (b + 4)) m 0 (sp_one (mi 18 x.toNatClampNeg).toNatClampNeg) 7).toNatClampNeg) m) 15 0)) else -1) hC hR (fc_conR (c_tour (d := 36) hC.1 hC.2.1.2.2.2.2 hC.2.2.1.2.2.2.1 x) ?_) (fun m1 l1 r1 hW h => fc_conR (c_rtour (d := 37) hW h.1 hC.2.2.1.2.2.2.1 x) (fun v2 m2 l2 r2 g => ?_))
  · rintro _ m1 l1 r1 ⟨rfl, ⟨t1, t2, y1, y2, rfl⟩, rfl⟩
    exact ⟨rfl, fun y q1 q2 q3 _ _ => t1 y q2 q3, fun y q => t1 y (by omega) (by omega), fun _ _ => rfl, hC.w.en, fun j _ => by rw [fc_u_off _ _ _ (by decide), fc_u_off _ _ _ (by decide)], t2⟩
  · obtain ⟨rfl, ⟨r, rfl⟩, rfl, rfl⟩ := g
    refine ⟨?_, ⟨fun k q => ?_, fun y q => ?_, fun j _ => ?_⟩, fun y q => ?_, fun _ _ => rfl, rfl⟩
    · rw [e1]; rfl
    · rw [fc_ur_off _ _ (by decide), fc_u_nj _ _ _ _ (by omega)]
    · rw [fc_ur_off _ _ (by omega), fc_u_off _ _ _ (by omega)]
    · rw [fc_ur_off _ _ (by decide), fc_u_off _ _ _ (by decide)]
    · rw [fc_ur_off _ _ (by omega), fc_u_off _ _ _ (by omega)]
theorem dv_C {v : Int32} {v1 : Option Value} {m1 : fc_Mi} {l1 : fc_Ml} {r1 : fc_Mr} (hC : SimC mi ml mr b b2 sc sc2 n m t sm np len sl kp k q T) (h : fc_dv b v mi ml mr v1 m1 l1 r1) : C1 mi ml mr b v v1 m1 l1 r1 := by
  have hb : 218 ≤ b ∧ b ≤ 231 := by rcases hC.2.1.2.2.1 with ⟨e, _⟩ | ⟨e, _⟩ <;> omega
  obtain ⟨rfl, h1, rfl, rfl⟩ := h
  exact ⟨rfl, (dm_C hb h1).1, (dm_C hb h1).2, fun _ _ => rfl, hC.w, fun _ _ => rfl, hC.2.1.2.2.2.2⟩
theorem rqv_C {B : Nat} (hB : 1344 ≤ B) {v : Int32} {v2 : Option Value} {m2 : fc_Mi} {l2 : fc_Ml} {r2 : fc_Mr} (h : rqv B v (fc_u mi 252 0 0) ml mr v2 m2 l2 r2) : C2 mi ml mr v v2 m2 l2 r2 := by
  obtain ⟨rfl, h1, rfl, rfl⟩ := h
  exact ⟨rfl, (rf_C hB h1).1, (rf_C hB h1).2, fun _ _ => rfl, rfl⟩
theorem is0_C {v : Int32} {v2 : Option Value} {m2 : fc_Mi} {l2 : fc_Ml} {r2 : fc_Mr} (h : fc_is (some (.int v)) (fc_u mi 252 0 0) ml mr v2 m2 l2 r2) : C2 mi ml mr v v2 m2 l2 r2 := by
  obtain ⟨rfl, rfl, rfl, rfl⟩ := h
  exact ⟨rfl, FrR_0 0, fun x q => fc_u_off _ _ _ (by omega), fun _ _ => rfl, rfl⟩
theorem is1_C {v : Int32} {v1 : Option Value} {m1 : fc_Mi} {l1 : fc_Ml} {r1 : fc_Mr} (hC : SimC mi ml mr b b2 sc sc2 n m t sm np len sl kp k q T) (h : fc_is (some (.int v)) mi ml mr v1 m1 l1 r1) : C1 mi ml mr b v v1 m1 l1 r1 := by
  obtain ⟨rfl, rfl, rfl, rfl⟩ := h
  exact ⟨rfl, FrC.rf, fun _ _ => rfl, fun _ _ => rfl, hC.w, fun _ _ => rfl, hC.2.1.2.2.2.2⟩
theorem b_news (hC : SimC mi ml mr b b2 sc sc2 n m t sm np len sl kp k q T) (hR : SimR mi ml n m t sm np (cl mi b) (cv mi 17) (cw mi b len) (sA ml b m n t) T (mi 2) k (fun x => mi (sc + x)) q (fun x => mi (214 + x)) kp (fun u => cv mi (psl sl kp u)) (mi 37) (fun j => cv mi (166 + 12 * j)) (fun j x => mi (174 + 12 * j + x))) : Both E mX10_news mX11_news [] mi ml mr := by
  obtain ⟨e1, e2, e3, e4, l5, l7, l6⟩ := hC.e
  have hb : 218 ≤ b ∧ b ≤ 231 := by rcases hC.2.1.2.2.1 with ⟨e, _⟩ | ⟨e, _⟩ <;> omega
  refine both_s hC hR (fc_conR (c_news (d := 37) hC.1 hC.2.2.1.1) (fun v1 m1 l1 r1 h => dv_C hC h)) (fun m1 l1 r1 hW h => fc_conR (c_rnews (d := 37) hW (ra_to h.1 (sp_cp_cv l5 l6))) (fun v2 m2 l2 r2 g => rqv_C (by omega) g))
theorem b_judged (hC : SimC mi ml mr b b2 sc sc2 n m t sm np len sl kp k q T) (hR : SimR mi ml n m t sm np (cl mi b) (cv mi 17) (cw mi b len) (sA ml b m n t) T (mi 2) k (fun x => mi (sc + x)) q (fun x => mi (214 + x)) kp (fun u => cv mi (psl sl kp u)) (mi 37) (fun j => cv mi (166 + 12 * j)) (fun j x => mi (174 + 12 * j + x))) (w : Int32) : Both E mX10_judged mX11_judged [.int w] mi ml mr := by
  obtain ⟨e1, e2, e3, e4, l5, l7, l6⟩ := hC.e
  have hb : 218 ≤ b ∧ b ≤ 231 := by rcases hC.2.1.2.2.1 with ⟨e, _⟩ | ⟨e, _⟩ <;> omega
  have hsc : b + 12 < sc := by rcases hC.2.1.2.2.2.1 with ⟨e, _⟩ | ⟨e, _⟩ <;> omega
  have hbg : as_ag n t (cv (sp_bg mi 25 b 5 6) 25) (as_beg (cl mi b)) := sp_bg_cv l5 l6
  cases hw : sp_from 0 w 2 with
  | true =>
    refine both_s (v := as_jd (cl mi b) (cv (sp_bg mi 25 b 5 6) 25) n m t (nI sm) (cw mi b len) (mi (sc + 1)) (mi (sc + 2)) (mi (sc + 3)) k w) hC hR (fc_conR (c_judged (d := 34) hC.1 hsc hC.2.2.1.2.2.1 hC.2.2.1.1 hC.2.2.2.2.2.1.1 hC.2.2.2.2.2.1.2 w) (fun v1 m1 l1 r1 h => ?_)) (fun m1 l1 r1 hW h => fc_conR (c_rjudged (d := 35) hW h.1 h.2.2.1 h.2.2.2.2.2.1 ((as_beg_ok hC.2.2.1.1.2.1).ag hbg.sy) hbg w) (fun v2 m2 l2 r2 g => ?_))
    · rcases h with h | h
      · rw [hw] at h; exact absurd h.1 (by decide)
      · exact dv_C hC h.2
    · rw [hw, if_pos rfl] at g
      exact rqv_C (by omega) g
  | false =>
    refine both_s (v := -2) hC hR (fc_conR (c_judged (d := 34) hC.1 hsc hC.2.2.1.2.2.1 hC.2.2.1.1 hC.2.2.2.2.2.1.1 hC.2.2.2.2.2.1.2 w) (fun v1 m1 l1 r1 h => ?_)) (fun m1 l1 r1 hW h => fc_conR (c_rjudged (d := 35) hW h.1 h.2.2.1 h.2.2.2.2.2.1 ((as_beg_ok hC.2.2.1.1.2.1).ag hbg.sy) hbg w) (fun v2 m2 l2 r2 g => ?_))
    · rcases h with h | h
      · exact is1_C hC h.2
      · rw [hw] at h; exact absurd h.1 (by decide)
    · rw [hw, if_neg (by decide)] at g
      exact is0_C g
theorem b_mornings (hC : SimC mi ml mr b b2 sc sc2 n m t sm np len sl kp k q T) (hR : SimR mi ml n m t sm np (cl mi b) (cv mi 17) (cw mi b len) (sA ml b m n t) T (mi 2) k (fun x => mi (sc + x)) q (fun x => mi (214 + x)) kp (fun u => cv mi (psl sl kp u)) (mi 37) (fun j => cv mi (166 + 12 * j)) (fun j x => mi (174 + 12 * j + x))) (x y w : Int32) : Both E mX10_mornings mX11_mornings [.int x, .int y, .int w] mi ml mr := by
  obtain ⟨e1, e2, e3, e4, l5, l7, l6⟩ := hC.e
  have hb : 218 ≤ b ∧ b ≤ 231 := by rcases hC.2.1.2.2.1 with ⟨e, _⟩ | ⟨e, _⟩ <;> omega
  have hcp : as_ag n t (cv (sp_cp mi 25 17) 25) (cv mi 17) := sp_cp_cv l5 l6
  have hm0 : 0 < n → 0 < m := fun h => by
    obtain ⟨⟨j, hj, -⟩, -⟩ := hC.2.2.1.1.2.1.2.2.2.2.2.1 0 h
    omega
  cases hw : (sp_from 0 x 9999 && (sp_from 1 y 99 && sp_from 0 w 2)) with
  | true =>
    refine both_s (v := as_mo (as_mn dg dv (cl mi b) (cv (sp_cp mi 25 17) 25) n m t (nI sm) (cw mi b len) x.toNatClampNeg y.toNatClampNeg).1 n t (as_mn dg dv (cl mi b) (cv (sp_cp mi 25 17) 25) n m t (nI sm) (cw mi b len) x.toNatClampNeg y.toNatClampNeg).2.2 w) hC hR (fc_conR (c_mornings (d := 34) hC.1 fc_Dr_ok hC.2.2.1.2.2.1 hC.2.2.1.1 x y w) (fun v1 m1 l1 r1 h => ?_)) (fun m1 l1 r1 hW h => fc_conR (c_rmornings (d := 34) hW h.1 fc_Drr_dg h.2.2.1 hm0 (hC.2.2.1.1.2.2.ag hcp.sy) hcp x y w) (fun v2 m2 l2 r2 g => ?_))
    · rcases h with h | h
      · rw [hw] at h; exact absurd h.1 (by decide)
      · obtain ⟨rfl, h1, ⟨z, rfl⟩, rfl⟩ := h.2
        exact ⟨rfl, (dm_C hb h1).1, (dm_C hb h1).2, fun x q => fc_u_off _ _ _ q, hC.w, fun _ _ => rfl, hC.2.1.2.2.2.2⟩
    · rw [hw, if_pos rfl] at g
      obtain ⟨rfl, h1, ⟨z, rfl⟩, rfl⟩ := g
      exact ⟨rfl, (rf_C (by omega) h1).1, (rf_C (by omega) h1).2, fun x q => fc_u_off _ _ _ q, rfl⟩
  | false =>
    refine both_s (v := -1) hC hR (fc_conR (c_mornings (d := 34) hC.1 fc_Dr_ok hC.2.2.1.2.2.1 hC.2.2.1.1 x y w) (fun v1 m1 l1 r1 h => ?_)) (fun m1 l1 r1 hW h => fc_conR (c_rmornings (d := 34) hW h.1 fc_Drr_dg h.2.2.1 hm0 (hC.2.2.1.1.2.2.ag hcp.sy) hcp x y w) (fun v2 m2 l2 r2 g => ?_))
    · rcases h with h | h
      · exact is1_C hC h.2
      · rw [hw] at h; exact absurd h.1 (by decide)
    · rw [hw, if_neg (by decide)] at g
      exact is0_C g
end M97
