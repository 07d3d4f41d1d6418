/-! ===== what is not land, in both: the state, what undo brings back, what is seen, marks ===== -/
/-- marks, in the class -/
def mkC (n m t sm : Nat) (mi : fc_Mi) : Prop := ∀ j, j < 4 → (mi 37 j = 0 ∨ mi 37 j = 1) ∧ (mi 37 j = 1 → as_ok n m t sm (cv mi (166 + 12 * j)) ∧ zr n (cv mi (166 + 12 * j)) ∧ ∃ q', SeB mi m (174 + 12 * j) q')
def mkR (n t : Nat) (mi : fc_Mi) : Prop := ∀ j, j < 4 → mi 269 j = mi 37 j ∧ (mi 37 j = 1 → as_ag n t (cv mi (166 + 12 * j)) (rv (mi 268) (64 * (1 + j))) ∧ ∃ q', q' ≤ 8 ∧ mi (174 + 12 * j + 0) 3 = nI q' ∧ rsB mi q' (fun x => mi (174 + 12 * j + x)) (64 * (1 + j)))
section Ma0
variable {E : fc_E} {mi mi' : fc_Mi} {ml ml' : fc_Ml} {mr mr' : fc_Mr} {b b2 sc sc2 n m t sm np len sl kp k q T : Nat}
theorem ag_rows {r r' : Nat → Int32} {B : Nat} {σ : fc_Mi} (hn : n ≤ 5) (ht : t ≤ 6) (h : as_ag n t σ (rv r B)) (g : ∀ j, B ≤ j → j < B + 39 → r' j = r j) : as_ag n t σ (rv r' B) := h.tr ⟨⟨(g _ (by omega) (by omega)).symm, (g _ (by omega) (by omega)).symm⟩, fun p hp => ⟨(g _ (by omega) (by omega)).symm, (g _ (by omega) (by omega)).symm, (g _ (by omega) (by omega)).symm, (g _ (by omega) (by omega)).symm, (g _ (by omega) (by omega)).symm⟩, fun q hq => ⟨(g _ (by omega) (by omega)).symm, (g _ (by omega) (by omega)).symm⟩⟩
theorem mkC.off (h : mkC n m t sm mi) (g : ∀ x, x = 37 ∨ (166 ≤ x ∧ x < 214) → mi' x = mi x) : mkC n m t sm mi' := fun j hj => by
  rw [g 37 (by omega), cv_off (f := mi') (g := mi) (a := 166 + 12 * j) (fun x h1 h2 => g x (by omega))]
  unfold SeB
  rw [g (174 + 12 * j) (by omega), g (174 + 12 * j + 1) (by omega), g (174 + 12 * j + 3) (by omega)]
  exact h j hj
theorem mkR.off (hn : n ≤ 5) (ht : t ≤ 6) (h : mkR n t mi) (g : ∀ x, x = 37 ∨ x = 269 ∨ (166 ≤ x ∧ x < 214) → mi' x = mi x) (g2 : ∀ j, 64 ≤ j → j < 320 → mi' 268 j = mi 268 j) : mkR n t mi' := fun j hj => by
  rw [g 37 (by omega), g 269 (by omega), cv_off (f := mi') (g := mi) (a := 166 + 12 * j) (fun x h1 h2 => g x (by omega))]
  refine ⟨(h j hj).1, fun e => ?_⟩
  obtain ⟨h1, q', h2, h3, h4⟩ := (h j hj).2 e
  refine ⟨ag_rows hn ht h1 (fun i h1 h2 => g2 i (by omega) (by omega)), q', h2, ?_, (g2 _ (by omega) (by omega)).trans h4.1, fun s hs => ?_⟩
  · rw [g (174 + 12 * j + 0) (by omega)]; exact h3
  · dsimp only
    rw [g2 _ (by omega) (by omega), g2 _ (by omega) (by omega), g2 _ (by omega) (by omega), g (174 + 12 * j + 1) (by omega), g (174 + 12 * j + 2) (by omega), g (174 + 12 * j + 3) (by omega)]
    exact h4.2 s hs
theorem Sim_gen {m2 : fc_Mi} {sl' kp' q' : Nat} (hC : SimC mi ml mr b b2 sc sc2 n m t sm np len sl kp k q T) (hR : SimR mi ml n m t sm np (cl mi b) (cv mi 17) (cw mi b len) (sA ml b m n t) T (mi 2) k (fun x => mi (sc + x)) q (fun x => mi (214 + x)) kp (fun u => cv mi (psl sl kp u)) (mi 37) (fun j => cv mi (166 + 12 * j)) (fun j x => mi (174 + 12 * j + x)))
    (f1 : ∀ x, x < 252 → (x < 17 ∨ 218 ≤ x) → x ≠ b + 12 → m2 x = mi x) (fs : as_ok n m t sm (cv m2 17)) (fz : zr n (cv m2 17)) (hS : fc_Se m2 m q') (hP : fc_Pa m2 sl' kp' ∧ ∀ u, u < kp' → as_ok n m t sm (cv m2 (psl sl' kp' u)) ∧ zr n (cv m2 (psl sl' kp' u))) (hM : mkC n m t sm m2)
    (g1 : as_ag n t (cv m2 17) (rv (m2 268) 0)) (g2 : ∀ x, x = 253 ∨ x = 258 ∨ x = 259 ∨ x = 260 ∨ x = 263 ∨ x = 265 → m2 x = mi x) (g3 : ∀ j, j = 2 ∨ j = 18 → m2 252 j = mi 252 j)
    (rS : rsB m2 q' (fun x => m2 (214 + x)) 0) (rP : m2 252 25 = nI kp' ∧ ∀ u, u < kp' → as_ag n t (cv m2 (psl sl' kp' u)) (rv (m2 268) (64 * (5 + u)))) (rM : mkR n t m2) : Sim m2 ml mr := by
  obtain ⟨e1, e2, e3, e4, l5, l7, l6⟩ := hC.e
  obtain ⟨⟨c1, c2, c3, c4, c5, c6, c7, c8, c9⟩, ⟨d1, d2, d3, d4, d5⟩, ⟨q1, q2, q3, q4, q5, q6⟩, ⟨t1, t2⟩, ⟨a1, a2⟩, ⟨l1, l2⟩, s1, ⟨p1, p2⟩, m1⟩ := hC
  obtain ⟨r1, r2, r3, ⟨r4, r5, r6⟩, r7, r8, r9, ⟨r10, r11⟩, r12⟩ := hR
  have hb : 218 ≤ b ∧ b ≤ 231 := by rcases d3 with ⟨e, _⟩ | ⟨e, _⟩ <;> omega
  have hsc : sc = 244 ∨ sc = 248 := by rcases d4 with ⟨e, _⟩ | ⟨e, _⟩ <;> omega
  have gb : m2 b = mi b := f1 b (by omega) (by omega) (by omega)
  have ecl : cl m2 b = cl mi b := cl_off (fun x h1 h2 => f1 x (by omega) (by omega) (by omega))
  have ecw : cw m2 b len = cw mi b len := by unfold cw; rw [f1 (b + 11) (by omega) (by omega) (by omega)]
  refine ⟨b, b2, sc, sc2, n, m, t, sm, np, len, sl', kp', k, q', T, ?_, ?_⟩
  · refine ⟨⟨c1, c2, c3, c4, c5.off gb, fs.sv, c7, c8, c9⟩, ⟨d1, d2, d3, d4, d5⟩, ⟨⟨?_, ?_, fs⟩, ?_, ⟨?_, q3.2.1, ?_⟩, ?_, fun x y hx hy => ?_, fz⟩, ⟨⟨?_, t1.2⟩, ?_⟩, ⟨a1, a2⟩, ⟨?_, l2⟩, hS, hP, hM⟩
    · rw [gb]; exact q1.1
    · rw [ecl]; exact q1.2.1
    · rw [gb]; exact q2
    · rw [f1 (b + 10) (by omega) (by omega) (by omega)]; exact q3.1
    · rw [f1 (b + 11) (by omega) (by omega) (by omega)]; exact q3.2.2
    · rw [f1 (b + 4) (by omega) (by omega) (by omega)]; exact q4
    · rw [f1 (b + 4) (by omega) (by omega) (by omega), f1 (8 + x) (by omega) (by omega) (by omega)]; exact q5 x y hx hy
    · rw [f1 1 (by omega) (by omega) (by omega)]; exact t1.1
    · rw [f1 2 (by omega) (by omega) (by omega)]; exact t2
    · rw [f1 sc (by omega) (by omega) (by omega)]; exact l1
  · rw [ecl, ecw, f1 2 (by omega) (by omega) (by omega)]
    refine ⟨⟨?_, r1.2.1, r1.2.2.1, fs, ?_, g1⟩, ?_, r3.off (g2 258 (by omega)) (g2 259 (by omega)) (g2 260 (by omega)), ⟨⟨(g3 2 (by omega)).trans r4.1, r4.2⟩, ?_, r6⟩, ⟨(g3 18 (by omega)).trans r7.1, ?_⟩, ?_, rS, rP, rM⟩
    · rw [g2 258 (by omega)]; exact r1.1
    · rw [g2 258 (by omega)]; exact r1.2.2.2.2.1
    · rw [g2 258 (by omega)]; exact r2
    · rw [g2 253 (by omega)]; exact r5
    · rw [g2 263 (by omega)]; exact r7.2
    · unfold lns at r8 ⊢
      dsimp only at r8 ⊢
      rw [g2 265 (by omega), f1 (sc + 1) (by omega) (by omega) (by omega), f1 (sc + 2) (by omega) (by omega) (by omega), f1 (sc + 3) (by omega) (by omega) (by omega)]; exact r8
theorem Se.off {q : Nat} (h : fc_Se mi m q) (g : ∀ x, x = 214 ∨ x = 215 ∨ x = 217 → mi' x = mi x) : fc_Se mi' m q := by
  unfold fc_Se at h ⊢
  rw [g 214 (by omega), g 215 (by omega), g 217 (by omega)]; exact h
theorem rS.off {q : Nat} (hq : q ≤ 8) (h : rsB mi q (fun x => mi (214 + x)) 0) (g : ∀ x, x = 215 ∨ x = 216 ∨ x = 217 → mi' x = mi x) (g2 : ∀ j, 39 ≤ j → j < 64 → mi' 268 j = mi 268 j) : rsB mi' q (fun x => mi' (214 + x)) 0 := by
  refine ⟨(g2 _ (by omega) (by omega)).trans h.1, fun s hs => ?_⟩
  dsimp only
  rw [g2 _ (by omega) (by omega), g2 _ (by omega) (by omega), g2 _ (by omega) (by omega), g (214 + 1) (by omega), g (214 + 2) (by omega), g (214 + 3) (by omega)]
  exact h.2 s hs
theorem cp_zr {a c : Nat} (h : zr n (cv mi c)) : zr n (cv (sp_cp mi a c) a) := fun p h1 h2 => by
  have h3 := h p h1 h2
  have z4 : cv (sp_cp mi a c) a 4 p = mi (c + 4) p := by
    show (sp_cp mi a c) (a + 4) p = _
    unfold sp_cp
    rw [fc_ur_off _ _ (by omega), fc_ur_off _ _ (by omega), fc_ur_off _ _ (by omega), fc_ur_row]
    exact if_pos h2
  have z5 : cv (sp_cp mi a c) a 5 p = mi (c + 5) p := by
    show (sp_cp mi a c) (a + 5) p = _
    unfold sp_cp
    rw [fc_ur_off _ _ (by omega), fc_ur_off _ _ (by omega), fc_ur_row]
    exact if_pos h2
  rw [z4, z5]; exact h3
theorem cp_off {a c x : Nat} (h : x < a ∨ a + 8 ≤ x) : sp_cp mi a c x = mi x := by
  unfold sp_cp
  rw [fc_ur_off _ _ (by omega), fc_ur_off _ _ (by omega), fc_ur_off _ _ (by omega), fc_ur_off _ _ (by omega), fc_ur_off _ _ (by omega), fc_ur_off _ _ (by omega), fc_ur_off _ _ (by omega), fc_u_off _ _ _ (by omega), fc_u_off _ _ _ (by omega)]
theorem psl_u {sl kp u : Nat} (hs : sl < 16) (hk : kp ≤ 16) (h0 : ¬ kp = 0) (hu : u < kp - 1) : psl ((sl + 15) % 16) (kp - 1) u = psl sl kp u := by
  unfold psl
  omega
theorem psl_l {sl kp : Nat} (hs : sl < 16) (hk : kp ≤ 16) (h0 : ¬ kp = 0) : psl sl kp (kp - 1) = 38 + 8 * ((sl + 15) % 16) := by
  unfold psl
  omega
theorem b_undo (hC : SimC mi ml mr b b2 sc sc2 n m t sm np len sl kp k q T) (hR : SimR mi ml n m t sm np (cl mi b) (cv mi 17) (cw mi b len) (sA ml b m n t) T (mi 2) k (fun x => mi (sc + x)) q (fun x => mi (214 + x)) kp (fun u => cv mi (psl sl kp u)) (mi 37) (fun j => cv mi (166 + 12 * j)) (fun j x => mi (174 + 12 * j + x))) : Both E mX10_undo mX11_undo [] mi ml mr := by
  obtain ⟨e1, e2, e3, e4, l5, l7, l6⟩ := hC.e
  have hb : 218 ≤ b ∧ b ≤ 231 := by rcases hC.2.1.2.2.1 with ⟨e, _⟩ | ⟨e, _⟩ <;> omega
  obtain ⟨p3, p4, p5, p6⟩ := id hC.2.2.2.2.2.2.2.1.1
  have p2 := hC.2.2.2.2.2.2.2.1.2
  have c1 := c_undo (E := E) (d := 38) (ml := ml) hC.1 hC.2.2.2.2.2.2.2.1.1
  by_cases h0 : kp = 0
  · rw [if_pos h0] at c1
    have c2 := c_rundo (E := E) (d := 36) (ml := ml) hC.w hR.1 hR.2.2.2.2.2.2.2.1.1 p6
    rw [if_pos h0] at c2
    exact both_q hC hR rfl c1 c2
  · rw [if_neg h0] at c1
    refine ⟨1, fc_conR c1 ?_⟩
    rintro _ _ _ _ ⟨rfl, rfl, rfl, rfl⟩
    have hq8 : q ≤ 8 := hC.2.2.2.2.2.2.1.2.1
    have hlt := psl_lt sl kp (kp - 1)
    rw [psl_l p4 p6 h0] at hlt
    have ho : ∀ x, (x < 17 ∨ 25 ≤ x) → x ≠ 33 → sp_bb mi sl kp x = mi x := fun x h1 h2 => by
      unfold sp_bb
      rw [cp_off (by omega), fc_u_off _ _ _ h2, fc_u_off _ _ _ h2]
    have hm : ∀ x, 252 ≤ x → sp_bb mi sl kp x = mi x := fun x h => ho x (by omega) (by omega)
    have hFr : FrR mi (sp_bb mi sl kp) := ⟨fun k _ => by rw [hm 252 (by omega)], fun x q => hm x (by omega), fun j _ => by rw [hm 268 (by omega)]⟩
    have hR1 := hR.off p6 hq8 hFr (ml' := ml) rfl rfl
    have c2 := c_rundo (E := E) (d := 36) (ml := ml) hC.w hR1.1 hR1.2.2.2.2.2.2.2.1.1 p6
    rw [if_neg h0, hm 268 (by omega)] at c2
    refine ⟨rfl, fc_conR c2 ?_⟩
    rintro _ _ _ _ ⟨rfl, rfl, rfl, rfl⟩
    refine ⟨rfl, ?_⟩
    generalize hm2 : fc_ur (fc_u (fc_u (sp_bb mi sl kp) 252 0 0) 252 25 (nI (kp - 1))) 268 (cpr (mi 268) (64 * (5 + (kp - 1))) 0 39) = m2
    have hlow : ∀ x, x ≠ 252 → x ≠ 268 → m2 x = sp_bb mi sl kp x := fun x h1 h2 => by rw [← hm2, fc_ur_off _ _ h2, fc_u_off _ _ _ h1, fc_u_off _ _ _ h1]
    have h268 : ∀ j, 39 ≤ j → m2 268 j = mi 268 j := fun j h => by rw [← hm2, fc_ur_row, cpr, if_neg (by omega)]
    have hpast : ∀ u, u < kp - 1 → cv m2 (psl ((sl + 15) % 16) (kp - 1) u) = cv mi (psl sl kp u) := fun u hu => by
      have := psl_lt sl kp u
      rw [psl_u p4 p6 h0 hu]
      exact cv_off (fun x h1 h2 => (hlow x (by omega) (by omega)).trans (ho x (by omega) (by omega)))
    have est : as_ag n t (cv m2 17) (cv mi (psl sl kp (kp - 1))) := by
      rw [psl_l p4 p6 h0, cv_off (f := m2) (g := sp_bb mi sl kp) (fun x h1 h2 => hlow x (by omega) (by omega))]
      unfold sp_bb
      refine (sp_cp_cv l5 l6).tr ?_
      rw [cv_uo _ _ (by omega), cv_uo _ _ (by omega)]
      exact as_ag.rf
    have hz : zr n (cv m2 17) := by
      rw [cv_off (f := m2) (g := sp_bb mi sl kp) (fun x h1 h2 => hlow x (by omega) (by omega))]
      unfold sp_bb
      refine cp_zr ?_
      rw [cv_uo _ _ (by omega), cv_uo _ _ (by omega), ← psl_l p4 p6 h0]
      exact (p2 (kp - 1) (by omega)).2
    refine Sim_gen (sl' := (sl + 15) % 16) (kp' := kp - 1) (q' := q) hC hR (fun x h1 h2 h3 => (hlow x (by omega) (by omega)).trans (ho x (by omega) (by omega))) ((p2 (kp - 1) (by omega)).1.ag est.sy) hz (Se.off hC.2.2.2.2.2.2.1 (fun x h => (hlow x (by omega) (by omega)).trans (ho x (by omega) (by omega)))) ⟨⟨?_, Nat.mod_lt _ (by omega), ?_, by omega⟩, fun u hu => ?_⟩ (mkC.off hC.2.2.2.2.2.2.2.2 (fun x h => (hlow x (by omega) (by omega)).trans (ho x (by omega) (by omega)))) ?_ (fun x h => (hlow x (by omega) (by omega)).trans (ho x (by omega) (by omega))) (fun j h => ?_) (rS.off hq8 hR.2.2.2.2.2.2.1 (fun x h => (hlow x (by omega) (by omega)).trans (ho x (by omega) (by omega))) (fun j h1 h2 => h268 j h1)) ⟨?_, fun u hu => ?_⟩ (mkR.off l5 l6 hR.2.2.2.2.2.2.2.2 (fun x h => (hlow x (by omega) (by omega)).trans (ho x (by omega) (by omega))) (fun j h1 h2 => h268 j (by omega)))
    · rw [hlow 33 (by omega) (by omega)]
      unfold sp_bb
      rw [cp_off (by omega)]; exact fc_u_at _ _ _ _
    · rw [hlow 33 (by omega) (by omega)]
      unfold sp_bb
      rw [cp_off (by omega), fc_u_nj _ _ _ _ (by decide)]; exact fc_u_at _ _ _ _
    · rw [hpast u hu]; exact p2 u (by omega)
    · refine est.tr ?_
      have h1 := hR.2.2.2.2.2.2.2.1.2 (kp - 1) (by omega)
      have h2 := cpr_ag (B := 0) l5 l6 h1
      rw [← hm2, fc_ur_row]
      exact h2
    · rw [← hm2, fc_ur_off _ _ (by decide), fc_u_nj _ _ _ _ (by omega), fc_u_nj _ _ _ _ (by omega), hm 252 (by omega)]
    · rw [← hm2, fc_ur_off _ _ (by decide)]; exact fc_u_at _ _ _ _
    · rw [hpast u hu]
      exact ag_rows l5 l6 (hR.2.2.2.2.2.2.2.1.2 u (by omega)) (fun j h1 h2 => h268 j (by omega))
end Ma0
