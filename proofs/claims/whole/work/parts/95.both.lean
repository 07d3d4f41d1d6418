/-! ===== a call in both ===== -/
theorem fc_conR {E : fc_E} {y : fc_M} {d : Nat} {sh : fc_Sh} {As : List Value} {mi : fc_Mi} {ml : fc_Ml} {mr : fc_Mr} {Q Q' : fc_Q} (h : fc_R E y d sh As mi ml mr Q) (k : ∀ v a b c, Q v a b c → Q' v a b c) : fc_R E y d sh As mi ml mr Q' := by
  intro p e ha hc hk s m args below hf happ hP htr
  obtain ⟨k', o, h1, h2, h3, ⟨⟨v, a, b, c, g1, g2⟩, g3⟩, h4⟩ := h p e ha hc hk s m args below hf happ hP htr
  exact ⟨k', o, h1, h2, h3, ⟨⟨v, a, b, c, k v a b c g1, g2⟩, g3⟩, h4⟩
/-- a call of the class and then of the reference: one answer, and side by side again -/
def Both (E : fc_E) (yC yR : fc_M) (args : List Value) (mi : fc_Mi) (ml : fc_Ml) (mr : fc_Mr) : Prop := ∃ v : Int32, fc_R E yC 40 fc_sh (.ref 0 :: args) mi ml mr (fun v1 m1 l1 r1 => v1 = some (.int v) ∧ fc_R E yR 40 fc_sh (.ref 252 :: args) m1 l1 r1 (fun v2 m2 l2 r2 => v2 = some (.int v) ∧ Sim m2 l2 r2))
section M95
variable {E : fc_E} {mi mi' : fc_Mi} {ml ml' : fc_Ml} {mr mr' : fc_Mr} {b b2 sc sc2 n m t sm np len sl kp k q T : Nat}
theorem FrC_0 (v : Int32) : FrC b mi (fc_u mi 252 0 v) := fun x q _ _ _ _ => fc_u_off _ _ _ (by omega)
theorem FrR_0 (v : Int32) : FrR mi (fc_u mi 252 0 v) := ⟨fun k q => fc_u_nj _ _ _ _ (by omega), fun x q => fc_u_off _ _ _ (by omega), fun j _ => congrFun (fc_u_off _ _ _ (by decide)) j⟩
theorem SimC.w (hC : SimC mi ml mr b b2 sc sc2 n m t sm np len sl kp k q T) : fc_Wd mr := hC.1.1
theorem both_q {yC yR : fc_M} {args : List Value} {v v' : Int32} (hC : SimC mi ml mr b b2 sc sc2 n m t sm np len sl kp k q T) (hR : SimR mi ml n m t sm np (cl mi b) (cv mi 17) (cw mi b len) (sA ml b m n t) T (mi 2) k (fun x => mi (sc + x)) q (fun x => mi (214 + x)) kp (fun u => cv mi (psl sl kp u)) (mi 37) (fun j => cv mi (166 + 12 * j)) (fun j x => mi (174 + 12 * j + x))) (e : v = v') (c1 : fc_R E yC 40 fc_sh (.ref 0 :: args) mi ml mr (fc_is (some (.int v)) mi ml mr)) (c2 : fc_R E yR 40 fc_sh (.ref 252 :: args) mi ml mr (fc_is (some (.int v')) (fc_u mi 252 0 0) ml mr)) : Both E yC yR args mi ml mr := by
  subst e
  refine ⟨v, fc_conR c1 ?_⟩
  rintro _ _ _ _ ⟨rfl, rfl, rfl, rfl⟩
  refine ⟨rfl, fc_conR c2 ?_⟩
  rintro _ _ _ _ ⟨rfl, rfl, rfl, rfl⟩
  exact ⟨rfl, Sim_q hC hR (FrC_0 0) (FrR_0 0) (fun _ _ _ => rfl) hC.w (fun _ _ => rfl) hC.2.1.2.2.2.2⟩
theorem b_place (hC : SimC mi ml mr b b2 sc sc2 n m t sm np len sl kp k q T) (hR : SimR mi ml n m t sm np (cl mi b) (cv mi 17) (cw mi b len) (sA ml b m n t) T (mi 2) k (fun x => mi (sc + x)) q (fun x => mi (214 + x)) kp (fun u => cv mi (psl sl kp u)) (mi 37) (fun j => cv mi (166 + 12 * j)) (fun j x => mi (174 + 12 * j + x))) (x w : Int32) : Both E mX10_place mX11_place [.int x, .int w] mi ml mr := by
  obtain ⟨e1, -, e2, -, e3, -⟩ := id hC.1.2.2.2.2.1
  refine both_q hC hR ?_ (c_place (d := 38) hC.1 x w) (c_rplace (d := 37) hC.w hR.1 x w)
  unfold q_place; (try rw [e1]); (try rw [e2]); (try rw [e3]); rfl
theorem b_person (hC : SimC mi ml mr b b2 sc sc2 n m t sm np len sl kp k q T) (hR : SimR mi ml n m t sm np (cl mi b) (cv mi 17) (cw mi b len) (sA ml b m n t) T (mi 2) k (fun x => mi (sc + x)) q (fun x => mi (214 + x)) kp (fun u => cv mi (psl sl kp u)) (mi 37) (fun j => cv mi (166 + 12 * j)) (fun j x => mi (174 + 12 * j + x))) (x w : Int32) : Both E mX10_person mX11_person [.int x, .int w] mi ml mr := by
  obtain ⟨e1, -, e2, -, e3, -⟩ := id hC.1.2.2.2.2.1
  refine both_q hC hR ?_ (c_person (d := 38) hC.1 x w) (c_rperson (d := 37) hC.w hR.1 x w)
  unfold q_person; (try rw [e1]); (try rw [e2]); (try rw [e3]); rfl
theorem b_thing (hC : SimC mi ml mr b b2 sc sc2 n m t sm np len sl kp k q T) (hR : SimR mi ml n m t sm np (cl mi b) (cv mi 17) (cw mi b len) (sA ml b m n t) T (mi 2) k (fun x => mi (sc + x)) q (fun x => mi (214 + x)) kp (fun u => cv mi (psl sl kp u)) (mi 37) (fun j => cv mi (166 + 12 * j)) (fun j x => mi (174 + 12 * j + x))) (x w : Int32) : Both E mX10_thing mX11_thing [.int x, .int w] mi ml mr := by
  obtain ⟨e1, -, e2, -, e3, -⟩ := id hC.1.2.2.2.2.1
  refine both_q hC hR ?_ (c_thing (d := 39) hC.1 x w) (c_rthing (d := 37) hC.w hR.1 x w)
  unfold q_thing; (try rw [e1]); (try rw [e2]); (try rw [e3]); rfl
theorem b_back (hC : SimC mi ml mr b b2 sc sc2 n m t sm np len sl kp k q T) (hR : SimR mi ml n m t sm np (cl mi b) (cv mi 17) (cw mi b len) (sA ml b m n t) T (mi 2) k (fun x => mi (sc + x)) q (fun x => mi (214 + x)) kp (fun u => cv mi (psl sl kp u)) (mi 37) (fun j => cv mi (166 + 12 * j)) (fun j x => mi (174 + 12 * j + x)))  : Both E mX10_back mX11_back [] mi ml mr := by
  obtain ⟨e1, -, e2, -, e3, -⟩ := id hC.1.2.2.2.2.1
  refine both_q hC hR ?_ (c_back (d := 39) hC.1 ) (c_rback (d := 37) hC.w hR.1 )
  (try rw [e1]); (try rw [e2]); (try rw [e3]); rfl
theorem b_vows (hC : SimC mi ml mr b b2 sc sc2 n m t sm np len sl kp k q T) (hR : SimR mi ml n m t sm np (cl mi b) (cv mi 17) (cw mi b len) (sA ml b m n t) T (mi 2) k (fun x => mi (sc + x)) q (fun x => mi (214 + x)) kp (fun u => cv mi (psl sl kp u)) (mi 37) (fun j => cv mi (166 + 12 * j)) (fun j x => mi (174 + 12 * j + x))) (x r : Int32) : Both E mX10_vows mX11_vows [.int x, .int r] mi ml mr := by
  obtain ⟨e1, -, e2, -, e3, -⟩ := id hC.1.2.2.2.2.1
  refine both_q hC hR ?_ (c_vows (d := 39) hC.1 x r) (c_rvows (d := 37) hC.w hR.1 x r)
  (try rw [e1]); (try rw [e2]); (try rw [e3]); rfl
theorem b_heard (hC : SimC mi ml mr b b2 sc sc2 n m t sm np len sl kp k q T) (hR : SimR mi ml n m t sm np (cl mi b) (cv mi 17) (cw mi b len) (sA ml b m n t) T (mi 2) k (fun x => mi (sc + x)) q (fun x => mi (214 + x)) kp (fun u => cv mi (psl sl kp u)) (mi 37) (fun j => cv mi (166 + 12 * j)) (fun j x => mi (174 + 12 * j + x))) (x : Int32) : Both E mX10_heard mX11_heard [.int x] mi ml mr := by
  obtain ⟨e1, -, e2, -, e3, -⟩ := id hC.1.2.2.2.2.1
  refine both_q hC hR ?_ (c_heard (d := 39) hC.1 x) (c_rheard (d := 37) hC.w hR.1 x)
  (try rw [e1]); (try rw [e2]); (try rw [e3]); rfl
theorem b_links (hC : SimC mi ml mr b b2 sc sc2 n m t sm np len sl kp k q T) (hR : SimR mi ml n m t sm np (cl mi b) (cv mi 17) (cw mi b len) (sA ml b m n t) T (mi 2) k (fun x => mi (sc + x)) q (fun x => mi (214 + x)) kp (fun u => cv mi (psl sl kp u)) (mi 37) (fun j => cv mi (166 + 12 * j)) (fun j x => mi (174 + 12 * j + x))) (x : Int32) : Both E mX10_links mX11_links [.int x] mi ml mr := by
  obtain ⟨e1, -, e2, -, e3, -⟩ := id hC.1.2.2.2.2.1
  refine both_q hC hR ?_ (c_links (d := 39) hC.1 x) (c_rlinks (d := 37) hC.w hR.1 hC.2.2.1.2.2.2.1 x)
  (try rw [e1]); (try rw [e2]); (try rw [e3]); rfl
theorem b_sleeps (hC : SimC mi ml mr b b2 sc sc2 n m t sm np len sl kp k q T) (hR : SimR mi ml n m t sm np (cl mi b) (cv mi 17) (cw mi b len) (sA ml b m n t) T (mi 2) k (fun x => mi (sc + x)) q (fun x => mi (214 + x)) kp (fun u => cv mi (psl sl kp u)) (mi 37) (fun j => cv mi (166 + 12 * j)) (fun j x => mi (174 + 12 * j + x))) (x : Int32) : Both E mX10_sleeps mX11_sleeps [.int x] mi ml mr := by
  obtain ⟨e1, -, e2, -, e3, -⟩ := id hC.1.2.2.2.2.1
  refine both_q hC hR ?_ (c_sleeps (d := 39) hC.1 x) (c_rsleeps (d := 37) hC.w hR.1 x)
  (try rw [e1]); (try rw [e2]); (try rw [e3]); rfl
end M95
