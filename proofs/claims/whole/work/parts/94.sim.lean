/-! ===== class and reference side by side ===== -/
/-- the land's names, as told -/
def sA (ml : fc_Ml) (b m n t : Nat) : fc_Ab := (fun x => if x = 0 then m else if x = 2 then n else if x = 3 then t else 0, fun _ _ => 0, fun x => if x < 4 then ml (b + x) else fun _ => 0)
/-- persons that aren't told have no vows -/
def zr (n : Nat) (σ : fc_Mi) : Prop := ∀ p, n ≤ p → p < 5 → σ 4 p = 0 ∧ σ 5 p = 0
/-- where the class keeps the u-th of what undo brings back, the eldest first -/
def psl (sl kp u : Nat) : Nat := 38 + 8 * ((sl + 16 - kp + u) % 16)
/-- a Seen of the class -/
def SeB (mi : fc_Mi) (m a q : Nat) : Prop := mi a 3 = nI q ∧ q ≤ 8 ∧ (∀ i, i < q → ∃ j, j < m ∧ mi (a + 1) i = nI j) ∧ ∀ i, i < q → mi (a + 3) i = 0 ∨ mi (a + 3) i = 1
/-- and of the reference, in the block at B -/
def rsB (mi : fc_Mi) (q : Nat) (P : fc_Mi) (B : Nat) : Prop := mi 268 (B + 39) = nI q ∧ ∀ s, s < q → mi 268 (B + 40 + 3 * s) = P 1 s ∧ mi 268 (B + 40 + 3 * s + 1) = P 2 s ∧ mi 268 (B + 40 + 3 * s + 2) = P 3 s
def SimC (mi : fc_Mi) (ml : fc_Ml) (mr : fc_Mr) (b b2 sc sc2 n m t sm np len sl kp k q T : Nat) : Prop :=
  fc_H mi mr b sc n m t ∧ (mr 0 8 = some b2 ∧ mr 0 10 = some sc2 ∧ ((b = 218 ∧ b2 = 231) ∨ (b = 231 ∧ b2 = 218)) ∧ ((sc = 244 ∧ sc2 = 248) ∨ (sc = 248 ∧ sc2 = 244)) ∧ fc_en mr) ∧
  (fc_Gd mi b n m t sm ∧ mi b 11 = nI np ∧ fc_La mi b len ∧ fg_ok m (mi (b + 4)) ∧ (∀ x y, x < m → y < m → mi (8 + x) y = fg_far (mi (b + 4)) m x (nI y)) ∧ zr n (cv mi 17)) ∧
  (fc_Tp mi T ∧ okc (mi 2) T) ∧ (fc_AB (sA ml b m n t) ∧ nd (sA ml b m n t)) ∧ (mi sc 3 = nI k ∧ k ≤ 40) ∧ fc_Se mi m q ∧
  (fc_Pa mi sl kp ∧ ∀ u, u < kp → as_ok n m t sm (cv mi (psl sl kp u)) ∧ zr n (cv mi (psl sl kp u))) ∧
  ∀ j, j < 4 → (mi 37 j = 0 ∨ mi 37 j = 1) ∧ (mi 37 j = 1 → as_ok n m t sm (cv mi (166 + 12 * j)) ∧ zr n (cv mi (166 + 12 * j)) ∧ ∃ q', SeB mi m (174 + 12 * j) q')
def SimR (mi : fc_Mi) (ml : fc_Ml) (n m t sm np : Nat) (L σ : fc_Mi) (ev : fc_Ev) (A : fc_Ab) (T : Nat) (tx : Nat → Int32) (k : Nat) (a : fc_Mi) (q : Nat) (P : fc_Mi) (kp : Nat) (ps : Nat → fc_Mi) (mk : Nat → Int32) (ms mp : Nat → fc_Mi) : Prop :=
  ra mi 0 n m t sm L σ ∧ mi 258 1 = nI np ∧ rlw mi ev ∧ (rtp mi T ∧ (∀ j, j < T → mi 253 j = tx j) ∧ ∀ w, w < 25 → ml 257 w = kwv w) ∧
  (mi 252 18 = nI (A.1 0 + A.1 2 + A.1 3) ∧ nmr A (ml 261) (mi 263) (A.1 0 + A.1 2 + A.1 3)) ∧ lns mi n m t k (a 1) (a 2) (a 3) ∧ rsB mi q P 0 ∧
  (mi 252 25 = nI kp ∧ ∀ u, u < kp → as_ag n t (ps u) (rv (mi 268) (64 * (5 + u)))) ∧
  ∀ j, j < 4 → mi 269 j = mk j ∧ (mk j = 1 → as_ag n t (ms j) (rv (mi 268) (64 * (1 + j))) ∧ ∃ q', q' ≤ 8 ∧ mp j 0 3 = nI q' ∧ rsB mi q' (mp j) (64 * (1 + j)))
def Sim (mi : fc_Mi) (ml : fc_Ml) (mr : fc_Mr) : Prop := ∃ b b2 sc sc2 n m t sm np len sl kp k q T, SimC mi ml mr b b2 sc sc2 n m t sm np len sl kp k q T ∧ SimR mi ml n m t sm np (cl mi b) (cv mi 17) (cw mi b len) (sA ml b m n t) T (mi 2) k (fun x => mi (sc + x)) q (fun x => mi (214 + x)) kp (fun u => cv mi (psl sl kp u)) (mi 37) (fun j => cv mi (166 + 12 * j)) (fun j x => mi (174 + 12 * j + x))
/-- what questions leave in the class, and in the reference -/
def FrC (b : Nat) (mi mi' : fc_Mi) : Prop := ∀ x, x < 252 → x ≠ 15 → x ≠ 16 → (x < 25 ∨ 33 ≤ x) → x ≠ b + 12 → mi' x = mi x
def FrR (mi mi' : fc_Mi) : Prop := (∀ k, k = 2 ∨ k = 18 ∨ k = 25 → mi' 252 k = mi 252 k) ∧ (∀ x, x = 253 ∨ x = 258 ∨ x = 259 ∨ x = 260 ∨ x = 263 ∨ x = 265 ∨ x = 269 → mi' x = mi x) ∧ ∀ j, j < 1344 → mi' 268 j = mi 268 j
section M94
variable {mi mi' : fc_Mi} {ml ml' : fc_Ml} {mr mr' : fc_Mr} {b b2 sc sc2 n m t sm np len sl kp k q T : Nat} {L σ : fc_Mi} {ev : fc_Ev} {A : fc_Ab} {tx : Nat → Int32} {a P : fc_Mi} {ps ms mp : Nat → fc_Mi} {mk : Nat → Int32}
theorem FrC.tr {m1 : fc_Mi} (h : FrC b mi m1) (g : FrC b m1 mi') : FrC b mi mi' := fun x q1 q2 q3 q4 q5 => (g x q1 q2 q3 q4 q5).trans (h x q1 q2 q3 q4 q5)
theorem FrC.rf : FrC b mi mi := fun _ _ _ _ _ _ => rfl
theorem FrR.rf : FrR mi mi := ⟨fun _ _ => rfl, fun _ _ => rfl, fun _ _ => rfl⟩
theorem FrR.tr {m1 : fc_Mi} (h : FrR mi m1) (g : FrR m1 mi') : FrR mi mi' := ⟨fun k q => (g.1 k q).trans (h.1 k q), fun x q => (g.2.1 x q).trans (h.2.1 x q), fun j q => (g.2.2 j q).trans (h.2.2 j q)⟩
theorem rv_ag {r r' : Nat → Int32} {B n t : Nat} {σ : fc_Mi} (hn : n ≤ 5) (ht : t ≤ 6) (h : as_ag n t σ (rv r B)) (g : ∀ j, j < B + 39 → r' j = r j) : as_ag n t σ (rv r' B) := by
  refine h.tr ⟨⟨(g (B + 0) (by omega)).symm, (g (B + 1) (by omega)).symm⟩, fun p hp => ⟨(g (B + 2 + p) (by omega)).symm, (g (B + 7 + p) (by omega)).symm, (g (B + 34 + p) (by omega)).symm, (g (B + 24 + p) (by omega)).symm, (g (B + 29 + p) (by omega)).symm⟩, fun q hq => ⟨(g (B + 12 + q) (by omega)).symm, (g (B + 18 + q) (by omega)).symm⟩⟩
theorem rsB.off {q B : Nat} (hq : q ≤ 8) (hB : B ≤ 256) (h : rsB mi q P B) (g : ∀ j, j < 1344 → mi' 268 j = mi 268 j) : rsB mi' q P B := by
  refine ⟨(g _ (by omega)).trans h.1, fun s hs => ?_⟩
  rw [g _ (by omega), g _ (by omega), g _ (by omega)]; exact h.2 s hs
theorem SimR.off (hk : kp ≤ 16) (hq : q ≤ 8) (h : SimR mi ml n m t sm np L σ ev A T tx k a q P kp ps mk ms mp) (g : FrR mi mi') (g5 : ml' 257 = ml 257) (g6 : ml' 261 = ml 261) : SimR mi' ml' n m t sm np L σ ev A T tx k a q P kp ps mk ms mp := by
  obtain ⟨h1, h2, h3, ⟨h4, h5, h6⟩, ⟨h7, h8⟩, h9, h10, ⟨h11, h12⟩, h13⟩ := h
  obtain ⟨g1, g2, g4⟩ := g
  have hn : n ≤ 5 := h1.2.2.1.1
  have ht : t ≤ 6 := h1.2.2.1.2.2.1
  refine ⟨?_, ?_, h3.off (g2 258 (by omega)) (g2 259 (by omega)) (g2 260 (by omega)), ⟨?_, ?_, ?_⟩, ⟨?_, ?_⟩, ?_, h10.off hq (by omega) g4, ⟨?_, fun u hu => ?_⟩, fun j hj => ⟨?_, fun e => ?_⟩⟩
  · obtain ⟨a1, a2, a3, a4, a5, a6⟩ := h1
    refine ⟨?_, a2, a3, a4, ?_, rv_ag hn ht a6 (fun j q => g4 j (by omega))⟩
    · rw [g2 258 (by omega)]; exact a1
    · rw [g2 258 (by omega)]; exact a5
  · rw [g2 258 (by omega)]; exact h2
  · exact ⟨(g1 2 (by omega)).trans h4.1, h4.2⟩
  · rw [g2 253 (by omega)]; exact h5
  · rw [g5]; exact h6
  · exact (g1 18 (by omega)).trans h7
  · rw [g6, g2 263 (by omega)]; exact h8
  · unfold lns at h9 ⊢
    rw [g2 265 (by omega)]; exact h9
  · exact (g1 25 (by omega)).trans h11
  · exact rv_ag hn ht (h12 u hu) (fun j q => g4 j (by omega))
  · rw [g2 269 (by omega)]; exact (h13 j hj).1
  · obtain ⟨k1, q', k2, k3, k4⟩ := (h13 j hj).2 e
    exact ⟨rv_ag hn ht k1 (fun j q => g4 j (by omega)), q', k2, k3, k4.off k2 (by omega) g4⟩
theorem SimC.rows (h : SimC mi ml mr b b2 sc sc2 n m t sm np len sl kp k q T) (g : FrC b mi mi') : cl mi' b = cl mi b ∧ cv mi' 17 = cv mi 17 ∧ cw mi' b len = cw mi b len ∧ mi' 2 = mi 2 ∧ (fun x => mi' (214 + x)) 1 = mi 215 ∧ mi' 37 = mi 37 := by
  have hb : 218 ≤ b ∧ b ≤ 231 := by rcases h.2.1.2.2.1 with ⟨e, _⟩ | ⟨e, _⟩ <;> omega
  refine ⟨cl_off (fun x q1 q2 => g x (by omega) (by omega) (by omega) (by omega) (by omega)), cv_off (fun x q1 q2 => g x (by omega) (by omega) (by omega) (by omega) (by omega)), ?_, g 2 (by omega) (by omega) (by omega) (by omega) (by omega), g 215 (by omega) (by omega) (by omega) (by omega) (by omega), g 37 (by omega) (by omega) (by omega) (by omega) (by omega)⟩
  unfold cw
  rw [g (b + 11) (by omega) (by omega) (by omega) (by omega) (by omega)]
theorem psl_lt (sl kp u : Nat) : 38 ≤ psl sl kp u ∧ psl sl kp u + 8 ≤ 166 := by
  unfold psl
  have := Nat.mod_lt (sl + 16 - kp + u) (show 0 < 16 by omega)
  omega
theorem SimC.off (h : SimC mi ml mr b b2 sc sc2 n m t sm np len sl kp k q T) (g : FrC b mi mi') (gl : ∀ x, x = b + 1 ∨ x = b + 2 ∨ x = b + 3 → ml' x = ml x) (hW : fc_Wd mr') (hr : ∀ j, j = 7 ∨ j = 8 ∨ j = 9 ∨ j = 10 → mr' 0 j = mr 0 j) (hen : fc_en mr') : SimC mi' ml' mr' b b2 sc sc2 n m t sm np len sl kp k q T := by
  obtain ⟨e1, e2, e3, e4, e5, e6⟩ := h.rows g
  obtain ⟨⟨c1, c2, c3, c4, c5, c6, c7, c8, c9⟩, ⟨d1, d2, d3, d4, d5⟩, ⟨f1, f2, f3, f4, f5, f6⟩, ⟨t1, t2⟩, ⟨a1, a2⟩, ⟨l1, l2⟩, s1, ⟨p1, p2⟩, m1⟩ := h
  have hb : 218 ≤ b ∧ b ≤ 231 := by rcases d3 with ⟨e, _⟩ | ⟨e, _⟩ <;> omega
  have hsc : sc = 244 ∨ sc = 248 := by rcases d4 with ⟨e, _⟩ | ⟨e, _⟩ <;> omega
  have gb : mi' b = mi b := g b (by omega) (by omega) (by omega) (by omega) (by omega)
  have eA : sA ml' b m n t = sA ml b m n t ∨ True := .inr trivial
  refine ⟨⟨hW, (hr 7 (by omega)).trans c2, ?_, c4, c5.off gb, c6.off ?_ ?_ ?_, (hr 9 (by omega)).trans c7, ?_, c9⟩, ⟨(hr 8 (by omega)).trans d1, (hr 10 (by omega)).trans d2, d3, d4, hen⟩, ⟨⟨?_, ?_, ?_⟩, ?_, ⟨?_, f3.2.1, ?_⟩, ?_, fun x y hx hy => ?_, ?_⟩, ⟨⟨?_, t1.2⟩, ?_⟩, ⟨a1, ?_⟩, ⟨?_, l2⟩, ?_, ⟨⟨?_, p1.2.1, ?_, p1.2.2.2⟩, fun u hu => ?_⟩, fun j hj => ?_⟩
  · rcases d3 with ⟨e, _⟩ | ⟨e, _⟩
    · rw [e]; exact fc_L_at218 hW
    · rw [e]; exact fc_L_at231 hW
  · exact g 18 (by omega) (by omega) (by omega) (by omega) (by omega)
  · exact g 23 (by omega) (by omega) (by omega) (by omega) (by omega)
  · exact g 24 (by omega) (by omega) (by omega) (by omega) (by omega)
  · rcases hsc with e | e <;> rw [e]
    · exact ⟨rfl, rfl, rfl, rfl, hW 244 0 245 rfl, hW 244 1 246 rfl, hW 244 2 247 rfl⟩
    · exact ⟨rfl, rfl, rfl, rfl, hW 248 0 249 rfl, hW 248 1 250 rfl, hW 248 2 251 rfl⟩
  · rw [gb]; exact f1.1
  · rw [e1]; exact f1.2.1
  · rw [e2]; exact f1.2.2
  · rw [gb]; exact f2
  · rw [g (b + 10) (by omega) (by omega) (by omega) (by omega) (by omega)]; exact f3.1
  · rw [g (b + 11) (by omega) (by omega) (by omega) (by omega) (by omega)]; exact f3.2.2
  · rw [g (b + 4) (by omega) (by omega) (by omega) (by omega) (by omega)]; exact f4
  · have hm7 : m ≤ 7 := c5.2.2.2.1
    rw [g (b + 4) (by omega) (by omega) (by omega) (by omega) (by omega), g (8 + x) (by omega) (by omega) (by omega) (by omega) (by omega)]; exact f5 x y hx hy
  · rw [e2]; exact f6
  · rw [g 1 (by omega) (by omega) (by omega) (by omega) (by omega)]; exact t1.1
  · rw [e4]; exact t2
  · intro w
    have := a2 w
    show (sp_fi (ml' (b + 1)) w m 0 = -1 ∨ (sp_fi (ml' (b + 2)) w n 0 = -1 ∧ sp_fi (ml' (b + 3)) w t 0 = -1)) ∧ (sp_fi (ml' (b + 2)) w n 0 = -1 ∨ sp_fi (ml' (b + 3)) w t 0 = -1)
    rw [gl (b + 1) (by omega), gl (b + 2) (by omega), gl (b + 3) (by omega)]
    exact this
  · rw [g sc (by omega) (by omega) (by omega) (by omega) (by omega)]; exact l1
  · unfold fc_Se at s1 ⊢
    rw [g 214 (by omega) (by omega) (by omega) (by omega) (by omega), g 215 (by omega) (by omega) (by omega) (by omega) (by omega), g 217 (by omega) (by omega) (by omega) (by omega) (by omega)]; exact s1
  · rw [g 33 (by omega) (by omega) (by omega) (by omega) (by omega)]; exact p1.1
  · rw [g 33 (by omega) (by omega) (by omega) (by omega) (by omega)]; exact p1.2.2.1
  · have hp := psl_lt sl kp u
    rw [cv_off (f := mi') (g := mi) (fun x q1 q2 => g x (by omega) (by omega) (by omega) (by omega) (by omega))]; exact p2 u hu
  · rw [e6, cv_off (f := mi') (g := mi) (a := 166 + 12 * j) (fun x q1 q2 => g x (by omega) (by omega) (by omega) (by omega) (by omega))]
    unfold SeB
    rw [g (174 + 12 * j) (by omega) (by omega) (by omega) (by omega) (by omega), g (174 + 12 * j + 1) (by omega) (by omega) (by omega) (by omega) (by omega), g (174 + 12 * j + 3) (by omega) (by omega) (by omega) (by omega) (by omega)]
    exact m1 j hj
theorem SimR.cg {a' P' : fc_Mi} {ps' ms' mp' : Nat → fc_Mi} {mk' : Nat → Int32} (h : SimR mi ml n m t sm np L σ ev A T tx k a q P kp ps mk ms mp) (g1 : ∀ x, 1 ≤ x → x ≤ 3 → a' x = a x) (g2 : ∀ x, 1 ≤ x → x ≤ 3 → P' x = P x) (g3 : ∀ u, u < kp → ps' u = ps u) (g4 : ∀ j, j < 4 → mk' j = mk j ∧ ms' j = ms j ∧ ∀ x, x ≤ 3 → mp' j x = mp j x) : SimR mi ml n m t sm np L σ ev A T tx k a' q P' kp ps' mk' ms' mp' := by
  obtain ⟨h1, h2, h3, h4, h5, h9, h10, ⟨h11, h12⟩, h13⟩ := h
  refine ⟨h1, h2, h3, h4, h5, ?_, ⟨h10.1, fun s hs => ?_⟩, ⟨h11, fun u hu => by rw [g3 u hu]; exact h12 u hu⟩, fun j hj => ?_⟩
  · rw [g1 1 (by omega) (by omega), g1 2 (by omega) (by omega), g1 3 (by omega) (by omega)]; exact h9
  · rw [g2 1 (by omega) (by omega), g2 2 (by omega) (by omega), g2 3 (by omega) (by omega)]; exact h10.2 s hs
  · obtain ⟨k1, k2, k3⟩ := g4 j hj
    rw [k1, k2]
    refine ⟨(h13 j hj).1, fun e => ?_⟩
    obtain ⟨z1, q', z2, z3, z4⟩ := (h13 j hj).2 e
    refine ⟨z1, q', z2, by rw [k3 0 (by omega)]; exact z3, z4.1, fun s hs => ?_⟩
    rw [k3 1 (by omega), k3 2 (by omega), k3 3 (by omega)]; exact z4.2 s hs
/-- questions -/
theorem Sim_q (hC : SimC mi ml mr b b2 sc sc2 n m t sm np len sl kp k q T) (hR : SimR mi ml n m t sm np (cl mi b) (cv mi 17) (cw mi b len) (sA ml b m n t) T (mi 2) k (fun x => mi (sc + x)) q (fun x => mi (214 + x)) kp (fun u => cv mi (psl sl kp u)) (mi 37) (fun j => cv mi (166 + 12 * j)) (fun j x => mi (174 + 12 * j + x))) (g : FrC b mi mi') (g2 : FrR mi mi') (gl : ∀ x, x ≠ 0 → x ≠ 252 → ml' x = ml x) (hW : fc_Wd mr') (hr : ∀ j, j = 7 ∨ j = 8 ∨ j = 9 ∨ j = 10 → mr' 0 j = mr 0 j) (hen : fc_en mr') : Sim mi' ml' mr' := by
  have hb : 218 ≤ b ∧ b ≤ 231 := by rcases hC.2.1.2.2.1 with ⟨e, _⟩ | ⟨e, _⟩ <;> omega
  have hsc : sc = 244 ∨ sc = 248 := by rcases hC.2.1.2.2.2.1 with ⟨e, _⟩ | ⟨e, _⟩ <;> omega
  obtain ⟨e1, e2, e3, e4, e5, e6⟩ := hC.rows g
  have eA : sA ml' b m n t = sA ml b m n t := by
    unfold sA
    rw [show (fun x => if x < 4 then ml' (b + x) else fun _ => 0) = fun x => if x < 4 then ml (b + x) else fun _ => 0 from funext (fun x => ?_)]
    by_cases hx : x < 4
    · rw [if_pos hx, if_pos hx]; exact gl _ (by omega) (by omega)
    · rw [if_neg hx, if_neg hx]
  refine ⟨b, b2, sc, sc2, n, m, t, sm, np, len, sl, kp, k, q, T, hC.off g (fun x q => gl x (by omega) (by omega)) hW hr hen, ?_⟩
  have hkp : kp ≤ 16 := hC.2.2.2.2.2.2.2.1.1.2.2.2
  have hq8 : q ≤ 8 := hC.2.2.2.2.2.2.1.2.1
  have h := hR.off hkp hq8 g2 (ml' := ml') (gl 257 (by decide) (by decide)) (gl 261 (by decide) (by decide))
  rw [e1, e2, e3, e4, eA, e6]
  refine h.cg (fun x q1 q2 => ?_) (fun x q1 q2 => ?_) (fun u hu => ?_) (fun j hj => ⟨rfl, ?_, fun x hx => ?_⟩)
  · exact g (sc + x) (by omega) (by omega) (by omega) (by omega) (by omega)
  · exact g (214 + x) (by omega) (by omega) (by omega) (by omega) (by omega)
  · have hp := psl_lt sl kp u
    exact cv_off (fun x q1 q2 => g x (by omega) (by omega) (by omega) (by omega) (by omega))
  · exact cv_off (fun x q1 q2 => g x (by omega) (by omega) (by omega) (by omega) (by omega))
  · exact g (174 + 12 * j + x) (by omega) (by omega) (by omega) (by omega) (by omega)
end M94
