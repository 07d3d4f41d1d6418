/-! ===== deeds in both ===== -/
theorem zr_wk {n p : Nat} {L σ : fc_Mi} {k : Int32} (h : zr n σ) : zr n (as_wk L σ p k) := fun x h1 h2 => by
  unfold as_wk
  rw [fc_u_off _ _ _ (show 4 ≠ 2 by decide), fc_u_off _ _ _ (show 4 ≠ 1 by decide), fc_u_off _ _ _ (show 5 ≠ 2 by decide), fc_u_off _ _ _ (show 5 ≠ 1 by decide)]; exact h x h1 h2
theorem zr_gv {n q p : Nat} {σ : fc_Mi} {o : Int32} {bd : Bool} (h : zr n σ) : zr n (as_gv σ q p o bd) := fun x h1 h2 => by
  unfold as_gv
  split
  · rw [fc_u_off _ _ _ (show 4 ≠ 7 by decide), fc_u_off _ _ _ (show 4 ≠ 6 by decide), fc_u_off _ _ _ (show 4 ≠ 2 by decide), fc_u_off _ _ _ (show 5 ≠ 7 by decide), fc_u_off _ _ _ (show 5 ≠ 6 by decide), fc_u_off _ _ _ (show 5 ≠ 2 by decide)]; exact h x h1 h2
  · rw [fc_u_off _ _ _ (show 4 ≠ 6 by decide), fc_u_off _ _ _ (show 4 ≠ 2 by decide), fc_u_off _ _ _ (show 5 ≠ 6 by decide), fc_u_off _ _ _ (show 5 ≠ 2 by decide)]; exact h x h1 h2
theorem zr_v0 {n p q : Nat} {σ : fc_Mi} (hp : p < n) (hq : q < n) (h : zr n σ) : zr n (sp_vw0 σ 0 p q) := fun x h1 h2 => by
  unfold sp_vw0
  try dsimp only
  rw [fc_u_nj _ _ _ _ (show x ≠ q by omega), fc_u_nj _ _ _ _ (show x ≠ p by omega), fc_u_off _ _ _ (show 0 + 4 ≠ 0 + 2 by decide), fc_u_off _ _ _ (show 0 + 4 ≠ 0 + 2 by decide), fc_u_off _ _ _ (show 5 ≠ 0 + 4 by decide), fc_u_off _ _ _ (show 5 ≠ 0 + 4 by decide), fc_u_off _ _ _ (show 5 ≠ 0 + 2 by decide), fc_u_off _ _ _ (show 5 ≠ 0 + 2 by decide)]
  exact h x h1 h2
theorem zr_v1 {n p q : Nat} {σ : fc_Mi} (hp : p < n) (hq : q < n) (h : zr n σ) : zr n (sp_vw1 σ 0 p q) := fun x h1 h2 => by
  unfold sp_vw1
  try dsimp only
  rw [fc_u_off _ _ _ (show 4 ≠ 0 + 5 by decide), fc_u_off _ _ _ (show 4 ≠ 0 + 5 by decide), fc_u_nj _ _ _ _ (show x ≠ q by omega), fc_u_nj _ _ _ _ (show x ≠ p by omega)]
  exact h x h1 h2
theorem zr_vw {n p q : Nat} {σ : fc_Mi} {bd : Bool} (hp : p < n) (hq : q < n) (h : zr n σ) : zr n (as_vw σ p q bd) := by
  unfold as_vw
  split
  · exact zr_v1 hp hq (zr_v0 hp hq h)
  · exact zr_v0 hp hq h
theorem zr_tick {n n' m : Nat} {L σ : fc_Mi} (h : zr n σ) : zr n (as_tick L σ n' m) := fun x h1 h2 => by
  unfold as_tick
  rw [fc_u_off _ _ _ (show 4 ≠ 0 by decide), fc_ur_off _ _ (show 4 ≠ 2 by decide), fc_ur_off _ _ (show 4 ≠ 3 by decide), fc_u_off _ _ _ (show 5 ≠ 0 by decide), fc_ur_off _ _ (show 5 ≠ 2 by decide), fc_ur_off _ _ (show 5 ≠ 3 by decide)]; exact h x h1 h2
theorem zr_smoke {n : Nat} {L σ : fc_Mi} (h : zr n σ) : zr n (as_smoke L σ) := fun x h1 h2 => by
  unfold as_smoke
  rw [fc_u_off _ _ _ (show 4 ≠ 0 by decide), fc_u_off _ _ _ (show 4 ≠ 0 by decide), fc_ur_off _ _ (show 4 ≠ 2 by decide), fc_ur_off _ _ (show 4 ≠ 1 by decide), fc_ur_row, fc_u_off _ _ _ (show 5 ≠ 0 by decide), fc_u_off _ _ _ (show 5 ≠ 0 by decide), fc_ur_off _ _ (show 5 ≠ 2 by decide), fc_ur_off _ _ (show 5 ≠ 1 by decide), fc_ur_off _ _ (show 5 ≠ 4 by decide), fc_ur_off _ _ (show 5 ≠ 6 by decide)]
  refine ⟨?_, (h x h1 h2).2⟩
  unfold va_cpy
  have := h x h1 h2
  split
  · rw [show 0 + (x - 0) = x by omega]; exact this.2
  · exact this.1
theorem zr_pass {n n' m : Nat} {sm : Int32} {L σ : fc_Mi} (h : zr n σ) : zr n (as_pass L σ n' m sm) := by
  unfold as_pass
  split
  · exact zr_smoke (zr_tick h)
  · exact zr_tick h
/-- what is kept, in the reference -/
theorem kpt_c {n t kp : Nat} {r : Nat → Int32} {σ : fc_Mi} {ps : Nat → fc_Mi} (hn : n ≤ 5) (ht : t ≤ 6) (hk : kp ≤ 16) (h0 : as_ag n t σ (rv r 0)) (hp : ∀ u, u < kp → as_ag n t (ps u) (rv r (64 * (5 + u)))) : (∀ j, j < 320 → kpt r kp j = r j) ∧ ∀ u, u < (if kp = 16 then 16 else kp + 1) → as_ag n t (if u = (if kp = 16 then 15 else kp) then σ else ps (if kp = 16 then u + 1 else u)) (rv (kpt r kp) (64 * (5 + u))) := by
  unfold kpt
  by_cases e : kp = 16
  · rw [if_pos e, if_pos e, if_pos e]
    have hs : ∀ j, shd r 15 j = if 320 ≤ j ∧ j < 320 + 64 * 15 ∧ j % 64 < 39 then r (j + 64) else r j := shd_c r 15
    refine ⟨fun j hj => ?_, fun u hu => ?_⟩
    · rw [cpr, if_neg (by omega), hs, if_neg (by omega)]
    · by_cases eu : u = 15
      · rw [if_pos eu, eu]
        refine cpr_ag hn ht (rv_ag hn ht h0 (fun j hj => ?_))
        rw [hs, if_neg (by omega)]
      · rw [if_neg eu, if_pos e]
        have h1 := hp (u + 1) (by omega)
        have g : ∀ j, j < 39 → cpr (shd r 15) 0 (64 * (5 + 15)) 39 (64 * (5 + u) + j) = r (64 * (5 + (u + 1)) + j) := fun j hj => by
          rw [cpr, if_neg (by omega), hs, if_pos (by omega)]
          exact congrArg r (by omega)
        refine h1.tr ⟨⟨(g 0 (by omega)).symm, (g 1 (by omega)).symm⟩, fun p hp => ⟨?_, ?_, ?_, ?_, ?_⟩, fun q hq => ⟨?_, ?_⟩⟩
        · have := g (2 + p) (by omega); rw [← Nat.add_assoc, ← Nat.add_assoc] at this; exact this.symm
        · have := g (7 + p) (by omega); rw [← Nat.add_assoc, ← Nat.add_assoc] at this; exact this.symm
        · have := g (34 + p) (by omega); rw [← Nat.add_assoc, ← Nat.add_assoc] at this; exact this.symm
        · have := g (24 + p) (by omega); rw [← Nat.add_assoc, ← Nat.add_assoc] at this; exact this.symm
        · have := g (29 + p) (by omega); rw [← Nat.add_assoc, ← Nat.add_assoc] at this; exact this.symm
        · have := g (12 + q) (by omega); rw [← Nat.add_assoc, ← Nat.add_assoc] at this; exact this.symm
        · have := g (18 + q) (by omega); rw [← Nat.add_assoc, ← Nat.add_assoc] at this; exact this.symm
  · rw [if_neg e, if_neg e, if_neg e]
    refine ⟨fun j hj => ?_, fun u hu => ?_⟩
    · rw [cpr, if_neg (by omega)]
    · by_cases eu : u = kp
      · rw [if_pos eu, eu]; exact cpr_ag hn ht h0
      · rw [if_neg eu, if_neg e]
        refine rv_ag hn ht (hp u (by omega)) (fun j hj => ?_)
        rw [cpr, if_neg (by omega)]
theorem psl_k {sl kp u : Nat} (hs : sl < 16) (hk : kp ≤ 16) (hu : u < (if kp = 16 then 16 else kp + 1)) : psl ((sl + 1) % 16) (if kp = 16 then 16 else kp + 1) u = if u = (if kp = 16 then 15 else kp) then 38 + 8 * sl else psl sl kp (if kp = 16 then u + 1 else u) := by
  unfold psl
  by_cases e : kp = 16
  · subst e
    rw [if_pos rfl, if_pos rfl, if_pos rfl] at *
    split <;> omega
  · rw [if_neg e, if_neg e, if_neg e] at *
    split <;> omega
theorem psl_n {sl kp u : Nat} (hs : sl < 16) (hk : kp ≤ 16) (hu : u < (if kp = 16 then 16 else kp + 1)) (h : ¬ u = (if kp = 16 then 15 else kp)) : (if kp = 16 then u + 1 else u) < kp ∧ (psl sl kp (if kp = 16 then u + 1 else u) + 8 ≤ 38 + 8 * sl ∨ 46 + 8 * sl ≤ psl sl kp (if kp = 16 then u + 1 else u)) := by
  unfold psl
  by_cases e : kp = 16
  · subst e
    rw [if_pos rfl] at *
    refine ⟨by omega, ?_⟩
    omega
  · rw [if_neg e] at *
    refine ⟨by omega, ?_⟩
    omega
section M98
variable {E : fc_E} {mi mi' : fc_Mi} {ml ml' : fc_Ml} {mr mr' : fc_Mr} {b b2 sc sc2 n m t sm np len sl kp k q T : Nat}
/-- a deed done in both: what was is kept, and the state is another -/
theorem Sim_deed {m2 : fc_Mi} (hC : SimC mi ml mr b b2 sc sc2 n m t sm np len sl kp k q T) (hR : SimR mi ml n m t sm np (cl mi b) (cv mi 17) (cw mi b len) (sA ml b m n t) T (mi 2) k (fun x => mi (sc + x)) q (fun x => mi (214 + x)) kp (fun u => cv mi (psl sl kp u)) (mi 37) (fun j => cv mi (166 + 12 * j)) (fun j x => mi (174 + 12 * j + x)))
    (f1 : ∀ x, x < 252 → (x < 17 ∨ 25 ≤ x) → x ≠ b + 12 → x ≠ 33 → (x < 38 + 8 * sl ∨ 46 + 8 * sl ≤ x) → m2 x = mi x) (f33 : m2 33 4 = nI ((sl + 1) % 16) ∧ m2 33 5 = nI (if kp = 16 then 16 else kp + 1)) (fk : cv m2 (38 + 8 * sl) = cv (sp_cp mi (38 + 8 * sl) 17) (38 + 8 * sl)) (fs : as_ok n m t sm (cv m2 17)) (fz : zr n (cv m2 17))
    (g1 : as_ag n t (cv m2 17) (rv (m2 268) 0)) (g2 : ∀ x, x = 253 ∨ x = 258 ∨ x = 259 ∨ x = 260 ∨ x = 263 ∨ x = 265 ∨ x = 269 → m2 x = mi x) (g3 : ∀ j, j = 2 ∨ j = 18 → m2 252 j = mi 252 j) (g4 : m2 252 25 = nI (if kp = 16 then 16 else kp + 1)) (g5 : ∀ j, 39 ≤ j → m2 268 j = kpt (mi 268) kp j) : Sim m2 ml mr := by
  obtain ⟨e1, e2, e3, e4, l5, l7, l6⟩ := hC.e
  obtain ⟨⟨c1, c2, c3, c4, c5, c6, c7, c8, c9⟩, ⟨d1, d2, d3, d4, d5⟩, ⟨q1, q2, q3, q4, q5, q6⟩, ⟨t1, t2⟩, ⟨a1, a2⟩, ⟨l1, l2⟩, s1, ⟨p1, p2⟩, m1⟩ := hC
  obtain ⟨r1, r2, r3, ⟨r4, r5, r6⟩, r7, r8, r9, ⟨r10, r11⟩, r12⟩ := hR
  obtain ⟨p3, p4, p5, p6⟩ := p1
  have hb : 218 ≤ b ∧ b ≤ 231 := by rcases d3 with ⟨e, _⟩ | ⟨e, _⟩ <;> omega
  have hsc : sc = 244 ∨ sc = 248 := by rcases d4 with ⟨e, _⟩ | ⟨e, _⟩ <;> omega
  have fr : ∀ x, x < 252 → (x < 17 ∨ 166 ≤ x) → x ≠ b + 12 → m2 x = mi x := fun x h1 h2 h3 => f1 x h1 (by omega) h3 (by omega) (by omega)
  have gb : m2 b = mi b := fr b (by omega) (by omega) (by omega)
  have ecl : cl m2 b = cl mi b := cl_off (fun x h1 h2 => fr x (by omega) (by omega) (by omega))
  have ecw : cw m2 b len = cw mi b len := by unfold cw; rw [fr (b + 11) (by omega) (by omega) (by omega)]
  have e37 : m2 37 = mi 37 := f1 37 (by omega) (by omega) (by omega) (by omega) (by omega)
  obtain ⟨k1, k2⟩ := kpt_c (r := mi 268) l5 l6 p6 r1.2.2.2.2.2 r11
  have eps : ∀ u, u < (if kp = 16 then 16 else kp + 1) → cv m2 (psl ((sl + 1) % 16) (if kp = 16 then 16 else kp + 1) u) = if u = (if kp = 16 then 15 else kp) then cv (sp_cp mi (38 + 8 * sl) 17) (38 + 8 * sl) else cv mi (psl sl kp (if kp = 16 then u + 1 else u)) := fun u hu => by
    rw [psl_k p4 p6 hu]
    by_cases e : u = (if kp = 16 then 15 else kp)
    · rw [if_pos e, if_pos e]; exact fk
    · rw [if_neg e, if_neg e]
      have := psl_lt sl kp (if kp = 16 then u + 1 else u)
      have h8 := (psl_n p4 p6 hu e).2
      exact cv_off (fun x h1 h2 => f1 x (by omega) (by omega) (by omega) (by omega) (by omega))
  have hcp : as_ag n t (cv (sp_cp mi (38 + 8 * sl) 17) (38 + 8 * sl)) (cv mi 17) := sp_cp_cv l5 l6
  have hcz : zr n (cv (sp_cp mi (38 + 8 * sl) 17) (38 + 8 * sl)) := fun p h1 h2 => by
    have h3 := q6 p h1 h2
    have z4 : cv (sp_cp mi (38 + 8 * sl) 17) (38 + 8 * sl) 4 p = mi 21 p := by
      show (sp_cp mi (38 + 8 * sl) 17) (38 + 8 * sl + 4) p = _
      unfold sp_cp
      rw [fc_ur_off _ _ (by omega), fc_ur_off _ _ (by omega), fc_ur_off _ _ (by omega), fc_ur_row]
      exact if_pos h2
    have z5 : cv (sp_cp mi (38 + 8 * sl) 17) (38 + 8 * sl) 5 p = mi 22 p := by
      show (sp_cp mi (38 + 8 * sl) 17) (38 + 8 * sl + 5) p = _
      unfold sp_cp
      rw [fc_ur_off _ _ (by omega), fc_ur_off _ _ (by omega), fc_ur_row]
      exact if_pos h2
    rw [z4, z5]; exact h3
  refine ⟨b, b2, sc, sc2, n, m, t, sm, np, len, (sl + 1) % 16, (if kp = 16 then 16 else kp + 1), k, q, T, ?_, ?_⟩
  · refine ⟨⟨c1, c2, c3, c4, c5.off gb, fs.sv, c7, c8, c9⟩, ⟨d1, d2, d3, d4, d5⟩, ⟨⟨?_, ?_, fs⟩, ?_, ⟨?_, q3.2.1, ?_⟩, ?_, fun x y hx hy => ?_, fz⟩, ⟨⟨?_, t1.2⟩, ?_⟩, ⟨a1, a2⟩, ⟨?_, l2⟩, ?_, ⟨⟨f33.1, Nat.mod_lt _ (by omega), f33.2, by split <;> omega⟩, fun u hu => ?_⟩, fun j hj => ?_⟩
    · rw [gb]; exact q1.1
    · rw [ecl]; exact q1.2.1
    · rw [gb]; exact q2
    · rw [fr (b + 10) (by omega) (by omega) (by omega)]; exact q3.1
    · rw [fr (b + 11) (by omega) (by omega) (by omega)]; exact q3.2.2
    · rw [fr (b + 4) (by omega) (by omega) (by omega)]; exact q4
    · rw [fr (b + 4) (by omega) (by omega) (by omega), fr (8 + x) (by omega) (by omega) (by omega)]; exact q5 x y hx hy
    · rw [fr 1 (by omega) (by omega) (by omega)]; exact t1.1
    · rw [fr 2 (by omega) (by omega) (by omega)]; exact t2
    · rw [fr sc (by omega) (by omega) (by omega)]; exact l1
    · unfold fc_Se at s1 ⊢
      rw [fr 214 (by omega) (by omega) (by omega), fr 215 (by omega) (by omega) (by omega), fr 217 (by omega) (by omega) (by omega)]; exact s1
    · rw [eps u hu]
      by_cases e : u = (if kp = 16 then 15 else kp)
      · rw [if_pos e]; exact ⟨q1.2.2.ag hcp.sy, hcz⟩
      · rw [if_neg e]; exact p2 _ (psl_n p4 p6 hu e).1
    · rw [e37, cv_off (f := m2) (g := mi) (a := 166 + 12 * j) (fun x h1 h2 => fr x (by omega) (by omega) (by omega))]
      unfold SeB
      rw [fr (174 + 12 * j) (by omega) (by omega) (by omega), fr (174 + 12 * j + 1) (by omega) (by omega) (by omega), fr (174 + 12 * j + 3) (by omega) (by omega) (by omega)]
      exact m1 j hj
  · rw [ecl, ecw, e37, fr 2 (by omega) (by omega) (by omega)]
    have h268 : ∀ j, 39 ≤ j → j < 320 → m2 268 j = mi 268 j := fun j h1 h2 => (g5 j h1).trans (k1 j h2)
    refine ⟨⟨?_, r1.2.1, r1.2.2.1, fs, ?_, g1⟩, ?_, r3.off (g2 258 (by omega)) (g2 259 (by omega)) (g2 260 (by omega)), ⟨⟨(g3 2 (by omega)).trans r4.1, r4.2⟩, ?_, r6⟩, ⟨(g3 18 (by omega)).trans r7.1, ?_⟩, ?_, ⟨(h268 _ (by omega) (by omega)).trans r9.1, fun s hs => ?_⟩, ⟨g4, fun u hu => ?_⟩, fun j hj => ⟨?_, fun e => ?_⟩⟩
    · rw [g2 258 (by omega)]; exact r1.1
    · rw [g2 258 (by omega)]; exact r1.2.2.2.2.1
    · rw [g2 258 (by omega)]; exact r2
    · rw [g2 253 (by omega)]; exact r5
    · rw [g2 263 (by omega)]; exact r7.2
    · unfold lns at r8 ⊢
      dsimp only at r8 ⊢
      rw [g2 265 (by omega), fr (sc + 1) (by omega) (by omega) (by omega), fr (sc + 2) (by omega) (by omega) (by omega), fr (sc + 3) (by omega) (by omega) (by omega)]; exact r8
    · have hs8 := s1.2.1
      dsimp only
      rw [h268 _ (by omega) (by omega), h268 _ (by omega) (by omega), h268 _ (by omega) (by omega), fr (214 + 1) (by omega) (by omega) (by omega), fr (214 + 2) (by omega) (by omega) (by omega), fr (214 + 3) (by omega) (by omega) (by omega)]
      exact r9.2 s hs
    · dsimp only
      rw [eps u hu]
      have h7 : as_ag n t (if u = (if kp = 16 then 15 else kp) then cv (sp_cp mi (38 + 8 * sl) 17) (38 + 8 * sl) else cv mi (psl sl kp (if kp = 16 then u + 1 else u))) (rv (kpt (mi 268) kp) (64 * (5 + u))) := by
        have h9 := k2 u hu
        by_cases e : u = (if kp = 16 then 15 else kp)
        · rw [if_pos e] at h9 ⊢; exact hcp.tr h9
        · rw [if_neg e] at h9 ⊢; exact h9
      refine h7.tr ⟨⟨(g5 _ (by omega)).symm, (g5 _ (by omega)).symm⟩, fun p hp => ⟨(g5 _ (by omega)).symm, (g5 _ (by omega)).symm, (g5 _ (by omega)).symm, (g5 _ (by omega)).symm, (g5 _ (by omega)).symm⟩, fun q hq => ⟨(g5 _ (by omega)).symm, (g5 _ (by omega)).symm⟩⟩
    · rw [g2 269 (by omega)]; exact (r12 j hj).1
    · obtain ⟨z1, q', z2, z3, z4⟩ := (r12 j hj).2 e
      refine ⟨?_, q', z2, ?_, (h268 _ (by omega) (by omega)).trans z4.1, fun s hs => ?_⟩
      · dsimp only
        rw [cv_off (f := m2) (g := mi) (a := 166 + 12 * j) (fun x h1 h2 => fr x (by omega) (by omega) (by omega))]
        refine z1.tr ⟨⟨(h268 _ (by omega) (by omega)).symm, (h268 _ (by omega) (by omega)).symm⟩, fun p hp => ⟨(h268 _ (by omega) (by omega)).symm, (h268 _ (by omega) (by omega)).symm, (h268 _ (by omega) (by omega)).symm, (h268 _ (by omega) (by omega)).symm, (h268 _ (by omega) (by omega)).symm⟩, fun q hq => ⟨(h268 _ (by omega) (by omega)).symm, (h268 _ (by omega) (by omega)).symm⟩⟩
      · dsimp only
        rw [fr (174 + 12 * j + 0) (by omega) (by omega) (by omega)]; exact z3
      · dsimp only
        rw [h268 _ (by omega) (by omega), h268 _ (by omega) (by omega), h268 _ (by omega) (by omega), fr (174 + 12 * j + 1) (by omega) (by omega) (by omega), fr (174 + 12 * j + 2) (by omega) (by omega) (by omega), fr (174 + 12 * j + 3) (by omega) (by omega) (by omega)]
        exact z4.2 s hs
end M98
