/-! ===== states stay such as can be ===== -/
section M44
variable {n m t sm : Nat} {L σ : fc_Mi}
theorem sp_or_bt {P : Nat → Bool} {f : Nat → Int32} {i : Nat} : ∀ {n : Nat}, (∀ q, q < n → bt (f q) i = false) → bt (sp_or P f n) i = false
  | 0, _ => b_0 i
  | n + 1, h => by
    rw [sp_or]
    split
    · rw [b_or, sp_or_bt (fun q hq => h q (by omega)), h n (by omega)]; rfl
    · exact sp_or_bt (fun q hq => h q (by omega))
theorem as_wk_ok {p j : Nat} (h : as_ok n m t sm σ) (hp : p < n) (hj : j < m) : as_ok n m t sm (as_wk L σ p (nI j)) := by
  obtain ⟨h1, h2, h3⟩ := h
  refine ⟨fun q hq => ?_, fun q hq => ?_, ?_⟩
  · obtain ⟨a1, a2, a3, a4, a5⟩ := h1 q hq
    have e1 : as_wk L σ p (nI j) 1 q = if q = p then nI j else σ 1 q := by simp [as_wk, fc_u]
    have e2 : as_wk L σ p (nI j) 2 q = if q = p then (if L 5 p = 2 then 2 else 1) else σ 2 q := by simp [as_wk, fc_u]
    have e3 : as_wk L σ p (nI j) 3 = σ 3 := by simp [as_wk, fc_u]
    have e4 : as_wk L σ p (nI j) 4 = σ 4 := by simp [as_wk, fc_u]
    have e5 : as_wk L σ p (nI j) 5 = σ 5 := by simp [as_wk, fc_u]
    rw [e1, e2, e3, e4, e5]
    refine ⟨?_, ?_, a3, a4, a5⟩
    · split
      · exact ⟨j, hj, rfl⟩
      · exact a1
    · split
      · split
        · exact ⟨2, by omega, rfl⟩
        · exact ⟨1, by omega, rfl⟩
      · exact a2
  · have e6 : as_wk L σ p (nI j) 6 = σ 6 := by simp [as_wk, fc_u]
    have e7 : as_wk L σ p (nI j) 7 = σ 7 := by simp [as_wk, fc_u]
    rw [e6, e7]; exact h2 q hq
  · have e0 : as_wk L σ p (nI j) 0 = σ 0 := by simp [as_wk, fc_u]
    rw [e0]; exact h3
theorem as_gv_ok {k p o : Nat} {bd : Bool} (h : as_ok n m t sm σ) (ho : o < n) : as_ok n m t sm (as_gv σ k p (nI o) bd) := by
  obtain ⟨h1, h2, h3⟩ := h
  refine ⟨fun q hq => ?_, fun q hq => ?_, ?_⟩
  · obtain ⟨a1, a2, a3, a4, a5⟩ := h1 q hq
    have e1 : as_gv σ k p (nI o) bd 1 = σ 1 := by cases bd <;> simp [as_gv, fc_u]
    have e2 : as_gv σ k p (nI o) bd 2 q = if q = p then 1 else σ 2 q := by cases bd <;> simp [as_gv, fc_u]
    have e3 : as_gv σ k p (nI o) bd 3 = σ 3 := by cases bd <;> simp [as_gv, fc_u]
    have e4 : as_gv σ k p (nI o) bd 4 = σ 4 := by cases bd <;> simp [as_gv, fc_u]
    have e5 : as_gv σ k p (nI o) bd 5 = σ 5 := by cases bd <;> simp [as_gv, fc_u]
    rw [e1, e2, e3, e4, e5]
    refine ⟨a1, ?_, a3, a4, a5⟩
    split
    · exact ⟨1, by omega, rfl⟩
    · exact a2
  · obtain ⟨a6, a7⟩ := h2 q hq
    have e6 : as_gv σ k p (nI o) bd 6 q = if q = k then nI o else σ 6 q := by cases bd <;> simp [as_gv, fc_u]
    have e7 : as_gv σ k p (nI o) bd 7 q = if bd = true ∧ q = k then nI o else σ 7 q := by cases bd <;> simp [as_gv, fc_u]
    rw [e6, e7]
    refine ⟨?_, ?_⟩
    · split
      · exact ⟨o, ho, rfl⟩
      · exact a6
    · split
      · exact ⟨o, ho, rfl⟩
      · exact a7
  · have e0 : as_gv σ k p (nI o) bd 0 = σ 0 := by cases bd <;> simp [as_gv, fc_u]
    rw [e0]; exact h3
theorem bt_or1 {x : Int32} {o : Nat} (ho : o < 5) (h : ∀ i, i < 32 → 5 ≤ i → bt x i = false) : ∀ i, i < 32 → 5 ≤ i → bt (x ||| ((1 : Int32) <<< (nI o &&& 31))) i = false := by
  intro i hi h5
  rw [b_or, h i hi h5, fb_one (by omega) hi]
  simp; omega
theorem as_vw_ok {p o : Nat} {bd : Bool} (hn : n ≤ 5) (h : as_ok n m t sm σ) (hp : p < n) (ho : o < n) (hne : ¬ p = o) : as_ok n m t sm (as_vw σ p o bd) := by
  obtain ⟨h1, h2, h3⟩ := h
  refine ⟨fun q hq => ?_, fun q hq => ?_, ?_⟩
  · obtain ⟨a1, a2, a3, a4, a5⟩ := h1 q hq
    have e1 : as_vw σ p o bd 1 = σ 1 := by cases bd <;> simp [as_vw, sp_vw0, sp_vw1, fc_u]
    have e2 : as_vw σ p o bd 2 q = if q = o then 1 else if q = p then 1 else σ 2 q := by cases bd <;> simp [as_vw, sp_vw0, sp_vw1, fc_u]
    have e3 : as_vw σ p o bd 3 = σ 3 := by cases bd <;> simp [as_vw, sp_vw0, sp_vw1, fc_u]
    have e4 : as_vw σ p o bd 4 q = if q = o then σ 4 o ||| ((1 : Int32) <<< (nI p &&& 31)) else if q = p then σ 4 p ||| ((1 : Int32) <<< (nI o &&& 31)) else σ 4 q := by cases bd <;> simp [as_vw, sp_vw0, sp_vw1, fc_u, Ne.symm hne, show ¬ o = p from fun e => hne e.symm]
    have e5 : as_vw σ p o bd 5 q = if bd = true then (if q = o then σ 5 o ||| ((1 : Int32) <<< (nI p &&& 31)) else if q = p then σ 5 p ||| ((1 : Int32) <<< (nI o &&& 31)) else σ 5 q) else σ 5 q := by cases bd <;> simp [as_vw, sp_vw0, sp_vw1, fc_u, show ¬ o = p from fun e => hne e.symm]
    rw [e1, e2, e3, e4, e5]
    refine ⟨a1, ?_, a3, ?_, ?_⟩
    · split
      · exact ⟨1, by omega, rfl⟩
      · split
        · exact ⟨1, by omega, rfl⟩
        · exact a2
    · split
      · exact bt_or1 (by omega) (h1 o ho).2.2.2.1
      · split
        · exact bt_or1 (by omega) (h1 p hp).2.2.2.1
        · exact a4
    · split
      · split
        · exact bt_or1 (by omega) (h1 o ho).2.2.2.2
        · split
          · exact bt_or1 (by omega) (h1 p hp).2.2.2.2
          · exact a5
      · exact a5
  · have e6 : as_vw σ p o bd 6 = σ 6 := by cases bd <;> simp [as_vw, sp_vw0, sp_vw1, fc_u]
    have e7 : as_vw σ p o bd 7 = σ 7 := by cases bd <;> simp [as_vw, sp_vw0, sp_vw1, fc_u]
    rw [e6, e7]; exact h2 q hq
  · have e0 : as_vw σ p o bd 0 = σ 0 := by cases bd <;> simp [as_vw, sp_vw0, sp_vw1, fc_u]
    rw [e0]; exact h3
theorem sp_ac_ok {x : Int32} {k : Nat} (hk : k ≤ 2) (hx : x = nI k) : (if 0 < x - 1 then x - 1 else 0) = nI (k - 1) := by
  subst hx
  match k, hk with
  | 0, _ => decide
  | 1, _ => decide
  | 2, _ => decide
theorem sp_nw_bt {w wk nw : Nat → Int32} {mn : Int32} {k p i : Nat} (hp : p < n) (h : ∀ q, q < n → bt (nw q) i = false) : bt (sp_nw n w wk nw mn k p) i = false := by
  unfold sp_nw
  split
  · exact sp_or_bt h
  · exact h p hp
theorem as_pass_ok (hL : as_lok n m t sm L) (h : as_ok n m t sm σ) : as_ok n m t sm (as_pass L σ n m (nI sm)) := by
  obtain ⟨l1, l2, l3, l4, l5, l6, l7⟩ := hL
  obtain ⟨h1, h2, mn, h3, h4⟩ := h
  have T : ∀ q, q < n → (∃ k, k ≤ 2 ∧ as_tick L σ n m 2 q = nI k) ∧ (∀ i, i < 32 → 5 ≤ i → bt (as_tick L σ n m 3 q) i = false) := by
    intro q hq
    obtain ⟨a1, ⟨k, hk, a2⟩, a3, a4, a5⟩ := h1 q hq
    have e2 : as_tick L σ n m 2 q = if 0 < σ 2 q - 1 then σ 2 q - 1 else 0 := by simp [as_tick, fc_u, fc_ur, sp_ac, show q < 5 by omega]
    have e3 : as_tick L σ n m 3 q = sp_nw n (σ 1) (L 7) (σ 3) (σ 0 1) m q := by simp [as_tick, fc_u, fc_ur]
    refine ⟨⟨k - 1, by omega, by rw [e2]; exact sp_ac_ok hk a2⟩, fun i hi h5 => ?_⟩
    rw [e3]
    exact sp_nw_bt hq (fun q hq => (h1 q hq).2.2.1 i hi h5)
  have f1 : as_tick L σ n m 1 = σ 1 := by simp [as_tick, fc_u, fc_ur]
  have f4 : as_tick L σ n m 4 = σ 4 := by simp [as_tick, fc_u, fc_ur]
  have f5 : as_tick L σ n m 5 = σ 5 := by simp [as_tick, fc_u, fc_ur]
  have f6 : as_tick L σ n m 6 = σ 6 := by simp [as_tick, fc_u, fc_ur]
  have f7 : as_tick L σ n m 7 = σ 7 := by simp [as_tick, fc_u, fc_ur]
  have f0 : as_tick L σ n m 0 1 = nI (mn + 1) := by simp [as_tick, fc_u, h4]; exact nI_1 mn
  unfold as_pass
  rw [h4, nI_1 mn]
  split
  · refine ⟨fun q hq => ?_, fun q hq => ?_, 0, by omega, by simp [as_smoke, fc_u]; rfl⟩
    · have q5 : q < 5 := by omega
      have g1 : as_smoke L (as_tick L σ n m) 1 q = L 6 q := by simp [as_smoke, fc_u, fc_ur, va_cpy, q5]
      have g2 : as_smoke L (as_tick L σ n m) 2 q = 0 := by simp [as_smoke, fc_u, fc_ur, q5]
      have g3 : as_smoke L (as_tick L σ n m) 3 = as_tick L σ n m 3 := by simp [as_smoke, fc_u, fc_ur]
      have g4 : as_smoke L (as_tick L σ n m) 4 q = σ 5 q := by rw [← f5]; simp [as_smoke, fc_u, fc_ur, va_cpy, q5]
      have g5 : as_smoke L (as_tick L σ n m) 5 q = σ 5 q := by rw [← f5]; simp [as_smoke, fc_u, fc_ur]
      rw [g1, g2, g3, g4, g5]
      exact ⟨(l6 q hq).1, ⟨0, by omega, rfl⟩, (T q hq).2, (h1 q hq).2.2.2.2, (h1 q hq).2.2.2.2⟩
    · have q6 : q < 6 := by omega
      have g6 : as_smoke L (as_tick L σ n m) 6 q = σ 7 q := by rw [← f7]; simp [as_smoke, fc_u, fc_ur, va_cpy, q6]
      have g7 : as_smoke L (as_tick L σ n m) 7 q = σ 7 q := by rw [← f7]; simp [as_smoke, fc_u, fc_ur]
      rw [g6, g7]
      exact ⟨(h2 q hq).2, (h2 q hq).2⟩
  · next e =>
    refine ⟨fun q hq => ?_, fun q hq => ?_, mn + 1, ?_, f0⟩
    · rw [f1, f4, f5]
      exact ⟨(h1 q hq).1, (T q hq).1, (T q hq).2, (h1 q hq).2.2.2.1, (h1 q hq).2.2.2.2⟩
    · rw [f6, f7]; exact h2 q hq
    · rcases Nat.lt_or_ge (mn + 1) sm with z | z
      · exact z
      · exact absurd (nI_le z (by omega)) e
theorem as_beg_ok (hL : as_lok n m t sm L) : as_ok n m t sm (as_beg L) := by
  obtain ⟨l1, l2, l3, l4, l5, l6, l7⟩ := hL
  refine ⟨fun q hq => ⟨?_, ⟨0, by omega, ?_⟩, fun i hi h5 => ?_, fun i hi h5 => ?_, fun i hi h5 => ?_⟩, fun q hq => ⟨?_, ?_⟩, 0, by omega, ?_⟩
  · exact (l6 q hq).1
  · rfl
  · show bt ((1 : Int32) <<< (nI q &&& 31)) i = false
    rw [fb_one (by omega) hi]; simp; omega
  · exact b_0 i
  · exact b_0 i
  · exact (l7 q hq).2
  · exact (l7 q hq).2
  · rfl
/-- a line: 139 one walks, 140 a thing is given, 141 two vow, else a minute: what comes, and 1 it binds, 0 it doesn't, -1: it can't be -/
def as_play (L σ : fc_Mi) (n m t : Nat) (sm : Int32) (ev : fc_Ev) (dd x z : Int32) : fc_Mi × Int32 :=
  if dd = 139 then (if sp_cw (nI n) (nI m) (L 7) (σ 2) (σ 1) (L 4) (σ 0 1) x z then (as_wk L σ x.toNatClampNeg z, 0) else (σ, -1))
  else if dd = 140 then (if sp_cg (nI t) (nI n) (σ 6) (L 7) (σ 2) (σ 1) (σ 0 1) x z then (as_gv σ x.toNatClampNeg (σ 6 x.toNatClampNeg).toNatClampNeg z (as_bd L σ n ev (L 8 x.toNatClampNeg) (σ 0 1) (σ 6 x.toNatClampNeg).toNatClampNeg z.toNatClampNeg), fc_b (as_bd L σ n ev (L 8 x.toNatClampNeg) (σ 0 1) (σ 6 x.toNatClampNeg).toNatClampNeg z.toNatClampNeg)) else (σ, -1))
  else if dd = 141 then (if sp_cv (nI n) (L 7) (σ 2) (σ 1) (L 5) (σ 4) (σ 0 1) x z then (as_vw σ x.toNatClampNeg z.toNatClampNeg (as_bd L σ n ev 0 (σ 0 1) x.toNatClampNeg z.toNatClampNeg), fc_b (as_bd L σ n ev 0 (σ 0 1) x.toNatClampNeg z.toNatClampNeg)) else (σ, -1))
  else (as_pass L σ n m sm, 0)
theorem sp_cw_has {ne np : Int32} {wk ac w pt : Nat → Int32} {mn x k : Int32} (h : sp_cw ne np wk ac w pt mn x k = true) : sp_has ne x = true ∧ sp_has np k = true := by
  unfold sp_cw at h
  simp only [Bool.and_eq_true] at h
  exact ⟨h.1, h.2.1⟩
theorem sp_cg_has {nt ne : Int32} {ho wk ac w : Nat → Int32} {mn x k : Int32} (h : sp_cg nt ne ho wk ac w mn x k = true) : sp_has nt x = true ∧ sp_has ne k = true := by
  unfold sp_cg at h
  simp only [Bool.and_eq_true] at h
  exact ⟨h.1, h.2.1⟩
theorem sp_cv_has {ne : Int32} {wk ac w kd vo : Nat → Int32} {mn x k : Int32} (h : sp_cv ne wk ac w kd vo mn x k = true) : sp_has ne x = true ∧ sp_has ne k = true ∧ ¬ x = k := by
  unfold sp_cv at h
  simp only [Bool.and_eq_true, Bool.not_eq_true', decide_eq_false_iff_not] at h
  exact ⟨h.1, h.2.1, h.2.2.1⟩
theorem as_play_ok {ev : fc_Ev} {dd x z : Int32} (hL : as_lok n m t sm L) (h : as_ok n m t sm σ) : as_ok n m t sm (as_play L σ n m t (nI sm) ev dd x z).1 := by
  obtain ⟨l1, l2, l3, l4, l5, l6, l7⟩ := id hL
  unfold as_play
  split
  · split
    · next e =>
      obtain ⟨e1, e2⟩ := sp_cw_has e
      obtain ⟨p, hp, rfl⟩ := sp_hasN (by omega) e1
      obtain ⟨j, hj, rfl⟩ := sp_hasN (by omega) e2
      rw [nI_clamp (by omega)]
      exact as_wk_ok h hp hj
    · exact h
  · split
    · split
      · next e =>
        obtain ⟨e1, e2⟩ := sp_cg_has e
        obtain ⟨j, hj, rfl⟩ := sp_hasN (by omega) e2
        exact as_gv_ok h hj
      · exact h
    · split
      · split
        · next e =>
          obtain ⟨e1, e2, e3⟩ := sp_cv_has e
          obtain ⟨p, hp, rfl⟩ := sp_hasN (by omega) e1
          obtain ⟨j, hj, rfl⟩ := sp_hasN (by omega) e2
          have c1 := nI_clamp (show p < 2 ^ 31 by omega)
          have c2 := nI_clamp (show j < 2 ^ 31 by omega)
          rw [c1, c2]
          exact as_vw_ok l1 h hp hj (fun q => e3 (by rw [q]))
        · exact h
      · exact as_pass_ok hL h
end M44

