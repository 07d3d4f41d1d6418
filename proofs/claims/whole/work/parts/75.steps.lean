/-! ===== a person's and a thing's line, step by step ===== -/
section M75
variable {n i : Nat} {s : Nat → Int32} {A : fc_Ab}
theorem p_sg_c {c : Int32} (hn : n ≤ 1000) : (p_sg s n c (i, 0) = (i + 1, 0) ∧ tK s n i = c) ∨ (p_sg s n c (i, 0) = (i, tF s n 1 i) ∧ ¬ tF s n 1 i = 0 ∧ ¬ tK s n i = c) := by
  unfold p_sg
  rw [if_pos rfl]
  by_cases h : tK s n i = c
  · exact .inl ⟨if_pos h, h⟩
  · exact .inr ⟨if_neg h, tF_ne (c := 1) (by omega) (by omega) hn i, h⟩
theorem p_sg_f {c f : Int32} (h : ¬ f = 0) : p_sg s n c (i, f) = (i, f) := if_neg h
theorem p_on_c (hn : n ≤ 1000) : (p_on s n (i, 0) = (i + 1, 0) ∧ sp_from 142 (tK s n i) 145 = true) ∨ (p_on s n (i, 0) = (i, tF s n 1 i) ∧ ¬ tF s n 1 i = 0 ∧ ¬ sp_from 142 (tK s n i) 145 = true) := by
  unfold p_on
  rw [if_pos rfl]
  by_cases h : sp_from 142 (tK s n i) 145 = true
  · exact .inl ⟨if_pos h, h⟩
  · exact .inr ⟨if_neg h, tF_ne (c := 1) (by omega) (by omega) hn i, h⟩
theorem p_on_f {f : Int32} (h : ¬ f = 0) : p_on s n (i, f) = (i, f) := if_neg h
theorem p_nb_c {lo hi : Int32} (hn : n ≤ 1000) : (p_nb s n lo hi (i, 0) = (i + 1, 0) ∧ tK s n i = 3 ∧ sp_from lo (tN s n i) hi = true) ∨ (∃ f, ¬ f = 0 ∧ p_nb s n lo hi (i, 0) = (i, f) ∧ ((¬ tK s n i = 3 ∧ f = tF s n 1 i) ∨ (tK s n i = 3 ∧ ¬ sp_from lo (tN s n i) hi = true ∧ f = tF s n 4 i))) := by
  unfold p_nb
  rw [if_pos rfl]
  by_cases h : tK s n i = 3
  · rw [if_pos h]
    by_cases g : sp_from lo (tN s n i) hi = true
    · exact .inl ⟨if_pos g, h, g⟩
    · exact .inr ⟨_, tF_ne (c := 4) (by omega) (by omega) hn i, if_neg g, .inr ⟨h, g, rfl⟩⟩
  · exact .inr ⟨_, tF_ne (c := 1) (by omega) (by omega) hn i, if_neg h, .inl ⟨h, rfl⟩⟩
theorem p_nb_f {lo hi f : Int32} (h : ¬ f = 0) : p_nb s n lo hi (i, f) = (i, f) := if_neg h
/-- what a person's line takes, its name read at i + 1 -/
def ppl (s : Nat → Int32) (n : Nat) (A : fc_Ab) (i : Nat) : Nat × Int32 := p_nb s n 0 30 (p_sg s n (nI (128 + 4)) (tdp s n A 1 (p_sg s n (nI (128 + 3)) (p_on s n (i, 0))).1 (p_sg s n (nI (128 + 3)) (p_on s n (i, 0))).2 0))
theorem td0 {x : Nat} (hB : fc_AB A) (hx : x = 1 ∨ x = 2) (hn : n ≤ 1000) : (tdp s n A x i 0 0 = (i + 1, 0) ∧ tK s n i = 4 ∧ ¬ fiA A x (tW s n i) = -1 ∧ tdv s n A x i 0 0 = fiA A x (tW s n i)) ∨ (∃ f, ¬ f = 0 ∧ tdp s n A x i 0 0 = (i, f) ∧ ((¬ tK s n i = 4 ∧ f = tF s n 1 i) ∨ (tK s n i = 4 ∧ fiA A x (tW s n i) = -1 ∧ f = tF s n 2 i))) := by
  rcases tdp_c (A := A) (s := s) (x := x) (i := i) (but := 0) hn with ⟨a1, a2, a3, a4, a5, a6⟩ | ⟨a1, a2, a3, a4⟩
  · exact .inl ⟨Prod.ext a2 a1, a3, a4, a6⟩
  · refine .inr ⟨_, a1, Prod.ext a2 rfl, ?_⟩
    rcases a4 with ⟨e1, e2⟩ | ⟨e1, e2, e3⟩ | ⟨e1, e2, e3, e4⟩
    · exact .inl ⟨e1, e2⟩
    · exact .inr ⟨e1, e2, e3⟩
    · obtain ⟨b0, b1, b2, b3, -⟩ := hB
      have : ∃ z, z < 7 ∧ fiA A x (tW s n i) = nI z := by
        rcases hx with rfl | rfl
        · exact fi_k b0 e2
        · exact fi_k (Nat.le_trans b2 (by omega)) e2
      obtain ⟨z, hz, ez⟩ := this
      rw [ez, fb_in _ (by omega), b_0] at e3
      cases e3
end M75
