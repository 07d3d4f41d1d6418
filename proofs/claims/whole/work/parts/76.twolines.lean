/-! ===== a person's line and a thing's line, whole ===== -/
section M76
variable {n i : Nat} {s : Nat → Int32} {A : fc_Ab}
theorem person_eq (hB : fc_AB A) (hn : n ≤ 1000) (h5 : ¬ 5 ≤ A.1 2) (h4 : tK s n (i + 1) = 4) (hl : ps_tl A (tW s n (i + 1)) = false) :
  (ppl s n A (i + 2) = (i + 7, 0) ∧ (p_on s n (i + 2, 0) = (i + 3, 0) ∧ sp_from 142 (tK s n (i + 2)) 145 = true) ∧ p_sg s n (nI (128 + 3)) (i + 3, 0) = (i + 4, 0) ∧ (tdp s n A 1 (i + 4) 0 0 = (i + 5, 0) ∧ ¬ fiA A 1 (tW s n (i + 4)) = -1 ∧ tdv s n A 1 (i + 4) 0 0 = fiA A 1 (tW s n (i + 4))) ∧ p_sg s n (nI (128 + 4)) (i + 5, 0) = (i + 6, 0) ∧ (p_nb s n 0 30 (i + 6, 0) = (i + 7, 0) ∧ tK s n (i + 6) = 3 ∧ sp_from 0 (tN s n (i + 6)) 30 = true) ∧
    ps_person s n A i = .ok (ps_pa A (tK s n (i + 2) - 142) (fiA A 1 (tW s n (i + 4))) (tN s n (i + 6)) (tW s n (i + 1)), i + 7)) ∨ (¬ (ppl s n A (i + 2)).2 = 0 ∧ ps_person s n A i = .error (ppl s n A (i + 2)).2) := by
  have hfa : ∀ a, sp_fi (A.2.2 1) a (A.1 0) 0 = fiA A 1 a := fun _ => rfl
  unfold ps_person ppl
  rw [if_neg h5, if_pos h4, if_neg (by rw [hl]; decide)]
  simp only [hfa]
  rcases p_on_c (s := s) (i := i + 2) hn with ⟨e1, c1⟩ | ⟨e1, f1, c1⟩
  · rw [e1, if_pos c1]
    rcases p_sg_c (s := s) (i := i + 2 + 1) (c := nI (128 + 3)) hn with ⟨e2, c2⟩ | ⟨e2, f2, c2⟩
    · rw [e2, if_pos (show tK s n (i + 3) = 131 from c2)]
      rcases td0 (s := s) (i := i + 2 + 1 + 1) (x := 1) hB (.inl rfl) hn with ⟨e3, c3, k3, v3⟩ | ⟨f3, g3, e3, c3⟩
      · dsimp only
        rw [e3, if_pos c3, if_neg k3]
        rcases p_sg_c (s := s) (i := i + 2 + 1 + 1 + 1) (c := nI (128 + 4)) hn with ⟨e4, c4⟩ | ⟨e4, f4, c4⟩
        · rw [e4, if_pos (show tK s n (i + 5) = 132 from c4)]
          rcases p_nb_c (s := s) (i := i + 2 + 1 + 1 + 1 + 1) (lo := 0) (hi := 30) hn with ⟨e5, c5, k5⟩ | ⟨f5, g5, e5, c5⟩
          · rw [e5, if_pos c5, if_pos k5]
            exact .inl ⟨rfl, ⟨rfl, c1⟩, rfl, ⟨rfl, k3, v3⟩, rfl, ⟨rfl, c5, k5⟩, rfl⟩
          · rw [e5]
            refine .inr ⟨g5, ?_⟩
            rcases c5 with ⟨q, rfl⟩ | ⟨q, r, rfl⟩
            · rw [if_neg q]
            · rw [if_pos q, if_neg r]
        · rw [e4, p_nb_f f4, if_neg (show ¬ tK s n (i + 5) = 132 from c4)]
          exact .inr ⟨f4, rfl⟩
      · dsimp only
        rw [e3, p_sg_f g3, p_nb_f g3]
        refine .inr ⟨g3, ?_⟩
        rcases c3 with ⟨q, rfl⟩ | ⟨q, r, rfl⟩
        · rw [if_neg q]
        · rw [if_pos q, if_pos r]
    · rw [e2, if_neg (show ¬ tK s n (i + 3) = 131 from c2)]
      dsimp only
      rw [(tdp_f f2).1, p_sg_f f2, p_nb_f f2]
      exact .inr ⟨f2, rfl⟩
  · rw [e1, if_neg c1, p_sg_f f1]
    dsimp only
    rw [(tdp_f f1).1, p_sg_f f1, p_nb_f f1]
    exact .inr ⟨f1, rfl⟩
/-- what a thing's line takes, its name read at i + 1 -/
def ptl (s : Nat → Int32) (n : Nat) (A : fc_Ab) (i : Nat) : Nat × Int32 := tdp s n A 2 (p_sg s n (nI (128 + 7)) (p_nb s n 0 30 (p_sg s n (nI (128 + 6)) (i, 0)))).1 (p_sg s n (nI (128 + 7)) (p_nb s n 0 30 (p_sg s n (nI (128 + 6)) (i, 0)))).2 0
theorem thing_eq (hB : fc_AB A) (hn : n ≤ 1000) (h6 : ¬ 6 ≤ A.1 3) (h4 : tK s n (i + 1) = 4) (hl : ps_tl A (tW s n (i + 1)) = false) :
  (ptl s n A (i + 2) = (i + 6, 0) ∧ p_sg s n (nI (128 + 6)) (i + 2, 0) = (i + 3, 0) ∧ (p_nb s n 0 30 (i + 3, 0) = (i + 4, 0) ∧ tK s n (i + 3) = 3 ∧ sp_from 0 (tN s n (i + 3)) 30 = true) ∧ p_sg s n (nI (128 + 7)) (i + 4, 0) = (i + 5, 0) ∧ (tdp s n A 2 (i + 5) 0 0 = (i + 6, 0) ∧ ¬ fiA A 2 (tW s n (i + 5)) = -1 ∧ tdv s n A 2 (i + 5) 0 0 = fiA A 2 (tW s n (i + 5))) ∧
    ps_thing s n A i = .ok (ps_ta A (tN s n (i + 3)) (fiA A 2 (tW s n (i + 5))) (tW s n (i + 1)), i + 6)) ∨ (¬ (ptl s n A (i + 2)).2 = 0 ∧ ps_thing s n A i = .error (ptl s n A (i + 2)).2) := by
  have hfa : ∀ a, sp_fi (A.2.2 2) a (A.1 2) 0 = fiA A 2 a := fun _ => rfl
  unfold ps_thing ptl
  rw [if_neg h6, if_pos h4, if_neg (by rw [hl]; decide)]
  simp only [hfa]
  rcases p_sg_c (s := s) (i := i + 2) (c := nI (128 + 6)) hn with ⟨e1, c1⟩ | ⟨e1, f1, c1⟩
  · rw [e1, if_pos (show tK s n (i + 2) = 134 from c1)]
    rcases p_nb_c (s := s) (i := i + 2 + 1) (lo := 0) (hi := 30) hn with ⟨e2, c2, k2⟩ | ⟨f2, g2, e2, c2⟩
    · rw [e2, if_pos c2, if_pos k2]
      rcases p_sg_c (s := s) (i := i + 2 + 1 + 1) (c := nI (128 + 7)) hn with ⟨e3, c3⟩ | ⟨e3, f3, c3⟩
      · rw [e3, if_pos (show tK s n (i + 4) = 135 from c3)]
        dsimp only
        rcases td0 (s := s) (i := i + 2 + 1 + 1 + 1) (x := 2) hB (.inr rfl) hn with ⟨e4, c4, k4, v4⟩ | ⟨f4, g4, e4, c4⟩
        · rw [e4, if_pos c4, if_neg k4]
          exact .inl ⟨rfl, rfl, ⟨rfl, c2, k2⟩, rfl, ⟨rfl, k4, v4⟩, rfl⟩
        · rw [e4]
          refine .inr ⟨g4, ?_⟩
          rcases c4 with ⟨q, rfl⟩ | ⟨q, r, rfl⟩
          · rw [if_neg q]
          · rw [if_pos q, if_pos r]
      · rw [e3, if_neg (show ¬ tK s n (i + 4) = 135 from c3)]
        dsimp only
        rw [(tdp_f f3).1]
        exact .inr ⟨f3, rfl⟩
    · rw [e2, p_sg_f g2]
      dsimp only
      rw [(tdp_f g2).1]
      refine .inr ⟨g2, ?_⟩
      rcases c2 with ⟨q, rfl⟩ | ⟨q, r, rfl⟩
      · rw [if_neg q]
      · rw [if_pos q, if_neg r]
  · rw [e1, if_neg (show ¬ tK s n (i + 2) = 134 from c1), p_nb_f f1, p_sg_f f1]
    dsimp only
    rw [(tdp_f f1).1]
    exact .inr ⟨f1, rfl⟩
end M76
