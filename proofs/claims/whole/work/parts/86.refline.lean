/-! ===== the reference reads a line ===== -/
section M86
variable {E : fc_E} {d : Nat} {mi : fc_Mi} {ml : fc_Ml} {mr : fc_Mr} {n N i : Nat} {s : Nat → Int32} {A : fc_Ab}
theorem rln.x {r : Except Int32 (fc_Ab × Nat)} {v : Option Value} {mi' : fc_Mi} {ml' : fc_Ml} {mr' : fc_Mr} (h : rln s n N mi ml mr r v mi' ml' mr') (hH : ∀ q, r = .ok q → lwh q.1) : rlx s n N mi ml mr r v mi' ml' mr' := by
  cases r with
  | error e => exact ⟨h.1, h.2.1, h.2.2.1, .inl h.2.2.2⟩
  | ok q => exact ⟨h.1, h.2.1, h.2.2.1, h.2.2.2.1, h.2.2.2.2, hH q rfl⟩
theorem rpq.x {r : Except Int32 (fc_Ab × Nat)} {np nt : Nat} {v : Option Value} {mi' : fc_Mi} {ml' : fc_Ml} {mr' : fc_Mr} (h : rpq s n N np nt mi ml mr r v mi' ml' mr') (hH : ∀ q, r = .ok q → lwh q.1 ∧ q.1.1 2 = np ∧ q.1.1 3 = nt) : rlx s n N mi ml mr r v mi' ml' mr' := by
  cases r with
  | error e => exact ⟨h.1, h.2.1, h.2.2.1, .inl h.2.2.2⟩
  | ok q =>
    obtain ⟨h1, h2, h3⟩ := hH q rfl
    refine ⟨h.1, h.2.1, h.2.2.1, h.2.2.2.1, ?_, h1⟩
    rw [h2, h3]; exact h.2.2.2.2
theorem place_k {q : fc_Ab × Nat} (hH : lwh A) (h : ps_place s n A i = .ok q) : lwh q.1 ∧ q.1.1 2 = A.1 2 ∧ q.1.1 3 = A.1 3 := by
  unfold ps_place at h
  split at h
  · cases h
  · split at h
    · split at h
      · cases h
      · injection h with h; rw [← h]; exact ⟨hH, rfl, rfl⟩
    · cases h
theorem path_k {q : fc_Ab × Nat} (hH : lwh A) (h : ps_path s n A i = .ok q) : lwh q.1 ∧ q.1.1 2 = A.1 2 ∧ q.1.1 3 = A.1 3 := by
  unfold ps_path at h
  repeat' split at h
  all_goals first | cases h | skip
  all_goals (refine ⟨?_, rfl, rfl⟩; intro q5; dsimp only; rw [two_ne (by decide)]; exact hH q5)
theorem person_k {q : fc_Ab × Nat} (hH : lwh A) (h : ps_person s n A i = .ok q) : lwh q.1 := by
  unfold ps_person at h
  repeat' split at h
  all_goals first | cases h | skip
  all_goals exact hH
theorem thing_k {q : fc_Ab × Nat} (hH : lwh A) (h : ps_thing s n A i = .ok q) : lwh q.1 := by
  unfold ps_thing at h
  repeat' split at h
  all_goals first | cases h | skip
  all_goals exact hH
theorem ps_person_n {e0 : Int32} (h : rnm s n A 2 2 5 i = .error e0) : ps_person s n A i = .error e0 := by
  unfold rnm at h
  unfold ps_person
  split at h
  · rename_i q; rw [if_pos q]; exact h
  · rename_i q; rw [if_neg q]
    split at h
    · rename_i q2; rw [if_pos q2]
      split at h
      · rename_i q3; rw [if_pos q3]; exact h
      · cases h
    · rename_i q2; rw [if_neg q2]; exact h
theorem rnm2_k {q : fc_Ab × Nat} (h : rnm s n A 2 2 5 i = .ok q) : ¬ 5 ≤ A.1 2 ∧ tK s n (i + 1) = 4 ∧ ps_tl A (tW s n (i + 1)) = false ∧ q = ((fc_an A.1 2 (A.1 2 + 1), A.2.1, fc_u A.2.2 2 (A.1 2) (tW s n (i + 1))), i + 2) := by
  unfold rnm at h
  split at h
  · cases h
  · rename_i q1
    split at h
    · rename_i q2
      split at h
      · cases h
      · rename_i q3
        injection h with h
        exact ⟨q1, q2, Bool.not_eq_true _ ▸ q3, h.symm⟩
    · cases h
theorem l_rpers (hW : fc_Wd mr) (hS : rst s n N i 0 mi ml) (hiL : i < N) (hB : fc_AB A) (hD : nd A) (hH : lwh A) (hR : rRA A (A.1 2) (A.1 3) mi ml) : fc_T E mX11_readLine (d + 4) (0, 0) fc_sh 42 [some (.ref 252), none, none, none, none] [] mi ml mr (rln s n N mi ml mr (ps_person s n A i)) := by
  obtain ⟨⟨k1, k2, k3, k4, k5, k6⟩, hiN, hat, hfa, hkw, hok⟩ := id hS
  obtain ⟨r1, r2, r3, r4, r5⟩ := id hR
  obtain ⟨b_0, b_1, b_2, b_3, -⟩ := id hB
  refine fc_run oX11_readLine (fun pc => pc == 63) 400 ?_
  refine And.intro rfl (Exists.intro _ (And.intro (hW 252 10 258 rfl) ?_))
  refine Exists.intro _ (Exists.intro _ (And.intro rfl (And.intro (fc_ixn (fc_nl 52) (by omega) (by decide)) ?_)))
  rw [r1.2.2.1]
  refine And.intro rfl (Exists.intro _ (And.intro (c_rreadName2 hW hS hiL hB (np := A.1 2) (nt := A.1 3) (by omega) (by omega) hR) ?_))
  rintro _ m1 l1 _ ⟨rfl, rfl, f1, g1⟩
  cases hr : rnm s n A 2 2 5 i with
  | error e =>
    rw [hr] at g1
    obtain ⟨g2, j, g3⟩ := g1
    rw [ps_person_n hr]
    exact l_rpF hW g3 (rnm_fok k3 hr) g2 f1
  | ok q =>
    rw [hr] at g1
    obtain ⟨q1, q2, q3, rfl⟩ := rnm2_k hr
    exact l_rpK hW hB q1 q2 q3 g1.1 g1.2 f1 (fc_na (fc_nl 63) (fc_nm (fc_nl 3) rfl))
theorem ps_thing_n {e0 : Int32} (h : rnm s n A 3 3 6 i = .error e0) : ps_thing s n A i = .error e0 := by
  unfold rnm at h
  unfold ps_thing
  split at h
  · rename_i q; rw [if_pos q]; exact h
  · rename_i q; rw [if_neg q]
    split at h
    · rename_i q2; rw [if_pos q2]
      split at h
      · rename_i q3; rw [if_pos q3]; exact h
      · cases h
    · rename_i q2; rw [if_neg q2]; exact h
theorem rnm3_k {q : fc_Ab × Nat} (h : rnm s n A 3 3 6 i = .ok q) : ¬ 6 ≤ A.1 3 ∧ tK s n (i + 1) = 4 ∧ ps_tl A (tW s n (i + 1)) = false ∧ q = ((fc_an A.1 3 (A.1 3 + 1), A.2.1, fc_u A.2.2 3 (A.1 3) (tW s n (i + 1))), i + 2) := by
  unfold rnm at h
  split at h
  · cases h
  · rename_i q1
    split at h
    · rename_i q2
      split at h
      · cases h
      · rename_i q3
        injection h with h
        exact ⟨q1, q2, Bool.not_eq_true _ ▸ q3, h.symm⟩
    · cases h
theorem l_rthng (hW : fc_Wd mr) (hS : rst s n N i 0 mi ml) (hiL : i < N) (hB : fc_AB A) (hD : nd A) (hH : lwh A) (hR : rRA A (A.1 2) (A.1 3) mi ml) : fc_T E mX11_readLine (d + 4) (0, 0) fc_sh 138 [some (.ref 252), none, none, none, none] [] mi ml mr (rln s n N mi ml mr (ps_thing s n A i)) := by
  obtain ⟨⟨k1, k2, k3, k4, k5, k6⟩, hiN, hat, hfa, hkw, hok⟩ := id hS
  obtain ⟨r1, r2, r3, r4, r5⟩ := id hR
  obtain ⟨b_0, b_1, b_2, b_3, -⟩ := id hB
  refine fc_run oX11_readLine (fun pc => pc == 160) 400 ?_
  refine And.intro rfl (Exists.intro _ (And.intro (hW 252 10 258 rfl) ?_))
  refine Exists.intro _ (Exists.intro _ (And.intro rfl (And.intro (fc_ixn (fc_nl 53) (by omega) (by decide)) ?_)))
  rw [r1.2.2.2.1]
  refine And.intro rfl (Exists.intro _ (And.intro (c_rreadName3 hW hS hiL hB (np := A.1 2) (nt := A.1 3) (by omega) (by omega) hR) ?_))
  rintro _ m1 l1 _ ⟨rfl, rfl, f1, g1⟩
  cases hr : rnm s n A 3 3 6 i with
  | error e =>
    rw [hr] at g1
    obtain ⟨g2, j, g3⟩ := g1
    rw [ps_thing_n hr]
    exact l_rtF hW g3 (rnm_fok k3 hr) g2 f1
  | ok q =>
    rw [hr] at g1
    obtain ⟨q1, q2, q3, rfl⟩ := rnm3_k hr
    exact l_rtK hW hB hD q1 q2 q3 g1.1 g1.2 f1 (fc_na (fc_nl 78) (fc_nm (fc_nl 2) rfl))
theorem line_1 (h : tK s n i = 128) : ps_line s n A i = ps_place s n A i := if_pos h
theorem line_2 (h : tK s n i = 129) : ps_line s n A i = ps_path s n A i := by unfold ps_line; rw [if_neg (by rw [h]; decide), if_pos h]
theorem line_3 (h : tK s n i = 130) : ps_line s n A i = ps_person s n A i := by unfold ps_line; rw [if_neg (by rw [h]; decide), if_neg (by rw [h]; decide), if_pos h]
theorem line_4 (h : tK s n i = 133) : ps_line s n A i = ps_thing s n A i := by unfold ps_line; rw [if_neg (by rw [h]; decide), if_neg (by rw [h]; decide), if_neg (by rw [h]; decide), if_pos h]
theorem line_5 (h : tK s n i = 136) : ps_line s n A i = ps_smoke s n A i := by unfold ps_line; rw [if_neg (by rw [h]; decide), if_neg (by rw [h]; decide), if_neg (by rw [h]; decide), if_neg (by rw [h]; decide), if_pos h]
theorem line_6 (h : tK s n i = 137) : ps_line s n A i = ps_binds s n A i := by unfold ps_line; rw [if_neg (by rw [h]; decide), if_neg (by rw [h]; decide), if_neg (by rw [h]; decide), if_neg (by rw [h]; decide), if_neg (by rw [h]; decide), if_pos h]
theorem line_7 (h1 : ¬ tK s n i = 128) (h2 : ¬ tK s n i = 129) (h3 : ¬ tK s n i = 130) (h4 : ¬ tK s n i = 133) (h5 : ¬ tK s n i = 136) (h6 : ¬ tK s n i = 137) : ps_line s n A i = .error (tF s n 1 i) := by unfold ps_line; rw [if_neg h1, if_neg h2, if_neg h3, if_neg h4, if_neg h5, if_neg h6]
theorem c_ronce (hW : fc_Wd mr) (hS : rst s n N i 0 mi ml) (hiL : i < N) (hB : fc_AB A) (hD : nd A) (hH : lwh A) (hR : rRA A (A.1 2) (A.1 3) mi ml) (h1 : ¬ tK s n i = 128) (h2 : ¬ tK s n i = 129) (h3 : ¬ tK s n i = 130) (h4 : ¬ tK s n i = 133) : fc_R E mX11_readOnce (d + 33) fc_sh [.ref 252] mi ml mr (rlx s n N mi ml mr (ps_line s n A i)) := by
  by_cases h5 : tK s n i = 136
  · rw [line_5 h5]; exact c_ronceS hW hS hiL hB hR hH h5
  · by_cases h6 : tK s n i = 137
    · rw [line_6 h6]; exact c_ronceB hW hS hiL hB hR h6
    · rw [line_7 h1 h2 h3 h4 h5 h6]; exact c_ronceN hW hS hiL hB hR h5 h6
theorem c_rreadLine (hW : fc_Wd mr) (hS : rst s n N i 0 mi ml) (hiL : i < N) (hB : fc_AB A) (hD : nd A) (hH : lwh A) (hR : rRA A (A.1 2) (A.1 3) mi ml) : fc_R E mX11_readLine (d + 34) fc_sh [.ref 252] mi ml mr (rlx s n N mi ml mr (ps_line s n A i)) := by
  obtain ⟨⟨k1, k2, k3, k4, k5, k6⟩, hiN, hat, hfa, hkw, hok⟩ := id hS
  obtain ⟨b_0, b_1, b_2, b_3, -⟩ := id hB
  refine fc_met rfl (Nat.le_of_ble_eq_true rfl) (fc_run oX11_readLine (fun pc => pc == 42 || pc == 138) 400 ?_)
  refine And.intro rfl (Exists.intro _ (And.intro (c_risWord hW hS (w := 0) (by omega) rfl) ?_))
  rintro _ _ _ _ ⟨rfl, rfl, rfl, rfl⟩
  refine And.intro (fun h5 => ?_) (fun h5 => ?_)
  · replace h5 := fc_b0.mp h5
    have hk5 : ¬ tK s n i = 128 := fun q => by rw [decide_eq_true (show (0 : Int32) = 0 from rfl), decide_eq_true (show tK s n i = nI (128 + 0) from q)] at h5; cases h5
    refine And.intro rfl (Exists.intro _ (And.intro (c_risWord hW hS (w := 1) (by omega) rfl) ?_))
    rintro _ _ _ _ ⟨rfl, rfl, rfl, rfl⟩
    refine And.intro (fun h24 => ?_) (fun h24 => ?_)
    · replace h24 := fc_b0.mp h24
      have hk24 : ¬ tK s n i = 129 := fun q => by rw [decide_eq_true (show (0 : Int32) = 0 from rfl), decide_eq_true (show tK s n i = nI (128 + 1) from q)] at h24; cases h24
      refine And.intro rfl (Exists.intro _ (And.intro (c_risWord hW hS (w := 2) (by omega) rfl) ?_))
      rintro _ _ _ _ ⟨rfl, rfl, rfl, rfl⟩
      refine And.intro (fun h39 => ?_) (fun h39 => ?_)
      · replace h39 := fc_b0.mp h39
        have hk39 : ¬ tK s n i = 130 := fun q => by rw [decide_eq_true (show (0 : Int32) = 0 from rfl), decide_eq_true (show tK s n i = nI (128 + 2) from q)] at h39; cases h39
        refine And.intro rfl (Exists.intro _ (And.intro (c_risWord hW hS (w := 5) (by omega) rfl) ?_))
        rintro _ _ _ _ ⟨rfl, rfl, rfl, rfl⟩
        refine And.intro (fun h135 => ?_) (fun h135 => ?_)
        · replace h135 := fc_b0.mp h135
          have hk135 : ¬ tK s n i = 133 := fun q => by rw [decide_eq_true (show (0 : Int32) = 0 from rfl), decide_eq_true (show tK s n i = nI (128 + 5) from q)] at h135; cases h135
          refine And.intro rfl (Exists.intro _ (And.intro (c_ronce hW hS hiL hB hD hH hR hk5 hk24 hk39 hk135) ?_))
          intro v m1 l1 _ h1
          obtain rfl : v = none := h1.1
          exact h1
        · replace h135 := fc_b1.mp h135
          have hk135 : tK s n i = 133 := by rw [Bool.and_eq_true] at h135; exact of_decide_eq_true h135.2
          refine fc_conT (l_rthng (d := d + 30) hW hS hiL hB hD hH hR) (fun v a b c h => ?_)
          rw [line_4 hk135]
          exact h.x (fun q e => thing_k hH e)
      · replace h39 := fc_b1.mp h39
        have hk39 : tK s n i = 130 := by rw [Bool.and_eq_true] at h39; exact of_decide_eq_true h39.2
        refine fc_conT (l_rpers (d := d + 30) hW hS hiL hB hD hH hR) (fun v a b c h => ?_)
        rw [line_3 hk39]
        exact h.x (fun q e => person_k hH e)
    · replace h24 := fc_b1.mp h24
      have hk24 : tK s n i = 129 := by rw [Bool.and_eq_true] at h24; exact of_decide_eq_true h24.2
      refine And.intro rfl (Exists.intro _ (And.intro (c_rreadPath (d := d + 29) hW hS hiL hB (np := A.1 2) (nt := A.1 3) (by omega) (by omega) hR) ?_))
      intro v m1 l1 _ h1
      obtain rfl : v = none := h1.1
      rw [line_2 hk24]
      exact h1.x (fun q e => path_k hH e)
  · replace h5 := fc_b1.mp h5
    have hk5 : tK s n i = 128 := by rw [Bool.and_eq_true] at h5; exact of_decide_eq_true h5.2
    refine And.intro rfl (Exists.intro _ (And.intro (c_rreadName1 (d := d + 30) hW hS hiL hB (np := A.1 2) (nt := A.1 3) (by omega) (by omega) hR) ?_))
    intro v m1 l1 _ h1
    obtain rfl : v = none := h1.1
    rw [line_1 hk5]
    exact h1.x (fun q e => place_k hH e)

end M86
