/-! ===== a name is of one kind ===== -/
/-- no name is told for two kinds -/
def nd (A : fc_Ab) : Prop := ∀ a, (sp_fi (A.2.2 1) a (A.1 0) 0 = -1 ∨ (sp_fi (A.2.2 2) a (A.1 2) 0 = -1 ∧ sp_fi (A.2.2 3) a (A.1 3) 0 = -1)) ∧ (sp_fi (A.2.2 2) a (A.1 2) 0 = -1 ∨ sp_fi (A.2.2 3) a (A.1 3) 0 = -1)
theorem fi_k {g : Nat → Int64} {a : Int64} {k m : Nat} (hk : k ≤ m) (h : ¬ sp_fi g a k 0 = -1) : ∃ z, z < m ∧ sp_fi g a k 0 = nI z := by
  obtain ⟨z, -, h2, h3, -⟩ := sp_fi_r k 0 h
  exact ⟨z, by omega, h3⟩
theorem nk_no {A : fc_Ab} {a : Int64} (h : ps_tl A a = false) : sp_fi (A.2.2 1) a (A.1 0) 0 = -1 ∧ sp_fi (A.2.2 2) a (A.1 2) 0 = -1 ∧ sp_fi (A.2.2 3) a (A.1 3) 0 = -1 := by
  unfold ps_tl q_tl at h
  simp only [Nat.zero_add, Bool.or_eq_false_iff, Bool.not_eq_false', decide_eq_true_eq] at h
  exact ⟨h.1, h.2.1, h.2.2⟩
theorem nk_of1 {A : fc_Ab} (hB : fc_AB A) (a : Int64) : (sp_from 0 (nk A a - 0) 6 = true ↔ ¬ sp_fi (A.2.2 1) a (A.1 0) 0 = -1) ∧ (¬ sp_fi (A.2.2 1) a (A.1 0) 0 = -1 → nk A a - 0 = sp_fi (A.2.2 1) a (A.1 0) 0) := by
  obtain ⟨b0, b1, b2, b3, -⟩ := hB
  have t1 : ∀ z, z < 7 → sp_from 0 (nI z - 0) 6 = true := by decide
  have t2 : ∀ z, z < 5 → sp_from 0 (20 + nI z - 0) 6 = false := by decide
  have t3 : ∀ z, z < 6 → sp_from 0 (40 + nI z - 0) 6 = false := by decide
  have t4 : sp_from 0 ((-1 : Int32) - 0) 6 = false := by decide
  have t5 : ∀ z, z < 7 → nI z - 0 = nI z := by decide
  unfold nk nk3
  by_cases h1 : sp_fi (A.2.2 1) a (A.1 0) 0 = -1
  · rw [if_pos h1]
    by_cases h2 : sp_fi (A.2.2 2) a (A.1 2) 0 = -1
    · rw [if_pos h2]
      by_cases h3 : sp_fi (A.2.2 3) a (A.1 3) 0 = -1
      · rw [if_pos h3]
        exact ⟨⟨fun q => absurd (t4.symm.trans q) (by decide), fun q => absurd h1 q⟩, fun q => absurd h1 q⟩
      · obtain ⟨z, hz, e⟩ := fi_k b3 h3
        rw [if_neg h3, e]
        exact ⟨⟨fun q => absurd ((t3 z hz).symm.trans q) (by decide), fun q => absurd h1 q⟩, fun q => absurd h1 q⟩
    · obtain ⟨z, hz, e⟩ := fi_k b2 h2
      rw [if_neg h2, e]
      exact ⟨⟨fun q => absurd ((t2 z hz).symm.trans q) (by decide), fun q => absurd h1 q⟩, fun q => absurd h1 q⟩
  · obtain ⟨z, hz, e⟩ := fi_k b0 h1
    rw [if_neg h1]
    exact ⟨⟨fun _ => h1, fun _ => by rw [e]; exact t1 z hz⟩, fun _ => by rw [e]; exact t5 z (by omega)⟩
theorem nk_of2 {A : fc_Ab} (hB : fc_AB A) (hD : nd A) (a : Int64) : (sp_from 0 (nk A a - 20) 6 = true ↔ ¬ sp_fi (A.2.2 2) a (A.1 2) 0 = -1) ∧ (¬ sp_fi (A.2.2 2) a (A.1 2) 0 = -1 → nk A a - 20 = sp_fi (A.2.2 2) a (A.1 2) 0) := by
  obtain ⟨b0, b1, b2, b3, -⟩ := hB
  have t1 : ∀ z, z < 7 → sp_from 0 (nI z - 20) 6 = false := by decide
  have t2 : ∀ z, z < 5 → sp_from 0 (20 + nI z - 20) 6 = true := by decide
  have t3 : ∀ z, z < 6 → sp_from 0 (40 + nI z - 20) 6 = false := by decide
  have t4 : sp_from 0 ((-1 : Int32) - 20) 6 = false := by decide
  have t5 : ∀ z, z < 7 → 20 + nI z - 20 = nI z := by decide
  unfold nk nk3
  by_cases h1 : sp_fi (A.2.2 1) a (A.1 0) 0 = -1
  · rw [if_pos h1]
    by_cases h2 : sp_fi (A.2.2 2) a (A.1 2) 0 = -1
    · rw [if_pos h2]
      by_cases h3 : sp_fi (A.2.2 3) a (A.1 3) 0 = -1
      · rw [if_pos h3]
        exact ⟨⟨fun q => absurd (t4.symm.trans q) (by decide), fun q => absurd h2 q⟩, fun q => absurd h2 q⟩
      · obtain ⟨z, hz, e⟩ := fi_k b3 h3
        rw [if_neg h3, e]
        exact ⟨⟨fun q => absurd ((t3 z hz).symm.trans q) (by decide), fun q => absurd h2 q⟩, fun q => absurd h2 q⟩
    · obtain ⟨z, hz, e⟩ := fi_k b2 h2
      rw [if_neg h2]
      exact ⟨⟨fun _ => h2, fun _ => by rw [e]; exact t2 z hz⟩, fun _ => by rw [e]; exact t5 z (by omega)⟩
  · obtain ⟨z, hz, e⟩ := fi_k b0 h1
    have h2 := ((hD a).1.resolve_left h1).1
    rw [if_neg h1, e]
    exact ⟨⟨fun q => absurd ((t1 z hz).symm.trans q) (by decide), fun q => absurd h2 q⟩, fun q => absurd h2 q⟩
theorem nk_of3 {A : fc_Ab} (hB : fc_AB A) (hD : nd A) (a : Int64) : (sp_from 0 (nk A a - 40) 6 = true ↔ ¬ sp_fi (A.2.2 3) a (A.1 3) 0 = -1) ∧ (¬ sp_fi (A.2.2 3) a (A.1 3) 0 = -1 → nk A a - 40 = sp_fi (A.2.2 3) a (A.1 3) 0) := by
  obtain ⟨b0, b1, b2, b3, -⟩ := hB
  have t1 : ∀ z, z < 7 → sp_from 0 (nI z - 40) 6 = false := by decide
  have t2 : ∀ z, z < 5 → sp_from 0 (20 + nI z - 40) 6 = false := by decide
  have t3 : ∀ z, z < 6 → sp_from 0 (40 + nI z - 40) 6 = true := by decide
  have t4 : sp_from 0 ((-1 : Int32) - 40) 6 = false := by decide
  have t5 : ∀ z, z < 7 → 40 + nI z - 40 = nI z := by decide
  unfold nk nk3
  by_cases h1 : sp_fi (A.2.2 1) a (A.1 0) 0 = -1
  · rw [if_pos h1]
    by_cases h2 : sp_fi (A.2.2 2) a (A.1 2) 0 = -1
    · rw [if_pos h2]
      by_cases h3 : sp_fi (A.2.2 3) a (A.1 3) 0 = -1
      · rw [if_pos h3]
        exact ⟨⟨fun q => absurd (t4.symm.trans q) (by decide), fun q => absurd h3 q⟩, fun q => absurd h3 q⟩
      · obtain ⟨z, hz, e⟩ := fi_k b3 h3
        rw [if_neg h3]
        exact ⟨⟨fun _ => h3, fun _ => by rw [e]; exact t3 z hz⟩, fun _ => by rw [e]; exact t5 z (by omega)⟩
    · obtain ⟨z, hz, e⟩ := fi_k b2 h2
      have h3 := (hD a).2.resolve_left h2
      rw [if_neg h2, e]
      exact ⟨⟨fun q => absurd ((t2 z hz).symm.trans q) (by decide), fun q => absurd h3 q⟩, fun q => absurd h3 q⟩
  · obtain ⟨z, hz, e⟩ := fi_k b0 h1
    have h3 := ((hD a).1.resolve_left h1).2
    rw [if_neg h1, e]
    exact ⟨⟨fun q => absurd ((t1 z hz).symm.trans q) (by decide), fun q => absurd h3 q⟩, fun q => absurd h3 q⟩
theorem nd_add1 {A : fc_Ab} (hB : fc_AB A) (hD : nd A) {a0 : Int64} (h0 : ps_tl A a0 = false) (a' : fc_Mi) : nd (fc_an A.1 0 (A.1 0 + 1), a', fc_u A.2.2 1 (A.1 0) a0) := by
  obtain ⟨b0, b1, b2, b3, -⟩ := hB
  intro a
  have hg : sp_fi ((fc_u A.2.2 1 (A.1 0) a0) 1) a ((A.1 0) + 1) 0 = if sp_fi (A.2.2 1) a (A.1 0) 0 = -1 then (if a0 = a then nI (A.1 0) else -1) else sp_fi (A.2.2 1) a (A.1 0) 0 := by
    rw [fi_s (A.1 0) 0 (by omega), Nat.zero_add, fc_u_at]
    rw [sp_fi_cg (f := (fc_u A.2.2 1 (A.1 0) a0) 1) (g := A.2.2 1) (A.1 0) 0 (fun k _ hk => by rw [fc_u_nj _ _ _ _ (by omega)])]
  dsimp only
  rw [fc_an_at, hg, fc_an_ne _ _ (show 2 ≠ 0 by decide), fc_u_off _ _ _ (show 2 ≠ 1 by decide), fc_an_ne _ _ (show 3 ≠ 0 by decide), fc_u_off _ _ _ (show 3 ≠ 1 by decide)]
  by_cases e : a0 = a
  · subst e
    obtain ⟨z1, z2, z3⟩ := nk_no h0
    rw [if_pos z1, if_pos rfl, z2, z3]
    exact ⟨.inr ⟨rfl, rfl⟩, .inl rfl⟩
  · rw [if_neg e]
    have s : ∀ y : Int32, (if y = -1 then -1 else y) = y := fun y => by
      by_cases q : y = -1
      · rw [if_pos q, q]
      · rw [if_neg q]
    rw [s]
    exact hD a
theorem nd_add2 {A : fc_Ab} (hB : fc_AB A) (hD : nd A) {a0 : Int64} (h0 : ps_tl A a0 = false) (a' : fc_Mi) : nd (fc_an A.1 2 (A.1 2 + 1), a', fc_u A.2.2 2 (A.1 2) a0) := by
  obtain ⟨b0, b1, b2, b3, -⟩ := hB
  intro a
  have hg : sp_fi ((fc_u A.2.2 2 (A.1 2) a0) 2) a ((A.1 2) + 1) 0 = if sp_fi (A.2.2 2) a (A.1 2) 0 = -1 then (if a0 = a then nI (A.1 2) else -1) else sp_fi (A.2.2 2) a (A.1 2) 0 := by
    rw [fi_s (A.1 2) 0 (by omega), Nat.zero_add, fc_u_at]
    rw [sp_fi_cg (f := (fc_u A.2.2 2 (A.1 2) a0) 2) (g := A.2.2 2) (A.1 2) 0 (fun k _ hk => by rw [fc_u_nj _ _ _ _ (by omega)])]
  dsimp only
  rw [fc_an_at, hg, fc_an_ne _ _ (show 0 ≠ 2 by decide), fc_u_off _ _ _ (show 1 ≠ 2 by decide), fc_an_ne _ _ (show 3 ≠ 2 by decide), fc_u_off _ _ _ (show 3 ≠ 2 by decide)]
  by_cases e : a0 = a
  · subst e
    obtain ⟨z1, z2, z3⟩ := nk_no h0
    rw [if_pos z2, if_pos rfl, z1, z3]
    exact ⟨.inl rfl, .inr rfl⟩
  · rw [if_neg e]
    have s : ∀ y : Int32, (if y = -1 then -1 else y) = y := fun y => by
      by_cases q : y = -1
      · rw [if_pos q, q]
      · rw [if_neg q]
    rw [s]
    exact hD a
theorem nd_add3 {A : fc_Ab} (hB : fc_AB A) (hD : nd A) {a0 : Int64} (h0 : ps_tl A a0 = false) (a' : fc_Mi) : nd (fc_an A.1 3 (A.1 3 + 1), a', fc_u A.2.2 3 (A.1 3) a0) := by
  obtain ⟨b0, b1, b2, b3, -⟩ := hB
  intro a
  have hg : sp_fi ((fc_u A.2.2 3 (A.1 3) a0) 3) a ((A.1 3) + 1) 0 = if sp_fi (A.2.2 3) a (A.1 3) 0 = -1 then (if a0 = a then nI (A.1 3) else -1) else sp_fi (A.2.2 3) a (A.1 3) 0 := by
    rw [fi_s (A.1 3) 0 (by omega), Nat.zero_add, fc_u_at]
    rw [sp_fi_cg (f := (fc_u A.2.2 3 (A.1 3) a0) 3) (g := A.2.2 3) (A.1 3) 0 (fun k _ hk => by rw [fc_u_nj _ _ _ _ (by omega)])]
  dsimp only
  rw [fc_an_at, hg, fc_an_ne _ _ (show 0 ≠ 3 by decide), fc_u_off _ _ _ (show 1 ≠ 3 by decide), fc_an_ne _ _ (show 2 ≠ 3 by decide), fc_u_off _ _ _ (show 2 ≠ 3 by decide)]
  by_cases e : a0 = a
  · subst e
    obtain ⟨z1, z2, z3⟩ := nk_no h0
    rw [if_pos z3, if_pos rfl, z1, z2]
    exact ⟨.inl rfl, .inl rfl⟩
  · rw [if_neg e]
    have s : ∀ y : Int32, (if y = -1 then -1 else y) = y := fun y => by
      by_cases q : y = -1
      · rw [if_pos q, q]
      · rw [if_neg q]
    rw [s]
    exact hD a
