/-! ===== a land as told is one that can be ===== -/
def Aok (A : fc_Ab) : Prop := (∀ p, p < A.1 2 → (∃ j, j < A.1 0 ∧ A.2.1 6 p = nI j) ∧ ∃ w, w ≤ 30 ∧ A.2.1 7 p = nI w) ∧ (∀ q, q < A.1 3 → (∃ w, w ≤ 30 ∧ A.2.1 8 q = nI w) ∧ ∃ p, p < A.1 2 ∧ A.2.1 9 q = nI p) ∧ (∃ sm, 1 ≤ sm ∧ sm ≤ 60 ∧ A.2.1 0 14 = nI sm) ∧ fg_ok (A.1 0) (A.2.1 4) ∧ ∀ k, A.1 0 ≤ k → k < 7 → A.2.1 4 k = 0
section M87
variable {s : Nat → Int32} {n i : Nat} {A : fc_Ab}
theorem sp_from30 {w : Int32} (h : sp_from 0 w 30 = true) : ∃ p, p ≤ 30 ∧ w = nI p := by
  simp only [sp_from, Bool.and_eq_true, Bool.not_eq_true', decide_eq_false_iff_not] at h
  exact nI_of2 (M := 30) (n := 30) rfl h.1 (Int32.not_lt.mp h.2)
theorem sp_from160 {w : Int32} (h : sp_from 1 w 60 = true) : ∃ p, 1 ≤ p ∧ p ≤ 60 ∧ w = nI p := by
  simp only [sp_from, Bool.and_eq_true, Bool.not_eq_true', decide_eq_false_iff_not] at h
  have h0 : ¬ w < 0 := fun q => h.1 (Int32.lt_trans q (by decide))
  obtain ⟨p, hp, e⟩ := nI_of2 (M := 60) (n := 60) rfl h0 (Int32.not_lt.mp h.2)
  refine ⟨p, ?_, hp, e⟩
  rcases Nat.lt_or_ge p 1 with q | q
  · exact absurd (show w < 1 by rw [e, show p = 0 by omega]; decide) h.1
  · exact q
theorem fi_in {g : Nat → Int64} {a : Int64} {k : Nat} (h : ¬ sp_fi g a k 0 = -1) : ∃ z, z < k ∧ sp_fi g a k 0 = nI z := fi_k (Nat.le_refl k) h
theorem Aok_0 : Aok ps_0 := by
  refine ⟨fun p hp => absurd hp (Nat.not_lt_zero p), fun q hq => absurd hq (Nat.not_lt_zero q), ⟨30, by omega, by omega, rfl⟩, fun k hk => absurd hk (Nat.not_lt_zero k), fun k _ _ => ?_⟩
  show (if (4 : Nat) = 0 ∧ k = 14 then (30 : Int32) else 0) = 0
  rw [if_neg (fun q => absurd q.1 (by decide))]
theorem nd_0 : nd ps_0 := fun a => ⟨.inl rfl, .inl rfl⟩
theorem lwh_0 : lwh ps_0 := fun q => absurd (show (0 : Nat) = 1 from q) (by decide)
theorem fg_more {m : Nat} {pt : Nat → Int32} (hm : m < 7) (h : fg_ok m pt) (h0 : pt m = 0) : fg_ok (m + 1) pt := by
  intro k hk
  by_cases e : k = m
  · refine ⟨fun x hx _ => by rw [e, h0, b_0], fun j hj => ?_⟩
    rw [e, h0, b_0]
    by_cases e2 : j = m
    · rw [e2, h0, b_0]
    · exact ((h j (by omega)).1 m (by omega) (Nat.le_refl m)).symm
  · have hk' : k < m := by omega
    refine ⟨fun x hx q => (h k hk').1 x hx (by omega), fun j hj => ?_⟩
    by_cases e2 : j = m
    · rw [e2, h0, b_0]
      exact (h k hk').1 m (by omega) (Nat.le_refl m)
    · exact (h k hk').2 j (by omega)
theorem two_bt {a : fc_Mi} {x z k i : Nat} (hx : x < 7) (hz : z < 7) (hne : ¬ x = z) (hi : i < 32) : bt (ps_two a (nI x) (nI z) 4 k) i = (bt (a 4 k) i || (decide (k = x) && decide (i = z)) || (decide (k = z) && decide (i = x))) := by
  rw [two_4 hx hz]
  by_cases e1 : k = z
  · rw [if_pos e1, b_or, fb_one (by omega) hi, fc_u_nj _ _ _ _ (show z ≠ x from fun q => hne q.symm), e1, decide_eq_false (show ¬ z = x from fun q => hne q.symm), decide_eq_true (show z = z from rfl)]
    simp
  · rw [if_neg e1]
    by_cases e2 : k = x
    · rw [if_pos e2, b_or, fb_one (by omega) hi, e2, decide_eq_true (show x = x from rfl), decide_eq_false hne]
      simp
    · rw [if_neg e2, decide_eq_false e2, decide_eq_false e1]
      simp
theorem fg_two {a : fc_Mi} {m x z : Nat} (hm : m ≤ 7) (h : fg_ok m (a 4)) (hx : x < m) (hz : z < m) (hne : ¬ x = z) : fg_ok m (ps_two a (nI x) (nI z) 4) := by
  intro k hk
  refine ⟨fun i hi q => ?_, fun j hj => ?_⟩
  · rw [two_bt (by omega) (by omega) hne hi, (h k hk).1 i hi q, decide_eq_false (show ¬ i = z by omega), decide_eq_false (show ¬ i = x by omega)]
    simp
  · rw [two_bt (by omega) (by omega) hne (by omega), two_bt (by omega) (by omega) hne (by omega), (h k hk).2 j hj]
    cases bt (a 4 j) k <;> simp only [Bool.false_or, Bool.true_or]
    rw [Bool.or_comm, Bool.and_comm (decide (k = z)), Bool.and_comm (decide (k = x))]
theorem Aok_place {q : fc_Ab × Nat} (hB : fc_AB A) (h : Aok A) (hD : nd A) (e : ps_place s n A i = .ok q) : Aok q.1 ∧ nd q.1 := by
  unfold ps_place at e
  split at e
  · cases e
  · rename_i h7
    split at e
    · split at e
      · cases e
      · rename_i ht
        injection e with e
        rw [← e]
        refine ⟨⟨fun p hp => ?_, h.2.1, h.2.2.1, fg_more (by omega) h.2.2.2.1 (h.2.2.2.2 _ (Nat.le_refl _) (by omega)), fun k hk h7' => h.2.2.2.2 k (Nat.le_trans (Nat.le_succ _) hk) h7'⟩, nd_add1 hB hD (by simpa using ht) A.2.1⟩
        obtain ⟨⟨j, hj, ej⟩, w⟩ := h.1 p hp
        exact ⟨⟨j, Nat.lt_succ_of_lt hj, ej⟩, w⟩
    · cases e
theorem Aok_path {q : fc_Ab × Nat} (hB : fc_AB A) (h : Aok A) (hD : nd A) (e : ps_path s n A i = .ok q) : Aok q.1 ∧ nd q.1 := by
  unfold ps_path at e
  split at e
  · cases e
  split at e
  · split at e
    · cases e
    rename_i hx
    split at e
    · split at e
      · cases e
      rename_i hz
      split at e
      · cases e
      rename_i hne
      split at e
      · cases e
      injection e with e
      rw [← e]
      obtain ⟨x, hx1, ex⟩ := fi_in hx
      obtain ⟨z, hz1, ez⟩ := fi_in hz
      rw [ex, ez] at hne ⊢
      have hxz : ¬ x = z := fun q => hne (by rw [q])
      have h7 := hB.1
      refine ⟨⟨fun p hp => ?_, fun q hq => ?_, ?_, ?_, fun k hk h7' => ?_⟩, hD⟩
      · show (∃ j, j < A.1 0 ∧ ps_two A.2.1 (nI x) (nI z) 6 p = nI j) ∧ ∃ w, w ≤ 30 ∧ ps_two A.2.1 (nI x) (nI z) 7 p = nI w
        rw [two_ne (by decide), two_ne (by decide)]
        exact h.1 p hp
      · show (∃ w, w ≤ 30 ∧ ps_two A.2.1 (nI x) (nI z) 8 q = nI w) ∧ ∃ p, p < A.1 2 ∧ ps_two A.2.1 (nI x) (nI z) 9 q = nI p
        rw [two_ne (by decide), two_ne (by decide)]
        exact h.2.1 q hq
      · show ∃ sm, 1 ≤ sm ∧ sm ≤ 60 ∧ ps_two A.2.1 (nI x) (nI z) 0 14 = nI sm
        rw [two_ne (by decide)]
        exact h.2.2.1
      · exact fg_two h7 h.2.2.2.1 hx1 hz1 hxz
      · show ps_two A.2.1 (nI x) (nI z) 4 k = 0
        have hk' : A.1 0 ≤ k := hk
        rw [two_4 (by omega) (by omega), if_neg (by omega), if_neg (by omega)]
        exact h.2.2.2.2 k hk h7'
    · cases e
  · cases e
theorem Aok_person {q : fc_Ab × Nat} (hB : fc_AB A) (h : Aok A) (hD : nd A) (e : ps_person s n A i = .ok q) : Aok q.1 ∧ nd q.1 := by
  unfold ps_person at e
  split at e
  · cases e
  split at e
  · split at e
    · cases e
    rename_i ht
    split at e
    · split at e
      · split at e
        · split at e
          · cases e
          rename_i hx
          split at e
          · split at e
            · split at e
              · rename_i hw
                injection e with e
                rw [← e]
                refine ⟨⟨fun p hp => ?_, fun q hq => ?_, h.2.2.1, h.2.2.2.1, h.2.2.2.2⟩, nd_add2 hB hD (by simpa using ht) _⟩
                · unfold ps_pa at hp ⊢
                  dsimp only at hp ⊢
                  rw [fc_an_at] at hp
                  rw [fc_an_ne _ _ (by decide), fc_u_off _ _ _ (show 6 ≠ 7 by decide)]
                  by_cases e2 : p = A.1 2
                  · rw [e2, fc_u_at, fc_u_at]
                    exact ⟨fi_in hx, sp_from30 hw⟩
                  · rw [fc_u_nj _ _ _ _ e2, fc_u_nj _ _ _ _ e2, fc_u_nj _ _ _ _ e2, fc_u_nj _ _ _ _ e2, fc_u_nj _ _ _ _ e2]
                    exact h.1 p (by omega)
                · obtain ⟨w, p, hp, ep⟩ := h.2.1 q hq
                  exact ⟨w, p, Nat.lt_succ_of_lt hp, ep⟩
              · cases e
            · cases e
          · cases e
        · cases e
      · cases e
    · cases e
  · cases e
theorem Aok_thing {q : fc_Ab × Nat} (hB : fc_AB A) (h : Aok A) (hD : nd A) (e : ps_thing s n A i = .ok q) : Aok q.1 ∧ nd q.1 := by
  unfold ps_thing at e
  split at e
  · cases e
  split at e
  · split at e
    · cases e
    rename_i ht
    split at e
    · split at e
      · split at e
        · rename_i hw
          split at e
          · split at e
            · split at e
              · cases e
              rename_i hx
              injection e with e
              rw [← e]
              refine ⟨⟨h.1, fun q hq => ?_, h.2.2.1, h.2.2.2.1, h.2.2.2.2⟩, nd_add3 hB hD (by simpa using ht) _⟩
              unfold ps_ta at hq ⊢
              dsimp only at hq ⊢
              rw [fc_an_at] at hq
              rw [fc_an_ne _ _ (by decide), fc_u_off _ _ _ (show 8 ≠ 9 by decide)]
              by_cases e2 : q = A.1 3
              · rw [e2, fc_u_at, fc_u_at]
                exact ⟨sp_from30 hw, fi_in hx⟩
              · rw [fc_u_nj _ _ _ _ e2, fc_u_nj _ _ _ _ e2, fc_u_off _ _ _ (show 9 ≠ 8 by decide)]
                exact h.2.1 q (by omega)
            · cases e
          · cases e
        · cases e
      · cases e
    · cases e
  · cases e
theorem Aok_smoke {q : fc_Ab × Nat} (h : Aok A) (hD : nd A) (e : ps_smoke s n A i = .ok q) : Aok q.1 ∧ nd q.1 := by
  unfold ps_smoke at e
  split at e
  · split at e
    · split at e
      · rename_i hw
        injection e with e
        rw [← e]
        refine ⟨⟨h.1, h.2.1, ?_, h.2.2.2.1, h.2.2.2.2⟩, hD⟩
        obtain ⟨p, h1, h2, e3⟩ := sp_from160 hw
        exact ⟨p, h1, h2, (fc_u_at A.2.1 0 14 (tN s n (i + 1))).trans e3⟩
      · cases e
    · cases e
  · cases e
theorem Aok_binds {q : fc_Ab × Nat} (h : Aok A) (hD : nd A) (e : ps_binds s n A i = .ok q) : Aok q.1 ∧ nd q.1 := by
  unfold ps_binds at e
  split at e
  · split at e
    · cases e
    · injection e with e
      rw [← e]
      exact ⟨h, hD⟩
  · cases e
theorem Aok_line {q : fc_Ab × Nat} (hB : fc_AB A) (h : Aok A) (hD : nd A) (e : ps_line s n A i = .ok q) : Aok q.1 ∧ nd q.1 := by
  unfold ps_line at e
  split at e
  · exact Aok_place hB h hD e
  split at e
  · exact Aok_path hB h hD e
  split at e
  · exact Aok_person hB h hD e
  split at e
  · exact Aok_thing hB h hD e
  split at e
  · exact Aok_smoke h hD e
  split at e
  · exact Aok_binds h hD e
  · cases e
end M87
