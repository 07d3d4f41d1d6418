/-! ===== at the making of the reference the last row is not there yet ===== -/
def fc_sh0 : fc_Sh := [(10, 0), (8, 0), (23, 1000), (1, 0), (3, 0), (20, 64), (9, 0), (26, 7), (20, 7), (20, 7), (20, 7), (20, 7), (20, 7), (20, 7), (20, 7), (20, 128), (20, 128), (7, 0), (20, 5), (20, 5), (20, 5), (20, 5), (20, 5), (20, 6), (20, 6), (7, 0), (20, 5), (20, 5), (20, 5), (20, 5), (20, 5), (20, 6), (20, 6), (4, 0), (24, 16), (24, 4), (25, 4), (22, 4), (7, 0), (20, 5), (20, 5), (20, 5), (20, 5), (20, 5), (20, 6), (20, 6), (7, 0), (20, 5), (20, 5), (20, 5), (20, 5), (20, 5), (20, 6), (20, 6), (7, 0), (20, 5), (20, 5), (20, 5), (20, 5), (20, 5), (20, 6), (20, 6), (7, 0), (20, 5), (20, 5), (20, 5), (20, 5), (20, 5), (20, 6), (20, 6), (7, 0), (20, 5), (20, 5), (20, 5), (20, 5), (20, 5), (20, 6), (20, 6), (7, 0), (20, 5), (20, 5), (20, 5), (20, 5), (20, 5), (20, 6), (20, 6), (7, 0), (20, 5), (20, 5), (20, 5), (20, 5), (20, 5), (20, 6), (20, 6), (7, 0), (20, 5), (20, 5), (20, 5), (20, 5), (20, 5), (20, 6), (20, 6), (7, 0), (20, 5), (20, 5), (20, 5), (20, 5), (20, 5), (20, 6), (20, 6), (7, 0), (20, 5), (20, 5), (20, 5), (20, 5), (20, 5), (20, 6), (20, 6), (7, 0), (20, 5), (20, 5), (20, 5), (20, 5), (20, 5), (20, 6), (20, 6), (7, 0), (20, 5), (20, 5), (20, 5), (20, 5), (20, 5), (20, 6), (20, 6), (7, 0), (20, 5), (20, 5), (20, 5), (20, 5), (20, 5), (20, 6), (20, 6), (7, 0), (20, 5), (20, 5), (20, 5), (20, 5), (20, 5), (20, 6), (20, 6), (7, 0), (20, 5), (20, 5), (20, 5), (20, 5), (20, 5), (20, 6), (20, 6), (7, 0), (20, 5), (20, 5), (20, 5), (20, 5), (20, 5), (20, 6), (20, 6), (7, 0), (20, 5), (20, 5), (20, 5), (20, 5), (20, 5), (20, 6), (20, 6), (6, 0), (20, 8), (20, 8), (22, 8), (7, 0), (20, 5), (20, 5), (20, 5), (20, 5), (20, 5), (20, 6), (20, 6), (6, 0), (20, 8), (20, 8), (22, 8), (7, 0), (20, 5), (20, 5), (20, 5), (20, 5), (20, 5), (20, 6), (20, 6), (6, 0), (20, 8), (20, 8), (22, 8), (7, 0), (20, 5), (20, 5), (20, 5), (20, 5), (20, 5), (20, 6), (20, 6), (6, 0), (20, 8), (20, 8), (22, 8), (6, 0), (20, 8), (20, 8), (22, 8), (0, 0), (21, 7), (21, 5), (21, 6), (20, 7), (20, 5), (20, 5), (20, 5), (20, 6), (20, 6), (2, 0), (20, 1000), (20, 64), (0, 0), (21, 7), (21, 5), (21, 6), (20, 7), (20, 5), (20, 5), (20, 5), (20, 6), (20, 6), (2, 0), (20, 1000), (20, 64), (5, 0), (20, 40), (20, 40), (20, 40), (5, 0), (20, 40), (20, 40), (20, 40), (11, 0), (20, 1000), (20, 1002), (20, 1002), (21, 1002), (21, 25), (20, 100), (20, 2200), (20, 2200), (21, 18), (21, 18), (20, 18), (20, 18), (20, 250), (20, 4), (20, 1100), (20, 1472), (22, 4), (20, 7), (22, 1792)]
section
variable {E : fc_E} {d : Nat} {mi : fc_Mi} {ml : fc_Ml} {mr : fc_Mr} {B n m t sm : Nat} {L σ : fc_Mi}
theorem c_zpersons_0 (hW : fc_Wd mr) (hZ : rz mi n m t sm L) : fc_R E mX11_persons d fc_sh0 [.ref 252] mi ml mr (fc_is (some (.int (nI n))) mi ml mr) := by
  obtain ⟨⟨e0, e2, e3, e4⟩, hLo, hLg⟩ := id hZ
  obtain ⟨h5, h7, h6, hs1, hs2, hLp, hLt⟩ := id hLo
  refine fc_met rfl (Nat.le_of_ble_eq_true rfl) (fc_run oX11_persons (fun _ => false) 400 ?_)
  refine And.intro rfl (Exists.intro _ (And.intro (hW 252 10 258 rfl) ?_))
  refine Exists.intro _ (Exists.intro _ (And.intro rfl (And.intro (fc_ixn (fc_nl 2) (by omega) (by decide)) ?_)))
  exact ⟨by rw [e2], rfl, rfl, rfl⟩
end
section
variable {E : fc_E} {d : Nat} {mi : fc_Mi} {ml : fc_Ml} {mr : fc_Mr} {B n m t sm : Nat} {L σ : fc_Mi}
theorem c_zthings_0 (hW : fc_Wd mr) (hZ : rz mi n m t sm L) : fc_R E mX11_things d fc_sh0 [.ref 252] mi ml mr (fc_is (some (.int (nI t))) mi ml mr) := by
  obtain ⟨⟨e0, e2, e3, e4⟩, hLo, hLg⟩ := id hZ
  obtain ⟨h5, h7, h6, hs1, hs2, hLp, hLt⟩ := id hLo
  refine fc_met rfl (Nat.le_of_ble_eq_true rfl) (fc_run oX11_things (fun _ => false) 400 ?_)
  refine And.intro rfl (Exists.intro _ (And.intro (hW 252 10 258 rfl) ?_))
  refine Exists.intro _ (Exists.intro _ (And.intro rfl (And.intro (fc_ixn (fc_nl 3) (by omega) (by decide)) ?_)))
  exact ⟨by rw [e3], rfl, rfl, rfl⟩
end
section
variable {E : fc_E} {d : Nat} {mi : fc_Mi} {ml : fc_Ml} {mr : fc_Mr} {B n m t sm : Nat} {L σ : fc_Mi}
theorem c_zper1_0 (hW : fc_Wd mr) (hZ : rz mi n m t sm L) {x : Int32} {p : Nat} (hx : x = nI p) (hp : p < n) : fc_R E mX11_personOf d fc_sh0 [.ref 252, .int x, .int 1] mi ml mr (fc_is (some (.int (L 6 p))) mi ml mr) := by
  obtain ⟨⟨e0, e2, e3, e4⟩, hLo, hLg⟩ := id hZ
  obtain ⟨h5, h7, h6, hs1, hs2, hLp, hLt⟩ := id hLo
  refine fc_met rfl (Nat.le_of_ble_eq_true rfl) (fc_run oX11_personOf (fun _ => false) 400 ?_)
  refine And.intro rfl (Exists.intro _ (And.intro (hW 252 10 258 rfl) ?_))
  refine Exists.intro _ (Exists.intro _ (And.intro rfl (And.intro (fc_ixn (fc_na (fc_na (fc_nl 13) (fc_nm (fc_nl 3) hx)) (fc_nl 1)) (by omega) (by decide)) ?_)))
  exact ⟨by rw [(hLg.2.1 p hp).2.1]; rfl, rfl, rfl, rfl⟩
end
section
variable {E : fc_E} {d : Nat} {mi : fc_Mi} {ml : fc_Ml} {mr : fc_Mr} {B n m t sm : Nat} {L σ : fc_Mi}
theorem c_zthi1_0 (hW : fc_Wd mr) (hZ : rz mi n m t sm L) {x : Int32} {q : Nat} (hx : x = nI q) (hq : q < t) : fc_R E mX11_thingOf d fc_sh0 [.ref 252, .int x, .int 1] mi ml mr (fc_is (some (.int (L 9 q))) mi ml mr) := by
  obtain ⟨⟨e0, e2, e3, e4⟩, hLo, hLg⟩ := id hZ
  obtain ⟨h5, h7, h6, hs1, hs2, hLp, hLt⟩ := id hLo
  refine fc_met rfl (Nat.le_of_ble_eq_true rfl) (fc_run oX11_thingOf (fun _ => false) 400 ?_)
  refine And.intro rfl (Exists.intro _ (And.intro (hW 252 10 258 rfl) ?_))
  refine Exists.intro _ (Exists.intro _ (And.intro rfl (And.intro (fc_ixn (fc_na (fc_na (fc_nl 28) (fc_nm (fc_nl 2) hx)) (fc_nl 1)) (by omega) (by decide)) ?_)))
  exact ⟨by rw [(hLg.2.2 q hq).2]; rfl, rfl, rfl, rfl⟩
end
section
variable {E : fc_E} {d : Nat} {mi : fc_Mi} {ml : fc_Ml} {mr : fc_Mr} {B n m t sm : Nat} {L σ : fc_Mi}
theorem l_rstarts3_0 (hW : fc_Wd mr) (hZ : rz mi n m t sm L) {y : Int32} (hy : y = nI B) (hB : B ≤ 1408) : ∀ (j i : Nat) (c : Int32) (r : Nat → Int32), i + j = t → c = nI i → as_ag n t (st_b L n i) (rv r B) → (∀ j, (j < B ∨ B + 39 ≤ j) → r j = mi 268 j) → fc_T E mX11_starts (d + 1) (0, 0) fc_sh0 71 [some (.ref 252), some (.int y), some (.int c)] [] (fc_ur mi 268 r) ml mr (rq B n t none (as_beg L) mi ml mr) := by
  intro j
  induction j with
  | zero =>
    intro i c r hi hc hg hr
    subst hc
    obtain ⟨⟨e0, e2, e3, e4⟩, hLo, hLg⟩ := id hZ
    obtain ⟨h5, h7, h6, hs1, hs2, hLp, hLt⟩ := id hLo
    refine fc_run oX11_starts (fun pc => pc == 71) 400 ?_
    refine And.intro rfl (Exists.intro _ (And.intro (c_zthings_0 hW (hZ.off (by rfl))) ?_))
    rintro _ _ _ _ ⟨rfl, rfl, rfl, rfl⟩
    refine And.intro (fun h76 => ?_) (fun h76 => ?_)
    · refine ⟨rfl, ?_, rf_row hr, rfl, rfl⟩
      rw [show i = t by omega] at hg
      exact (st_b_ag L).tr hg
    · exact absurd (nI_le (by omega) (by omega)) h76
  | succ j ih =>
    intro i c r hi hc hg hr
    subst hc
    obtain ⟨⟨e0, e2, e3, e4⟩, hLo, hLg⟩ := id hZ
    obtain ⟨h5, h7, h6, hs1, hs2, hLp, hLt⟩ := id hLo
    refine fc_run oX11_starts (fun pc => pc == 71) 400 ?_
    refine And.intro rfl (Exists.intro _ (And.intro (c_zthings_0 hW (hZ.off (by rfl))) ?_))
    rintro _ _ _ _ ⟨rfl, rfl, rfl, rfl⟩
    refine And.intro (fun h76 => ?_) (fun h76 => ?_)
    · exact absurd h76 (nI_ge (by omega) (by omega))
    · refine And.intro rfl (Exists.intro _ (And.intro (hW 252 24 268 rfl) ?_))
      refine And.intro rfl (Exists.intro _ (And.intro (c_zthi1_0 hW (hZ.off (by rfl)) rfl (by omega)) ?_))
      rintro _ _ _ _ ⟨rfl, rfl, rfl, rfl⟩
      refine Exists.intro _ (Exists.intro _ (And.intro rfl (And.intro (fc_ixn (fc_na (fc_na hy (fc_nl 12)) rfl) (by omega) (by decide)) ?_)))
      refine And.intro rfl (Exists.intro _ (And.intro (hW 252 24 268 rfl) ?_))
      refine And.intro rfl (Exists.intro _ (And.intro (c_zthi1_0 hW (hZ.off (by rfl)) rfl (by omega)) ?_))
      rintro _ _ _ _ ⟨rfl, rfl, rfl, rfl⟩
      refine Exists.intro _ (Exists.intro _ (And.intro rfl (And.intro (fc_ixn (fc_na (fc_na hy (fc_nl 18)) rfl) (by omega) (by decide)) ?_)))
      rw [fc_u_ur, fc_u_ur]
      refine ih (i + 1) _ _ (by omega) (fc_inc i) ?_ (fun j q => ?_)
      · rw [← st_b_t]
        exact ag_u7 h5 h6 (by omega) (ag_u6 h5 h6 (by omega) hg)
      · rw [if_neg (by omega), if_neg (by omega)]; exact hr j q
end
section
variable {E : fc_E} {d : Nat} {mi : fc_Mi} {ml : fc_Ml} {mr : fc_Mr} {B n m t sm : Nat} {L σ : fc_Mi}
theorem l_rstarts2_0 (hW : fc_Wd mr) (hZ : rz mi n m t sm L) {y : Int32} (hy : y = nI B) (hB : B ≤ 1408) : ∀ (j i : Nat) (c : Int32) (r : Nat → Int32), i + j = n → c = nI i → as_ag n t (st_b L i 0) (rv r B) → (∀ j, (j < B ∨ B + 39 ≤ j) → r j = mi 268 j) → fc_T E mX11_starts (d + 1) (0, 0) fc_sh0 25 [some (.ref 252), some (.int y), some (.int c)] [] (fc_ur mi 268 r) ml mr (rq B n t none (as_beg L) mi ml mr) := by
  intro j
  induction j with
  | zero =>
    intro i c r hi hc hg hr
    subst hc
    obtain ⟨⟨e0, e2, e3, e4⟩, hLo, hLg⟩ := id hZ
    obtain ⟨h5, h7, h6, hs1, hs2, hLp, hLt⟩ := id hLo
    refine fc_run oX11_starts (fun pc => pc == 25 || pc == 71) 400 ?_
    refine And.intro rfl (Exists.intro _ (And.intro (c_zpersons_0 hW (hZ.off (by rfl))) ?_))
    rintro _ _ _ _ ⟨rfl, rfl, rfl, rfl⟩
    refine And.intro (fun h30 => ?_) (fun h30 => ?_)
    · rw [show i = n by omega] at hg
      exact l_rstarts3_0 hW hZ hy hB t 0 _ _ (by omega) rfl hg hr
    · exact absurd (nI_le (by omega) (by omega)) h30
  | succ j ih =>
    intro i c r hi hc hg hr
    subst hc
    obtain ⟨⟨e0, e2, e3, e4⟩, hLo, hLg⟩ := id hZ
    obtain ⟨h5, h7, h6, hs1, hs2, hLp, hLt⟩ := id hLo
    refine fc_run oX11_starts (fun pc => pc == 25 || pc == 71) 400 ?_
    refine And.intro rfl (Exists.intro _ (And.intro (c_zpersons_0 hW (hZ.off (by rfl))) ?_))
    rintro _ _ _ _ ⟨rfl, rfl, rfl, rfl⟩
    refine And.intro (fun h30 => ?_) (fun h30 => ?_)
    · exact absurd h30 (nI_ge (by omega) (by omega))
    · refine And.intro rfl (Exists.intro _ (And.intro (hW 252 24 268 rfl) ?_))
      refine And.intro rfl (Exists.intro _ (And.intro (c_zper1_0 hW (hZ.off (by rfl)) rfl (by omega)) ?_))
      rintro _ _ _ _ ⟨rfl, rfl, rfl, rfl⟩
      refine Exists.intro _ (Exists.intro _ (And.intro rfl (And.intro (fc_ixn (fc_na (fc_na hy (fc_nl 2)) rfl) (by omega) (by decide)) ?_)))
      refine And.intro rfl (Exists.intro _ (And.intro (hW 252 24 268 rfl) ?_))
      refine Exists.intro _ (Exists.intro _ (And.intro rfl (And.intro (fc_ixn (fc_na (fc_na hy (fc_nl 34)) rfl) (by omega) (by decide)) ?_)))
      rw [fc_u_ur, fc_u_ur]
      refine ih (i + 1) _ _ (by omega) (fc_inc i) ?_ (fun j q => ?_)
      · rw [← st_b_p]
        exact ag_u3 h5 h6 (by omega) (ag_u1 h5 h6 (by omega) hg)
      · rw [if_neg (by omega), if_neg (by omega)]; exact hr j q
end
section
variable {E : fc_E} {d : Nat} {mi : fc_Mi} {ml : fc_Ml} {mr : fc_Mr} {B n m t sm : Nat} {L σ : fc_Mi}
theorem l_rstarts1_0 (hW : fc_Wd mr) (hZ : rz mi n m t sm L) {y : Int32} (hy : y = nI B) (hB : B ≤ 1408) : ∀ (j i : Nat) (c : Int32) (r : Nat → Int32), i + j = 39 → c = nI i → (∀ j, B ≤ j → j < B + i → r j = 0) → (∀ j, (j < B ∨ B + 39 ≤ j) → r j = mi 268 j) → fc_T E mX11_starts (d + 1) (0, 0) fc_sh0 2 [some (.ref 252), some (.int y), some (.int c)] [] (fc_ur mi 268 r) ml mr (rq B n t none (as_beg L) mi ml mr) := by
  intro j
  induction j with
  | zero =>
    intro i c r hi hc hg hr
    subst hc
    obtain ⟨⟨e0, e2, e3, e4⟩, hLo, hLg⟩ := id hZ
    obtain ⟨hn5, h7, ht6, hs1, hs2, hLp, hLt⟩ := id hLo
    refine fc_run oX11_starts (fun pc => pc == 2 || pc == 25) 400 ?_
    refine And.intro (fun h5 => ?_) (fun h5 => ?_)
    · have hz : as_ag n t (st_b L 0 0) (rv r B) := by
        have g : ∀ j, B ≤ j → j < B + 39 → r j = 0 := fun j q1 q2 => hg j q1 (by omega)
        refine ⟨⟨?_, ?_⟩, fun p hp => ⟨?_, ?_, ?_, ?_, ?_⟩, fun q hq => ⟨?_, ?_⟩⟩
        · exact (g (B + 0) (by omega) (by omega)).symm
        · exact (g (B + 1) (by omega) (by omega)).symm
        · exact (g (B + 2 + p) (by omega) (by omega)).symm
        · exact (g (B + 7 + p) (by omega) (by omega)).symm
        · exact (g (B + 34 + p) (by omega) (by omega)).symm
        · exact (g (B + 24 + p) (by omega) (by omega)).symm
        · exact (g (B + 29 + p) (by omega) (by omega)).symm
        · exact (g (B + 12 + q) (by omega) (by omega)).symm
        · exact (g (B + 18 + q) (by omega) (by omega)).symm
      exact l_rstarts2_0 hW hZ hy hB n 0 _ _ (by omega) rfl hz hr
    · exact absurd (nI_le (a := 39) (b := i) (by omega) (by omega)) h5
  | succ j ih =>
    intro i c r hi hc hg hr
    subst hc
    obtain ⟨⟨e0, e2, e3, e4⟩, hLo, hLg⟩ := id hZ
    obtain ⟨hn5, h7, ht6, hs1, hs2, hLp, hLt⟩ := id hLo
    refine fc_run oX11_starts (fun pc => pc == 2 || pc == 25) 400 ?_
    refine And.intro (fun h5 => ?_) (fun h5 => ?_)
    · exact absurd h5 (nI_ge (a := i) (b := 39) (by omega) (by omega))
    · refine And.intro rfl (Exists.intro _ (And.intro (hW 252 24 268 rfl) ?_))
      refine Exists.intro _ (Exists.intro _ (And.intro rfl (And.intro (fc_ixn (fc_na hy rfl) (by omega) (by decide)) ?_)))
      rw [fc_u_ur]
      refine ih (i + 1) _ _ (by omega) (fc_inc i) (fun j q1 q2 => ?_) (fun j q => ?_)
      · by_cases e : j = B + i
        · rw [if_pos e]
        · rw [if_neg e]; exact hg j q1 (by omega)
      · rw [if_neg (by omega)]; exact hr j q
end
section
variable {E : fc_E} {d : Nat} {mi : fc_Mi} {ml : fc_Ml} {mr : fc_Mr} {B n m t sm : Nat} {L σ : fc_Mi}
theorem c_rstarts_0 (hW : fc_Wd mr) (hZ : rz mi n m t sm L) {y : Int32} (hy : y = nI B) (hB : B ≤ 1408) : fc_R E mX11_starts (d + 1) fc_sh0 [.ref 252, .int y] mi ml mr (rq B n t none (as_beg L) mi ml mr) := by
  refine fc_met rfl (Nat.le_of_ble_eq_true rfl) (fc_run oX11_starts (fun pc => pc == 2) 400 ?_)
  have h := l_rstarts1_0 (E := E) (d := d) (ml := ml) hW hZ hy hB 39 0 _ (mi 268) (by omega) rfl (fun j q1 q2 => absurd q2 (by omega)) (fun j _ => rfl)
  rw [fc_ur_self] at h
  exact h
end
section
variable {E : fc_E} {d : Nat} {mi : fc_Mi} {ml : fc_Ml} {mr : fc_Mr} {a n m t sm : Nat} {x : Int32} {L : fc_Mi}
theorem l_rsaa_0 (hW : fc_Wd mr) (hx : x = nI a) (ha : a ≤ 50) : ∀ (j i : Nat) (c : Int32) (M : fc_Mi), i + j = 50 → c = nI i → (∀ y, y ≠ 258 → M y = mi y) → (∀ k, (k < a ∨ a + 50 ≤ k) → M 258 k = mi 258 k) → (∀ k, k < i → M 258 (a + k) = 0) → fc_T E mX11_standsAsAlways d (0, 0) fc_sh0 2 [some (.ref 252), some (.int x), some (.int c)] [] M ml mr (fun v mi' ml' mr' => v = none ∧ ml = ml' ∧ mr = mr' ∧ (∀ y, y ≠ 258 → mi' y = mi y) ∧ (∀ k, (k < a ∨ a + 50 ≤ k) → mi' 258 k = mi 258 k) ∧ mi' 258 (a + 4) = 30 ∧ mi' 258 (a + 5) = -1 ∧ ∀ k, k < 50 → k ≠ 4 → k ≠ 5 → mi' 258 (a + k) = 0) := by
  intro j
  induction j with
  | zero =>
    intro i c M hi hc h1 h2 h3
    subst hc
    refine fc_run oX11_standsAsAlways (fun pc => pc == 2) 400 ?_
    refine And.intro (fun h5 => ?_) (fun h5 => ?_)
    · refine And.intro rfl (Exists.intro _ (And.intro (hW 252 10 258 rfl) ?_))
      refine Exists.intro _ (Exists.intro _ (And.intro rfl (And.intro (fc_ixn (fc_na hx (fc_nl 4)) (by omega) (by decide)) ?_)))
      refine And.intro rfl (Exists.intro _ (And.intro (hW 252 10 258 rfl) ?_))
      refine Exists.intro _ (Exists.intro _ (And.intro rfl (And.intro (fc_ixn (fc_na hx (fc_nl 5)) (by omega) (by decide)) ?_)))
      refine ⟨rfl, rfl, rfl, fun y q => ?_, fun k q => ?_, ?_, ?_, fun k q1 q2 q3 => ?_⟩
      · rw [fc_u_off _ _ _ q, fc_u_off _ _ _ q]; exact h1 y q
      · rw [fc_u_nj _ _ _ _ (by omega), fc_u_nj _ _ _ _ (by omega)]; exact h2 k q
      · rw [fc_u_nj _ _ _ _ (by omega)]; exact fc_u_at _ _ _ _
      · exact fc_u_at _ _ _ _
      · rw [fc_u_nj _ _ _ _ (by omega), fc_u_nj _ _ _ _ (by omega)]; exact h3 k (by omega)
    · exact absurd (nI_le (a := 50) (b := i) (by omega) (by omega)) h5
  | succ j ih =>
    intro i c M hi hc h1 h2 h3
    subst hc
    refine fc_run oX11_standsAsAlways (fun pc => pc == 2) 400 ?_
    refine And.intro (fun h5 => ?_) (fun h5 => ?_)
    · exact absurd h5 (nI_ge (a := i) (b := 50) (by omega) (by omega))
    · refine And.intro rfl (Exists.intro _ (And.intro (hW 252 10 258 rfl) ?_))
      refine Exists.intro _ (Exists.intro _ (And.intro rfl (And.intro (fc_ixn (fc_na hx rfl) (by omega) (by decide)) ?_)))
      refine ih (i + 1) _ _ (by omega) (fc_inc i) (fun y q => ?_) (fun k q => ?_) (fun k q => ?_)
      · rw [fc_u_off _ _ _ q]; exact h1 y q
      · rw [fc_u_nj _ _ _ _ (by omega)]; exact h2 k q
      · by_cases e : k = i
        · rw [e]; exact fc_u_at _ _ _ _
        · rw [fc_u_nj _ _ _ _ (by omega)]; exact h3 k (by omega)
end
section
variable {E : fc_E} {d : Nat} {mi : fc_Mi} {ml : fc_Ml} {mr : fc_Mr} {a n m t sm : Nat} {x : Int32} {L : fc_Mi}
theorem c_rsaa_0 (hW : fc_Wd mr) (hx : x = nI a) (ha : a ≤ 50) : fc_R E mX11_standsAsAlways d fc_sh0 [.ref 252, .int x] mi ml mr (fun v mi' ml' mr' => v = none ∧ ml = ml' ∧ mr = mr' ∧ (∀ y, y ≠ 258 → mi' y = mi y) ∧ (∀ k, (k < a ∨ a + 50 ≤ k) → mi' 258 k = mi 258 k) ∧ mi' 258 (a + 4) = 30 ∧ mi' 258 (a + 5) = -1 ∧ ∀ k, k < 50 → k ≠ 4 → k ≠ 5 → mi' 258 (a + k) = 0) := by
  refine fc_met rfl (Nat.le_of_ble_eq_true rfl) (fc_run oX11_standsAsAlways (fun pc => pc == 2) 400 ?_)
  exact l_rsaa_0 hW hx ha 50 0 _ _ (by omega) rfl (fun _ _ => rfl) (fun _ _ => rfl) (fun k q => absurd q (Nat.not_lt_zero k))
end
section
variable {E : fc_E} {d : Nat} {mi : fc_Mi} {ml : fc_Ml} {mr : fc_Mr} {a n m t sm : Nat} {x : Int32} {L : fc_Mi}
theorem l_rbegins_0 (hW : fc_Wd mr) : ∀ (j i : Nat) (c : Int32) (M : fc_Mi), i + j = 4 → c = nI i → as_ag n t (as_beg L) (rv (M 268) 0) → M 268 39 = 0 → M 265 0 = 0 → M 252 25 = 0 → (∀ j, j < i → M 269 j = 0) → (∀ x, x ≠ 252 → x ≠ 265 → x ≠ 266 → x ≠ 267 → x ≠ 268 → x ≠ 269 → x ≠ 270 → M x = mi x) → (∀ k, k ≠ 25 → M 252 k = mi 252 k) → fc_T E mX11_begins d (0, 0) fc_sh0 27 [some (.ref 252), some (.int c)] [] M ml mr (fun v mi' ml' mr' => v = none ∧ ml = ml' ∧ mr = mr' ∧ rbg n t L mi mi') := by
  intro j
  induction j with
  | zero =>
    intro i c M hi hc h1 h2 h3 h4 h5 h6 h7
    subst hc
    refine fc_run oX11_begins (fun pc => pc == 27) 400 ?_
    refine And.intro (fun h29 => ?_) (fun h29 => ?_)
    · exact ⟨rfl, rfl, rfl, h1, h2, h3, h4, fun j q => h5 j (by omega), h6, h7⟩
    · exact absurd (nI_le (a := 4) (b := i) (by omega) (by omega)) h29
  | succ j ih =>
    intro i c M hi hc h1 h2 h3 h4 h5 h6 h7
    subst hc
    refine fc_run oX11_begins (fun pc => pc == 27) 400 ?_
    refine And.intro (fun h29 => ?_) (fun h29 => ?_)
    · exact absurd h29 (nI_ge (a := i) (b := 4) (by omega) (by omega))
    · refine And.intro rfl (Exists.intro _ (And.intro (hW 252 26 269 rfl) ?_))
      refine Exists.intro _ (Exists.intro _ (And.intro rfl (And.intro (fc_ixn rfl (by omega) (by decide)) ?_)))
      refine ih (i + 1) _ _ (by omega) (fc_inc i) h1 h2 h3 h4 (fun k q => ?_) (fun x q1 q2 q3 q4 q5 q6 q7 => ?_) h7
      · by_cases e : k = i
        · rw [e]; exact (fc_u_at _ _ _ _).trans (by decide)
        · rw [fc_u_nj _ _ _ _ e]; exact h5 k (by omega)
      · rw [fc_u_off _ _ _ q6]; exact h6 x q1 q2 q3 q4 q5 q6 q7
end
section
variable {E : fc_E} {d : Nat} {mi : fc_Mi} {ml : fc_Ml} {mr : fc_Mr} {a n m t sm : Nat} {x : Int32} {L : fc_Mi}
theorem c_rbegins_0 (hW : fc_Wd mr) (hZ : rz mi n m t sm L) : fc_R E mX11_begins (d + 2) fc_sh0 [.ref 252] mi ml mr (fun v mi' ml' mr' => v = none ∧ ml = ml' ∧ mr = mr' ∧ rbg n t L mi mi') := by
  refine fc_met rfl (Nat.le_of_ble_eq_true rfl) (fc_run oX11_begins (fun pc => pc == 27) 400 ?_)
  refine And.intro rfl (Exists.intro _ (And.intro (c_rstarts_0 hW hZ (B := 0) rfl (by omega)) ?_))
  rintro _ m1 _ _ ⟨rfl, g1, g2, rfl, rfl⟩
  refine And.intro rfl (Exists.intro _ (And.intro (hW 252 24 268 rfl) ?_))
  refine Exists.intro _ (Exists.intro _ (And.intro rfl (And.intro (fc_ixn (fc_nl 39) (by omega) (by decide)) ?_)))
  refine And.intro rfl (Exists.intro _ (And.intro (hW 252 21 265 rfl) ?_))
  refine Exists.intro _ (Exists.intro _ (And.intro rfl (And.intro (fc_ixn (fc_nl 0) (by omega) (by decide)) ?_)))
  refine And.intro rfl ?_
  have hLo := hZ.2.1
  refine l_rbegins_0 hW 4 0 _ _ (by omega) rfl ?_ rfl rfl rfl (fun j q => absurd q (Nat.not_lt_zero j)) (fun x q1 q2 q3 q4 q5 q6 q7 => ?_) (fun k q => ?_)
  · refine g1.tr ?_
    obtain ⟨hn5, -, ht6, -⟩ := hLo
    have e : ∀ j, j ≠ 39 → (fc_u (fc_u (fc_u m1 268 39 0) 265 0 0) 252 25 0) 268 j = m1 268 j := fun j q => by
      rw [fc_u_off _ _ _ (by decide), fc_u_off _ _ _ (by decide), fc_u_nj _ _ _ _ q]
    refine ⟨⟨(e (0 + 0) (by omega)).symm, (e (0 + 1) (by omega)).symm⟩, fun p hp => ⟨(e (0 + 2 + p) (by omega)).symm, (e (0 + 7 + p) (by omega)).symm, (e (0 + 34 + p) (by omega)).symm, (e (0 + 24 + p) (by omega)).symm, (e (0 + 29 + p) (by omega)).symm⟩, fun q hq => ⟨(e (0 + 12 + q) (by omega)).symm, (e (0 + 18 + q) (by omega)).symm⟩⟩
  · rw [fc_u_off _ _ _ q1, fc_u_off _ _ _ q2, fc_u_off _ _ _ q5]; exact g2.1 x q3 q4 q5 q7
  · rw [fc_u_nj _ _ _ _ q]; exact congrFun (g2.1 252 (by decide) (by decide) (by decide) (by decide)) k
end
