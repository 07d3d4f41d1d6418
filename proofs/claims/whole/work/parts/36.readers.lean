/-! ===== the class's readers of lines ===== -/
section M36
variable {E : fc_E} {d : Nat} {mi : fc_Mi} {ml : fc_Ml} {mr : fc_Mr} {s : Nat → Int32} {n i b : Nat}
theorem fc_b01 {k : Nat} (h : k ≤ 1) : nI k = fc_b (decide (k = 1)) := by
  rcases Nat.le_one_iff_eq_zero_or_eq_one.mp h with rfl | rfl <;> rfl
theorem fc_RC.path {A : fc_Ab} (h : fc_RC A mi ml b) (hb : 200 ≤ b) {p z : Nat} (hp : p < 7) (hz : z < 7) : fc_RC (fc_an A.1 1 (A.1 1 + 1), ps_two A.2.1 (nI p) (nI z), A.2.2) (fc_u (fc_u (fc_u mi (b + 4) p (mi (b + 4) p ||| (1 : Int32) <<< (nI z &&& 31))) (b + 4) z ((fc_u mi (b + 4) p (mi (b + 4) p ||| (1 : Int32) <<< (nI z &&& 31))) (b + 4) z ||| (1 : Int32) <<< (nI p &&& 31))) b 11 ((fc_u (fc_u mi (b + 4) p (mi (b + 4) p ||| (1 : Int32) <<< (nI z &&& 31))) (b + 4) z ((fc_u mi (b + 4) p (mi (b + 4) p ||| (1 : Int32) <<< (nI z &&& 31))) (b + 4) z ||| (1 : Int32) <<< (nI p &&& 31))) b 11 + 1)) ml b := by
  obtain ⟨⟨a1, a2, a3, a4, a5⟩, ⟨b1, b2, b3⟩, ⟨c1, c2, c3, c4⟩, ⟨d1, d2, d3⟩⟩ := h
  have hb3 : ¬ 3 = b := by omega
  have hb4 : ¬ 3 = b + 4 := by omega
  have e1 : nI (A.1 1) + 1 = nI (A.1 1 + 1) := nI_1 _
  unfold ps_two
  rw [nI_clamp (show p < 2 ^ 31 by omega), nI_clamp (show z < 2 ^ 31 by omega)]
  refine ⟨⟨?_, ?_, ?_, ?_, ?_⟩, ⟨?_, ?_, ?_⟩, ⟨?_, ?_, ?_, ?_⟩, ?_, ?_, ?_⟩
  · simp [fc_u, fc_an, a1]
  · simp [fc_u, fc_an, a2, e1]
  · simp [fc_u, fc_an, a3]
  · simp [fc_u, fc_an, a4]
  · simp [fc_u, a5]
  · simp [fc_u, fc_an, hb3, hb4, b1]
  · simp [fc_u, fc_an, hb3, hb4, b2]
  · simp [fc_u, fc_an, b3]
  · intro j hj
    have e2 := c1 p hp
    have e3 := c1 z hz
    have e4 := c1 j hj
    simp [fc_u]
    by_cases q : j = z
    · subst q
      by_cases q2 : j = p
      · subst q2; simp [e2]
      · simp [q2, e3]
    · by_cases q2 : j = p
      · subst q2; simp [q, e2]
      · simp [q, q2, e4]
  · intro j hj
    have e2 := c2 j hj
    simp [fc_u, e2]
  · intro j hj
    have e2 := c3 j hj
    simp [fc_u, e2]
  · intro j hj
    have e2 := c4 j hj
    simp [fc_u, e2]
  · exact d1
  · exact d2
  · exact d3
theorem c_readPlace (hW : fc_Wd mr) (hL : fc_L mr b) (hb : 200 ≤ b) {A : fc_Ab} (hB : fc_AB A) (hR : fc_RC A mi ml b) (hk : fc_Tk s mi ml n i) : fc_R E mX1_readPlace (d + 8) fc_sh [.ref 3, .ref 1, .ref b] mi ml mr (fc_pr s n b mi ml mr (ps_place s n A i)) := by
  obtain ⟨hB0, hB1, hB2, hB3, hB4, hB5, hB6⟩ := id hB
  have F0 := fc_Fm.rf (b := b) (mi := mi) (ml := ml)
  refine fc_met rfl (Nat.le_of_ble_eq_true rfl) (fc_run oX1_readPlace (fun _ => false) 400 ?_)
  refine And.intro (fc_L_0 hL) ?_
  rw [hR.1.1]
  refine And.intro (fun h6 => ?_) (fun h6 => ?_)
  · have q6 : A.1 0 < 7 := (nI_ltI (by omega) (by omega)).mp (show nI (A.1 0) < nI 7 from h6)
    refine And.intro rfl (Exists.intro _ (And.intro (c_next hW hk) ?_))
    rintro _ m16 l16 _ ⟨rfl, rfl, t16, k16⟩
    have R16 := hR.tm hb t16
    have F16 := F0.tm t16
    refine Exists.intro _ (And.intro (c_newName hW k16 hL (R16.ln hB)) ?_)
    rintro _ m21 l21 _ ⟨z21, rfl, rfl, y21, n21⟩
    refine And.intro (fun h24 => ?_) (fun h24 => ?_)
    · replace h24 := fc_b0.mp h24
      refine And.intro (by first | exact Or.inl rfl | exact Or.inr rfl | exact fc_bb _ | assumption) ?_
      obtain ⟨f, ff, ⟨g1, g2⟩ | ⟨g1, g2, g3⟩⟩ := n21 h24
      · subst g2
        rw [ps_place, if_neg (show ¬ 7 ≤ A.1 0 by omega), if_neg g1]
        exact ⟨rfl, F16.ff ff, rfl, ff.2.2.2⟩
      · subst g3
        rw [ps_place, if_neg (show ¬ 7 ≤ A.1 0 by omega), if_pos g1, if_pos (show ps_tl A (tW s n (i + 1)) = true from by rw [← R16.tl]; exact g2)]
        exact ⟨rfl, F16.ff ff, rfl, ff.2.2.2⟩
    · replace h24 := fc_b1.mp h24
      obtain ⟨g1, g2, rfl, rfl⟩ := y21 h24
      refine And.intro (fc_L_0 hL) (Exists.intro _ (And.intro (fc_L_r0 hL) ?_))
      refine And.intro (fc_L_0 hL) ?_
      rw [R16.1.1]
      refine And.intro rfl ?_
      rw [k16.2.2.2.2.2.2.2 g1]
      refine Exists.intro _ (Exists.intro _ (And.intro (fc_L_1 hL) (And.intro (fc_ix_nI (p := A.1 0) (by omega) (by omega)) ?_)))
      refine And.intro (fc_L_0 hL) ?_
      rw [R16.1.1]
      refine And.intro (fc_L_0 hL) ?_
      refine And.intro rfl (Exists.intro _ (And.intro (c_next hW (k16.off (fc_u_off _ _ _ (by omega)) (fc_u_off _ _ _ (by omega)) (fc_u_off _ _ _ (by omega)))) ?_))
      rintro _ m53 l53 _ ⟨rfl, rfl, t53, k53⟩
      refine And.intro (by first | exact Or.inl rfl | exact Or.inr rfl | exact fc_bb _ | assumption) ?_
      rw [ps_place, if_neg (show ¬ 7 ≤ A.1 0 by omega), if_pos g1, if_neg (show ¬ ps_tl A (tW s n (i + 1)) = true from by rw [← R16.tl, g2]; decide)]
      have R := R16.place hb (tW s n (i + 1))
      rw [← nI_1] at R
      exact ⟨rfl, ((F16.ul ⟨by omega, by omega⟩).u (Or.inr ⟨by omega, by omega⟩) hb).tm t53, rfl, R.tm hb t53, k53⟩
  · have q6 : 7 ≤ A.1 0 := by
      rcases Nat.lt_or_ge (A.1 0) 7 with q | q
      · exact absurd (show nI (A.1 0) < 7 from nI_lt (b := 7) q (by omega)) h6
      · exact q
    refine And.intro rfl (Exists.intro _ (And.intro (c_failk hW hk 5) ?_))
    rintro _ m11 l11 _ ⟨rfl, rfl, ff11⟩
    refine And.intro (by first | exact Or.inl rfl | exact Or.inr rfl | exact fc_bb _ | assumption) ?_
    rw [ps_place, if_pos q6]
    exact ⟨rfl, F0.ff ff11, rfl, ff11.2.2.2⟩

theorem c_readPath (hW : fc_Wd mr) (hL : fc_L mr b) (hb : 200 ≤ b) {A : fc_Ab} (hB : fc_AB A) (hR : fc_RC A mi ml b) (hk : fc_Tk s mi ml n i) : fc_R E mX1_readPath (d + 8) fc_sh [.ref 3, .ref 1, .ref b] mi ml mr (fc_pr s n b mi ml mr (ps_path s n A i)) := by
  obtain ⟨hB0, hB1, hB2, hB3, hB4, hB5, hB6⟩ := id hB
  have F0 := fc_Fm.rf (b := b) (mi := mi) (ml := ml)
  refine fc_met rfl (Nat.le_of_ble_eq_true rfl) (fc_run oX1_readPath (fun _ => false) 400 ?_)
  refine And.intro (fc_L_0 hL) ?_
  rw [hR.1.2.1]
  refine And.intro (fun h6 => ?_) (fun h6 => ?_)
  · have q6 : A.1 1 < 10 := (nI_ltI (by omega) (by omega)).mp (show nI (A.1 1) < nI 10 from h6)
    refine And.intro rfl (Exists.intro _ (And.intro (c_next hW hk) ?_))
    rintro _ m16 l16 _ ⟨rfl, rfl, t16, k16⟩
    have R16 := hR.tm hb t16
    have F16 := F0.tm t16
    refine And.intro (fc_L_0 hL) (Exists.intro _ (And.intro (fc_L_r0 hL) ?_))
    refine And.intro (fc_L_0 hL) ?_
    rw [R16.1.1]
    refine And.intro rfl (Exists.intro _ (And.intro (c_knownk hW k16 (fc_L_1 hL) hB0 (by omega)) ?_))
    rintro _ m28 l28 _ ⟨x1, rfl, rfl, y28, n28⟩
    refine And.intro (fun h34 => ?_) (fun h34 => ?_)
    · refine And.intro (by first | exact Or.inl rfl | exact Or.inr rfl | exact fc_bb _ | assumption) ?_
      obtain ⟨f, ff, ⟨g1, g2⟩ | ⟨g1, g2, g3⟩⟩ := n28 h34
      · subst g2
        rw [ps_path, if_neg (show ¬ 10 ≤ A.1 1 by omega), if_neg g1]
        exact ⟨rfl, F16.ff ff, rfl, ff.2.2.2⟩
      · subst g3
        rw [R16.p] at g2
        rw [ps_path, if_neg (show ¬ 10 ≤ A.1 1 by omega), if_pos g1, if_pos g2]
        exact ⟨rfl, F16.ff ff, rfl, ff.2.2.2⟩
    · obtain ⟨g28, ex28, rfl, rfl⟩ := y28 h34
      rw [R16.p] at ex28
      obtain ⟨p1, _, hp28, hq28, _⟩ := sp_fi_r _ _ (ex28 ▸ h34)
      obtain rfl : x1 = nI p1 := ex28.trans hq28
      replace ex28 := ex28.symm
      refine And.intro rfl (Exists.intro _ (And.intro (c_next hW k16) ?_))
      rintro _ m40 l40 _ ⟨rfl, rfl, t40, k40⟩
      have R40 := R16.tm hb t40
      have F40 := F16.tm t40
      refine And.intro (fc_L_0 hL) (Exists.intro _ (And.intro (fc_L_r0 hL) ?_))
      refine And.intro (fc_L_0 hL) ?_
      rw [R40.1.1]
      refine And.intro rfl (Exists.intro _ (And.intro (c_knownk hW k40 (fc_L_1 hL) hB0 (by omega)) ?_))
      rintro _ m52 l52 _ ⟨x2, rfl, rfl, y52, n52⟩
      refine And.intro (fun h60 => ?_) (fun h60 => ?_)
      · refine And.intro (by first | exact Or.inl rfl | exact Or.inr rfl | exact fc_bb _ | assumption) ?_
        obtain ⟨f, ff, ⟨g1, g2⟩ | ⟨g1, g2, g3⟩⟩ := n52 h60
        · subst g2
          rw [ps_path, if_neg (show ¬ 10 ≤ A.1 1 by omega), if_pos g28, if_neg (show ¬ sp_fi (A.2.2 1) (tW s n (i + 1)) (A.1 0) 0 = -1 from by rw [ex28]; exact h34), if_neg g1]
          exact ⟨rfl, F40.ff ff, rfl, ff.2.2.2⟩
        · subst g3
          rw [R40.p] at g2
          rw [ps_path, if_neg (show ¬ 10 ≤ A.1 1 by omega), if_pos g28, if_neg (show ¬ sp_fi (A.2.2 1) (tW s n (i + 1)) (A.1 0) 0 = -1 from by rw [ex28]; exact h34), if_pos g1, if_pos g2]
          exact ⟨rfl, F40.ff ff, rfl, ff.2.2.2⟩
      · obtain ⟨g52, ex52, rfl, rfl⟩ := y52 h60
        rw [R40.p] at ex52
        obtain ⟨p2, _, hp52, hq52, _⟩ := sp_fi_r _ _ (ex52 ▸ h60)
        obtain rfl : x2 = nI p2 := ex52.trans hq52
        replace ex52 := ex52.symm
        refine And.intro (fun h68 => ?_) (fun h68 => ?_)
        · refine And.intro rfl (Exists.intro _ (And.intro (c_failk hW k40 3) ?_))
          rintro _ m87 l87 _ ⟨rfl, rfl, ff87⟩
          refine And.intro (by first | exact Or.inl rfl | exact Or.inr rfl | exact fc_bb _ | assumption) ?_
          rw [ps_path, if_neg (show ¬ 10 ≤ A.1 1 by omega), if_pos g28, if_neg (show ¬ sp_fi (A.2.2 1) (tW s n (i + 1)) (A.1 0) 0 = -1 from by rw [ex28]; exact h34), if_pos g52, if_neg (show ¬ sp_fi (A.2.2 1) (tW s n (i + 2)) (A.1 0) 0 = -1 from by rw [ex52]; exact h60), ex28, ex52, if_pos h68]
          exact ⟨rfl, F40.ff ff87, rfl, ff87.2.2.2⟩
        · refine And.intro (fc_L_0 hL) (Exists.intro _ (And.intro (fc_L_r3 hL) ?_))
          refine Exists.intro _ (Exists.intro _ (And.intro (fc_L_4 hL) (And.intro (fc_ix_nI (p := p1) (by omega) (by omega)) ?_)))
          refine Exists.intro _ (And.intro (c_isIn _ _) ?_)
          rintro _ _ _ _ ⟨rfl, rfl, rfl, rfl⟩
          refine And.intro (fun h82 => ?_) (fun h82 => ?_)
          · replace h82 := fc_b0.mp h82
            refine And.intro (fc_L_0 hL) (Exists.intro _ (And.intro (fc_L_r3 hL) ?_))
            refine Exists.intro _ (Exists.intro _ (And.intro (fc_L_4 hL) (And.intro (fc_ix_nI (p := p1) (by omega) (by omega)) ?_)))
            refine Exists.intro _ (Exists.intro _ (And.intro (fc_L_4 hL) (And.intro (fc_ix_nI (p := p1) (by omega) (by omega)) ?_)))
            refine And.intro (fc_L_0 hL) (Exists.intro _ (And.intro (fc_L_r3 hL) ?_))
            refine Exists.intro _ (Exists.intro _ (And.intro (fc_L_4 hL) (And.intro (fc_ix_nI (p := p2) (by omega) (by omega)) ?_)))
            refine Exists.intro _ (Exists.intro _ (And.intro (fc_L_4 hL) (And.intro (fc_ix_nI (p := p2) (by omega) (by omega)) ?_)))
            refine And.intro (fc_L_0 hL) ?_
            refine And.intro (fc_L_0 hL) ?_
            refine And.intro rfl (Exists.intro _ (And.intro (c_next hW (k40.off (by rw [fc_u_off _ _ _ (show (1 : Nat) ≠ b by omega), fc_u_off _ _ _ (show (1 : Nat) ≠ b + 4 by omega), fc_u_off _ _ _ (show (1 : Nat) ≠ b + 4 by omega)]) (by rw [fc_u_off _ _ _ (show (2 : Nat) ≠ b by omega), fc_u_off _ _ _ (show (2 : Nat) ≠ b + 4 by omega), fc_u_off _ _ _ (show (2 : Nat) ≠ b + 4 by omega)]) rfl)) ?_))
            rintro _ m128 l128 _ ⟨rfl, rfl, t128, k128⟩
            refine And.intro (by first | exact Or.inl rfl | exact Or.inr rfl | exact fc_bb _ | assumption) ?_
            have cp : m40 (b + 4) p1 = A.2.1 4 (nI p1).toNatClampNeg := by rw [nI_clamp (by omega)]; exact R40.2.2.1.1 p1 (by omega)
            rw [ps_path, if_neg (show ¬ 10 ≤ A.1 1 by omega), if_pos g28, if_neg (show ¬ sp_fi (A.2.2 1) (tW s n (i + 1)) (A.1 0) 0 = -1 from by rw [ex28]; exact h34), if_pos g52, if_neg (show ¬ sp_fi (A.2.2 1) (tW s n (i + 2)) (A.1 0) 0 = -1 from by rw [ex52]; exact h60), ex28, ex52, if_neg h68, if_neg (by rw [← cp, h82]; decide)]
            exact ⟨rfl, (((F40.u (Or.inr ⟨by omega, by omega⟩) hb).u (Or.inr ⟨by omega, by omega⟩) hb).u (Or.inr ⟨by omega, by omega⟩) hb).tm t128, rfl, (R40.path hb (by omega) (by omega)).tm hb t128, k128⟩
          · replace h82 := fc_b1.mp h82
            refine And.intro rfl (Exists.intro _ (And.intro (c_failk hW k40 3) ?_))
            rintro _ m87 l87 _ ⟨rfl, rfl, ff87⟩
            refine And.intro (by first | exact Or.inl rfl | exact Or.inr rfl | exact fc_bb _ | assumption) ?_
            have cp : m40 (b + 4) p1 = A.2.1 4 (nI p1).toNatClampNeg := by rw [nI_clamp (by omega)]; exact R40.2.2.1.1 p1 (by omega)
            rw [ps_path, if_neg (show ¬ 10 ≤ A.1 1 by omega), if_pos g28, if_neg (show ¬ sp_fi (A.2.2 1) (tW s n (i + 1)) (A.1 0) 0 = -1 from by rw [ex28]; exact h34), if_pos g52, if_neg (show ¬ sp_fi (A.2.2 1) (tW s n (i + 2)) (A.1 0) 0 = -1 from by rw [ex52]; exact h60), ex28, ex52, if_neg h68, if_pos (by rw [← cp]; exact h82)]
            exact ⟨rfl, F40.ff ff87, rfl, ff87.2.2.2⟩
  · have q6 : 10 ≤ A.1 1 := by
      rcases Nat.lt_or_ge (A.1 1) 10 with q | q
      · exact absurd (show nI (A.1 1) < 10 from nI_lt (b := 10) q (by omega)) h6
      · exact q
    refine And.intro rfl (Exists.intro _ (And.intro (c_failk hW hk 5) ?_))
    rintro _ m11 l11 _ ⟨rfl, rfl, ff11⟩
    refine And.intro (by first | exact Or.inl rfl | exact Or.inr rfl | exact fc_bb _ | assumption) ?_
    rw [ps_path, if_pos q6]
    exact ⟨rfl, F0.ff ff11, rfl, ff11.2.2.2⟩

theorem c_readSmoke (hW : fc_Wd mr) (hL : fc_L mr b) (hb : 200 ≤ b) {A : fc_Ab} (hB : fc_AB A) (hR : fc_RC A mi ml b) (hk : fc_Tk s mi ml n i) : fc_R E mX1_readSmoke (d + 8) fc_sh [.ref 3, .ref 1, .ref b] mi ml mr (fc_pr s n b mi ml mr (ps_smoke s n A i)) := by
  obtain ⟨hB0, hB1, hB2, hB3, hB4, hB5, hB6⟩ := id hB
  have F0 := fc_Fm.rf (b := b) (mi := mi) (ml := ml)
  refine fc_met rfl (Nat.le_of_ble_eq_true rfl) (fc_run oX1_readSmoke (fun _ => false) 400 ?_)
  refine And.intro rfl ?_
  rw [hR.2.1.1, fc_b01 hB4]
  refine And.intro (fun h4 => ?_) (fun h4 => ?_)
  · replace h4 := fc_b0.mp h4
    refine And.intro rfl (And.intro (by first | exact Or.inl rfl | exact Or.inr rfl | exact fc_bb _ | assumption) ?_)
    refine And.intro rfl (Exists.intro _ (And.intro (c_next hW (hk.off (fc_u_off _ _ _ (by decide)) (fc_u_off _ _ _ (by decide)) rfl)) ?_))
    rintro _ m19 l19 _ ⟨rfl, rfl, t19, k19⟩
    have R19 := (hR.sm0 hb).tm hb t19
    have F19 := (F0.u (Or.inl rfl) hb).tm t19
    refine And.intro rfl (Exists.intro _ (And.intro (c_isNumber hW k19 1 60) ?_))
    rintro _ m26 l26 _ ⟨z26, rfl, rfl, y26, n26⟩
    refine And.intro (fun h29 => ?_) (fun h29 => ?_)
    · replace h29 := fc_b0.mp h29
      refine And.intro (by first | exact Or.inl rfl | exact Or.inr rfl | exact fc_bb _ | assumption) ?_
      have q : A.1 4 = 0 := by have := of_decide_eq_false h4; omega
      obtain ⟨f, ff, ⟨g1, g2⟩ | ⟨g1, g2, g3⟩⟩ := n26 h29
      · subst g2
        rw [ps_smoke, if_pos q, if_neg g1]
        exact ⟨rfl, F19.ff ff, rfl, ff.2.2.2⟩
      · subst g3
        rw [ps_smoke, if_pos q, if_pos g1, if_neg (by rw [g2]; decide)]
        exact ⟨rfl, F19.ff ff, rfl, ff.2.2.2⟩
    · replace h29 := fc_b1.mp h29
      obtain ⟨g1, g2, rfl, rfl⟩ := y26 h29
      refine And.intro rfl ?_
      rw [k19.2.2.2.2.2.2.1 g1]
      refine And.intro (fc_L_0 hL) ?_
      refine And.intro rfl (Exists.intro _ (And.intro (c_next hW (k19.off (fc_u_off _ _ _ (by omega)) (fc_u_off _ _ _ (by omega)) rfl)) ?_))
      rintro _ m43 l43 _ ⟨rfl, rfl, t43, k43⟩
      refine And.intro (by first | exact Or.inl rfl | exact Or.inr rfl | exact fc_bb _ | assumption) ?_
      have q : A.1 4 = 0 := by have := of_decide_eq_false h4; omega
      rw [ps_smoke, if_pos q, if_pos g1, if_pos g2]
      exact ⟨rfl, (F19.u (Or.inr ⟨by omega, by omega⟩) hb).tm t43, rfl, (R19.sm1 hb (tN s n (i + 1))).tm hb t43, k43⟩
  · replace h4 := fc_b1.mp h4
    refine And.intro rfl (Exists.intro _ (And.intro (c_failk hW hk 3) ?_))
    rintro _ m9 l9 _ ⟨rfl, rfl, ff9⟩
    refine And.intro (by first | exact Or.inl rfl | exact Or.inr rfl | exact fc_bb _ | assumption) ?_
    have q : ¬ A.1 4 = 0 := by have := of_decide_eq_true h4; omega
    rw [ps_smoke, if_neg q]
    exact ⟨rfl, F0.ff ff9, rfl, ff9.2.2.2⟩

end M36
