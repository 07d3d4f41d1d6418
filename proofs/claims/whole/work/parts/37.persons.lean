/-! ===== persons and things of a land ===== -/
section M37
variable {E : fc_E} {d : Nat} {mi : fc_Mi} {ml : fc_Ml} {mr : fc_Mr} {s : Nat → Int32} {n i b : Nat}
theorem c_readPerson (hW : fc_Wd mr) (hL : fc_L mr b) (hb : 200 ≤ b) {A : fc_Ab} (hB : fc_AB A) (hR : fc_RC A mi ml b) (hk : fc_Tk s mi ml n i) : fc_R E mX1_readPerson (d + 8) fc_sh [.ref 3, .ref 1, .ref b] mi ml mr (fc_pr s n b mi ml mr (ps_person s n A i)) := by
  obtain ⟨hB0, hB1, hB2, hB3, hB4, hB5, hB6⟩ := id hB
  have F0 := fc_Fm.rf (b := b) (mi := mi) (ml := ml)
  refine fc_met rfl (Nat.le_of_ble_eq_true rfl) (fc_run oX1_readPerson (fun _ => false) 400 ?_)
  refine And.intro (fc_L_0 hL) ?_
  rw [hR.1.2.2.1]
  refine And.intro (fun h7 => ?_) (fun h7 => ?_)
  · have q7 : A.1 2 < 5 := (nI_ltI (by omega) (by omega)).mp (show nI (A.1 2) < nI 5 from h7)
    refine And.intro rfl (Exists.intro _ (And.intro (c_next hW hk) ?_))
    rintro _ m17 l17 _ ⟨rfl, rfl, t17, k17⟩
    have R17 := hR.tm hb t17
    have F17 := F0.tm t17
    refine Exists.intro _ (And.intro (c_newName hW k17 hL (R17.ln hB)) ?_)
    rintro _ m22 l22 _ ⟨z22, rfl, rfl, y22, n22⟩
    refine And.intro (fun h25 => ?_) (fun h25 => ?_)
    · replace h25 := fc_b0.mp h25
      refine And.intro (by first | exact Or.inl rfl | exact Or.inr rfl | exact fc_bb _ | assumption) ?_
      obtain ⟨f, ff, ⟨g1, g2⟩ | ⟨g1, g2, g3⟩⟩ := n22 h25
      · subst g2
        rw [ps_person, if_neg (show ¬ 5 ≤ A.1 2 by omega), if_neg g1]
        exact ⟨rfl, F17.ff ff, rfl, ff.2.2.2⟩
      · subst g3
        rw [ps_person, if_neg (show ¬ 5 ≤ A.1 2 by omega), if_pos g1, if_pos (show ps_tl A (tW s n (i + 1)) = true from by rw [← R17.tl]; exact g2)]
        exact ⟨rfl, F17.ff ff, rfl, ff.2.2.2⟩
    · replace h25 := fc_b1.mp h25
      obtain ⟨g22, gg22, rfl, rfl⟩ := y22 h25
      refine And.intro (fc_L_0 hL) (Exists.intro _ (And.intro (fc_L_r1 hL) ?_))
      refine And.intro rfl ?_
      rw [k17.2.2.2.2.2.2.2 g22]
      refine Exists.intro _ (Exists.intro _ (And.intro (fc_L_2 hL) (And.intro (fc_ix_nI (p := A.1 2) (by omega) (by omega)) ?_)))
      refine And.intro rfl (Exists.intro _ (And.intro (c_next hW (k17.off rfl rfl (fc_u_off _ _ _ (by omega)))) ?_))
      rintro _ m41 l41 _ ⟨rfl, rfl, t41, k41⟩
      have R41 := (R17.l2 hb (tW s n (i + 1))).tm hb t41
      have F41 := (F17.ul ⟨by omega, by omega⟩).tm t41
      refine And.intro rfl ?_
      rw [k41.2.2.2.2.2.1]
      refine Exists.intro _ (And.intro (c_isFrom _ _ _) ?_)
      rintro _ _ _ _ ⟨rfl, rfl, rfl, rfl⟩
      refine And.intro (fun h57 => ?_) (fun h57 => ?_)
      · replace h57 := fc_b0.mp h57
        refine And.intro rfl (Exists.intro _ (And.intro (c_failk hW k41 1) ?_))
        rintro _ m62 l62 _ ⟨rfl, rfl, ff62⟩
        refine And.intro (by first | exact Or.inl rfl | exact Or.inr rfl | exact fc_bb _ | assumption) ?_
        rw [ps_person, if_neg (show ¬ 5 ≤ A.1 2 by omega), if_pos g22, if_neg (show ¬ ps_tl A (tW s n (i + 1)) = true from by rw [← R17.tl, gg22]; decide), if_neg (by rw [h57]; decide)]
        exact ⟨rfl, F41.ff ff62, rfl, ff62.2.2.2⟩
      · replace h57 := fc_b1.mp h57
        refine And.intro (fc_L_0 hL) (Exists.intro _ (And.intro (fc_L_r4 hL) ?_))
        refine And.intro rfl ?_
        rw [k41.2.2.2.2.2.1]
        refine Exists.intro _ (Exists.intro _ (And.intro (fc_L_5 hL) (And.intro (fc_ix_nI (p := A.1 2) (by omega) (by omega)) ?_)))
        refine And.intro rfl (Exists.intro _ (And.intro (c_next hW (k41.off (fc_u_off _ _ _ (by omega)) (fc_u_off _ _ _ (by omega)) rfl)) ?_))
        rintro _ m81 l81 _ ⟨rfl, rfl, t81, k81⟩
        have R81 := (R41.u5 hb _).tm hb t81
        have F81 := (F41.u (Or.inr ⟨by omega, by omega⟩) hb).tm t81
        refine And.intro rfl (Exists.intro _ (And.intro (c_take hW k81 131) ?_))
        rintro _ m88 l88 _ ⟨z88, rfl, rfl, y88, n88⟩
        refine And.intro (fun h91 => ?_) (fun h91 => ?_)
        · replace h91 := fc_b0.mp h91
          refine And.intro (by first | exact Or.inl rfl | exact Or.inr rfl | exact fc_bb _ | assumption) ?_
          obtain ⟨g1, ff⟩ := n88 h91
          rw [ps_person, if_neg (show ¬ 5 ≤ A.1 2 by omega), if_pos g22, if_neg (show ¬ ps_tl A (tW s n (i + 1)) = true from by rw [← R17.tl, gg22]; decide), if_pos h57, if_neg g1]
          exact ⟨rfl, F81.ff ff, rfl, ff.2.2.2⟩
        · replace h91 := fc_b1.mp h91
          obtain ⟨g88, t88, k88⟩ := y88 h91
          have R88 := R81.tm hb t88
          have F88 := F81.tm t88
          refine And.intro (fc_L_0 hL) (Exists.intro _ (And.intro (fc_L_r0 hL) ?_))
          refine And.intro (fc_L_0 hL) ?_
          rw [R88.1.1]
          refine And.intro rfl (Exists.intro _ (And.intro (c_knownk hW k88 (fc_L_1 hL) hB0 (by omega)) ?_))
          rintro _ m105 l105 _ ⟨x1, rfl, rfl, y105, n105⟩
          refine And.intro (fun h113 => ?_) (fun h113 => ?_)
          · refine And.intro (by first | exact Or.inl rfl | exact Or.inr rfl | exact fc_bb _ | assumption) ?_
            obtain ⟨f, ff, ⟨g1, g2⟩ | ⟨g1, g2, g3⟩⟩ := n105 h113
            · subst g2
              rw [ps_person, if_neg (show ¬ 5 ≤ A.1 2 by omega), if_pos g22, if_neg (show ¬ ps_tl A (tW s n (i + 1)) = true from by rw [← R17.tl, gg22]; decide), if_pos h57, if_pos g88, if_neg g1]
              exact ⟨rfl, F88.ff ff, rfl, ff.2.2.2⟩
            · subst g3
              rw [R88.p] at g2
              rw [ps_person, if_neg (show ¬ 5 ≤ A.1 2 by omega), if_pos g22, if_neg (show ¬ ps_tl A (tW s n (i + 1)) = true from by rw [← R17.tl, gg22]; decide), if_pos h57, if_pos g88, if_pos g1, if_pos g2]
              exact ⟨rfl, F88.ff ff, rfl, ff.2.2.2⟩
          · obtain ⟨g105, ex105, rfl, rfl⟩ := y105 h113
            rw [R88.p] at ex105
            obtain ⟨p1, _, hp105, hq105, _⟩ := sp_fi_r _ _ (ex105 ▸ h113)
            obtain rfl : x1 = nI p1 := ex105.trans hq105
            replace ex105 := ex105.symm
            refine And.intro (fc_L_0 hL) (Exists.intro _ (And.intro (fc_L_r5 hL) ?_))
            refine Exists.intro _ (Exists.intro _ (And.intro (fc_L_6 hL) (And.intro (fc_ix_nI (p := A.1 2) (by omega) (by omega)) ?_)))
            refine And.intro rfl (Exists.intro _ (And.intro (c_next hW (k88.off (fc_u_off _ _ _ (by omega)) (fc_u_off _ _ _ (by omega)) rfl)) ?_))
            rintro _ m127 l127 _ ⟨rfl, rfl, t127, k127⟩
            have R127 := (R88.u6 hb _).tm hb t127
            have F127 := (F88.u (Or.inr ⟨by omega, by omega⟩) hb).tm t127
            refine And.intro rfl (Exists.intro _ (And.intro (c_take hW k127 132) ?_))
            rintro _ m134 l134 _ ⟨z134, rfl, rfl, y134, n134⟩
            refine And.intro (fun h137 => ?_) (fun h137 => ?_)
            · replace h137 := fc_b0.mp h137
              refine And.intro (by first | exact Or.inl rfl | exact Or.inr rfl | exact fc_bb _ | assumption) ?_
              obtain ⟨g1, ff⟩ := n134 h137
              rw [ps_person, if_neg (show ¬ 5 ≤ A.1 2 by omega), if_pos g22, if_neg (show ¬ ps_tl A (tW s n (i + 1)) = true from by rw [← R17.tl, gg22]; decide), if_pos h57, if_pos g88, if_pos g105, if_neg (show ¬ sp_fi (A.2.2 1) (tW s n (i + 4)) (A.1 0) 0 = -1 from by rw [ex105]; exact h113), if_neg g1]
              exact ⟨rfl, F127.ff ff, rfl, ff.2.2.2⟩
            · replace h137 := fc_b1.mp h137
              obtain ⟨g134, t134, k134⟩ := y134 h137
              have R134 := R127.tm hb t134
              have F134 := F127.tm t134
              refine And.intro rfl (Exists.intro _ (And.intro (c_isNumber hW k134 0 30) ?_))
              rintro _ m144 l144 _ ⟨z144, rfl, rfl, y144, n144⟩
              refine And.intro (fun h147 => ?_) (fun h147 => ?_)
              · replace h147 := fc_b0.mp h147
                refine And.intro (by first | exact Or.inl rfl | exact Or.inr rfl | exact fc_bb _ | assumption) ?_
                obtain ⟨f, ff, ⟨g1, g2⟩ | ⟨g1, g2, g3⟩⟩ := n144 h147
                · subst g2
                  rw [ps_person, if_neg (show ¬ 5 ≤ A.1 2 by omega), if_pos g22, if_neg (show ¬ ps_tl A (tW s n (i + 1)) = true from by rw [← R17.tl, gg22]; decide), if_pos h57, if_pos g88, if_pos g105, if_neg (show ¬ sp_fi (A.2.2 1) (tW s n (i + 4)) (A.1 0) 0 = -1 from by rw [ex105]; exact h113), if_pos g134, if_neg g1]
                  exact ⟨rfl, F134.ff ff, rfl, ff.2.2.2⟩
                · subst g3
                  rw [ps_person, if_neg (show ¬ 5 ≤ A.1 2 by omega), if_pos g22, if_neg (show ¬ ps_tl A (tW s n (i + 1)) = true from by rw [← R17.tl, gg22]; decide), if_pos h57, if_pos g88, if_pos g105, if_neg (show ¬ sp_fi (A.2.2 1) (tW s n (i + 4)) (A.1 0) 0 = -1 from by rw [ex105]; exact h113), if_pos g134, if_pos g1, if_neg (by rw [g2]; decide)]
                  exact ⟨rfl, F134.ff ff, rfl, ff.2.2.2⟩
              · replace h147 := fc_b1.mp h147
                obtain ⟨g144, gg144, rfl, rfl⟩ := y144 h147
                refine And.intro (fc_L_0 hL) (Exists.intro _ (And.intro (fc_L_r6 hL) ?_))
                refine And.intro rfl ?_
                rw [k134.2.2.2.2.2.2.1 g144]
                refine Exists.intro _ (Exists.intro _ (And.intro (fc_L_7 hL) (And.intro (fc_ix_nI (p := A.1 2) (by omega) (by omega)) ?_)))
                refine And.intro (fc_L_0 hL) ?_
                refine And.intro (fc_L_0 hL) ?_
                refine And.intro rfl (Exists.intro _ (And.intro (c_next hW (k134.off (by rw [fc_u_off _ _ _ (show (1 : Nat) ≠ b by omega), fc_u_off _ _ _ (show (1 : Nat) ≠ b + 7 by omega)]) (by rw [fc_u_off _ _ _ (show (2 : Nat) ≠ b by omega), fc_u_off _ _ _ (show (2 : Nat) ≠ b + 7 by omega)]) rfl)) ?_))
                rintro _ m173 l173 _ ⟨rfl, rfl, t173, k173⟩
                refine And.intro (by first | exact Or.inl rfl | exact Or.inr rfl | exact fc_bb _ | assumption) ?_
                rw [ps_person, if_neg (show ¬ 5 ≤ A.1 2 by omega), if_pos g22, if_neg (show ¬ ps_tl A (tW s n (i + 1)) = true from by rw [← R17.tl, gg22]; decide), if_pos h57, if_pos g88, if_pos g105, if_neg (show ¬ sp_fi (A.2.2 1) (tW s n (i + 4)) (A.1 0) 0 = -1 from by rw [ex105]; exact h113), if_pos g134, if_pos g144, if_pos gg144, ex105]
                have M7 : (fc_u m134 (b + 7) (A.1 2) (tN s n (i + 6))) b 12 + 1 = nI (A.1 2 + 1) := by rw [fc_u_off _ _ _ (by omega), R134.1.2.2.1]; exact nI_1 _
                have e5 : (fc_u m134 (b + 7) (A.1 2) (tN s n (i + 6))) (b + 5) (A.1 2) = tK s n (i + 2) - 142 := by
                  rw [fc_u_off _ _ _ (show b + 5 ≠ b + 7 by omega), t134.1 (b + 5) (by omega), t127.1 (b + 5) (by omega), fc_u_off _ _ _ (show b + 5 ≠ b + 6 by omega), t88.1 (b + 5) (by omega), t81.1 (b + 5) (by omega), fc_u_at]
                have e6 : (fc_u m134 (b + 7) (A.1 2) (tN s n (i + 6))) (b + 6) (A.1 2) = nI p1 := by
                  rw [fc_u_off _ _ _ (show b + 6 ≠ b + 7 by omega), t134.1 (b + 6) (by omega), t127.1 (b + 6) (by omega), fc_u_at]
                have e2 : l134 (b + 2) (A.1 2) = tW s n (i + 1) := by
                  rw [t134.2.1 (b + 2) (by omega), t127.2.1 (b + 2) (by omega), t88.2.1 (b + 2) (by omega), t81.2.1 (b + 2) (by omega), t41.2.1 (b + 2) (by omega), fc_u_at]
                have R := (R134.u7 hb (tN s n (i + 6))).person hb e5 e6 (fc_u_at _ _ _ _) e2
                rw [← M7] at R
                exact ⟨rfl, ((F134.u (Or.inr ⟨by omega, by omega⟩) hb).u (Or.inr ⟨by omega, by omega⟩) hb).tm t173, rfl, R.tm hb t173, k173⟩
  · have q7 : 5 ≤ A.1 2 := by
      rcases Nat.lt_or_ge (A.1 2) 5 with q | q
      · exact absurd (show nI (A.1 2) < 5 from nI_lt (b := 5) q (by omega)) h7
      · exact q
    refine And.intro rfl (Exists.intro _ (And.intro (c_failk hW hk 5) ?_))
    rintro _ m12 l12 _ ⟨rfl, rfl, ff12⟩
    refine And.intro (by first | exact Or.inl rfl | exact Or.inr rfl | exact fc_bb _ | assumption) ?_
    rw [ps_person, if_pos q7]
    exact ⟨rfl, F0.ff ff12, rfl, ff12.2.2.2⟩

theorem c_readThing (hW : fc_Wd mr) (hL : fc_L mr b) (hb : 200 ≤ b) {A : fc_Ab} (hB : fc_AB A) (hR : fc_RC A mi ml b) (hk : fc_Tk s mi ml n i) : fc_R E mX1_readThing (d + 8) fc_sh [.ref 3, .ref 1, .ref b] mi ml mr (fc_pr s n b mi ml mr (ps_thing s n A i)) := by
  obtain ⟨hB0, hB1, hB2, hB3, hB4, hB5, hB6⟩ := id hB
  have F0 := fc_Fm.rf (b := b) (mi := mi) (ml := ml)
  refine fc_met rfl (Nat.le_of_ble_eq_true rfl) (fc_run oX1_readThing (fun _ => false) 400 ?_)
  refine And.intro (fc_L_0 hL) ?_
  rw [hR.1.2.2.2.1]
  refine And.intro (fun h8 => ?_) (fun h8 => ?_)
  · have q8 : A.1 3 < 6 := (nI_ltI (by omega) (by omega)).mp (show nI (A.1 3) < nI 6 from h8)
    refine And.intro rfl (Exists.intro _ (And.intro (c_next hW hk) ?_))
    rintro _ m18 l18 _ ⟨rfl, rfl, t18, k18⟩
    have R18 := hR.tm hb t18
    have F18 := F0.tm t18
    refine Exists.intro _ (And.intro (c_newName hW k18 hL (R18.ln hB)) ?_)
    rintro _ m23 l23 _ ⟨z23, rfl, rfl, y23, n23⟩
    refine And.intro (fun h26 => ?_) (fun h26 => ?_)
    · replace h26 := fc_b0.mp h26
      refine And.intro (by first | exact Or.inl rfl | exact Or.inr rfl | exact fc_bb _ | assumption) ?_
      obtain ⟨f, ff, ⟨g1, g2⟩ | ⟨g1, g2, g3⟩⟩ := n23 h26
      · subst g2
        rw [ps_thing, if_neg (show ¬ 6 ≤ A.1 3 by omega), if_neg g1]
        exact ⟨rfl, F18.ff ff, rfl, ff.2.2.2⟩
      · subst g3
        rw [ps_thing, if_neg (show ¬ 6 ≤ A.1 3 by omega), if_pos g1, if_pos (show ps_tl A (tW s n (i + 1)) = true from by rw [← R18.tl]; exact g2)]
        exact ⟨rfl, F18.ff ff, rfl, ff.2.2.2⟩
    · replace h26 := fc_b1.mp h26
      obtain ⟨g23, gg23, rfl, rfl⟩ := y23 h26
      refine And.intro (fc_L_0 hL) (Exists.intro _ (And.intro (fc_L_r2 hL) ?_))
      refine And.intro rfl ?_
      rw [k18.2.2.2.2.2.2.2 g23]
      refine Exists.intro _ (Exists.intro _ (And.intro (fc_L_3 hL) (And.intro (fc_ix_nI (p := A.1 3) (by omega) (by omega)) ?_)))
      refine And.intro rfl (Exists.intro _ (And.intro (c_next hW (k18.off rfl rfl (fc_u_off _ _ _ (by omega)))) ?_))
      rintro _ m42 l42 _ ⟨rfl, rfl, t42, k42⟩
      have R42 := (R18.l3 hb (tW s n (i + 1))).tm hb t42
      have F42 := (F18.ul ⟨by omega, by omega⟩).tm t42
      refine And.intro rfl (Exists.intro _ (And.intro (c_take hW k42 134) ?_))
      rintro _ m49 l49 _ ⟨z49, rfl, rfl, y49, n49⟩
      refine And.intro (fun h52 => ?_) (fun h52 => ?_)
      · replace h52 := fc_b0.mp h52
        refine And.intro (by first | exact Or.inl rfl | exact Or.inr rfl | exact fc_bb _ | assumption) ?_
        obtain ⟨g1, ff⟩ := n49 h52
        rw [ps_thing, if_neg (show ¬ 6 ≤ A.1 3 by omega), if_pos g23, if_neg (show ¬ ps_tl A (tW s n (i + 1)) = true from by rw [← R18.tl, gg23]; decide), if_neg g1]
        exact ⟨rfl, F42.ff ff, rfl, ff.2.2.2⟩
      · replace h52 := fc_b1.mp h52
        obtain ⟨g49, t49, k49⟩ := y49 h52
        have R49 := R42.tm hb t49
        have F49 := F42.tm t49
        refine And.intro rfl (Exists.intro _ (And.intro (c_isNumber hW k49 0 30) ?_))
        rintro _ m59 l59 _ ⟨z59, rfl, rfl, y59, n59⟩
        refine And.intro (fun h62 => ?_) (fun h62 => ?_)
        · replace h62 := fc_b0.mp h62
          refine And.intro (by first | exact Or.inl rfl | exact Or.inr rfl | exact fc_bb _ | assumption) ?_
          obtain ⟨f, ff, ⟨g1, g2⟩ | ⟨g1, g2, g3⟩⟩ := n59 h62
          · subst g2
            rw [ps_thing, if_neg (show ¬ 6 ≤ A.1 3 by omega), if_pos g23, if_neg (show ¬ ps_tl A (tW s n (i + 1)) = true from by rw [← R18.tl, gg23]; decide), if_pos g49, if_neg g1]
            exact ⟨rfl, F49.ff ff, rfl, ff.2.2.2⟩
          · subst g3
            rw [ps_thing, if_neg (show ¬ 6 ≤ A.1 3 by omega), if_pos g23, if_neg (show ¬ ps_tl A (tW s n (i + 1)) = true from by rw [← R18.tl, gg23]; decide), if_pos g49, if_pos g1, if_neg (by rw [g2]; decide)]
            exact ⟨rfl, F49.ff ff, rfl, ff.2.2.2⟩
        · replace h62 := fc_b1.mp h62
          obtain ⟨g59, gg59, rfl, rfl⟩ := y59 h62
          refine And.intro (fc_L_0 hL) (Exists.intro _ (And.intro (fc_L_r7 hL) ?_))
          refine And.intro rfl ?_
          rw [k49.2.2.2.2.2.2.1 g59]
          refine Exists.intro _ (Exists.intro _ (And.intro (fc_L_8 hL) (And.intro (fc_ix_nI (p := A.1 3) (by omega) (by omega)) ?_)))
          refine And.intro rfl (Exists.intro _ (And.intro (c_next hW (k49.off (fc_u_off _ _ _ (by omega)) (fc_u_off _ _ _ (by omega)) rfl)) ?_))
          rintro _ m78 l78 _ ⟨rfl, rfl, t78, k78⟩
          have R78 := (R49.u8 hb _).tm hb t78
          have F78 := (F49.u (Or.inr ⟨by omega, by omega⟩) hb).tm t78
          refine And.intro rfl (Exists.intro _ (And.intro (c_take hW k78 135) ?_))
          rintro _ m85 l85 _ ⟨z85, rfl, rfl, y85, n85⟩
          refine And.intro (fun h88 => ?_) (fun h88 => ?_)
          · replace h88 := fc_b0.mp h88
            refine And.intro (by first | exact Or.inl rfl | exact Or.inr rfl | exact fc_bb _ | assumption) ?_
            obtain ⟨g1, ff⟩ := n85 h88
            rw [ps_thing, if_neg (show ¬ 6 ≤ A.1 3 by omega), if_pos g23, if_neg (show ¬ ps_tl A (tW s n (i + 1)) = true from by rw [← R18.tl, gg23]; decide), if_pos g49, if_pos g59, if_pos gg59, if_neg g1]
            exact ⟨rfl, F78.ff ff, rfl, ff.2.2.2⟩
          · replace h88 := fc_b1.mp h88
            obtain ⟨g85, t85, k85⟩ := y85 h88
            have R85 := R78.tm hb t85
            have F85 := F78.tm t85
            refine And.intro (fc_L_0 hL) (Exists.intro _ (And.intro (fc_L_r1 hL) ?_))
            refine And.intro (fc_L_0 hL) ?_
            rw [R85.1.2.2.1]
            refine And.intro rfl (Exists.intro _ (And.intro (c_knownk hW k85 (fc_L_2 hL) hB2 (by omega)) ?_))
            rintro _ m102 l102 _ ⟨x1, rfl, rfl, y102, n102⟩
            refine And.intro (fun h110 => ?_) (fun h110 => ?_)
            · refine And.intro (by first | exact Or.inl rfl | exact Or.inr rfl | exact fc_bb _ | assumption) ?_
              obtain ⟨f, ff, ⟨g1, g2⟩ | ⟨g1, g2, g3⟩⟩ := n102 h110
              · subst g2
                rw [ps_thing, if_neg (show ¬ 6 ≤ A.1 3 by omega), if_pos g23, if_neg (show ¬ ps_tl A (tW s n (i + 1)) = true from by rw [← R18.tl, gg23]; decide), if_pos g49, if_pos g59, if_pos gg59, if_pos g85, if_neg g1]
                exact ⟨rfl, F85.ff ff, rfl, ff.2.2.2⟩
              · subst g3
                rw [R85.e] at g2
                rw [ps_thing, if_neg (show ¬ 6 ≤ A.1 3 by omega), if_pos g23, if_neg (show ¬ ps_tl A (tW s n (i + 1)) = true from by rw [← R18.tl, gg23]; decide), if_pos g49, if_pos g59, if_pos gg59, if_pos g85, if_pos g1, if_pos g2]
                exact ⟨rfl, F85.ff ff, rfl, ff.2.2.2⟩
            · obtain ⟨g102, ex102, rfl, rfl⟩ := y102 h110
              rw [R85.e] at ex102
              obtain ⟨p1, _, hp102, hq102, _⟩ := sp_fi_r _ _ (ex102 ▸ h110)
              obtain rfl : x1 = nI p1 := ex102.trans hq102
              replace ex102 := ex102.symm
              refine And.intro (fc_L_0 hL) (Exists.intro _ (And.intro (fc_L_r8 hL) ?_))
              refine Exists.intro _ (Exists.intro _ (And.intro (fc_L_9 hL) (And.intro (fc_ix_nI (p := A.1 3) (by omega) (by omega)) ?_)))
              refine And.intro (fc_L_0 hL) ?_
              refine And.intro (fc_L_0 hL) ?_
              refine And.intro rfl (Exists.intro _ (And.intro (c_next hW (k85.off (by rw [fc_u_off _ _ _ (show (1 : Nat) ≠ b by omega), fc_u_off _ _ _ (show (1 : Nat) ≠ b + 9 by omega)]) (by rw [fc_u_off _ _ _ (show (2 : Nat) ≠ b by omega), fc_u_off _ _ _ (show (2 : Nat) ≠ b + 9 by omega)]) rfl)) ?_))
              rintro _ m134 l134 _ ⟨rfl, rfl, t134, k134⟩
              refine And.intro (by first | exact Or.inl rfl | exact Or.inr rfl | exact fc_bb _ | assumption) ?_
              rw [ps_thing, if_neg (show ¬ 6 ≤ A.1 3 by omega), if_pos g23, if_neg (show ¬ ps_tl A (tW s n (i + 1)) = true from by rw [← R18.tl, gg23]; decide), if_pos g49, if_pos g59, if_pos gg59, if_pos g85, if_pos g102, if_neg (show ¬ sp_fi (A.2.2 2) (tW s n (i + 5)) (A.1 2) 0 = -1 from by rw [ex102]; exact h110), ex102]
              have M7 : (fc_u m85 (b + 9) (A.1 3) (nI p1)) b 13 + 1 = nI (A.1 3 + 1) := by rw [fc_u_off _ _ _ (by omega), R85.1.2.2.2.1]; exact nI_1 _
              have e8 : (fc_u m85 (b + 9) (A.1 3) (nI p1)) (b + 8) (A.1 3) = tN s n (i + 3) := by
                rw [fc_u_off _ _ _ (show b + 8 ≠ b + 9 by omega), t85.1 (b + 8) (by omega), t78.1 (b + 8) (by omega), fc_u_at]
              have e2 : l85 (b + 3) (A.1 3) = tW s n (i + 1) := by
                rw [t85.2.1 (b + 3) (by omega), t78.2.1 (b + 3) (by omega), t49.2.1 (b + 3) (by omega), t42.2.1 (b + 3) (by omega), fc_u_at]
              have R := (R85.u9 hb (nI p1)).thing hb e8 (fc_u_at _ _ _ _) e2
              rw [← M7] at R
              exact ⟨rfl, ((F85.u (Or.inr ⟨by omega, by omega⟩) hb).u (Or.inr ⟨by omega, by omega⟩) hb).tm t134, rfl, R.tm hb t134, k134⟩
  · have q8 : 6 ≤ A.1 3 := by
      rcases Nat.lt_or_ge (A.1 3) 6 with q | q
      · exact absurd (show nI (A.1 3) < 6 from nI_lt (b := 6) q (by omega)) h8
      · exact q
    refine And.intro rfl (Exists.intro _ (And.intro (c_failk hW hk 5) ?_))
    rintro _ m13 l13 _ ⟨rfl, rfl, ff13⟩
    refine And.intro (by first | exact Or.inl rfl | exact Or.inr rfl | exact fc_bb _ | assumption) ?_
    rw [ps_thing, if_pos q8]
    exact ⟨rfl, F0.ff ff13, rfl, ff13.2.2.2⟩

/-- nothing told -/
def ps_0 : fc_Ab := (fun _ => 0, fun x j => if x = 0 ∧ j = 14 then 30 else 0, fun _ _ => 0)
theorem ps_0B : fc_AB ps_0 := by unfold fc_AB ps_0; decide
theorem c_lclear (hL : fc_L mr b) (hb : 200 ≤ b) : fc_R E mX0_clear (d + 1) fc_sh [.ref b] mi ml mr (fun v mi' ml' mr' => v = none ∧ ml = ml' ∧ mr = mr' ∧ (∀ x, (x < b ∨ b + 12 < x) → mi' x = mi x) ∧ (∀ (mm : fc_Mi) (mlm : fc_Ml), mm 3 1 = 0 → mm 3 2 = 0 → (∀ x, b ≤ x → x ≤ b + 12 → mm x = mi' x) → fc_RC ps_0 mm mlm b)) := by
  refine fc_met rfl (Nat.le_of_ble_eq_true rfl) (fc_run oX0_clear (fun _ => false) 400 ?_)
  refine And.intro (fc_L_0 hL) (Exists.intro _ (And.intro (fc_L_r3 hL) ?_))
  refine Exists.intro _ (And.intro (c_fill (fc_L_4 hL) (by omega) _) ?_)
  rintro _ _ _ _ ⟨rfl, rfl, rfl, rfl⟩
  refine And.intro (fc_L_0 hL) (Exists.intro _ (And.intro (fc_L_r9 hL) ?_))
  refine And.intro (fc_L_10 hL) ?_
  refine And.intro (fc_L_0 hL) ?_
  refine And.intro (fc_L_0 hL) ?_
  refine And.intro (fc_L_0 hL) ?_
  refine And.intro (fc_L_0 hL) ?_
  refine And.intro (fc_L_0 hL) ?_
  refine ⟨rfl, rfl, rfl, fun x hx => ?_, fun mm mlm z1 z2 hm => ?_⟩
  · rw [fc_u_off _ _ _ (by omega), fc_u_off _ _ _ (by omega), fc_u_off _ _ _ (by omega), fc_u_off _ _ _ (by omega), fc_u_off _ _ _ (by omega), fc_u_off _ _ _ (by omega), fc_ur_off _ _ (by omega)]
  · have e0 := hm b (by omega) (by omega)
    have e4 := hm (b + 4) (by omega) (by omega)
    have e10 := hm (b + 10) (by omega) (by omega)
    refine ⟨⟨?_, ?_, ?_, ?_, ?_⟩, ⟨?_, ?_, ?_⟩, ⟨?_, ?_, ?_, ?_⟩, ?_, ?_, ?_⟩
    · rw [e0]; simp [fc_u, ps_0]; rfl
    · rw [e0]; simp [fc_u, ps_0]; rfl
    · rw [e0]; simp [fc_u, ps_0]; rfl
    · rw [e0]; simp [fc_u, ps_0]; rfl
    · rw [e0]; simp [fc_u, ps_0]
    · rw [z1]; rfl
    · rw [z2]; rfl
    · rw [e10]; simp [fc_u, ps_0]; rfl
    · intro j hj
      rw [e4]; simp [fc_u, fc_ur, ps_0, hj]
    · intro j hj; exact absurd hj (by simp [ps_0])
    · intro j hj; exact absurd hj (by simp [ps_0])
    · intro j hj; exact absurd hj (by simp [ps_0])
    · intro j hj; exact absurd hj (by simp [ps_0])
    · intro j hj; exact absurd hj (by simp [ps_0])
    · intro j hj; exact absurd hj (by simp [ps_0])
end M37
