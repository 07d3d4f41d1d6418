section M74
variable {E : fc_E} {d : Nat} {mi : fc_Mi} {ml : fc_Ml} {mr : fc_Mr} {n N i : Nat} {s : Nat → Int32} {A : fc_Ab}
theorem fok0 : fok 0 := ⟨0, by omega, rfl⟩
theorem two_ne {a : fc_Mi} {x z : Int32} {y : Nat} (h : y ≠ 4) : ps_two a x z y = a y := by
  unfold ps_two
  rw [fc_u_off _ _ _ h, fc_u_off _ _ _ h]
theorem two_4 {a : fc_Mi} {x z k : Nat} (hx : x < 7) (hz : z < 7) : ps_two a (nI x) (nI z) 4 k = if k = z then fc_u a 4 x (a 4 x ||| (1 : Int32) <<< (nI z &&& 31)) 4 z ||| (1 : Int32) <<< (nI x &&& 31) else if k = x then a 4 x ||| (1 : Int32) <<< (nI z &&& 31) else a 4 k := by
  unfold ps_two
  rw [nI_clamp (by omega), nI_clamp (by omega)]
  by_cases e : k = z
  · rw [if_pos e, e, fc_u_at]
  · rw [if_neg e, fc_u_nj _ _ _ _ e]
    by_cases e2 : k = x
    · rw [if_pos e2, e2, fc_u_at]
    · rw [if_neg e2, fc_u_nj _ _ _ _ e2]
theorem rLW.cg {A B : fc_Ab} {mi mm : fc_Mi} (h : rLW A mi) (h1 : B.1 5 = A.1 5) (h2 : B.1 6 = A.1 6) (h3 : B.2.1 11 = A.2.1 11) (h4 : mm 258 55 = mi 258 55) (h5 : mm 252 13 = mi 252 13) (h6 : mm 259 = mi 259) (h7 : mm 260 = mi 260) : rLW B mm := by
  unfold rLW at *
  rw [h1, h2, h3, h4, h5, h6, h7]; exact h
theorem c_rreadPath (hW : fc_Wd mr) (hS : rst s n N i 0 mi ml) (hiL : i < N) (hB : fc_AB A) {np nt : Nat} (hnp : np ≤ 5) (hnt : nt ≤ 6) (hR : rRA A np nt mi ml) : fc_R E mX11_readPath (d + 4) fc_sh [.ref 252] mi ml mr (rpq s n N np nt mi ml mr (ps_path s n A i)) := by
  obtain ⟨⟨k1, k2, k3, k4, k5, k6⟩, hiN, hat, hfa, hkw, hok⟩ := id hS
  obtain ⟨r1, r2, r3, r4, r5⟩ := id hR
  obtain ⟨b_0, b_1, b_2, b_3, -⟩ := id hB
  have hS1 : rst s n N (i + 1) 0 (fc_u mi 252 7 (nI (i + 1))) ml := hS.next hiL
  refine fc_met rfl (Nat.le_of_ble_eq_true rfl) (fc_run oX11_readPath (fun _ => false) 400 ?_)
  refine And.intro rfl (Exists.intro _ (And.intro (hW 252 10 258 rfl) ?_))
  refine Exists.intro _ (Exists.intro _ (And.intro rfl (And.intro (fc_ixn (fc_nl 51) (by omega) (by decide)) ?_)))
  rw [r1.2.1]
  refine And.intro (fun h9 => ?_) (fun h9 => ?_)
  · have hce : A.1 1 = 10 := nIn (b := 10) (by omega) (by omega) h9
    refine And.intro rfl (Exists.intro _ (And.intro (c_rwrong hW hS _) ?_))
    rintro _ m1 _ _ ⟨rfl, g1, g2, rfl, rfl⟩
    rw [ps_path, if_pos (show 10 ≤ A.1 1 by omega)]
    rw [p_wr, if_pos rfl] at g1
    exact ⟨rfl, rfl, g2.fl, tF_ne (c := 5) (by omega) (by omega) k3 i, i, g1⟩
  · have hce : ¬ A.1 1 = 10 := fun q => h9 (by rw [q]; rfl)
    refine And.intro rfl ?_
    rw [hat]
    refine And.intro rfl ?_
    rw [nI_1 i]
    refine And.intro rfl (Exists.intro _ (And.intro (c_rtakeTold1 hW hS1 fok0 (K := A.1 0 + A.1 2 + A.1 3) r4.1 (by omega) 0 0) ?_))
    rintro _ m1 _ _ ⟨rfl, g1, g2, rfl, rfl⟩
    have e1 := td1 (of := (fc_u mi 252 7 (nI (i + 1))) 264) hS1 hB r4.2 0
    rw [e1.1] at g1
    obtain ⟨x, hx, ex⟩ := tdv_k (s := s) (n := n) (i := i + 1) (f := 0) (but := 0) hB
    rw [e1.2, ex]
    have h258 : m1 258 = mi 258 := g2.1 258 (by decide)
    have hK1 : m1 252 19 = nI (A.1 0 + A.1 2 + A.1 3) := (g2.2 19 (by decide) (by decide)).trans r4.1
    refine And.intro rfl (Exists.intro _ (And.intro (hW 252 10 258 rfl) ?_))
    refine Exists.intro _ (Exists.intro _ (And.intro rfl (And.intro (fc_ixn (fc_na (fc_nl 56) rfl) (by omega) (by decide)) ?_)))
    rw [h258, r3.1 x hx]
    refine And.intro rfl (Exists.intro _ (And.intro (c_rtakeTold1 hW g1 (tdp_ok k3 fok0) (K := A.1 0 + A.1 2 + A.1 3) hK1 (by omega) 0 _) ?_))
    rintro _ m2 _ _ ⟨rfl, g3, g4, rfl, rfl⟩
    have e2 := td1 (of := m1 264) g1 hB (by rw [g2.1 264 (by decide)]; exact r4.2) (A.2.1 4 x ||| (1 : Int32) <<< (nI x &&& 31))
    rw [e2.1] at g3
    obtain ⟨z, hz, ez⟩ := tdv_k (s := s) (n := n) (i := (tdp s n A 1 (i + 1) 0 0).1) (f := (tdp s n A 1 (i + 1) 0 0).2) (but := (A.2.1 4 x ||| (1 : Int32) <<< (nI x &&& 31))) hB
    rw [e2.2, ez]
    have hpe := path_eq (s := s) (i := i) hB k3 (by omega) hx ex
    rw [ez] at hpe
    have hf2 : m2 252 8 = (tdp s n A 1 (tdp s n A 1 (i + 1) 0 0).1 (tdp s n A 1 (i + 1) 0 0).2 (A.2.1 4 x ||| (1 : Int32) <<< (nI x &&& 31))).2 := g3.2.2.2.1
    have h2x : m2 258 (56 + x) = A.2.1 4 x := by rw [g4.1 258 (by decide), h258]; exact r3.1 x hx
    refine And.intro rfl ?_
    refine And.intro (fun h60 => ?_) (fun h60 => ?_)
    · rw [hf2] at h60
      refine And.intro rfl (Exists.intro _ (And.intro (hW 252 10 258 rfl) ?_))
      refine Exists.intro _ (Exists.intro _ (And.intro rfl (And.intro (fc_ixn (fc_na (fc_nl 56) rfl) (by omega) (by decide)) ?_)))
      rw [h2x]
      refine Exists.intro _ (Exists.intro _ (And.intro rfl (And.intro (fc_ixn (fc_na (fc_nl 56) rfl) (by omega) (by decide)) ?_)))
      refine And.intro rfl (Exists.intro _ (And.intro (hW 252 10 258 rfl) ?_))
      refine Exists.intro _ (Exists.intro _ (And.intro rfl (And.intro (fc_ixn (fc_na (fc_nl 56) rfl) (by omega) (by decide)) ?_)))
      refine Exists.intro _ (Exists.intro _ (And.intro rfl (And.intro (fc_ixn (fc_na (fc_nl 56) rfl) (by omega) (by decide)) ?_)))
      refine And.intro rfl (Exists.intro _ (And.intro (hW 252 10 258 rfl) ?_))
      refine Exists.intro _ (Exists.intro _ (And.intro rfl (And.intro (fc_ixn (fc_nl 51) (by omega) (by decide)) ?_)))
      refine Exists.intro _ (Exists.intro _ (And.intro rfl (And.intro (fc_ixn (fc_nl 51) (by omega) (by decide)) ?_)))
      rw [hpe.1 h60]
      rw [h60] at g3
      have hfl : rFL mi m2 ml ml := (((rfr_at _).tr g2).tr g4).fl
      have hR2 : rRA A np nt m2 ml := hR.fr (((rfr_at _).tr g2).tr g4)
      obtain ⟨u1, u2, u3, u4, u5⟩ := hR2
      refine ⟨rfl, rfl, ⟨fun y q1 q2 q3 q4 q5 => ?_, fun k q => ?_, fun k q => ⟨(hfl.2.2.1 k q).1, (hfl.2.2.1 k q).2⟩, fun k q1 q2 q3 q4 q5 => ?_, fun y q => rfl⟩, ?_, ?_⟩
      · rw [fc_u_off _ _ _ q2, fc_u_off _ _ _ q2, fc_u_off _ _ _ q2]; exact hfl.1 y q1 q2 q3 q4 q5
      · rw [fc_u_nj _ _ _ _ (by omega), fc_u_nj _ _ _ _ (by omega), fc_u_nj _ _ _ _ (by omega)]; exact hfl.2.1 k q
      · exact hfl.2.2.2.1 k q1 q2 q3 q4 q5
      · exact g3.rows rfl rfl rfl rfl rfl rfl
      · refine ⟨⟨?_, ?_, ?_, ?_, ?_⟩, u2, ⟨fun k hk => ?_, fun p hp => ?_, fun q hq => ?_⟩, u4, u5.cg rfl rfl (two_ne (a := A.2.1) (x := nI x) (z := nI z) (y := 11) (by decide)) ?_ rfl rfl rfl⟩
        · rw [fc_u_nj _ _ _ _ (by decide), fc_u_nj _ _ _ _ (by omega), fc_u_nj _ _ _ _ (by omega)]; exact u1.1
        · rw [fc_u_at, fc_u_nj _ _ _ _ (by omega), fc_u_nj _ _ _ _ (by omega), u1.2.1, nI_1]; rfl
        · rw [fc_u_nj _ _ _ _ (by decide), fc_u_nj _ _ _ _ (by omega), fc_u_nj _ _ _ _ (by omega)]; exact u1.2.2.1
        · rw [fc_u_nj _ _ _ _ (by decide), fc_u_nj _ _ _ _ (by omega), fc_u_nj _ _ _ _ (by omega)]; exact u1.2.2.2.1
        · rw [fc_u_nj _ _ _ _ (by decide), fc_u_nj _ _ _ _ (by omega), fc_u_nj _ _ _ _ (by omega)]
          refine u1.2.2.2.2.trans ?_
          show _ = ps_two A.2.1 (nI x) (nI z) 0 14
          rw [two_ne (by decide)]
        · show _ = ps_two A.2.1 (nI x) (nI z) 4 k
          rw [two_4 hx hz, fc_u_nj _ _ _ _ (show 56 + k ≠ 51 by omega)]
          have hv : fc_u m2 258 (56 + x) (A.2.1 4 x ||| (1 : Int32) <<< (nI z &&& 31)) 258 (56 + z) = fc_u A.2.1 4 x (A.2.1 4 x ||| (1 : Int32) <<< (nI z &&& 31)) 4 z := by
            by_cases e : z = x
            · rw [e, fc_u_at, fc_u_at]
            · rw [fc_u_nj _ _ _ _ (show 56 + z ≠ 56 + x by omega), fc_u_nj _ _ _ _ e]; exact u3.1 z hz
          rw [hv]
          by_cases e : k = z
          · rw [if_pos e, e, fc_u_at]
          · rw [if_neg e, fc_u_nj _ _ _ _ (show 56 + k ≠ 56 + z by omega)]
            by_cases e2 : k = x
            · rw [if_pos e2, e2, fc_u_at]
            · rw [if_neg e2, fc_u_nj _ _ _ _ (show 56 + k ≠ 56 + x by omega)]; exact u3.1 k hk
        · show _ = ps_two A.2.1 (nI x) (nI z) 5 p ∧ _ = ps_two A.2.1 (nI x) (nI z) 6 p ∧ _ = ps_two A.2.1 (nI x) (nI z) 7 p
          rw [two_ne (by decide), two_ne (by decide), two_ne (by decide)]
          rw [fc_u_nj _ _ _ _ (show 63 + 3 * p ≠ 51 by omega), fc_u_nj _ _ _ _ (show 63 + 3 * p ≠ 56 + z by omega), fc_u_nj _ _ _ _ (show 63 + 3 * p ≠ 56 + x by omega), fc_u_nj _ _ _ _ (show 63 + 3 * p + 1 ≠ 51 by omega), fc_u_nj _ _ _ _ (show 63 + 3 * p + 1 ≠ 56 + z by omega), fc_u_nj _ _ _ _ (show 63 + 3 * p + 1 ≠ 56 + x by omega), fc_u_nj _ _ _ _ (show 63 + 3 * p + 2 ≠ 51 by omega), fc_u_nj _ _ _ _ (show 63 + 3 * p + 2 ≠ 56 + z by omega), fc_u_nj _ _ _ _ (show 63 + 3 * p + 2 ≠ 56 + x by omega)]
          exact u3.2.1 p hp
        · show _ = ps_two A.2.1 (nI x) (nI z) 8 q ∧ _ = ps_two A.2.1 (nI x) (nI z) 9 q
          rw [two_ne (by decide), two_ne (by decide)]
          rw [fc_u_nj _ _ _ _ (show 78 + 2 * q ≠ 51 by omega), fc_u_nj _ _ _ _ (show 78 + 2 * q ≠ 56 + z by omega), fc_u_nj _ _ _ _ (show 78 + 2 * q ≠ 56 + x by omega), fc_u_nj _ _ _ _ (show 78 + 2 * q + 1 ≠ 51 by omega), fc_u_nj _ _ _ _ (show 78 + 2 * q + 1 ≠ 56 + z by omega), fc_u_nj _ _ _ _ (show 78 + 2 * q + 1 ≠ 56 + x by omega)]
          exact u3.2.2 q hq
        · rw [fc_u_nj _ _ _ _ (show 55 ≠ 51 by omega), fc_u_nj _ _ _ _ (show 55 ≠ 56 + z by omega), fc_u_nj _ _ _ _ (show 55 ≠ 56 + x by omega)]
    · rw [hf2] at h60
      rw [hpe.2 h60]
      exact ⟨rfl, rfl, (((rfr_at _).tr g2).tr g4).fl, h60, _, g3⟩

end M74
