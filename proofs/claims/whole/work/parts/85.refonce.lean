/-! ===== the reference: what is told once ===== -/
/-- the law told, if any, has one value -/
def lwh (A : fc_Ab) : Prop := A.1 5 = 1 → sp_hg (A.2.1 11) (A.1 6) = 1
/-- how a line ends: a law that goes on is told by the sign behind it -/
def rlx (s : Nat → Int32) (n N : Nat) (mi : fc_Mi) (ml : fc_Ml) (mr : fc_Mr) (r : Except Int32 (fc_Ab × Nat)) : fc_Q := fun v mi' ml' mr' => v = none ∧ mr = mr' ∧ rFL mi mi' ml ml' ∧ (match r with | .error e => (¬ e = 0 ∧ ∃ j, rst s n N j e mi' ml') ∨ (∃ j, e = tF s n 1 j ∧ ¬ tK s n j = 59 ∧ rst s n N j 0 mi' ml') | .ok q => rst s n N q.2 0 mi' ml' ∧ rRA q.1 (q.1.1 2) (q.1.1 3) mi' ml' ∧ lwh q.1)
theorem once_c : ∀ a, a < 2 → ∀ b, b < 2 → (sp_in (nI (a + 2 * b)) 0 = decide (a = 1)) ∧ (sp_in (nI (a + 2 * b)) 1 = decide (b = 1)) ∧ (a = 0 → nI (a + 2 * b) ||| (1 : Int32) <<< ((0 : Int32) &&& 31) = nI (1 + 2 * b)) ∧ (b = 0 → nI (a + 2 * b) ||| (1 : Int32) <<< ((1 : Int32) &&& 31) = nI (a + 2)) := by decide
theorem rFO.fl {mi mm : fc_Mi} {ml : fc_Ml} (h : rFO mi mm) : rFL mi mm ml ml := ⟨fun x q1 q2 q3 q4 q5 => h.1 x q1 q3 q4, fun k _ => by rw [h.1 258 (by decide) (by decide) (by decide)], h.2.1, fun k q1 q2 q3 _ _ => h.2.2 k q1 q2 q3, fun _ _ => rfl⟩
section M85
variable {E : fc_E} {d : Nat} {mi : fc_Mi} {ml : fc_Ml} {mr : fc_Mr} {n N i : Nat} {s : Nat → Int32} {A : fc_Ab}
theorem wh2_c (h : whl (fun k => decide ((0 : Int32) = 0) && decide (tK s n i = nI (128 + (8 + k)))) 2 = whl (fun k => decide ((0 : Int32) = 0) && decide (tK s n i = nI (128 + (8 + k)))) 2) : (tK s n i = 136 → whl (fun k => decide ((0 : Int32) = 0) && decide (tK s n i = nI (128 + (8 + k)))) 2 = 0) ∧ (tK s n i = 137 → whl (fun k => decide ((0 : Int32) = 0) && decide (tK s n i = nI (128 + (8 + k)))) 2 = 1) ∧ (¬ tK s n i = 136 → ¬ tK s n i = 137 → whl (fun k => decide ((0 : Int32) = 0) && decide (tK s n i = nI (128 + (8 + k)))) 2 = -1) := by
  rcases whw_c (s := s) (n := n) (i := i) (f := 0) (b := 8) (m := 2) (by omega) with ⟨-, k, hk, e, q⟩ | ⟨q1, q⟩
  · rw [q]
    have : k = 0 ∨ k = 1 := by omega
    rcases this with rfl | rfl
    · exact ⟨fun _ => rfl, fun w => absurd (e.symm.trans w) (by decide), fun w => absurd e w⟩
    · exact ⟨fun w => absurd (e.symm.trans w) (by decide), fun _ => rfl, fun _ w => absurd e w⟩
  · rw [q]
    exact ⟨fun w => absurd w (q1 rfl 0 (by omega)), fun w => absurd w (q1 rfl 1 (by omega)), fun _ _ => rfl⟩
theorem c_ronceN (hW : fc_Wd mr) (hS : rst s n N i 0 mi ml) (hiL : i < N) (hB : fc_AB A) (hR : rRA A (A.1 2) (A.1 3) mi ml) (h1 : ¬ tK s n i = 136) (h2 : ¬ tK s n i = 137) : fc_R E mX11_readOnce (d + 33) fc_sh [.ref 252] mi ml mr (rlx s n N mi ml mr (.error (tF s n 1 i))) := by
  obtain ⟨⟨k1, k2, k3, k4, k5, k6⟩, hiN, hat, hfa, hkw, hok⟩ := id hS
  obtain ⟨r1, r2, r3, r4, r5⟩ := id hR
  obtain ⟨b_0, b_1, b_2, b_3, b_4, b_5, b_6⟩ := id hB
  have hwh := wh2_c (s := s) (n := n) (i := i) rfl
  have hon := once_c (A.1 4) (by omega) (A.1 5) (by omega)
  refine fc_met rfl (Nat.le_of_ble_eq_true rfl) (fc_run oX11_readOnce (fun _ => false) 400 ?_)
  refine And.intro rfl (Exists.intro _ (And.intro (c_rwhWord hW hS (b := 8) (m := 2) (by omega) rfl rfl) ?_))
  rintro _ _ _ _ ⟨rfl, rfl, rfl, rfl⟩
  rw [hwh.2.2 h1 h2]
  refine And.intro (fun h9 => ?_) (fun h9 => ?_)
  · exact absurd h9 (by decide)
  · refine And.intro rfl (Exists.intro _ (And.intro (c_rwrong hW hS _) ?_))
    rintro _ m1 _ _ ⟨rfl, g1, u1, rfl, rfl⟩
    have hf1 : m1 252 8 = tF s n 1 i := by rw [p_wr, if_pos rfl] at g1; exact g1.2.2.2.1
    refine And.intro rfl ?_
    refine And.intro (fun h41 => ?_) (fun h41 => ?_)
    · rw [hf1] at h41; exact absurd ((fok_le (tF_ok (c := 1) (by omega) k3 _)).mp h41) (tF_ne (c := 1) (by omega) (by omega) k3 _)
    · rw [p_wr, if_pos rfl] at g1
      exact ⟨rfl, rfl, u1.fl, .inl ⟨tF_ne (c := 1) (by omega) (by omega) k3 _, i, g1⟩⟩

theorem c_ronceS (hW : fc_Wd mr) (hS : rst s n N i 0 mi ml) (hiL : i < N) (hB : fc_AB A) (hR : rRA A (A.1 2) (A.1 3) mi ml) (hH : lwh A) (h1 : tK s n i = 136) : fc_R E mX11_readOnce (d + 33) fc_sh [.ref 252] mi ml mr (rlx s n N mi ml mr (ps_smoke s n A i)) := by
  obtain ⟨⟨k1, k2, k3, k4, k5, k6⟩, hiN, hat, hfa, hkw, hok⟩ := id hS
  obtain ⟨r1, r2, r3, r4, r5⟩ := id hR
  obtain ⟨b_0, b_1, b_2, b_3, b_4, b_5, b_6⟩ := id hB
  have hwh := wh2_c (s := s) (n := n) (i := i) rfl
  have hon := once_c (A.1 4) (by omega) (A.1 5) (by omega)
  have hS0 : rst s n N i 0 (fc_u mi 252 20 (nI (1 + 2 * A.1 5))) ml := hS.rows rfl rfl rfl rfl rfl rfl
  have hS1 : rst s n N (i + 1) 0 (fc_u (fc_u mi 252 20 (nI (1 + 2 * A.1 5))) 252 7 (nI (i + 1))) ml := hS0.next hiL
  refine fc_met rfl (Nat.le_of_ble_eq_true rfl) (fc_run oX11_readOnce (fun _ => false) 400 ?_)
  refine And.intro rfl (Exists.intro _ (And.intro (c_rwhWord hW hS (b := 8) (m := 2) (by omega) rfl rfl) ?_))
  rintro _ _ _ _ ⟨rfl, rfl, rfl, rfl⟩
  rw [hwh.1 h1]
  refine And.intro (fun h9 => ?_) (fun h9 => ?_)
  · refine And.intro rfl ?_
    rw [r2]
    refine And.intro (fun h29 => ?_) (fun h29 => ?_)
    · refine And.intro rfl (Exists.intro _ (And.intro (c_rwrong hW hS _) ?_))
      rintro _ m1 _ _ ⟨rfl, g1, u1, rfl, rfl⟩
      have hf1 : m1 252 8 = tF s n 3 i := by rw [p_wr, if_pos rfl] at g1; exact g1.2.2.2.1
      refine And.intro rfl ?_
      refine And.intro (fun h41 => ?_) (fun h41 => ?_)
      · rw [hf1] at h41; exact absurd ((fok_le (tF_ok (c := 3) (by omega) k3 _)).mp h41) (tF_ne (c := 3) (by omega) (by omega) k3 _)
      · have h4 : ¬ A.1 4 = 0 := fun q => by rw [show sp_in (nI (A.1 4 + 2 * A.1 5)) 0 = true from decide_eq_true h29, q] at hon; exact absurd hon.1 (by decide)
        rw [ps_smoke, if_neg h4]
        rw [p_wr, if_pos rfl] at g1
        exact ⟨rfl, rfl, u1.fl, .inl ⟨tF_ne (c := 3) (by omega) (by omega) k3 _, i, g1⟩⟩
    · have h40 : A.1 4 = 0 := by
        rcases Nat.lt_or_ge 0 (A.1 4) with q | q
        · rw [show sp_in (nI (A.1 4 + 2 * A.1 5)) 0 = false from decide_eq_false h29, show A.1 4 = 1 by omega] at hon; exact absurd hon.1 (by decide)
        · omega
      refine And.intro rfl ?_
      refine And.intro (fun h41 => ?_) (fun h41 => ?_)
      · refine And.intro rfl ?_
        rw [r2]
        refine And.intro rfl ?_
        rw [hon.2.2.1 h40]
        refine And.intro rfl ?_
        rw [show (fc_u mi 252 20 (nI (1 + 2 * A.1 5))) 252 7 = nI i from hat]
        refine And.intro rfl ?_
        rw [nI_1 i]
        refine And.intro (fun h68 => ?_) (fun h68 => ?_)
        · refine And.intro rfl (Exists.intro _ (And.intro (hW 252 10 258 rfl) ?_))
          refine And.intro rfl (Exists.intro _ (And.intro (c_rtakeNumber hW hS1 fok0 (l := 1) (h := 60) rfl rfl (by omega) (by omega)) ?_))
          rintro _ m1 _ _ ⟨rfl, g1, u1, rfl, rfl⟩
          refine Exists.intro _ (Exists.intro _ (And.intro rfl (And.intro (fc_ixn (fc_nl 54) (by omega) (by decide)) ?_)))
          rw [ps_smoke, if_pos h40]
          have hfl : ∀ v : Int32, rFL mi (fc_u m1 258 54 v) ml ml := fun v => by
            refine ⟨fun y q1 q2 q3 q4 q5 => ?_, fun k q => ?_, fun k q => ?_, fun k q1 q2 q3 q4 q5 => ?_, fun _ _ => rfl⟩
            · rw [fc_u_off _ _ _ q2, u1.1 y q1, fc_u_off _ _ _ q1, fc_u_off _ _ _ q1]
            · rw [fc_u_nj _ _ _ _ (by omega), u1.1 258 (by decide)]; rfl
            · rw [fc_u_off _ _ _ (by decide), fc_u_off _ _ _ (by decide), u1.1 259 (by decide), u1.1 260 (by decide)]; exact ⟨rfl, rfl⟩
            · rw [fc_u_off _ _ _ (by decide), u1.2 k q1 q2, fc_u_nj _ _ _ _ q1, fc_u_nj _ _ _ _ q5]
          rcases p_nb_c (s := s) (i := i + 1) (lo := 1) (hi := 60) k3 with ⟨e5, c5, k5⟩ | ⟨f5, g5, e5, c5⟩
          · rw [e5] at g1
            rw [if_pos c5, if_pos k5, if_pos ⟨rfl, c5, k5⟩]
            refine ⟨rfl, rfl, hfl _, g1.rows rfl rfl rfl rfl rfl rfl, ?_, hH⟩
            have e258 : ∀ k, k ≠ 54 → (fc_u m1 258 54 (tN s n (i + 1))) 258 k = mi 258 k := fun k q => by rw [fc_u_nj _ _ _ _ q, u1.1 258 (by decide)]; rfl
            have e20 : m1 252 20 = nI (1 + 2 * A.1 5) := (u1.2 20 (by decide) (by decide)).trans rfl
            have ea : ∀ y, y ≠ 0 → (fc_u A.2.1 0 14 (tN s n (i + 1))) y = A.2.1 y := fun y q => fc_u_off _ _ _ q
            refine ⟨⟨?_, ?_, ?_, ?_, ?_⟩, e20, ⟨fun k hk => ?_, fun p hp => ?_, fun q hq => ?_⟩, ⟨?_, ?_⟩, ?_⟩
            · rw [e258 _ (by omega)]; exact r1.1
            · rw [e258 _ (by omega)]; exact r1.2.1
            · rw [e258 _ (by omega)]; exact r1.2.2.1
            · rw [e258 _ (by omega)]; exact r1.2.2.2.1
            · rw [fc_u_at]; exact (fc_u_at A.2.1 0 14 _).symm
            · dsimp only; rw [e258 _ (by omega), ea 4 (by decide)]; exact r3.1 k hk
            · dsimp only; rw [e258 _ (by omega), e258 _ (by omega), e258 _ (by omega), ea 5 (by decide), ea 6 (by decide), ea 7 (by decide)]; exact r3.2.1 p hp
            · dsimp only; rw [e258 _ (by omega), e258 _ (by omega), ea 8 (by decide), ea 9 (by decide)]; exact r3.2.2 q hq
            · exact (u1.2 19 (by decide) (by decide)).trans r4.1
            · rw [fc_u_off _ _ _ (by decide), u1.1 264 (by decide)]; exact r4.2
            · exact r5.cg rfl rfl (ea 11 (by decide)) (e258 55 (by omega)) (u1.2 13 (by decide) (by decide)) (by rw [fc_u_off _ _ _ (by decide), u1.1 259 (by decide)]; rfl) (by rw [fc_u_off _ _ _ (by decide), u1.1 260 (by decide)]; rfl)
          · rw [e5] at g1
            rcases c5 with ⟨q, rfl⟩ | ⟨q, r, rfl⟩
            · rw [if_neg q]
              exact ⟨rfl, rfl, hfl _, .inl ⟨g5, i + 1, g1.rows rfl rfl rfl rfl rfl rfl⟩⟩
            · rw [if_pos q, if_neg r]
              exact ⟨rfl, rfl, hfl _, .inl ⟨g5, i + 1, g1.rows rfl rfl rfl rfl rfl rfl⟩⟩
        · exact absurd rfl h68
      · rw [hfa] at h41; exact absurd (by decide) h41
  · exact absurd (by decide) h9

theorem c_ronceB (hW : fc_Wd mr) (hS : rst s n N i 0 mi ml) (hiL : i < N) (hB : fc_AB A) (hR : rRA A (A.1 2) (A.1 3) mi ml) (h1 : tK s n i = 137) : fc_R E mX11_readOnce (d + 33) fc_sh [.ref 252] mi ml mr (rlx s n N mi ml mr (ps_binds s n A i)) := by
  obtain ⟨⟨k1, k2, k3, k4, k5, k6⟩, hiN, hat, hfa, hkw, hok⟩ := id hS
  obtain ⟨r1, r2, r3, r4, r5⟩ := id hR
  obtain ⟨b_0, b_1, b_2, b_3, b_4, b_5, b_6⟩ := id hB
  have hwh := wh2_c (s := s) (n := n) (i := i) rfl
  have hon := once_c (A.1 4) (by omega) (A.1 5) (by omega)
  have hN : N ≤ 1000 := Nat.le_trans k2 k3
  have hS0 : rst s n N i 0 (fc_u mi 252 20 (nI (A.1 4 + 2))) ml := hS.rows rfl rfl rfl rfl rfl rfl
  have hS1 : rst s n N (i + 1) 0 (fc_u (fc_u mi 252 20 (nI (A.1 4 + 2))) 252 7 (nI (i + 1))) ml := hS0.next hiL
  have hS2 : rst s n N (i + 1) 0 (fc_u (fc_u (fc_u mi 252 20 (nI (A.1 4 + 2))) 252 7 (nI (i + 1))) 258 55 0) ml := hS1.rows rfl rfl rfl rfl rfl rfl
  refine fc_met rfl (Nat.le_of_ble_eq_true rfl) (fc_run oX11_readOnce (fun _ => false) 400 ?_)
  refine And.intro rfl (Exists.intro _ (And.intro (c_rwhWord hW hS (b := 8) (m := 2) (by omega) rfl rfl) ?_))
  rintro _ _ _ _ ⟨rfl, rfl, rfl, rfl⟩
  rw [hwh.2.1 h1]
  refine And.intro (fun h9 => ?_) (fun h9 => ?_)
  · refine And.intro rfl ?_
    rw [r2]
    refine And.intro (fun h29 => ?_) (fun h29 => ?_)
    · refine And.intro rfl (Exists.intro _ (And.intro (c_rwrong hW hS _) ?_))
      rintro _ m1 _ _ ⟨rfl, g1, u1, rfl, rfl⟩
      have hf1 : m1 252 8 = tF s n 3 i := by rw [p_wr, if_pos rfl] at g1; exact g1.2.2.2.1
      refine And.intro rfl ?_
      refine And.intro (fun h41 => ?_) (fun h41 => ?_)
      · rw [hf1] at h41; exact absurd ((fok_le (tF_ok (c := 3) (by omega) k3 _)).mp h41) (tF_ne (c := 3) (by omega) (by omega) k3 _)
      · have h4 : ¬ A.1 5 = 0 := fun q => by rw [show sp_in (nI (A.1 4 + 2 * A.1 5)) 1 = true from decide_eq_true h29, q] at hon; exact absurd hon.2.1 (by decide)
        rw [ps_binds, if_neg h4]
        rw [p_wr, if_pos rfl] at g1
        exact ⟨rfl, rfl, u1.fl, .inl ⟨tF_ne (c := 3) (by omega) (by omega) k3 _, i, g1⟩⟩
    · have h50 : A.1 5 = 0 := by
        rcases Nat.lt_or_ge 0 (A.1 5) with q | q
        · rw [show sp_in (nI (A.1 4 + 2 * A.1 5)) 1 = false from decide_eq_false h29, show A.1 5 = 1 by omega] at hon; exact absurd hon.2.1 (by decide)
        · omega
      have hcd : (fc_u (fc_u (fc_u mi 252 20 (nI (A.1 4 + 2))) 252 7 (nI (i + 1))) 258 55 0) 252 13 = nI 0 := (r5.1 h50).1
      refine And.intro rfl ?_
      refine And.intro (fun h41 => ?_) (fun h41 => ?_)
      · refine And.intro rfl ?_
        rw [r2]
        refine And.intro rfl ?_
        rw [hon.2.2.2 h50]
        refine And.intro rfl ?_
        rw [show (fc_u mi 252 20 (nI (A.1 4 + 2))) 252 7 = nI i from hat]
        refine And.intro rfl ?_
        rw [nI_1 i]
        refine And.intro (fun h68 => ?_) (fun h68 => ?_)
        · exact absurd h68 (by decide)
        · refine And.intro rfl (Exists.intro _ (And.intro (hW 252 10 258 rfl) ?_))
          refine And.intro rfl ?_
          rw [show (fc_u (fc_u mi 252 20 (nI (A.1 4 + 2))) 252 7 (nI (i + 1))) 252 13 = 0 from (r5.1 h50).1]
          refine Exists.intro _ (Exists.intro _ (And.intro rfl (And.intro (fc_ixn (fc_nl 55) (by omega) (by decide)) ?_)))
          refine And.intro rfl (Exists.intro _ (And.intro ((c_rlevels hW N).2 i 0 (d + 25) [] (fc_u (fc_u (fc_u mi 252 20 (nI (A.1 4 + 2))) 252 7 (nI (i + 1))) 258 55 0) ml _ rfl (by omega) (by omega) (by omega) (Nat.zero_le _) hS2 hcd trivial) ?_))
          rintro _ m3 _ _ ⟨rfl, rfl, rfl, f3, j3, c3, hc3, hb3, hk3⟩
          have hj3 : j3 + 1 ≤ N := by rcases hk3 with ⟨_, _, q, _⟩ | ⟨_, _, _, q, _⟩ <;> exact q.2.1
          replace hb3 : c3 + i ≤ 0 + j3 := hb3
          refine And.intro rfl (Exists.intro _ (And.intro (c_remt hW hc3 (by omega) _ _) ?_))
          rintro _ _ _ _ ⟨rfl, rfl, rfl, rfl⟩
          rw [ps_binds, if_pos h50]
          have hF := f3.tr (rem_fo (c := c3) (x := 0) (z := 0))
          have hfl : rFL mi (rem m3 c3 0 0) ml ml := by
            refine ⟨fun y q1 q2 q3 q4 q5 => ?_, fun k q => ?_, fun k q => ?_, fun k q1 q2 q3 q4 q5 => ?_, fun _ _ => rfl⟩
            · rw [hF.1 y q1 q3 q4, fc_u_off _ _ _ q2, fc_u_off _ _ _ q1, fc_u_off _ _ _ q1]
            · rw [hF.1 258 (by decide) (by decide) (by decide), fc_u_nj _ _ _ _ (by omega)]; rfl
            · rw [(hF.2.1 k q).1, (hF.2.1 k q).2]; exact ⟨rfl, rfl⟩
            · rw [hF.2.2 k q1 q2 q3, fc_u_off _ _ _ (by decide), fc_u_nj _ _ _ _ q1, fc_u_nj _ _ _ _ q5]
          rcases hk3 with ⟨o2, rfl, a1, a2, b, a3, a4⟩ | ⟨e, a1, a2, a3, a4⟩
          · by_cases h59 : tK s n (j3 + 1) = 59
            · rw [law_k a3 (by omega) h59 (by omega) (k := 1000) (by omega)]
              have hlen : o2.length ≤ 1000 := by omega
              have hhl : hl o2 = 1 := a3.1 (by decide)
              refine ⟨rfl, rfl, hfl, rem_rst a1, ?_, fun _ => ?_⟩
              · have e258 : ∀ k, k ≠ 55 → (rem m3 o2.length 0 0) 258 k = mi 258 k := fun k q => by rw [hF.1 258 (by decide) (by decide) (by decide), fc_u_nj _ _ _ _ q]; rfl
                have ea : ∀ y, y ≠ 11 → (fc_ur A.2.1 11 (fun j => o2.reverse.getD j 0)) y = A.2.1 y := fun y q => fc_ur_off _ _ q
                refine ⟨⟨?_, ?_, ?_, ?_, ?_⟩, ?_, ⟨fun k hk => ?_, fun p hp => ?_, fun q hq => ?_⟩, ⟨?_, ?_⟩, ?_⟩
                · rw [e258 _ (by omega)]; exact r1.1
                · rw [e258 _ (by omega)]; exact r1.2.1
                · rw [e258 _ (by omega)]; exact r1.2.2.1
                · rw [e258 _ (by omega)]; exact r1.2.2.2.1
                · dsimp only; rw [e258 _ (by omega), ea 0 (by decide)]; exact r1.2.2.2.2
                · exact (hF.2.2 20 (by decide) (by decide) (by decide)).trans rfl
                · dsimp only; rw [e258 _ (by omega), ea 4 (by decide)]; exact r3.1 k hk
                · dsimp only; rw [e258 _ (by omega), e258 _ (by omega), e258 _ (by omega), ea 5 (by decide), ea 6 (by decide), ea 7 (by decide)]; exact r3.2.1 p hp
                · dsimp only; rw [e258 _ (by omega), e258 _ (by omega), ea 8 (by decide), ea 9 (by decide)]; exact r3.2.2 q hq
                · exact (hF.2.2 19 (by decide) (by decide) (by decide)).trans r4.1
                · rw [hF.1 264 (by decide) (by decide) (by decide)]; exact r4.2
                · refine ⟨fun q => absurd (show (1 : Nat) = 0 from q) (by decide), fun _ => ⟨?_, rem_c, hlen, fun j hj => ?_, ?_⟩⟩
                  · rw [hF.1 258 (by decide) (by decide) (by decide), fc_u_at]
                  · have hj' : j < o2.length := hj
                    show lwr (fc_ur A.2.1 11 (fun j => o2.reverse.getD j 0) 11 j) _ _
                    rw [fc_ur_row]
                    have := a2.get j hj'
                    unfold rem
                    rw [fc_u_off _ _ _ (show 259 ≠ 252 by decide), fc_u_off _ _ _ (show 259 ≠ 260 by decide), fc_u_nj _ _ _ _ (show 1100 + j ≠ 1100 + o2.length by omega), fc_u_off _ _ _ (show 260 ≠ 252 by decide), fc_u_nj _ _ _ _ (show 1100 + j ≠ 1100 + o2.length by omega), fc_u_off _ _ _ (show 260 ≠ 259 by decide)]
                    exact this
                  · show (rem m3 o2.length 0 0) 259 (1100 + o2.length) = 0
                    unfold rem
                    rw [fc_u_off _ _ _ (show 259 ≠ 252 by decide), fc_u_off _ _ _ (show 259 ≠ 260 by decide), fc_u_at]
              · show sp_hg (fc_ur A.2.1 11 (fun j => o2.reverse.getD j 0) 11) o2.length = 1
                rw [fc_ur_row, hl_hg, hhl]
            · rw [law_e2 a3 (by omega) h59 a4 (k := 1000) (by omega)]
              exact ⟨rfl, rfl, hfl, .inr ⟨j3 + 1, rfl, h59, rem_rst a1⟩⟩
          · rw [law_e1 a4 (k := 1000) (by omega)]
            exact ⟨rfl, rfl, hfl, .inl ⟨a1, _, rem_rst a3⟩⟩
      · rw [hfa] at h41; exact absurd (by decide) h41
  · exact absurd (by decide) h9

end M85
