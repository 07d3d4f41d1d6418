/-! ===== the reference reads a line of a morning ===== -/
section M91
variable {E : fc_E} {d : Nat} {mi : fc_Mi} {ml : fc_Ml} {mr : fc_Mr} {n N i L : Nat} {s : Nat → Int32} {A : fc_Ab}
/-- two names told, as the reference takes them -/
def mp1 (s : Nat → Int32) (n : Nat) (A : fc_Ab) (x i : Nat) : Nat × Int32 := tdp s n A x i 0 0
def mv1 (s : Nat → Int32) (n : Nat) (A : fc_Ab) (x i : Nat) : Int32 := tdv s n A x i 0 0
theorem sp_in0 (x : Int32) {z : Nat} (hz : z < 32) (h : x = nI z) : sp_in 0 x = false := by rw [h, fb_in _ hz, b_0]
theorem fiA_k {x : Nat} (hB : fc_AB A) (hx : x = 1 ∨ x = 2 ∨ x = 3) {a : Int64} (h : ¬ fiA A x a = -1) : ∃ z, z < 7 ∧ fiA A x a = nI z := by
  obtain ⟨b0, b1, b2, b3, -⟩ := hB
  rcases hx with rfl | rfl | rfl
  · exact fi_k b0 h
  · exact fi_k (Nat.le_trans b2 (by omega)) h
  · exact fi_k (Nat.le_trans b3 (by omega)) h
theorem nm_eq (hB : fc_AB A) (hn : n ≤ 1000) {x y : Nat} {dd : Int32} (hx : x = 1 ∨ x = 2 ∨ x = 3) (hy : y = 1 ∨ y = 2 ∨ y = 3) (h1 : ∀ w, ms_f1 A.2.2 (A.1 2) (A.1 3) dd w = fiA A x w) (h2 : ∀ w, ms_f2 A.2.2 (A.1 0) (A.1 2) dd w = fiA A y w) {but : Int32} (hbt : but = if dd = 141 then (1 : Int32) <<< (mv1 s n A x i &&& 31) else 0) :
  (mp1 s n A x i = (i + 1, 0) ∧ tdp s n A y (i + 1) 0 but = (i + 2, 0) ∧ ms_nm s n A.2.2 (A.1 0) (A.1 2) (A.1 3) dd i = .ok (mv1 s n A x i, tdv s n A y (i + 1) 0 but)) ∨
  (¬ (tdp s n A y (mp1 s n A x i).1 (mp1 s n A x i).2 but).2 = 0 ∧ ms_nm s n A.2.2 (A.1 0) (A.1 2) (A.1 3) dd i = .error (tdp s n A y (mp1 s n A x i).1 (mp1 s n A x i).2 but).2) := by
  unfold ms_nm
  simp only [h1, h2]
  rcases tdp_c (A := A) (s := s) (x := x) (i := i) (but := 0) hn with ⟨a1, a2, a3, a4, a5, a6⟩ | ⟨a1, a2, a3, a4⟩
  · have e1 : mp1 s n A x i = (i + 1, 0) := Prod.ext a2 a1
    rw [if_pos a3, if_neg a4]
    obtain ⟨z1, hz1, ez1⟩ := fiA_k hB hx a4
    have ev : mv1 s n A x i = nI z1 := a6.trans ez1
    rcases tdp_c (A := A) (s := s) (x := y) (i := i + 1) (but := but) hn with ⟨c1, c2, c3, c4, c5, c6⟩ | ⟨c1, c2, c3, c4⟩
    · have e2 : tdp s n A y (i + 1) 0 but = (i + 2, 0) := Prod.ext c2 c1
      refine .inl ⟨e1, e2, ?_⟩
      rw [if_pos c3, if_neg c4, if_neg, show mv1 s n A x i = fiA A x (tW s n i) from a6, c6]
      rintro ⟨hd, he⟩
      rw [hbt, if_pos hd, ev, ← he, ez1, fb_in _ (by omega), fb_one (by omega) (by omega), decide_eq_true rfl] at c5
      cases c5
    · refine .inr ?_
      rw [e1]
      refine ⟨c1, ?_⟩
      rcases c4 with ⟨g1, g2⟩ | ⟨g1, g2, g3⟩ | ⟨g1, g2, g3, g4⟩
      · rw [if_neg g1, g2]
      · rw [if_pos g1, if_pos g2, g3]
      · obtain ⟨z2, hz2, ez2⟩ := fiA_k hB hy g2
        rw [if_pos g1, if_neg g2, if_pos, g4]
        by_cases hd : dd = 141
        · refine ⟨hd, ?_⟩
          rw [hbt, if_pos hd, ev, ez2, fb_in _ (by omega), fb_one (by omega) (by omega)] at g3
          rw [ez1, ez2, of_decide_eq_true g3]
        · rw [hbt, if_neg hd, sp_in0 _ (by omega) ez2] at g3; cases g3
  · refine .inr ?_
    have e1 : mp1 s n A x i = (i, (mp1 s n A x i).2) := Prod.ext a2 rfl
    have hne : ¬ (mp1 s n A x i).2 = 0 := a1
    rw [(tdp_f hne).1]
    refine ⟨hne, ?_⟩
    rcases a4 with ⟨g1, g2⟩ | ⟨g1, g2, g3⟩ | ⟨g1, g2, g3, g4⟩
    · rw [if_neg g1, show (mp1 s n A x i).2 = tF s n 1 i from g2]
    · rw [if_pos g1, if_pos g2, show (mp1 s n A x i).2 = tF s n 2 i from g3]
    · obtain ⟨z2, hz2, ez2⟩ := fiA_k hB hx g2
      rw [sp_in0 _ (by omega) ez2] at g3; cases g3
/-- a line of a morning is laid at 125 + 3 L -/
def rmf (L : Nat) (mi mi' : fc_Mi) : Prop := (∀ x, x ≠ 252 → x ≠ 265 → mi' x = mi x) ∧ (∀ k, k ≠ 7 → k ≠ 8 → mi' 252 k = mi 252 k) ∧ ∀ k, (k < 125 + 3 * L ∨ 125 + 3 * L + 3 ≤ k) → mi' 265 k = mi 265 k
def rmq (s : Nat → Int32) (n N L : Nat) (w : Int32) (mi : fc_Mi) (ml : fc_Ml) (mr : fc_Mr) (i : Nat) (r : Except Int32 (Int32 × Int32)) : fc_Q := fun v mi' ml' mr' => v = none ∧ ml = ml' ∧ mr = mr' ∧ rmf L mi mi' ∧ mi' 265 (125 + 3 * L) = w ∧ (match r with | .error e => ¬ e = 0 ∧ ∃ j, rst s n N j e mi' ml | .ok q => rst s n N (i + 2) 0 mi' ml ∧ mi' 265 (125 + 3 * L + 1) = q.1 ∧ mi' 265 (125 + 3 * L + 2) = q.2)
theorem c_rrm0 (hW : fc_Wd mr) (hS : rst s n N i 0 mi ml) (hL : L < 40) {x1 : Int32} (hx1 : x1 = nI (125 + 3 * L)) : fc_R E mX11_readMorning (d + 4) fc_sh [.ref 252, .int x1, .int 0] mi ml mr (fun v mi' ml' mr' => v = none ∧ ml = ml' ∧ mr = mr' ∧ rmf L mi mi' ∧ mi' 265 (125 + 3 * L) = 0 ∧ rst s n N i 0 mi' ml) := by
  refine fc_met rfl (Nat.le_of_ble_eq_true rfl) (fc_run oX11_readMorning (fun _ => false) 400 ?_)
  refine And.intro rfl (Exists.intro _ (And.intro (hW 252 21 265 rfl) ?_))
  refine Exists.intro _ (Exists.intro _ (And.intro rfl (And.intro (fc_ixn hx1 (by omega) (by decide)) ?_)))
  refine And.intro rfl (Exists.intro _ (And.intro (hW 252 21 265 rfl) ?_))
  refine And.intro (fun h15 => ?_) (fun h15 => ?_)
  · refine Exists.intro _ (Exists.intro _ (And.intro rfl (And.intro (fc_ixn (fc_na hx1 (fc_nl 1)) (by omega) (by decide)) ?_)))
    refine And.intro rfl (Exists.intro _ (And.intro (hW 252 21 265 rfl) ?_))
    refine And.intro (fun h49 => ?_) (fun h49 => ?_)
    · refine Exists.intro _ (Exists.intro _ (And.intro rfl (And.intro (fc_ixn (fc_na hx1 (fc_nl 2)) (by omega) (by decide)) ?_)))
      refine ⟨rfl, rfl, rfl, ⟨fun x q1 q2 => ?_, fun k q1 q2 => rfl, fun k q => ?_⟩, ?_, hS.rows rfl rfl rfl rfl rfl rfl⟩
      · rw [fc_u_off _ _ _ q2, fc_u_off _ _ _ q2, fc_u_off _ _ _ q2]
      · rw [fc_u_nj _ _ _ _ (by omega), fc_u_nj _ _ _ _ (by omega), fc_u_nj _ _ _ _ (by omega)]
      · rw [fc_u_nj _ _ _ _ (by omega), fc_u_nj _ _ _ _ (by omega)]; exact fc_u_at _ _ _ _
    · exact absurd rfl h49
  · exact absurd rfl h15

theorem c_rrm1 (hW : fc_Wd mr) (hS : rst s n N i 0 mi ml) (hL : L < 40) (hB : fc_AB A) (hD : nd A) (hK : mi 252 18 = nI (A.1 0 + A.1 2 + A.1 3)) (hN : nmr A (ml 261) (mi 263) (A.1 0 + A.1 2 + A.1 3)) {x1 : Int32} (hx1 : x1 = nI (125 + 3 * L)) : fc_R E mX11_readMorning (d + 4) fc_sh [.ref 252, .int x1, .int 1] mi ml mr (rmq s n N L 1 mi ml mr i (ms_nm s n A.2.2 (A.1 0) (A.1 2) (A.1 3) 139 i)) := by
  obtain ⟨⟨k1, k2, k3, k4, k5, k6⟩, hiN, hat, hfa, hkw, hok⟩ := id hS
  have hS0 : rst s n N i 0 (fc_u mi 265 (125 + 3 * L) 1) ml := hS.rows rfl rfl rfl rfl rfl rfl
  have hK18 : A.1 0 + A.1 2 + A.1 3 ≤ 18 := by obtain ⟨b0, -, b2, b3, -⟩ := hB; omega
  have hnq := nm_eq (s := s) (n := n) (i := i) (x := 2) (y := 1) (dd := 139) (but := 0) hB k3 (by decide) (by decide) (fun w => rfl) (fun w => rfl) rfl
  refine fc_met rfl (Nat.le_of_ble_eq_true rfl) (fc_run oX11_readMorning (fun _ => false) 400 ?_)
  refine And.intro rfl (Exists.intro _ (And.intro (hW 252 21 265 rfl) ?_))
  refine Exists.intro _ (Exists.intro _ (And.intro rfl (And.intro (fc_ixn hx1 (by omega) (by decide)) ?_)))
  refine And.intro rfl (Exists.intro _ (And.intro (hW 252 21 265 rfl) ?_))
  refine And.intro (fun h15 => ?_) (fun h15 => ?_)
  · exact absurd h15 (by decide)
  · refine And.intro (fun h26 => ?_) (fun h26 => ?_)
    · exact absurd h26 (by decide)
    · refine And.intro rfl (Exists.intro _ (And.intro (c_rtakeTold0 hW hS0 fok0 (K := A.1 0 + A.1 2 + A.1 3) hK hK18 20 0) ?_))
      rintro _ m1 _ _ ⟨rfl, g1, u1, rfl, rfl⟩
      have e1 := td2 (nm := ml 261) (of := mi 263) (K := A.1 0 + A.1 2 + A.1 3) hS0 hB hD hN 0
      have g1' : rst s n N (mp1 s n A 2 i).1 (mp1 s n A 2 i).2 m1 ml := by
        rw [show (fc_u mi 265 (125 + 3 * L) 1) 263 = mi 263 from rfl, e1.1] at g1; exact g1
      rw [show (fc_u mi 265 (125 + 3 * L) 1) 263 = mi 263 from rfl, e1.2, show tdv s n A 2 i 0 0 = (mv1 s n A 2 i) from rfl]
      have hS2 : rst s n N (mp1 s n A 2 i).1 (mp1 s n A 2 i).2 (fc_u m1 265 (125 + 3 * L + 1) (mv1 s n A 2 i)) ml := g1'.rows rfl rfl rfl rfl rfl rfl
      have hK2 : (fc_u m1 265 (125 + 3 * L + 1) (mv1 s n A 2 i)) 252 18 = nI (A.1 0 + A.1 2 + A.1 3) := (u1.2 18 (by decide) (by decide)).trans hK
      have h263 : (fc_u m1 265 (125 + 3 * L + 1) (mv1 s n A 2 i)) 263 = mi 263 := (fc_u_off _ _ _ (show 263 ≠ 265 by decide)).trans (u1.1 263 (by decide))
      refine Exists.intro _ (Exists.intro _ (And.intro rfl (And.intro (fc_ixn (fc_na hx1 (fc_nl 1)) (by omega) (by decide)) ?_)))
      refine And.intro rfl (Exists.intro _ (And.intro (hW 252 21 265 rfl) ?_))
      refine And.intro (fun h49 => ?_) (fun h49 => ?_)
      · exact absurd h49 (by decide)
      · refine And.intro (fun h60 => ?_) (fun h60 => ?_)
        · refine And.intro (fun h71 => ?_) (fun h71 => ?_)
          · exact absurd h71 (by decide)
          · refine And.intro rfl (Exists.intro _ (And.intro (c_rtakeTold0 hW hS2 (tdp_ok k3 fok0) (K := A.1 0 + A.1 2 + A.1 3) hK2 hK18 0 0) ?_))
            rintro _ m3 _ _ ⟨rfl, g3, u3, rfl, rfl⟩
            have e2 := td1 (nm := ml 261) (of := mi 263) (K := A.1 0 + A.1 2 + A.1 3) hS2 hB hN 0
            have g3' : rst s n N (tdp s n A 1 (mp1 s n A 2 i).1 (mp1 s n A 2 i).2 0).1 (tdp s n A 1 (mp1 s n A 2 i).1 (mp1 s n A 2 i).2 0).2 m3 ml := by
              rw [h263, e2.1] at g3; exact g3
            rw [h263, e2.2]
            refine Exists.intro _ (Exists.intro _ (And.intro rfl (And.intro (fc_ixn (fc_na hx1 (fc_nl 2)) (by omega) (by decide)) ?_)))
            have hfr : ∀ v : Int32, rmf L mi (fc_u m3 265 (125 + 3 * L + 2) v) := fun v => by
              refine ⟨fun x q1 q2 => ?_, fun k q1 q2 => ?_, fun k q => ?_⟩
              · rw [fc_u_off _ _ _ q2, u3.1 x q1, fc_u_off _ _ _ q2, u1.1 x q1, fc_u_off _ _ _ q2]
              · rw [fc_u_off _ _ _ (by decide), u3.2 k q1 q2, fc_u_off _ _ _ (by decide), u1.2 k q1 q2, fc_u_off _ _ _ (by decide)]
              · rw [fc_u_nj _ _ _ _ (by omega), u3.1 265 (by decide), fc_u_nj _ _ _ _ (by omega), u1.1 265 (by decide), fc_u_nj _ _ _ _ (by omega)]
            refine ⟨rfl, rfl, rfl, hfr _, ?_, ?_⟩
            · rw [fc_u_nj _ _ _ _ (by omega), u3.1 265 (by decide), fc_u_nj _ _ _ _ (by omega), u1.1 265 (by decide)]; exact fc_u_at _ _ _ _
            · rcases hnq with ⟨q1, q2, q3⟩ | ⟨q1, q2⟩
              · rw [q3]
                rw [q1, q2] at g3'
                refine ⟨g3'.rows rfl rfl rfl rfl rfl rfl, ?_, ?_⟩
                · rw [fc_u_nj _ _ _ _ (by omega), u3.1 265 (by decide)]; exact fc_u_at _ _ _ _
                · rw [fc_u_at, q1]
              · rw [q2]
                exact ⟨q1, _, g3'.rows rfl rfl rfl rfl rfl rfl⟩
        · exact absurd rfl h60

theorem c_rrm2 (hW : fc_Wd mr) (hS : rst s n N i 0 mi ml) (hL : L < 40) (hB : fc_AB A) (hD : nd A) (hK : mi 252 18 = nI (A.1 0 + A.1 2 + A.1 3)) (hN : nmr A (ml 261) (mi 263) (A.1 0 + A.1 2 + A.1 3)) {x1 : Int32} (hx1 : x1 = nI (125 + 3 * L)) : fc_R E mX11_readMorning (d + 4) fc_sh [.ref 252, .int x1, .int 2] mi ml mr (rmq s n N L 2 mi ml mr i (ms_nm s n A.2.2 (A.1 0) (A.1 2) (A.1 3) 140 i)) := by
  obtain ⟨⟨k1, k2, k3, k4, k5, k6⟩, hiN, hat, hfa, hkw, hok⟩ := id hS
  have hS0 : rst s n N i 0 (fc_u mi 265 (125 + 3 * L) 2) ml := hS.rows rfl rfl rfl rfl rfl rfl
  have hK18 : A.1 0 + A.1 2 + A.1 3 ≤ 18 := by obtain ⟨b0, -, b2, b3, -⟩ := hB; omega
  have hnq := nm_eq (s := s) (n := n) (i := i) (x := 3) (y := 2) (dd := 140) (but := 0) hB k3 (by decide) (by decide) (fun w => rfl) (fun w => rfl) rfl
  refine fc_met rfl (Nat.le_of_ble_eq_true rfl) (fc_run oX11_readMorning (fun _ => false) 400 ?_)
  refine And.intro rfl (Exists.intro _ (And.intro (hW 252 21 265 rfl) ?_))
  refine Exists.intro _ (Exists.intro _ (And.intro rfl (And.intro (fc_ixn hx1 (by omega) (by decide)) ?_)))
  refine And.intro rfl (Exists.intro _ (And.intro (hW 252 21 265 rfl) ?_))
  refine And.intro (fun h15 => ?_) (fun h15 => ?_)
  · exact absurd h15 (by decide)
  · refine And.intro (fun h26 => ?_) (fun h26 => ?_)
    · refine And.intro rfl (Exists.intro _ (And.intro (c_rtakeTold0 hW hS0 fok0 (K := A.1 0 + A.1 2 + A.1 3) hK hK18 40 0) ?_))
      rintro _ m1 _ _ ⟨rfl, g1, u1, rfl, rfl⟩
      have e1 := td3 (nm := ml 261) (of := mi 263) (K := A.1 0 + A.1 2 + A.1 3) hS0 hB hD hN 0
      have g1' : rst s n N (mp1 s n A 3 i).1 (mp1 s n A 3 i).2 m1 ml := by
        rw [show (fc_u mi 265 (125 + 3 * L) 2) 263 = mi 263 from rfl, e1.1] at g1; exact g1
      rw [show (fc_u mi 265 (125 + 3 * L) 2) 263 = mi 263 from rfl, e1.2, show tdv s n A 3 i 0 0 = (mv1 s n A 3 i) from rfl]
      have hS2 : rst s n N (mp1 s n A 3 i).1 (mp1 s n A 3 i).2 (fc_u m1 265 (125 + 3 * L + 1) (mv1 s n A 3 i)) ml := g1'.rows rfl rfl rfl rfl rfl rfl
      have hK2 : (fc_u m1 265 (125 + 3 * L + 1) (mv1 s n A 3 i)) 252 18 = nI (A.1 0 + A.1 2 + A.1 3) := (u1.2 18 (by decide) (by decide)).trans hK
      have h263 : (fc_u m1 265 (125 + 3 * L + 1) (mv1 s n A 3 i)) 263 = mi 263 := (fc_u_off _ _ _ (show 263 ≠ 265 by decide)).trans (u1.1 263 (by decide))
      refine Exists.intro _ (Exists.intro _ (And.intro rfl (And.intro (fc_ixn (fc_na hx1 (fc_nl 1)) (by omega) (by decide)) ?_)))
      refine And.intro rfl (Exists.intro _ (And.intro (hW 252 21 265 rfl) ?_))
      refine And.intro (fun h49 => ?_) (fun h49 => ?_)
      · exact absurd h49 (by decide)
      · refine And.intro (fun h60 => ?_) (fun h60 => ?_)
        · exact absurd h60 (by decide)
        · refine And.intro (fun h71 => ?_) (fun h71 => ?_)
          · exact absurd h71 (by decide)
          · refine And.intro rfl (Exists.intro _ (And.intro (c_rtakeTold0 hW hS2 (tdp_ok k3 fok0) (K := A.1 0 + A.1 2 + A.1 3) hK2 hK18 20 0) ?_))
            rintro _ m3 _ _ ⟨rfl, g3, u3, rfl, rfl⟩
            have e2 := td2 (nm := ml 261) (of := mi 263) (K := A.1 0 + A.1 2 + A.1 3) hS2 hB hD hN 0
            have g3' : rst s n N (tdp s n A 2 (mp1 s n A 3 i).1 (mp1 s n A 3 i).2 0).1 (tdp s n A 2 (mp1 s n A 3 i).1 (mp1 s n A 3 i).2 0).2 m3 ml := by
              rw [h263, e2.1] at g3; exact g3
            rw [h263, e2.2]
            refine Exists.intro _ (Exists.intro _ (And.intro rfl (And.intro (fc_ixn (fc_na hx1 (fc_nl 2)) (by omega) (by decide)) ?_)))
            have hfr : ∀ v : Int32, rmf L mi (fc_u m3 265 (125 + 3 * L + 2) v) := fun v => by
              refine ⟨fun x q1 q2 => ?_, fun k q1 q2 => ?_, fun k q => ?_⟩
              · rw [fc_u_off _ _ _ q2, u3.1 x q1, fc_u_off _ _ _ q2, u1.1 x q1, fc_u_off _ _ _ q2]
              · rw [fc_u_off _ _ _ (by decide), u3.2 k q1 q2, fc_u_off _ _ _ (by decide), u1.2 k q1 q2, fc_u_off _ _ _ (by decide)]
              · rw [fc_u_nj _ _ _ _ (by omega), u3.1 265 (by decide), fc_u_nj _ _ _ _ (by omega), u1.1 265 (by decide), fc_u_nj _ _ _ _ (by omega)]
            refine ⟨rfl, rfl, rfl, hfr _, ?_, ?_⟩
            · rw [fc_u_nj _ _ _ _ (by omega), u3.1 265 (by decide), fc_u_nj _ _ _ _ (by omega), u1.1 265 (by decide)]; exact fc_u_at _ _ _ _
            · rcases hnq with ⟨q1, q2, q3⟩ | ⟨q1, q2⟩
              · rw [q3]
                rw [q1, q2] at g3'
                refine ⟨g3'.rows rfl rfl rfl rfl rfl rfl, ?_, ?_⟩
                · rw [fc_u_nj _ _ _ _ (by omega), u3.1 265 (by decide)]; exact fc_u_at _ _ _ _
                · rw [fc_u_at, q1]
              · rw [q2]
                exact ⟨q1, _, g3'.rows rfl rfl rfl rfl rfl rfl⟩
    · exact absurd rfl h26

theorem c_rrm3 (hW : fc_Wd mr) (hS : rst s n N i 0 mi ml) (hL : L < 40) (hB : fc_AB A) (hD : nd A) (hK : mi 252 18 = nI (A.1 0 + A.1 2 + A.1 3)) (hN : nmr A (ml 261) (mi 263) (A.1 0 + A.1 2 + A.1 3)) {x1 : Int32} (hx1 : x1 = nI (125 + 3 * L)) : fc_R E mX11_readMorning (d + 4) fc_sh [.ref 252, .int x1, .int 3] mi ml mr (rmq s n N L 3 mi ml mr i (ms_nm s n A.2.2 (A.1 0) (A.1 2) (A.1 3) 141 i)) := by
  obtain ⟨⟨k1, k2, k3, k4, k5, k6⟩, hiN, hat, hfa, hkw, hok⟩ := id hS
  have hS0 : rst s n N i 0 (fc_u mi 265 (125 + 3 * L) 3) ml := hS.rows rfl rfl rfl rfl rfl rfl
  have hK18 : A.1 0 + A.1 2 + A.1 3 ≤ 18 := by obtain ⟨b0, -, b2, b3, -⟩ := hB; omega
  have hnq := nm_eq (s := s) (n := n) (i := i) (x := 2) (y := 2) (dd := 141) (but := ((1 : Int32) <<< ((mv1 s n A 2 i) &&& 31))) hB k3 (by decide) (by decide) (fun w => rfl) (fun w => rfl) rfl
  refine fc_met rfl (Nat.le_of_ble_eq_true rfl) (fc_run oX11_readMorning (fun _ => false) 400 ?_)
  refine And.intro rfl (Exists.intro _ (And.intro (hW 252 21 265 rfl) ?_))
  refine Exists.intro _ (Exists.intro _ (And.intro rfl (And.intro (fc_ixn hx1 (by omega) (by decide)) ?_)))
  refine And.intro rfl (Exists.intro _ (And.intro (hW 252 21 265 rfl) ?_))
  refine And.intro (fun h15 => ?_) (fun h15 => ?_)
  · exact absurd h15 (by decide)
  · refine And.intro (fun h26 => ?_) (fun h26 => ?_)
    · exact absurd h26 (by decide)
    · refine And.intro rfl (Exists.intro _ (And.intro (c_rtakeTold0 hW hS0 fok0 (K := A.1 0 + A.1 2 + A.1 3) hK hK18 20 0) ?_))
      rintro _ m1 _ _ ⟨rfl, g1, u1, rfl, rfl⟩
      have e1 := td2 (nm := ml 261) (of := mi 263) (K := A.1 0 + A.1 2 + A.1 3) hS0 hB hD hN 0
      have g1' : rst s n N (mp1 s n A 2 i).1 (mp1 s n A 2 i).2 m1 ml := by
        rw [show (fc_u mi 265 (125 + 3 * L) 3) 263 = mi 263 from rfl, e1.1] at g1; exact g1
      rw [show (fc_u mi 265 (125 + 3 * L) 3) 263 = mi 263 from rfl, e1.2, show tdv s n A 2 i 0 0 = (mv1 s n A 2 i) from rfl]
      have hS2 : rst s n N (mp1 s n A 2 i).1 (mp1 s n A 2 i).2 (fc_u m1 265 (125 + 3 * L + 1) (mv1 s n A 2 i)) ml := g1'.rows rfl rfl rfl rfl rfl rfl
      have hK2 : (fc_u m1 265 (125 + 3 * L + 1) (mv1 s n A 2 i)) 252 18 = nI (A.1 0 + A.1 2 + A.1 3) := (u1.2 18 (by decide) (by decide)).trans hK
      have h263 : (fc_u m1 265 (125 + 3 * L + 1) (mv1 s n A 2 i)) 263 = mi 263 := (fc_u_off _ _ _ (show 263 ≠ 265 by decide)).trans (u1.1 263 (by decide))
      refine Exists.intro _ (Exists.intro _ (And.intro rfl (And.intro (fc_ixn (fc_na hx1 (fc_nl 1)) (by omega) (by decide)) ?_)))
      refine And.intro rfl (Exists.intro _ (And.intro (hW 252 21 265 rfl) ?_))
      refine And.intro (fun h49 => ?_) (fun h49 => ?_)
      · exact absurd h49 (by decide)
      · refine And.intro (fun h60 => ?_) (fun h60 => ?_)
        · exact absurd h60 (by decide)
        · refine And.intro (fun h71 => ?_) (fun h71 => ?_)
          · refine And.intro rfl (Exists.intro _ (And.intro (hW 252 21 265 rfl) ?_))
            refine Exists.intro _ (Exists.intro _ (And.intro rfl (And.intro (fc_ixn (fc_na hx1 (fc_nl 1)) (by omega) (by decide)) ?_)))
            rw [show (fc_u m1 265 (125 + 3 * L + 1) (mv1 s n A 2 i)) 265 (125 + 3 * L + 1) = (mv1 s n A 2 i) from fc_u_at _ _ _ _]
            refine And.intro rfl (Exists.intro _ (And.intro (c_rtakeTold0 hW hS2 (tdp_ok k3 fok0) (K := A.1 0 + A.1 2 + A.1 3) hK2 hK18 20 ((1 : Int32) <<< ((mv1 s n A 2 i) &&& 31))) ?_))
            rintro _ m3 _ _ ⟨rfl, g3, u3, rfl, rfl⟩
            have e2 := td2 (nm := ml 261) (of := mi 263) (K := A.1 0 + A.1 2 + A.1 3) hS2 hB hD hN ((1 : Int32) <<< ((mv1 s n A 2 i) &&& 31))
            have g3' : rst s n N (tdp s n A 2 (mp1 s n A 2 i).1 (mp1 s n A 2 i).2 ((1 : Int32) <<< ((mv1 s n A 2 i) &&& 31))).1 (tdp s n A 2 (mp1 s n A 2 i).1 (mp1 s n A 2 i).2 ((1 : Int32) <<< ((mv1 s n A 2 i) &&& 31))).2 m3 ml := by
              rw [h263, e2.1] at g3; exact g3
            rw [h263, e2.2]
            refine Exists.intro _ (Exists.intro _ (And.intro rfl (And.intro (fc_ixn (fc_na hx1 (fc_nl 2)) (by omega) (by decide)) ?_)))
            have hfr : ∀ v : Int32, rmf L mi (fc_u m3 265 (125 + 3 * L + 2) v) := fun v => by
              refine ⟨fun x q1 q2 => ?_, fun k q1 q2 => ?_, fun k q => ?_⟩
              · rw [fc_u_off _ _ _ q2, u3.1 x q1, fc_u_off _ _ _ q2, u1.1 x q1, fc_u_off _ _ _ q2]
              · rw [fc_u_off _ _ _ (by decide), u3.2 k q1 q2, fc_u_off _ _ _ (by decide), u1.2 k q1 q2, fc_u_off _ _ _ (by decide)]
              · rw [fc_u_nj _ _ _ _ (by omega), u3.1 265 (by decide), fc_u_nj _ _ _ _ (by omega), u1.1 265 (by decide), fc_u_nj _ _ _ _ (by omega)]
            refine ⟨rfl, rfl, rfl, hfr _, ?_, ?_⟩
            · rw [fc_u_nj _ _ _ _ (by omega), u3.1 265 (by decide), fc_u_nj _ _ _ _ (by omega), u1.1 265 (by decide)]; exact fc_u_at _ _ _ _
            · rcases hnq with ⟨q1, q2, q3⟩ | ⟨q1, q2⟩
              · rw [q3]
                rw [q1, q2] at g3'
                refine ⟨g3'.rows rfl rfl rfl rfl rfl rfl, ?_, ?_⟩
                · rw [fc_u_nj _ _ _ _ (by omega), u3.1 265 (by decide)]; exact fc_u_at _ _ _ _
                · rw [fc_u_at, q1]
              · rw [q2]
                exact ⟨q1, _, g3'.rows rfl rfl rfl rfl rfl rfl⟩
          · exact absurd rfl h71

end M91
