/-! ===== the reference: a person's line and a thing's line ===== -/
/-- how a line ends: what is told of all persons and things lies there -/
def rln (s : Nat → Int32) (n N : Nat) (mi : fc_Mi) (ml : fc_Ml) (mr : fc_Mr) (r : Except Int32 (fc_Ab × Nat)) : fc_Q := fun v mi' ml' mr' => v = none ∧ mr = mr' ∧ rFL mi mi' ml ml' ∧ (match r with | .error e => ¬ e = 0 ∧ ∃ j, rst s n N j e mi' ml' | .ok q => rst s n N q.2 0 mi' ml' ∧ rRA q.1 (q.1.1 2) (q.1.1 3) mi' ml')
section M78
variable {E : fc_E} {d : Nat} {mi : fc_Mi} {ml : fc_Ml} {mr : fc_Mr} {n N i : Nat} {s : Nat → Int32} {A : fc_Ab} {f : Int32}
theorem rnm_fok {ci x most : Nat} {e : Int32} (hn : n ≤ 1000) (h : rnm s n A ci x most i = .error e) : fok e := by
  unfold rnm at h
  split at h
  · injection h with h; rw [← h]; exact tF_ok (c := 5) (by omega) hn i
  · split at h
    · split at h
      · injection h with h; rw [← h]; exact tF_ok (c := 3) (by omega) hn _
      · cases h
    · injection h with h; rw [← h]; exact tF_ok (c := 1) (by omega) hn _
theorem c_rtakeToldF (hW : fc_Wd mr) (hS : rst s n N i f mi ml) (hfk : fok f) (hne : ¬ f = 0) (y x but : Int32) : fc_R E mX11_takeTold (d + 3) fc_sh [.ref 252, .int y, .int x, .int but] mi ml mr (rsq s n N (some (.int 0)) (i, f) mi ml mr) := by
  obtain ⟨⟨k1, k2, k3, k4, k5, k6⟩, hiN, hat, hfa, hkw, hok⟩ := id hS
  refine fc_met rfl (Nat.le_of_ble_eq_true rfl) (fc_run oX11_takeTold (fun _ => false) 400 ?_)
  refine And.intro rfl ?_
  refine And.intro (fun h4 => ?_) (fun h4 => ?_)
  · rw [hfa] at h4; exact absurd h4 hne
  · refine And.intro rfl ?_
    refine And.intro (fun h23 => ?_) (fun h23 => ?_)
    · rw [hfa] at h23; exact absurd ((fok_le hfk).mp h23) hne
    · refine And.intro rfl ?_
      refine And.intro (fun h43 => ?_) (fun h43 => ?_)
      · rw [hfa] at h43; exact absurd h43 hne
      · refine And.intro rfl ?_
        refine And.intro (fun h69 => ?_) (fun h69 => ?_)
        · rw [hfa] at h69; exact absurd h69 hne
        · refine And.intro rfl ?_
          refine And.intro rfl ?_
          refine And.intro (fun h96 => ?_) (fun h96 => ?_)
          · rw [hfa] at h96; exact absurd ((fok_le hfk).mp h96) hne
          · refine And.intro rfl ?_
            refine And.intro rfl ?_
            refine And.intro (fun h112 => ?_) (fun h112 => ?_)
            · rw [fc_u_nj _ _ _ _ (by decide)] at h112
              rw [hfa] at h112; exact absurd ((fok_le hfk).mp h112) hne
            · rw [hS.same1]
              exact ⟨rfl, hS, rfr.rf, rfl, rfl⟩

theorem l_rpF (hW : fc_Wd mr) (hS : rst s n N i f mi ml) (hfk : fok f) (hne : ¬ f = 0) {m0 : fc_Mi} {l0 : fc_Ml} (hf0 : rFL m0 mi l0 ml) {y1 : Int32} : fc_T E mX11_readLine (d + 4) (0, 0) fc_sh 63 [some (.ref 252), some (.int y1), none, none, none] [] mi ml mr (rln s n N m0 l0 mr (.error f)) := by
  refine fc_run oX11_readLine (fun _ => false) 400 ?_
  refine And.intro rfl (Exists.intro _ (And.intro (c_rtakeOne hW hS hfk) ?_))
  rintro _ m1 _ _ ⟨rfl, g1, u1, rfl, rfl⟩
  rw [p_on_f hne] at g1
  refine And.intro rfl (Exists.intro _ (And.intro (c_rtakeWord hW g1 (w := 3) (by omega) rfl) ?_))
  rintro _ m2 _ _ ⟨rfl, g2, u2, rfl, rfl⟩
  rw [p_sg_f hne] at g2
  refine And.intro rfl (Exists.intro _ (And.intro (c_rtakeToldF hW g2 hfk hne _ _ _) ?_))
  rintro _ m3 _ _ ⟨rfl, g3, u3, rfl, rfl⟩
  refine And.intro rfl (Exists.intro _ (And.intro (c_rtakeAfter hW g3 hfk (w := 4) (by omega) rfl (l := 0) (h := 30) rfl rfl (by omega) (by omega)) ?_))
  rintro _ m4 _ _ ⟨rfl, g4, u4, rfl, rfl⟩
  rw [p_sg_f hne, p_nb_f hne] at g4
  have hf4 : m4 252 8 = f := g4.2.2.2.1
  refine And.intro rfl ?_
  refine And.intro (fun h98 => ?_) (fun h98 => ?_)
  · rw [hf4] at h98; exact absurd h98 hne
  · skip
    exact ⟨rfl, rfl, hf0.tr (((u1.tr u2).tr u3).tr u4).fl, hne, _, g4⟩
theorem l_rtF (hW : fc_Wd mr) (hS : rst s n N i f mi ml) (hfk : fok f) (hne : ¬ f = 0) {m0 : fc_Mi} {l0 : fc_Ml} (hf0 : rFL m0 mi l0 ml) {y1 : Int32} : fc_T E mX11_readLine (d + 4) (0, 0) fc_sh 160 [some (.ref 252), some (.int y1), none, none, none] [] mi ml mr (rln s n N m0 l0 mr (.error f)) := by
  refine fc_run oX11_readLine (fun _ => false) 400 ?_
  refine And.intro rfl (Exists.intro _ (And.intro (c_rtakeAfter hW hS hfk (w := 6) (by omega) rfl (l := 0) (h := 30) rfl rfl (by omega) (by omega)) ?_))
  rintro _ m1 _ _ ⟨rfl, g1, u1, rfl, rfl⟩
  rw [p_sg_f hne, p_nb_f hne] at g1
  refine And.intro rfl (Exists.intro _ (And.intro (c_rtakeWord hW g1 (w := 7) (by omega) rfl) ?_))
  rintro _ m2 _ _ ⟨rfl, g2, u2, rfl, rfl⟩
  rw [p_sg_f hne] at g2
  refine And.intro rfl (Exists.intro _ (And.intro (c_rtakeToldF hW g2 hfk hne _ _ _) ?_))
  rintro _ m3 _ _ ⟨rfl, g3, u3, rfl, rfl⟩
  have hf3 : m3 252 8 = f := g3.2.2.2.1
  refine And.intro rfl ?_
  refine And.intro (fun h189 => ?_) (fun h189 => ?_)
  · rw [hf3] at h189; exact absurd h189 hne
  · exact ⟨rfl, rfl, hf0.tr ((u1.tr u2).tr u3).fl, hne, _, g3⟩
theorem fi_n2 {w a : Int64} : fiA ((fc_an A.1 2 (A.1 2 + 1), A.2.1, fc_u A.2.2 2 (A.1 2) w) : fc_Ab) 1 a = fiA A 1 a := by
  unfold fiA
  dsimp only
  rw [fc_u_off _ _ _ (by decide), if_pos rfl, fc_an_ne _ _ (by decide)]
theorem fi_n3 {w a : Int64} : fiA ((fc_an A.1 3 (A.1 3 + 1), A.2.1, fc_u A.2.2 3 (A.1 3) w) : fc_Ab) 2 a = fiA A 2 a := by
  unfold fiA
  dsimp only
  rw [fc_u_off _ _ _ (by decide), if_neg (by decide), fc_an_ne _ _ (by decide)]
theorem AB_n2 (hB : fc_AB A) (h : ¬ 5 ≤ A.1 2) {a : fc_Mi} {l : fc_Ml} : fc_AB ((fc_an A.1 2 (A.1 2 + 1), a, l) : fc_Ab) := by
  obtain ⟨b0, b1, b2, b3, b4, b5, b6⟩ := hB
  refine ⟨?_, ?_, ?_, ?_, ?_, ?_, ?_⟩ <;> dsimp only
  all_goals first | (rw [fc_an_ne _ _ (by decide)]; assumption) | (rw [fc_an_at]; omega)
theorem AB_n3 (hB : fc_AB A) (h : ¬ 6 ≤ A.1 3) {a : fc_Mi} {l : fc_Ml} : fc_AB ((fc_an A.1 3 (A.1 3 + 1), a, l) : fc_Ab) := by
  obtain ⟨b0, b1, b2, b3, b4, b5, b6⟩ := hB
  refine ⟨?_, ?_, ?_, ?_, ?_, ?_, ?_⟩ <;> dsimp only
  all_goals first | (rw [fc_an_ne _ _ (by decide)]; assumption) | (rw [fc_an_at]; omega)
theorem td_cg {B : fc_Ab} {x i : Nat} {f but : Int32} (h : ∀ a, fiA B x a = fiA A x a) : tdp s n B x i f but = tdp s n A x i f but ∧ tdv s n B x i f but = tdv s n A x i f but := by
  constructor
  · unfold tdp; simp only [h]
  · unfold tdv; simp only [h]
/-- what a person's row becomes -/
theorem rRA.pers {w : Int64} {kd ho wk : Int32} {m1 : fc_Mi} {l1 : fc_Ml} (hB : fc_AB A) (h5 : ¬ 5 ≤ A.1 2) (h : rRA ((fc_an A.1 2 (A.1 2 + 1), A.2.1, fc_u A.2.2 2 (A.1 2) w) : fc_Ab) (A.1 2) (A.1 3) m1 l1) : rRA (ps_pa A kd ho wk w) (A.1 2 + 1) (A.1 3) (fc_u (fc_u (fc_u m1 258 (63 + 3 * A.1 2) kd) 258 (63 + 3 * A.1 2 + 1) ho) 258 (63 + 3 * A.1 2 + 2) wk) l1 := by
  obtain ⟨b0, b1, b2, b3, -⟩ := hB
  obtain ⟨h1, h2, h3, h4, h5'⟩ := h
  have hr : ∀ k, k ≠ 63 + 3 * A.1 2 → k ≠ 63 + 3 * A.1 2 + 1 → k ≠ 63 + 3 * A.1 2 + 2 → (fc_u (fc_u (fc_u m1 258 (63 + 3 * A.1 2) kd) 258 (63 + 3 * A.1 2 + 1) ho) 258 (63 + 3 * A.1 2 + 2) wk) 258 k = m1 258 k := fun k q1 q2 q3 => by
    rw [fc_u_nj _ _ _ _ q3, fc_u_nj _ _ _ _ q2, fc_u_nj _ _ _ _ q1]
  have ha : ∀ y, y ≠ 5 → y ≠ 6 → y ≠ 7 → (ps_pa A kd ho wk w).2.1 y = A.2.1 y := fun y q1 q2 q3 => by
    unfold ps_pa
    dsimp only
    rw [fc_u_off _ _ _ q3, fc_u_off _ _ _ q2, fc_u_off _ _ _ q1]
  refine ⟨⟨?_, ?_, ?_, ?_, ?_⟩, h2, ⟨fun k hk => ?_, fun p hp => ?_, fun q hq => ?_⟩, h4, ?_⟩
  · rw [hr _ (by omega) (by omega) (by omega)]; exact h1.1
  · rw [hr _ (by omega) (by omega) (by omega)]; exact h1.2.1
  · rw [hr _ (by omega) (by omega) (by omega)]; exact h1.2.2.1
  · rw [hr _ (by omega) (by omega) (by omega)]; exact h1.2.2.2.1
  · rw [hr _ (by omega) (by omega) (by omega), ha 0 (by decide) (by decide) (by decide)]; exact h1.2.2.2.2
  · rw [hr _ (by omega) (by omega) (by omega), ha 4 (by decide) (by decide) (by decide)]; exact h3.1 k hk
  · by_cases e : p = A.1 2
    · subst e
      unfold ps_pa
      dsimp only
      rw [fc_u_at, fc_u_nj _ _ _ _ (show 63 + 3 * A.1 2 ≠ 63 + 3 * A.1 2 + 2 by omega), fc_u_nj _ _ _ _ (show 63 + 3 * A.1 2 ≠ 63 + 3 * A.1 2 + 1 by omega), fc_u_at, fc_u_nj _ _ _ _ (show 63 + 3 * A.1 2 + 1 ≠ 63 + 3 * A.1 2 + 2 by omega), fc_u_at]
      rw [fc_u_off _ _ _ (show 5 ≠ 7 by decide), fc_u_off _ _ _ (show 5 ≠ 6 by decide), fc_u_at, fc_u_off _ _ _ (show 6 ≠ 7 by decide), fc_u_at, fc_u_at]
      exact ⟨rfl, rfl, rfl⟩
    · rw [hr _ (by omega) (by omega) (by omega), hr _ (by omega) (by omega) (by omega), hr _ (by omega) (by omega) (by omega)]
      unfold ps_pa
      dsimp only
      rw [fc_u_off _ _ _ (show 5 ≠ 7 by decide), fc_u_off _ _ _ (show 5 ≠ 6 by decide), fc_u_nj _ _ _ _ e, fc_u_off _ _ _ (show 6 ≠ 7 by decide), fc_u_nj _ _ _ _ e, fc_u_off _ _ _ (show 6 ≠ 5 by decide), fc_u_nj _ _ _ _ e, fc_u_off _ _ _ (show 7 ≠ 6 by decide), fc_u_off _ _ _ (show 7 ≠ 5 by decide)]
      exact h3.2.1 p (by omega)
  · rw [hr _ (by omega) (by omega) (by omega), hr _ (by omega) (by omega) (by omega), ha 8 (by decide) (by decide) (by decide), ha 9 (by decide) (by decide) (by decide)]; exact h3.2.2 q hq
  · exact h5'.cg rfl rfl (ha 11 (by decide) (by decide) (by decide)) (hr 55 (by omega) (by omega) (by omega)) rfl rfl rfl
theorem rRA.thng {w : Int64} {wo gi : Int32} {m1 : fc_Mi} {l1 : fc_Ml} (hB : fc_AB A) (h6 : ¬ 6 ≤ A.1 3) (h : rRA ((fc_an A.1 3 (A.1 3 + 1), A.2.1, fc_u A.2.2 3 (A.1 3) w) : fc_Ab) (A.1 2) (A.1 3) m1 l1) : rRA (ps_ta A wo gi w) (A.1 2) (A.1 3 + 1) (fc_u (fc_u m1 258 (78 + 2 * A.1 3) wo) 258 (78 + 2 * A.1 3 + 1) gi) l1 := by
  obtain ⟨b0, b1, b2, b3, -⟩ := hB
  obtain ⟨h1, h2, h3, h4, h5'⟩ := h
  have hr : ∀ k, k ≠ 78 + 2 * A.1 3 → k ≠ 78 + 2 * A.1 3 + 1 → (fc_u (fc_u m1 258 (78 + 2 * A.1 3) wo) 258 (78 + 2 * A.1 3 + 1) gi) 258 k = m1 258 k := fun k q1 q2 => by
    rw [fc_u_nj _ _ _ _ q2, fc_u_nj _ _ _ _ q1]
  have ha : ∀ y, y ≠ 8 → y ≠ 9 → (ps_ta A wo gi w).2.1 y = A.2.1 y := fun y q1 q2 => by
    unfold ps_ta
    dsimp only
    rw [fc_u_off _ _ _ q2, fc_u_off _ _ _ q1]
  refine ⟨⟨?_, ?_, ?_, ?_, ?_⟩, h2, ⟨fun k hk => ?_, fun p hp => ?_, fun q hq => ?_⟩, h4, ?_⟩
  · rw [hr _ (by omega) (by omega)]; exact h1.1
  · rw [hr _ (by omega) (by omega)]; exact h1.2.1
  · rw [hr _ (by omega) (by omega)]; exact h1.2.2.1
  · rw [hr _ (by omega) (by omega)]; exact h1.2.2.2.1
  · rw [hr _ (by omega) (by omega), ha 0 (by decide) (by decide)]; exact h1.2.2.2.2
  · rw [hr _ (by omega) (by omega), ha 4 (by decide) (by decide)]; exact h3.1 k hk
  · rw [hr _ (by omega) (by omega), hr _ (by omega) (by omega), hr _ (by omega) (by omega), ha 5 (by decide) (by decide), ha 6 (by decide) (by decide), ha 7 (by decide) (by decide)]; exact h3.2.1 p hp
  · by_cases e : q = A.1 3
    · subst e
      unfold ps_ta
      dsimp only
      rw [fc_u_at, fc_u_nj _ _ _ _ (show 78 + 2 * A.1 3 ≠ 78 + 2 * A.1 3 + 1 by omega), fc_u_at]
      rw [fc_u_off _ _ _ (show 8 ≠ 9 by decide), fc_u_at, fc_u_at]
      exact ⟨rfl, rfl⟩
    · rw [hr _ (by omega) (by omega), hr _ (by omega) (by omega)]
      unfold ps_ta
      dsimp only
      rw [fc_u_off _ _ _ (show 8 ≠ 9 by decide), fc_u_nj _ _ _ _ e, fc_u_nj _ _ _ _ e, fc_u_off _ _ _ (show 9 ≠ 8 by decide)]
      exact h3.2.2 q (by omega)
  · exact h5'.cg rfl rfl (ha 11 (by decide) (by decide)) (hr 55 (by omega) (by omega)) rfl rfl rfl
theorem l_rpK (hW : fc_Wd mr) (hB : fc_AB A) (h5 : ¬ 5 ≤ A.1 2) (h4 : tK s n (i + 1) = 4) (hl : ps_tl A (tW s n (i + 1)) = false) (hS : rst s n N (i + 2) 0 mi ml) (hR : rRA ((fc_an A.1 2 (A.1 2 + 1), A.2.1, fc_u A.2.2 2 (A.1 2) (tW s n (i + 1))) : fc_Ab) (A.1 2) (A.1 3) mi ml) {m0 : fc_Mi} {l0 : fc_Ml} (hf0 : rFL m0 mi l0 ml) {y1 : Int32} (hy1 : y1 = nI (63 + 3 * A.1 2)) : fc_T E mX11_readLine (d + 4) (0, 0) fc_sh 63 [some (.ref 252), some (.int y1), none, none, none] [] mi ml mr (rln s n N m0 l0 mr (ps_person s n A i)) := by
  subst hy1
  obtain ⟨⟨k1, k2, k3, k4, k5, k6⟩, hiN, hat, hfa, hkw, hok⟩ := id hS
  have hB2 := AB_n2 hB h5 (a := A.2.1) (l := fc_u A.2.2 2 (A.1 2) (tW s n (i + 1)))
  have hk19 : (fc_an A.1 2 (A.1 2 + 1)) 0 + (fc_an A.1 2 (A.1 2 + 1)) 2 + (fc_an A.1 2 (A.1 2 + 1)) 3 ≤ 18 := Nat.le_trans (Nat.add_le_add (Nat.add_le_add hB2.1 hB2.2.2.1) hB2.2.2.2.1) (by decide)
  have hpe := person_eq (i := i) hB k3 h5 h4 hl
  refine fc_run oX11_readLine (fun _ => false) 400 ?_
  refine And.intro rfl (Exists.intro _ (And.intro (c_rtakeOne hW hS fok0) ?_))
  rintro _ m1 _ _ ⟨rfl, g1, u1, rfl, rfl⟩
  have hfk1 : fok (p_on s n (i + 2, 0)).2 := by rcases p_on_c (s := s) (i := i + 2) k3 with ⟨e, _⟩ | ⟨e, -, _⟩ <;> rw [e] <;> first | exact fok0 | exact tF_ok (c := 1) (by omega) k3 _
  refine And.intro rfl (Exists.intro _ (And.intro (c_rtakeWord hW g1 (w := 3) (by omega) rfl) ?_))
  rintro _ m2 _ _ ⟨rfl, g2, u2, rfl, rfl⟩
  have hK2 := ((hR.fr (u1.tr u2)).2.2.2.1.1)
  refine And.intro rfl (Exists.intro _ (And.intro (c_rtakeTold1 hW g2 (p_sg_ok k3 hfk1) hK2 hk19 0 0) ?_))
  rintro _ m3 _ _ ⟨rfl, g3, u3, rfl, rfl⟩
  have e3 := td1 (of := m2 264) g2 hB2 (hR.fr (u1.tr u2)).2.2.2.1.2 0
  have e4 := td_cg (s := s) (n := n) (x := 1) (i := (p_sg s n (nI (128 + 3)) (p_on s n (i + 2, 0))).1) (f := (p_sg s n (nI (128 + 3)) (p_on s n (i + 2, 0))).2) (but := 0) (fun a => fi_n2 (A := A) (w := tW s n (i + 1)) (a := a))
  rw [e3.1, e4.1] at g3
  rw [e3.2, e4.2]
  have hfk3 := tdp_ok (s := s) (n := n) (A := A) (x := 1) (i := (p_sg s n (nI (128 + 3)) (p_on s n (i + 2, 0))).1) (but := 0) k3 (p_sg_ok (c := nI (128 + 3)) (s := s) (i := (p_on s n (i + 2, 0)).1) k3 hfk1)
  refine And.intro rfl (Exists.intro _ (And.intro (c_rtakeAfter hW g3 hfk3 (w := 4) (by omega) rfl (l := 0) (h := 30) rfl rfl (by omega) (by omega)) ?_))
  rintro _ m4 _ _ ⟨rfl, g4, u4, rfl, rfl⟩
  have hf4 : m4 252 8 = (ppl s n A (i + 2)).2 := g4.2.2.2.1
  refine And.intro rfl ?_
  refine And.intro (fun h98 => ?_) (fun h98 => ?_)
  · rw [hf4] at h98
    replace hpe := hpe.resolve_right (fun q => q.1 h98)
    obtain ⟨a1, a2, a3, a4, a5, a6⟩ := hpe.2
    have hv1 : (if (0 : Int32) = 0 ∧ sp_from 142 (tK s n (i + 2)) 145 = true then tK s n (i + 2) - 142 else 0) = tK s n (i + 2) - 142 := if_pos ⟨rfl, a1.2⟩
    have hv2 : tdv s n A 1 (p_sg s n (nI (128 + 3)) (p_on s n (i + 2, 0))).1 (p_sg s n (nI (128 + 3)) (p_on s n (i + 2, 0))).2 0 = fiA A 1 (tW s n (i + 4)) := by rw [a1.1, a2]; exact a3.2.2
    have hp5 : p_sg s n (nI (128 + 4)) (tdp s n A 1 (p_sg s n (nI (128 + 3)) (p_on s n (i + 2, 0))).1 (p_sg s n (nI (128 + 3)) (p_on s n (i + 2, 0))).2 0) = (i + 6, 0) := by rw [a1.1, a2]; dsimp only; rw [a3.1]; exact a4
    refine And.intro rfl (Exists.intro _ (And.intro (hW 252 10 258 rfl) ?_))
    refine Exists.intro _ (Exists.intro _ (And.intro rfl (And.intro (fc_ixn rfl (by omega) (by decide)) ?_)))
    refine And.intro rfl (Exists.intro _ (And.intro (hW 252 10 258 rfl) ?_))
    refine Exists.intro _ (Exists.intro _ (And.intro rfl (And.intro (fc_ixn (fc_na rfl (fc_nl 1)) (by omega) (by decide)) ?_)))
    refine And.intro rfl (Exists.intro _ (And.intro (hW 252 10 258 rfl) ?_))
    refine Exists.intro _ (Exists.intro _ (And.intro rfl (And.intro (fc_ixn (fc_na rfl (fc_nl 2)) (by omega) (by decide)) ?_)))
    rw [hpe.2.2.2.2.2.2]
    have hfl := hf0.tr ((((u1.tr u2).tr u3).tr u4).fl (ml := ml))
    refine ⟨rfl, rfl, ⟨fun y q1 q2 q3 q4 q5 => ?_, fun k q => ?_, hfl.2.2.1, hfl.2.2.2.1, hfl.2.2.2.2⟩, ?_, ?_⟩
    · rw [fc_u_off _ _ _ q2, fc_u_off _ _ _ q2, fc_u_off _ _ _ q2]; exact hfl.1 y q1 q2 q3 q4 q5
    · rw [fc_u_nj _ _ _ _ (by omega), fc_u_nj _ _ _ _ (by omega), fc_u_nj _ _ _ _ (by omega)]; exact hfl.2.1 k q
    · have g4' : rst s n N (ppl s n A (i + 2)).1 (ppl s n A (i + 2)).2 m4 ml := g4
      rw [hpe.1] at g4'
      exact g4'.rows rfl rfl rfl rfl rfl rfl
    · have hz : rRA (ps_pa A (tK s n (i + 2) - 142) (fiA A 1 (tW s n (i + 4))) (tN s n (i + 6)) (tW s n (i + 1))) (A.1 2 + 1) (A.1 3) _ ml := rRA.pers hB h5 (hR.fr (((u1.tr u2).tr u3).tr u4))
      rw [hv1, hv2, hp5, if_pos (show (0 : Int32) = 0 ∧ _ ∧ _ from ⟨rfl, a5.2.1, a5.2.2⟩)]
      exact hz
  · rw [hf4] at h98
    replace hpe := hpe.resolve_left (fun q => h98 (by rw [q.1]))
    rw [hpe.2]
    exact ⟨rfl, rfl, hf0.tr (((u1.tr u2).tr u3).tr u4).fl, h98, _, g4⟩
theorem l_rtK (hW : fc_Wd mr) (hB : fc_AB A) (hD : nd A) (h6 : ¬ 6 ≤ A.1 3) (h4 : tK s n (i + 1) = 4) (hl : ps_tl A (tW s n (i + 1)) = false) (hS : rst s n N (i + 2) 0 mi ml) (hR : rRA ((fc_an A.1 3 (A.1 3 + 1), A.2.1, fc_u A.2.2 3 (A.1 3) (tW s n (i + 1))) : fc_Ab) (A.1 2) (A.1 3) mi ml) {m0 : fc_Mi} {l0 : fc_Ml} (hf0 : rFL m0 mi l0 ml) {y1 : Int32} (hy1 : y1 = nI (78 + 2 * A.1 3)) : fc_T E mX11_readLine (d + 4) (0, 0) fc_sh 160 [some (.ref 252), some (.int y1), none, none, none] [] mi ml mr (rln s n N m0 l0 mr (ps_thing s n A i)) := by
  subst hy1
  obtain ⟨⟨k1, k2, k3, k4, k5, k6⟩, hiN, hat, hfa, hkw, hok⟩ := id hS
  have hB2 := AB_n3 hB h6 (a := A.2.1) (l := fc_u A.2.2 3 (A.1 3) (tW s n (i + 1)))
  have hD2 := nd_add3 hB hD hl A.2.1
  have hk19 : (fc_an A.1 3 (A.1 3 + 1)) 0 + (fc_an A.1 3 (A.1 3 + 1)) 2 + (fc_an A.1 3 (A.1 3 + 1)) 3 ≤ 18 := Nat.le_trans (Nat.add_le_add (Nat.add_le_add hB2.1 hB2.2.2.1) hB2.2.2.2.1) (by decide)
  have hpe := thing_eq (i := i) hB k3 h6 h4 hl
  refine fc_run oX11_readLine (fun _ => false) 400 ?_
  refine And.intro rfl (Exists.intro _ (And.intro (c_rtakeAfter hW hS fok0 (w := 6) (by omega) rfl (l := 0) (h := 30) rfl rfl (by omega) (by omega)) ?_))
  rintro _ m1 _ _ ⟨rfl, g1, u1, rfl, rfl⟩
  have hfk1 : fok (p_nb s n 0 30 (p_sg s n (nI (128 + 6)) (i + 2, 0))).2 := p_nb_ok k3 (p_sg_ok k3 fok0)
  refine And.intro rfl (Exists.intro _ (And.intro (c_rtakeWord hW g1 (w := 7) (by omega) rfl) ?_))
  rintro _ m2 _ _ ⟨rfl, g2, u2, rfl, rfl⟩
  have hK2 := ((hR.fr (u1.tr u2)).2.2.2.1.1)
  refine And.intro rfl (Exists.intro _ (And.intro (c_rtakeTold1 hW g2 (p_sg_ok k3 hfk1) hK2 hk19 20 0) ?_))
  rintro _ m3 _ _ ⟨rfl, g3, u3, rfl, rfl⟩
  have e3 := td2 (of := m2 264) g2 hB2 hD2 (hR.fr (u1.tr u2)).2.2.2.1.2 0
  have e4 := td_cg (s := s) (n := n) (x := 2) (i := (p_sg s n (nI (128 + 7)) (p_nb s n 0 30 (p_sg s n (nI (128 + 6)) (i + 2, 0)))).1) (f := (p_sg s n (nI (128 + 7)) (p_nb s n 0 30 (p_sg s n (nI (128 + 6)) (i + 2, 0)))).2) (but := 0) (fun a => fi_n3 (A := A) (w := tW s n (i + 1)) (a := a))
  rw [e3.1, e4.1] at g3
  rw [e3.2, e4.2]
  have hf3 : m3 252 8 = (ptl s n A (i + 2)).2 := g3.2.2.2.1
  refine And.intro rfl ?_
  refine And.intro (fun h189 => ?_) (fun h189 => ?_)
  · rw [hf3] at h189
    replace hpe := hpe.resolve_right (fun q => q.1 h189)
    obtain ⟨a1, a2, a3, a4, a5⟩ := hpe.2
    have hv2 : tdv s n A 2 (p_sg s n (nI (128 + 7)) (p_nb s n 0 30 (p_sg s n (nI (128 + 6)) (i + 2, 0)))).1 (p_sg s n (nI (128 + 7)) (p_nb s n 0 30 (p_sg s n (nI (128 + 6)) (i + 2, 0)))).2 0 = fiA A 2 (tW s n (i + 5)) := by rw [a1, a2.1, a3]; exact a4.2.2
    refine And.intro rfl (Exists.intro _ (And.intro (hW 252 10 258 rfl) ?_))
    refine Exists.intro _ (Exists.intro _ (And.intro rfl (And.intro (fc_ixn rfl (by omega) (by decide)) ?_)))
    refine And.intro rfl (Exists.intro _ (And.intro (hW 252 10 258 rfl) ?_))
    refine Exists.intro _ (Exists.intro _ (And.intro rfl (And.intro (fc_ixn (fc_na rfl (fc_nl 1)) (by omega) (by decide)) ?_)))
    rw [hpe.2.2.2.2.2]
    have hfl := hf0.tr (((u1.tr u2).tr u3).fl (ml := ml))
    refine ⟨rfl, rfl, ⟨fun y q1 q2 q3 q4 q5 => ?_, fun k q => ?_, hfl.2.2.1, hfl.2.2.2.1, hfl.2.2.2.2⟩, ?_, ?_⟩
    · rw [fc_u_off _ _ _ q2, fc_u_off _ _ _ q2]; exact hfl.1 y q1 q2 q3 q4 q5
    · rw [fc_u_nj _ _ _ _ (by omega), fc_u_nj _ _ _ _ (by omega)]; exact hfl.2.1 k q
    · have g3' : rst s n N (ptl s n A (i + 2)).1 (ptl s n A (i + 2)).2 m3 ml := g3
      rw [hpe.1] at g3'
      exact g3'.rows rfl rfl rfl rfl rfl rfl
    · have hz : rRA (ps_ta A (tN s n (i + 3)) (fiA A 2 (tW s n (i + 5))) (tW s n (i + 1))) (A.1 2) (A.1 3 + 1) _ ml := rRA.thng hB h6 (hR.fr ((u1.tr u2).tr u3))
      rw [hv2, a1, if_pos (show (0 : Int32) = 0 ∧ _ ∧ _ from ⟨rfl, a2.2.1, a2.2.2⟩)]
      exact hz
  · rw [hf3] at h189
    replace hpe := hpe.resolve_left (fun q => h189 (by rw [q.1]))
    rw [hpe.2]
    exact ⟨rfl, rfl, hf0.tr ((u1.tr u2).tr u3).fl, h189, _, g3⟩
end M78
