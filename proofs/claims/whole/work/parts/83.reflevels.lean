section M83
variable {E : fc_E} {D t : Nat} {mi mm : fc_Mi} {ml : fc_Ml} {mr : fc_Mr} {n N i j c dp q0 : Nat} {s : Nat → Int32} {e : Int32} {o o1 : List Int32}
theorem l_rsumsF (hW : fc_Wd mr) (hS : rst s n N (j + 1) e mm ml) (hne : ¬ e = 0) (hfk : fok e) (hF : rFO mi mm) (hc : mm 252 13 = nI c) (hb : c + i ≤ q0 + j) {K : Nat → List Int32 → Prop} {F : Int32 → Prop} (hFe : F e) {x1 x2 : Option Value} : fc_T E mX11_sums (D + 5) (0, 0) fc_sh 5 [some (.ref 252), x1, x2] [] mm ml mr (rlq s n N i q0 mi ml mr K F) := by
  refine fc_run oX11_sums (fun _ => false) 400 ?_
  refine And.intro rfl (Exists.intro _ (And.intro (c_risSign hW hS (c := 43) (by omega) (by decide) rfl) ?_))
  rintro _ _ _ _ ⟨rfl, rfl, rfl, rfl⟩
  refine And.intro (fun h11 => ?_) (fun h11 => ?_)
  · replace h11 := fc_b0.mp h11
    refine And.intro rfl (Exists.intro _ (And.intro (c_risSign hW hS (c := 45) (by omega) (by decide) rfl) ?_))
    rintro _ _ _ _ ⟨rfl, rfl, rfl, rfl⟩
    refine And.intro (fun h20 => ?_) (fun h20 => ?_)
    · replace h20 := fc_b0.mp h20
      exact ⟨rfl, rfl, rfl, hF, j, c, hc, hb, .inr ⟨e, hne, hfk, hS, hFe⟩⟩
    · replace h20 := fc_b1.mp h20
      rw [decide_eq_false hne, Bool.false_and] at h20; cases h20
  · replace h11 := fc_b1.mp h11
    rw [decide_eq_false hne, Bool.false_and] at h11; cases h11
theorem l_rsums (hW : fc_Wd mr) (hdp : dp ≤ 5) (hD : 5 * (5 - dp) ≤ D) (ht : N - i ≤ t) (ho : o.length ≤ i) (SB : PRc E s n N mr t) : ∀ (q j : Nat) (o1 : List Int32) (mm : fc_Mi) (x2 : Option Value), N - j ≤ q → LL s n N 3 dp i o j o1 false ∧ rkn (tK s n (j + 1)) ≤ 3 → o1.length + i ≤ o.length + j → rst s n N (j + 1) 0 mm ml → mm 252 13 = nI o1.length → fc_S2 (mm 259) (mm 260) o1 → rFO mi mm → fc_T E mX11_sums (D + 5) (0, 0) fc_sh 5 [some (.ref 252), some (.int (nI dp)), x2] [] mm ml mr (rlq s n N i o.length mi ml mr (fun j o' => LL s n N 3 dp i o j o' false ∧ rkn (tK s n (j + 1)) ≤ 2) (fun e => LE s n N 3 dp i o e)) := by
  intro q
  induction q with
  | zero => intro j o1 mm x2 hq hL hb hS; exact absurd hS.2.1 (by omega)
  | succ q ih =>
    intro j o1 mm x2 hq hL hb hS hc hs hF
    obtain ⟨hL, hx⟩ := hL
    have hN : N ≤ 1000 := Nat.le_trans hS.1.2.1 hS.1.2.2.1
    have hjN := hS.2.1
    have hat := hS.2.2.1
    have hij := hL.2.1
    refine fc_run oX11_sums (fun pc => pc == 5) 400 ?_
    refine And.intro rfl (Exists.intro _ (And.intro (c_risSign hW hS (c := 43) (by omega) (by decide) rfl) ?_))
    rintro _ _ _ _ ⟨rfl, rfl, rfl, rfl⟩
    refine And.intro (fun h11 => ?_) (fun h11 => ?_)
    · replace h11 := fc_b0.mp h11
      have hk11 : ¬ tK s n (j + 1) = 43 := fun q => by rw [decide_eq_true (show (0 : Int32) = 0 from rfl), decide_eq_true (show tK s n (j + 1) = nI 43 from q)] at h11; cases h11
      refine And.intro rfl (Exists.intro _ (And.intro (c_risSign hW hS (c := 45) (by omega) (by decide) rfl) ?_))
      rintro _ _ _ _ ⟨rfl, rfl, rfl, rfl⟩
      refine And.intro (fun h20 => ?_) (fun h20 => ?_)
      · replace h20 := fc_b0.mp h20
        have hk20 : ¬ tK s n (j + 1) = 45 := fun q => by rw [decide_eq_true (show (0 : Int32) = 0 from rfl), decide_eq_true (show tK s n (j + 1) = nI 45 from q)] at h20; cases h20
        refine ⟨rfl, rfl, rfl, hF, j, o1.length, hc, hb, .inl ⟨o1, rfl, hS, hs, hL, by rcases rkn_c (tK s n (j + 1)) with ⟨q, _⟩ | ⟨_, q | q⟩ | ⟨q, _⟩ | ⟨q, _⟩ | ⟨q, _⟩ <;> first | exact absurd q hk11 | exact absurd q hk20 | omega⟩⟩
      · replace h20 := fc_b1.mp h20
        have hk20 : tK s n (j + 1) = 45 := by rw [Bool.and_eq_true] at h20; exact of_decide_eq_true h20.2
        have hlt : j + 1 < N := hS.lt (by rw [hk20]; decide)
        refine And.intro rfl (Exists.intro _ (And.intro (c_risSign hW hS (c := 43) (by omega) (by decide) rfl) ?_))
        rintro _ _ _ _ ⟨rfl, rfl, rfl, rfl⟩
        refine And.intro rfl ?_
        rw [hat]
        refine And.intro rfl ?_
        rw [nI_1 (j + 1)]
        refine And.intro rfl (Exists.intro _ (And.intro (SB (j + 1) dp D o1 (fc_u mm 252 7 (nI (j + 1 + 1))) ml _ rfl (by omega) hD hdp (by omega) (hS.next hlt) hc hs) ?_))
        rintro _ m2 _ _ ⟨rfl, rfl, rfl, f2, j2, c2, hc2, hb2, hk2⟩
        have hj2 : j2 + 1 ≤ N := by rcases hk2 with ⟨_, _, q, _⟩ | ⟨_, _, _, q, _⟩ <;> exact q.2.1
        refine And.intro (fun h47 => ?_) (fun h47 => ?_)
        · replace h47 := fc_b0.mp h47
          refine And.intro rfl (Exists.intro _ (And.intro (c_remt hW hc2 (by omega) _ _) ?_))
          rintro _ _ _ _ ⟨rfl, rfl, rfl, rfl⟩
          rcases hk2 with ⟨o2, rfl, a1, a2, a3⟩ | ⟨e, a1, a2, a3, a4⟩
          · obtain ⟨a3, a5⟩ := a3
            have hz := LL_op (R := 3) (.inr (.inl rfl)) hdp hL (by omega) (by rw [hk20]; rfl) (by omega) a3
            rw [hk20] at hz
            have := a3.2.1
            exact ih j2 _ _ _ (by omega) ⟨hz, a5⟩ (by rw [List.length_cons]; omega) (rem_rst a1) rem_c (rem_s2 a2 (.inr (.inr (.inr (.inr (.inl ⟨rfl, rfl⟩)))))) (hF.tr ((rfr_at _).fo.tr (f2.tr rem_fo)))
          · exact l_rsumsF hW (rem_rst a3) a1 a2 (hF.tr ((rfr_at _).fo.tr (f2.tr rem_fo))) rem_c (by omega) (LE_op (R := 3) (.inr (.inl rfl)) hdp hL (by omega) (by rw [hk20]; rfl) (by omega) a4)
        · replace h47 := fc_b1.mp h47
          rw [Bool.and_eq_true] at h47; exact absurd (of_decide_eq_true h47.2) hk11
    · replace h11 := fc_b1.mp h11
      have hk11 : tK s n (j + 1) = 43 := by rw [Bool.and_eq_true] at h11; exact of_decide_eq_true h11.2
      have hlt : j + 1 < N := hS.lt (by rw [hk11]; decide)
      refine And.intro rfl (Exists.intro _ (And.intro (c_risSign hW hS (c := 43) (by omega) (by decide) rfl) ?_))
      rintro _ _ _ _ ⟨rfl, rfl, rfl, rfl⟩
      refine And.intro rfl ?_
      rw [hat]
      refine And.intro rfl ?_
      rw [nI_1 (j + 1)]
      refine And.intro rfl (Exists.intro _ (And.intro (SB (j + 1) dp D o1 (fc_u mm 252 7 (nI (j + 1 + 1))) ml _ rfl (by omega) hD hdp (by omega) (hS.next hlt) hc hs) ?_))
      rintro _ m2 _ _ ⟨rfl, rfl, rfl, f2, j2, c2, hc2, hb2, hk2⟩
      have hj2 : j2 + 1 ≤ N := by rcases hk2 with ⟨_, _, q, _⟩ | ⟨_, _, _, q, _⟩ <;> exact q.2.1
      refine And.intro (fun h47 => ?_) (fun h47 => ?_)
      · replace h47 := fc_b0.mp h47
        exact absurd h47 (by rw [decide_eq_true (show (0 : Int32) = 0 from rfl), decide_eq_true (show tK s n (j + 1) = nI 43 from hk11)]; decide)
      · replace h47 := fc_b1.mp h47
        refine And.intro rfl (Exists.intro _ (And.intro (c_remt hW hc2 (by omega) _ _) ?_))
        rintro _ _ _ _ ⟨rfl, rfl, rfl, rfl⟩
        rcases hk2 with ⟨o2, rfl, a1, a2, a3⟩ | ⟨e, a1, a2, a3, a4⟩
        · obtain ⟨a3, a5⟩ := a3
          have hz := LL_op (R := 3) (.inr (.inl rfl)) hdp hL (by omega) (by rw [hk11]; rfl) (by omega) a3
          rw [hk11] at hz
          have := a3.2.1
          exact ih j2 _ _ _ (by omega) ⟨hz, a5⟩ (by rw [List.length_cons]; omega) (rem_rst a1) rem_c (rem_s2 a2 (.inr (.inr (.inr (.inl ⟨rfl, rfl⟩))))) (hF.tr ((rfr_at _).fo.tr (f2.tr rem_fo)))
        · exact l_rsumsF hW (rem_rst a3) a1 a2 (hF.tr ((rfr_at _).fo.tr (f2.tr rem_fo))) rem_c (by omega) (LE_op (R := 3) (.inr (.inl rfl)) hdp hL (by omega) (by rw [hk11]; rfl) (by omega) a4)
theorem c_rsums (hW : fc_Wd mr) (SB : PRc E s n N mr t) : SUc E s n N mr t := by
  intro i dp D o mi ml x0 hx0 ht hD hdp ho hS hc hs
  subst hx0
  refine fc_met rfl (Nat.le_of_ble_eq_true rfl) (fc_run oX11_sums (fun pc => pc == 5) 400 ?_)
  refine And.intro rfl (Exists.intro _ (And.intro (SB i dp D o mi ml _ rfl ht hD hdp ho hS hc hs) ?_))
  rintro _ m1 _ _ ⟨rfl, rfl, rfl, f1, j1, c1, hc1, hb1, hk1⟩
  have hj1 : j1 + 1 ≤ N := by rcases hk1 with ⟨_, _, q, _⟩ | ⟨_, _, _, q, _⟩ <;> exact q.2.1
  rcases hk1 with ⟨o1, rfl, a1, a2, a3⟩ | ⟨e, a1, a2, a3, a4⟩
  · obtain ⟨a3, a5⟩ := a3
    exact l_rsums hW hdp hD ht ho SB _ j1 o1 m1 _ (Nat.le_refl _) ⟨LL_up a3, a5⟩ hb1 a1 hc1 a2 f1
  · exact l_rsumsF hW a3 a1 a2 f1 hc1 hb1 (LE_up a4)
theorem l_rtestF (hW : fc_Wd mr) (hS : rst s n N (j + 1) e mm ml) (hne : ¬ e = 0) (hfk : fok e) (hF : rFO mi mm) (hc : mm 252 13 = nI c) (hb : c + i ≤ q0 + j) {K : Nat → List Int32 → Prop} {F : Int32 → Prop} (hFe : F e) {y1 : Int32} {x2 : Option Value} : fc_T E mX11_test (D + 6) (0, 0) fc_sh 5 [some (.ref 252), some (.int y1), x2] [] mm ml mr (rlq s n N i q0 mi ml mr K F) := by
  refine fc_run oX11_test (fun _ => false) 400 ?_
  refine And.intro rfl (Exists.intro _ (And.intro (c_risSign hW hS (c := 60) (by omega) (by decide) rfl) ?_))
  rintro _ _ _ _ ⟨rfl, rfl, rfl, rfl⟩
  refine And.intro rfl (Exists.intro _ (And.intro (c_rhasSign hW hS (c := 60) (by omega) (by decide) rfl) ?_))
  rintro _ m1 _ _ ⟨rfl, g1, u1, rfl, rfl⟩
  rw [if_neg (fun q => hne q.1)] at g1
  refine And.intro (fun h18 => ?_) (fun h18 => ?_)
  · replace h18 := fc_b0.mp h18
    refine And.intro rfl (Exists.intro _ (And.intro (c_rhasSign hW g1 (c := 61) (by omega) (by decide) rfl) ?_))
    rintro _ m2 _ _ ⟨rfl, g2, u2, rfl, rfl⟩
    rw [if_neg (fun q => hne q.1)] at g2
    refine And.intro (fun h27 => ?_) (fun h27 => ?_)
    · replace h27 := fc_b0.mp h27
      exact ⟨rfl, rfl, rfl, hF.tr (u1.fo.tr u2.fo), j, c, (u2.2 13 (by decide) (by decide)).trans ((u1.2 13 (by decide) (by decide)).trans hc), hb, .inr ⟨e, hne, hfk, g2, hFe⟩⟩
    · replace h27 := fc_b1.mp h27
      rw [decide_eq_false hne, Bool.false_and] at h27; cases h27
  · replace h18 := fc_b1.mp h18
    rw [decide_eq_false hne, Bool.false_and] at h18; cases h18
theorem l_rtest (hW : fc_Wd mr) (hdp : dp ≤ 5) (hD : 5 * (5 - dp) ≤ D) (ht : N - i ≤ t) (ho : o.length ≤ i) (SB : SUc E s n N mr t) {j : Nat} {o1 : List Int32} {mm : fc_Mi} {x2 : Option Value} (hL : LL s n N 3 dp i o j o1 false) (hx : rkn (tK s n (j + 1)) ≤ 2) (hb : o1.length + i ≤ o.length + j) (hS : rst s n N (j + 1) 0 mm ml) (hc : mm 252 13 = nI o1.length) (hs : fc_S2 (mm 259) (mm 260) o1) (hF : rFO mi mm) : fc_T E mX11_test (D + 6) (0, 0) fc_sh 5 [some (.ref 252), some (.int (nI dp)), x2] [] mm ml mr (rlq s n N i o.length mi ml mr (fun j o' => ∃ b, LL s n N 2 dp i o j o' b ∧ (rkn (tK s n (j + 1)) ≤ 1 ∨ (rkn (tK s n (j + 1)) = 2 ∧ b = true))) (fun e => LE s n N 2 dp i o e)) := by
  have hN : N ≤ 1000 := Nat.le_trans hS.1.2.1 hS.1.2.2.1
  have hjN := hS.2.1
  have hat := hS.2.2.1
  have hij := hL.2.1
  refine fc_run oX11_test (fun _ => false) 400 ?_
  refine And.intro rfl (Exists.intro _ (And.intro (c_risSign hW hS (c := 60) (by omega) (by decide) rfl) ?_))
  rintro _ _ _ _ ⟨rfl, rfl, rfl, rfl⟩
  refine And.intro rfl (Exists.intro _ (And.intro (c_rhasSign hW hS (c := 60) (by omega) (by decide) rfl) ?_))
  rintro _ m1 _ _ ⟨rfl, g1, u1, rfl, rfl⟩
  refine And.intro (fun h18 => ?_) (fun h18 => ?_)
  · replace h18 := fc_b0.mp h18
    have hk18 : ¬ tK s n (j + 1) = 60 := fun q => by rw [decide_eq_true (show (0 : Int32) = 0 from rfl), decide_eq_true (show tK s n (j + 1) = nI 60 from q)] at h18; cases h18
    rw [if_neg (fun q => hk18 q.2)] at g1
    refine And.intro rfl (Exists.intro _ (And.intro (c_rhasSign hW g1 (c := 61) (by omega) (by decide) rfl) ?_))
    rintro _ m2 _ _ ⟨rfl, g2, u2, rfl, rfl⟩
    refine And.intro (fun h27 => ?_) (fun h27 => ?_)
    · replace h27 := fc_b0.mp h27
      have hk27 : ¬ tK s n (j + 1) = 61 := fun q => by rw [decide_eq_true (show (0 : Int32) = 0 from rfl), decide_eq_true (show tK s n (j + 1) = nI 61 from q)] at h27; cases h27
      rw [if_neg (fun q => hk27 q.2)] at g2
      have U := u1.tr u2
      refine ⟨rfl, rfl, rfl, hF.tr U.fo, j, o1.length, (U.2 13 (by decide) (by decide)).trans hc, hb, .inl ⟨o1, rfl, g2, ?_, false, LL_up hL, .inl ?_⟩⟩
      · rw [U.1 259 (by decide), U.1 260 (by decide)]; exact hs
      · rcases rkn_c (tK s n (j + 1)) with ⟨q, _⟩ | ⟨q, _⟩ | ⟨_, q | q⟩ | ⟨q, _⟩ | ⟨q, _⟩ <;> first | exact absurd q hk18 | exact absurd q hk27 | omega
    · replace h27 := fc_b1.mp h27
      have hk27 : tK s n (j + 1) = 61 := by rw [Bool.and_eq_true] at h27; exact of_decide_eq_true h27.2
      rw [if_pos ⟨rfl, hk27⟩] at g2
      have G := g2
      have U := u1.tr u2
      refine And.intro rfl (Exists.intro _ (And.intro (SB (j + 1) dp D o1 _ ml _ rfl (by omega) hD hdp (by omega) G ((U.2 13 (by decide) (by decide)).trans hc) (by rw [U.1 259 (by decide), U.1 260 (by decide)]; exact hs)) ?_))
      rintro _ m3 _ _ ⟨rfl, rfl, rfl, f3, j3, c3, hc3, hb3, hk3⟩
      have hj3 : j3 + 1 ≤ N := by rcases hk3 with ⟨_, _, q, _⟩ | ⟨_, _, _, q, _⟩ <;> exact q.2.1
      refine And.intro (fun h37 => ?_) (fun h37 => ?_)
      · replace h37 := fc_b0.mp h37
        refine And.intro rfl (Exists.intro _ (And.intro (c_remt hW hc3 (by omega) _ _) ?_))
        rintro _ _ _ _ ⟨rfl, rfl, rfl, rfl⟩
        rcases hk3 with ⟨o2, rfl, a1, a2, a3, a5⟩ | ⟨e, a1, a2, a3, a4⟩
        · have hz := LL_ts hdp hL (by omega) (by rw [hk27]; rfl) (by omega) (by omega) a3
          rw [hk27] at hz
          exact ⟨rfl, rfl, rfl, hF.tr (U.fo.tr (f3.tr rem_fo)), j3, _, rem_c, by omega, .inl ⟨_, (List.length_cons).symm, rem_rst a1, rem_s2 a2 (.inr (.inr (.inr (.inr (.inr (.inr (.inr (.inl ⟨rfl, rfl⟩)))))))), true, hz, (Nat.lt_or_ge (rkn (tK s n (j3 + 1))) 2).elim (fun q => .inl (by omega)) (fun q => .inr ⟨by omega, rfl⟩)⟩⟩
        · exact ⟨rfl, rfl, rfl, hF.tr (U.fo.tr (f3.tr rem_fo)), j3, _, rem_c, by omega, .inr ⟨e, a1, a2, rem_rst a3, LE_ts hdp hL (by omega) (by rw [hk27]; rfl) (by omega) a4⟩⟩
      · replace h37 := fc_b1.mp h37
        rw [Bool.and_eq_true] at h37; exact absurd (of_decide_eq_true h37.2) hk18
  · replace h18 := fc_b1.mp h18
    have hk18 : tK s n (j + 1) = 60 := by rw [Bool.and_eq_true] at h18; exact of_decide_eq_true h18.2
    rw [if_pos ⟨rfl, hk18⟩] at g1
    have G := g1
    have U := u1
    refine And.intro rfl (Exists.intro _ (And.intro (SB (j + 1) dp D o1 _ ml _ rfl (by omega) hD hdp (by omega) G ((U.2 13 (by decide) (by decide)).trans hc) (by rw [U.1 259 (by decide), U.1 260 (by decide)]; exact hs)) ?_))
    rintro _ m3 _ _ ⟨rfl, rfl, rfl, f3, j3, c3, hc3, hb3, hk3⟩
    have hj3 : j3 + 1 ≤ N := by rcases hk3 with ⟨_, _, q, _⟩ | ⟨_, _, _, q, _⟩ <;> exact q.2.1
    refine And.intro (fun h37 => ?_) (fun h37 => ?_)
    · replace h37 := fc_b0.mp h37
      exact absurd h37 (by rw [decide_eq_true (show (0 : Int32) = 0 from rfl), decide_eq_true (show tK s n (j + 1) = nI 60 from hk18)]; decide)
    · replace h37 := fc_b1.mp h37
      refine And.intro rfl (Exists.intro _ (And.intro (c_remt hW hc3 (by omega) _ _) ?_))
      rintro _ _ _ _ ⟨rfl, rfl, rfl, rfl⟩
      rcases hk3 with ⟨o2, rfl, a1, a2, a3, a5⟩ | ⟨e, a1, a2, a3, a4⟩
      · have hz := LL_ts hdp hL (by omega) (by rw [hk18]; rfl) (by omega) (by omega) a3
        rw [hk18] at hz
        exact ⟨rfl, rfl, rfl, hF.tr (U.fo.tr (f3.tr rem_fo)), j3, _, rem_c, by omega, .inl ⟨_, (List.length_cons).symm, rem_rst a1, rem_s2 a2 (.inr (.inr (.inr (.inr (.inr (.inr (.inl ⟨rfl, rfl⟩))))))), true, hz, (Nat.lt_or_ge (rkn (tK s n (j3 + 1))) 2).elim (fun q => .inl (by omega)) (fun q => .inr ⟨by omega, rfl⟩)⟩⟩
      · exact ⟨rfl, rfl, rfl, hF.tr (U.fo.tr (f3.tr rem_fo)), j3, _, rem_c, by omega, .inr ⟨e, a1, a2, rem_rst a3, LE_ts hdp hL (by omega) (by rw [hk18]; rfl) (by omega) a4⟩⟩
theorem c_rtest (hW : fc_Wd mr) (SB : SUc E s n N mr t) : TEc E s n N mr t := by
  intro i dp D o mi ml x0 hx0 ht hD hdp ho hS hc hs
  subst hx0
  refine fc_met rfl (Nat.le_of_ble_eq_true rfl) (fc_run oX11_test (fun pc => pc == 5) 400 ?_)
  refine And.intro rfl (Exists.intro _ (And.intro (SB i dp D o mi ml _ rfl ht hD hdp ho hS hc hs) ?_))
  rintro _ m1 _ _ ⟨rfl, rfl, rfl, f1, j1, c1, hc1, hb1, hk1⟩
  have hj1 : j1 + 1 ≤ N := by rcases hk1 with ⟨_, _, q, _⟩ | ⟨_, _, _, q, _⟩ <;> exact q.2.1
  rcases hk1 with ⟨o1, rfl, a1, a2, a3, a5⟩ | ⟨e, a1, a2, a3, a4⟩
  · exact l_rtest hW hdp hD ht ho SB a3 a5 hb1 a1 hc1 a2 f1
  · exact l_rtestF hW a3 a1 a2 f1 hc1 hb1 (LE_up a4)
theorem l_rwholeF (hW : fc_Wd mr) (hS : rst s n N (j + 1) e mm ml) (hne : ¬ e = 0) (hfk : fok e) (hF : rFO mi mm) (hc : mm 252 13 = nI c) (hb : c + i ≤ q0 + j) {K : Nat → List Int32 → Prop} {F : Int32 → Prop} (hFe : F e) {x1 x2 : Option Value} : fc_T E mX11_whole (D + 7) (0, 0) fc_sh 5 [some (.ref 252), x1, x2] [] mm ml mr (rlq s n N i q0 mi ml mr K F) := by
  refine fc_run oX11_whole (fun _ => false) 400 ?_
  refine And.intro rfl (Exists.intro _ (And.intro (c_risWord hW hS (w := 19) (by omega) rfl) ?_))
  rintro _ _ _ _ ⟨rfl, rfl, rfl, rfl⟩
  refine And.intro (fun h11 => ?_) (fun h11 => ?_)
  · replace h11 := fc_b0.mp h11
    refine And.intro rfl (Exists.intro _ (And.intro (c_risWord hW hS (w := 20) (by omega) rfl) ?_))
    rintro _ _ _ _ ⟨rfl, rfl, rfl, rfl⟩
    refine And.intro (fun h20 => ?_) (fun h20 => ?_)
    · replace h20 := fc_b0.mp h20
      exact ⟨rfl, rfl, rfl, hF, j, c, hc, hb, .inr ⟨e, hne, hfk, hS, hFe⟩⟩
    · replace h20 := fc_b1.mp h20
      rw [decide_eq_false hne, Bool.false_and] at h20; cases h20
  · replace h11 := fc_b1.mp h11
    rw [decide_eq_false hne, Bool.false_and] at h11; cases h11
theorem l_rwhole (hW : fc_Wd mr) (hdp : dp ≤ 5) (hD : 5 * (5 - dp) ≤ D) (ht : N - i ≤ t) (ho : o.length ≤ i) (SB : TEc E s n N mr t) : ∀ (q j : Nat) (o1 : List Int32) (mm : fc_Mi) (x2 : Option Value), N - j ≤ q → (∃ b, LL s n N 1 dp i o j o1 b ∧ (rkn (tK s n (j + 1)) ≤ 1 ∨ (rkn (tK s n (j + 1)) = 2 ∧ b = true))) → o1.length + i ≤ o.length + j → rst s n N (j + 1) 0 mm ml → mm 252 13 = nI o1.length → fc_S2 (mm 259) (mm 260) o1 → rFO mi mm → fc_T E mX11_whole (D + 7) (0, 0) fc_sh 5 [some (.ref 252), some (.int (nI dp)), x2] [] mm ml mr (rlq s n N i o.length mi ml mr (fun j o' => ∃ b, LL s n N 1 dp i o j o' b ∧ lex s n j b) (fun e => LE s n N 1 dp i o e)) := by
  intro q
  induction q with
  | zero => intro j o1 mm x2 hq hL hb hS; exact absurd hS.2.1 (by omega)
  | succ q ih =>
    intro j o1 mm x2 hq hL hb hS hc hs hF
    obtain ⟨b0, hL, hx⟩ := hL
    have hN : N ≤ 1000 := Nat.le_trans hS.1.2.1 hS.1.2.2.1
    have hjN := hS.2.1
    have hat := hS.2.2.1
    have hij := hL.2.1
    refine fc_run oX11_whole (fun pc => pc == 5) 400 ?_
    refine And.intro rfl (Exists.intro _ (And.intro (c_risWord hW hS (w := 19) (by omega) rfl) ?_))
    rintro _ _ _ _ ⟨rfl, rfl, rfl, rfl⟩
    refine And.intro (fun h11 => ?_) (fun h11 => ?_)
    · replace h11 := fc_b0.mp h11
      have hk11 : ¬ tK s n (j + 1) = 147 := fun q => by rw [decide_eq_true (show (0 : Int32) = 0 from rfl), decide_eq_true (show tK s n (j + 1) = nI (128 + 19) from q)] at h11; cases h11
      refine And.intro rfl (Exists.intro _ (And.intro (c_risWord hW hS (w := 20) (by omega) rfl) ?_))
      rintro _ _ _ _ ⟨rfl, rfl, rfl, rfl⟩
      refine And.intro (fun h20 => ?_) (fun h20 => ?_)
      · replace h20 := fc_b0.mp h20
        have hk20 : ¬ tK s n (j + 1) = 148 := fun q => by rw [decide_eq_true (show (0 : Int32) = 0 from rfl), decide_eq_true (show tK s n (j + 1) = nI (128 + 20) from q)] at h20; cases h20
        refine ⟨rfl, rfl, rfl, hF, j, o1.length, hc, hb, .inl ⟨o1, rfl, hS, hs, b0, hL, by unfold lex; rcases rkn_c (tK s n (j + 1)) with ⟨q, _⟩ | ⟨q, _⟩ | ⟨q, _⟩ | ⟨_, q | q⟩ | ⟨q, _⟩ <;> first | exact absurd q hk11 | exact absurd q hk20 | (rcases hx with hx | hx <;> first | (exact .inl (by omega)) | (exact .inr hx) | (exfalso; omega))⟩⟩
      · replace h20 := fc_b1.mp h20
        have hk20 : tK s n (j + 1) = 148 := by rw [Bool.and_eq_true] at h20; exact of_decide_eq_true h20.2
        have hlt : j + 1 < N := hS.lt (by rw [hk20]; decide)
        refine And.intro rfl (Exists.intro _ (And.intro (c_risWord hW hS (w := 19) (by omega) rfl) ?_))
        rintro _ _ _ _ ⟨rfl, rfl, rfl, rfl⟩
        refine And.intro rfl ?_
        rw [hat]
        refine And.intro rfl ?_
        rw [nI_1 (j + 1)]
        refine And.intro rfl (Exists.intro _ (And.intro (SB (j + 1) dp D o1 (fc_u mm 252 7 (nI (j + 1 + 1))) ml _ rfl (by omega) hD hdp (by omega) (hS.next hlt) hc hs) ?_))
        rintro _ m2 _ _ ⟨rfl, rfl, rfl, f2, j2, c2, hc2, hb2, hk2⟩
        have hj2 : j2 + 1 ≤ N := by rcases hk2 with ⟨_, _, q, _⟩ | ⟨_, _, _, q, _⟩ <;> exact q.2.1
        refine And.intro (fun h47 => ?_) (fun h47 => ?_)
        · replace h47 := fc_b0.mp h47
          refine And.intro rfl (Exists.intro _ (And.intro (c_remt hW hc2 (by omega) _ _) ?_))
          rintro _ _ _ _ ⟨rfl, rfl, rfl, rfl⟩
          rcases hk2 with ⟨o2, rfl, a1, a2, a3⟩ | ⟨e, a1, a2, a3, a4⟩
          · obtain ⟨b1, a3, a5⟩ := a3
            have hz := LL_op (R := 1) (.inr (.inr rfl)) hdp hL (by omega) (by rw [hk20]; rfl) (by omega) a3
            rw [hk20] at hz
            have := a3.2.1
            exact ih j2 _ _ _ (by omega) ⟨b1, hz, a5⟩ (by rw [List.length_cons]; omega) (rem_rst a1) rem_c (rem_s2 a2 (.inr (.inr (.inr (.inr (.inr (.inr (.inr (.inr (.inr ⟨rfl, rfl⟩)))))))))) (hF.tr ((rfr_at _).fo.tr (f2.tr rem_fo)))
          · exact l_rwholeF hW (rem_rst a3) a1 a2 (hF.tr ((rfr_at _).fo.tr (f2.tr rem_fo))) rem_c (by omega) (LE_op (R := 1) (.inr (.inr rfl)) hdp hL (by omega) (by rw [hk20]; rfl) (by omega) a4)
        · replace h47 := fc_b1.mp h47
          rw [Bool.and_eq_true] at h47; exact absurd (of_decide_eq_true h47.2) hk11
    · replace h11 := fc_b1.mp h11
      have hk11 : tK s n (j + 1) = 147 := by rw [Bool.and_eq_true] at h11; exact of_decide_eq_true h11.2
      have hlt : j + 1 < N := hS.lt (by rw [hk11]; decide)
      refine And.intro rfl (Exists.intro _ (And.intro (c_risWord hW hS (w := 19) (by omega) rfl) ?_))
      rintro _ _ _ _ ⟨rfl, rfl, rfl, rfl⟩
      refine And.intro rfl ?_
      rw [hat]
      refine And.intro rfl ?_
      rw [nI_1 (j + 1)]
      refine And.intro rfl (Exists.intro _ (And.intro (SB (j + 1) dp D o1 (fc_u mm 252 7 (nI (j + 1 + 1))) ml _ rfl (by omega) hD hdp (by omega) (hS.next hlt) hc hs) ?_))
      rintro _ m2 _ _ ⟨rfl, rfl, rfl, f2, j2, c2, hc2, hb2, hk2⟩
      have hj2 : j2 + 1 ≤ N := by rcases hk2 with ⟨_, _, q, _⟩ | ⟨_, _, _, q, _⟩ <;> exact q.2.1
      refine And.intro (fun h47 => ?_) (fun h47 => ?_)
      · replace h47 := fc_b0.mp h47
        exact absurd h47 (by rw [decide_eq_true (show (0 : Int32) = 0 from rfl), decide_eq_true (show tK s n (j + 1) = nI (128 + 19) from hk11)]; decide)
      · replace h47 := fc_b1.mp h47
        refine And.intro rfl (Exists.intro _ (And.intro (c_remt hW hc2 (by omega) _ _) ?_))
        rintro _ _ _ _ ⟨rfl, rfl, rfl, rfl⟩
        rcases hk2 with ⟨o2, rfl, a1, a2, a3⟩ | ⟨e, a1, a2, a3, a4⟩
        · obtain ⟨b1, a3, a5⟩ := a3
          have hz := LL_op (R := 1) (.inr (.inr rfl)) hdp hL (by omega) (by rw [hk11]; rfl) (by omega) a3
          rw [hk11] at hz
          have := a3.2.1
          exact ih j2 _ _ _ (by omega) ⟨b1, hz, a5⟩ (by rw [List.length_cons]; omega) (rem_rst a1) rem_c (rem_s2 a2 (.inr (.inr (.inr (.inr (.inr (.inr (.inr (.inr (.inl ⟨rfl, rfl⟩)))))))))) (hF.tr ((rfr_at _).fo.tr (f2.tr rem_fo)))
        · exact l_rwholeF hW (rem_rst a3) a1 a2 (hF.tr ((rfr_at _).fo.tr (f2.tr rem_fo))) rem_c (by omega) (LE_op (R := 1) (.inr (.inr rfl)) hdp hL (by omega) (by rw [hk11]; rfl) (by omega) a4)
theorem c_rwhole (hW : fc_Wd mr) (SB : TEc E s n N mr t) : WHc E s n N mr t := by
  intro i dp D o mi ml x0 hx0 ht hD hdp ho hS hc hs
  subst hx0
  refine fc_met rfl (Nat.le_of_ble_eq_true rfl) (fc_run oX11_whole (fun pc => pc == 5) 400 ?_)
  refine And.intro rfl (Exists.intro _ (And.intro (SB i dp D o mi ml _ rfl ht hD hdp ho hS hc hs) ?_))
  rintro _ m1 _ _ ⟨rfl, rfl, rfl, f1, j1, c1, hc1, hb1, hk1⟩
  have hj1 : j1 + 1 ≤ N := by rcases hk1 with ⟨_, _, q, _⟩ | ⟨_, _, _, q, _⟩ <;> exact q.2.1
  rcases hk1 with ⟨o1, rfl, a1, a2, a3⟩ | ⟨e, a1, a2, a3, a4⟩
  · obtain ⟨b1, a3, a5⟩ := a3
    exact l_rwhole hW hdp hD ht ho SB _ j1 o1 m1 _ (Nat.le_refl _) ⟨b1, LL_up a3, a5⟩ hb1 a1 hc1 a2 f1
  · exact l_rwholeF hW a3 a1 a2 f1 hc1 hb1 (LE_up a4)
end M83
