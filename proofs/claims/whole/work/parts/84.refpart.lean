section M84
variable {E : fc_E} {D t : Nat} {mi mm : fc_Mi} {ml : fc_Ml} {mr : fc_Mr} {n N i j c dp q0 : Nat} {s : Nat → Int32} {e : Int32} {o o1 : List Int32}
theorem whf_c {z : Int32} (hz : whl (fun k => decide ((0 : Int32) = 0) && decide (tK s n (i + 1) = 4 ∧ tk_cl 2 s n (tS s n (i + 1)) (tE s n (i + 1)) = nI k)) 4 = z) : (tK s n (i + 1) = 4 ∧ ∃ k, k < 4 ∧ tk_cl 2 s n (tS s n (i + 1)) (tE s n (i + 1)) = nI k ∧ z = nI k) ∨ (z = -1 ∧ (tK s n (i + 1) = 4 → ∀ k, k < 4 → ¬ tk_cl 2 s n (tS s n (i + 1)) (tE s n (i + 1)) = nI k)) := by
  by_cases h : ∃ k, k < 4 ∧ tK s n (i + 1) = 4 ∧ tk_cl 2 s n (tS s n (i + 1)) (tE s n (i + 1)) = nI k
  · obtain ⟨k, hk, h1, h2⟩ := h
    refine .inl ⟨h1, k, hk, h2, ?_⟩
    rw [← hz]
    refine whl_t hk ?_ (fun j hj q => ?_)
    · rw [decide_eq_true rfl, decide_eq_true ⟨h1, h2⟩]; rfl
    · rw [Bool.and_eq_true] at q
      have := (of_decide_eq_true q.2).2
      rw [h2] at this
      exact (nIn (by omega) (by omega) this).symm
  · refine .inr ⟨?_, fun h1 k hk h2 => h ⟨k, hk, h1, h2⟩⟩
    rw [← hz]
    refine whl_f (fun j hj => ?_)
    rw [decide_eq_false (show ¬ (tK s n (i + 1) = 4 ∧ tk_cl 2 s n (tS s n (i + 1)) (tE s n (i + 1)) = nI j) from fun q => h ⟨j, hj, q.1, q.2⟩), Bool.and_false]
theorem tcl_c {st en : Nat} (h : ∀ k, k < 4 → ¬ tk_cl 2 s n st en = nI k) : tk_cl 2 s n st en = -1 := by
  rcases tk_ce_r (q := 2) (g := tk_sg s n st en) (fc_tl.getD 2 0 / 8) 0 with q | ⟨k, h1, h2⟩
  · exact q
  · exact absurd h2 (h k (by simpa [fc_tl] using h1))
theorem fa_cl (h : tK s n (i + 1) = 4 → ∀ k, k < 4 → ¬ tk_cl 2 s n (tS s n (i + 1)) (tE s n (i + 1)) = nI k) : ps_fa s n (i + 1) = -1 := by
  unfold ps_fa
  split
  · rename_i h4
    have := h h4
    exact tcl_c this
  · rfl
theorem l_rpar (hW : fc_Wd mr) (hd5 : dp < 5) (hi : i < N) (hc40 : tK s n (i + 1) = 40) (ho : o.length ≤ i) {m2 m3 : fc_Mi} (hF2 : rFO mi m2) {j c : Nat} (hF : rFO m2 m3) (hc : m3 252 13 = nI c) (hb : c + (i + 1) ≤ o.length + j) {x1 x2 x3 : Option Value}
  (hk : (∃ o' : List Int32, c = o'.length ∧ rst s n N (j + 1) 0 m3 ml ∧ fc_S2 (m3 259) (m3 260) o' ∧ ∃ b, LL s n N 1 (dp + 1) (i + 1) o j o' b ∧ lex s n j b) ∨ ∃ e, ¬ e = 0 ∧ fok e ∧ rst s n N (j + 1) e m3 ml ∧ LE s n N 1 (dp + 1) (i + 1) o e) :
  fc_T E mX11_takePart (D + 3) (0, 0) fc_sh 128 [some (.ref 252), x1, x2, x3] [] m3 ml mr (rlq s n N i o.length mi ml mr (fun j o' => PK s n N dp i o j o') (fun e => PE s n N dp i o e)) := by
  rcases hk with ⟨o', rfl, a1, a2, b, a3, a4⟩ | ⟨e, a1, a2, a3, a4⟩
  · have hN : N ≤ 1000 := Nat.le_trans a1.1.2.1 a1.1.2.2.1
    have hjN := a1.2.1
    have k3 := a1.1.2.2.1
    refine fc_run oX11_takePart (fun _ => false) 400 ?_
    refine And.intro rfl (Exists.intro _ (And.intro (c_rtakeSign hW a1 (c := 41) (by omega) (by decide) rfl) ?_))
    rintro _ m4 _ _ ⟨rfl, g4, u4, rfl, rfl⟩
    have hS4 : fc_S2 (m4 259) (m4 260) o' := by rw [u4.1 259 (by decide), u4.1 260 (by decide)]; exact a2
    have hc4 := (u4.2 13 (by decide) (by decide)).trans hc
    rcases p_sg_c (s := s) (i := j + 1) (c := nI 41) k3 with ⟨q, hq⟩ | ⟨q, hne, hq⟩
    · rw [q] at g4
      exact ⟨rfl, rfl, rfl, hF2.tr (hF.tr u4.fo), j + 1, _, hc4, by omega, .inl ⟨o', rfl, g4, hS4, PK_par hi hd5 hc40 a3 (by omega) hq (by omega)⟩⟩
    · rw [q] at g4
      exact ⟨rfl, rfl, rfl, hF2.tr (hF.tr u4.fo), j, _, hc4, by omega, .inr ⟨_, hne, tF_ok (c := 1) (by omega) k3 _, g4, PE_par2 hi hd5 hc40 a3 (by omega) hq a4⟩⟩
  · refine fc_run oX11_takePart (fun _ => false) 400 ?_
    refine And.intro rfl (Exists.intro _ (And.intro (c_rtakeSign hW a3 (c := 41) (by omega) (by decide) rfl) ?_))
    rintro _ m4 _ _ ⟨rfl, g4, u4, rfl, rfl⟩
    rw [p_sg_f a1] at g4
    exact ⟨rfl, rfl, rfl, hF2.tr (hF.tr u4.fo), j, _, (u4.2 13 (by decide) (by decide)).trans hc, by omega, .inr ⟨e, a1, a2, g4, PE_par1 hi hd5 hc40 a4⟩⟩
theorem c_rtakePart (hW : fc_Wd mr) (TP : TPc E s n N mr t) (WH : WHc E s n N mr t) : TPc E s n N mr (t + 1) := by
  intro i dp D o mi ml x0 hx0 ht hD hdp ho hS hc hs
  subst hx0
  have hN : N ≤ 1000 := Nat.le_trans hS.1.2.1 hS.1.2.2.1
  have hiN := hS.2.1
  have hat := hS.2.2.1
  have hfa := hS.2.2.2.1
  have k3 := hS.1.2.2.1
  have htk := hS.tkc (i + 1)
  refine fc_met rfl (Nat.le_of_ble_eq_true rfl) (fc_run oX11_takePart (fun pc => pc == 128) 600 ?_)
  refine And.intro rfl ?_
  refine And.intro (fun h4 => ?_) (fun h4 => ?_)
  · refine And.intro rfl (Exists.intro _ (And.intro (hW 252 4 254 rfl) ?_))
    refine And.intro rfl ?_
    rw [hat]
    refine Exists.intro _ (Exists.intro _ (And.intro rfl (And.intro (fc_ixn rfl (by omega) (by decide)) ?_)))
    refine And.intro (fun h18 => ?_) (fun h18 => ?_)
    · rw [hS.sort] at h18
      obtain ⟨a, ha, ea, ev, hk3, hiL⟩ := hS.num h18
      refine And.intro rfl (Exists.intro _ (And.intro (c_rwhFact hW hS rfl rfl) ?_))
      rintro _ _ _ _ ⟨rfl, rfl, rfl, rfl⟩
      generalize hz : whl (fun k => decide ((0 : Int32) = 0) && decide (tK s n (i + 1) = 4 ∧ tk_cl 2 s n (tS s n (i + 1)) (tE s n (i + 1)) = nI k)) 4 = z
      have hfc := whf_c hz
      refine And.intro (fun h36 => ?_) (fun h36 => ?_)
      · exact absurd hk3 (by rw [(hfc.resolve_right (fun q => absurd h36 (by rw [q.1]; decide))).1]; decide)
      · refine And.intro (fun h40 => ?_) (fun h40 => ?_)
        · exact absurd h40 (by decide)
        · refine And.intro (fun h71 => ?_) (fun h71 => ?_)
          · refine And.intro rfl (Exists.intro _ (And.intro (c_rwrong hW hS _) ?_))
            rintro _ m1 _ _ ⟨rfl, g1, u1, rfl, rfl⟩
            have hf1 : m1 252 8 = tF s n 5 (i + 1) := by rw [p_wr, if_pos rfl] at g1; exact g1.2.2.2.1
            refine And.intro rfl ?_
            refine And.intro (fun h83 => ?_) (fun h83 => ?_)
            · rw [hf1] at h83; exact absurd ((fok_le (tF_ok (c := 5) (by omega) k3 _)).mp h83) (tF_ne (c := 5) (by omega) (by omega) k3 _)
            · rw [p_wr, if_pos rfl] at g1
              obtain rfl : dp = 5 := nIn (b := 5) (by omega) (by omega) h71
              exact ⟨rfl, rfl, rfl, u1.fo, i, o.length, (u1.2 13 (by decide) (by decide)).trans hc, Nat.le_refl _, .inr ⟨_, tF_ne (c := 5) (by omega) (by omega) k3 _, tF_ok (c := 5) (by omega) k3 _, g1, PE_deep (by omega) (.inr (.inr (.inr hk3)))⟩⟩
          · have hd5 : dp < 5 := by
              rcases Nat.lt_or_ge dp 5 with q | q
              · exact q
              · exact absurd (show nI dp = 5 by rw [show dp = 5 by omega]; rfl) h71
            obtain ⟨D', rfl⟩ : ∃ D', D = D' + 5 := ⟨D - 5, by omega⟩
            refine And.intro rfl ?_
            refine And.intro (fun h83 => ?_) (fun h83 => ?_)
            · refine And.intro rfl (Exists.intro _ (And.intro (c_rhasWord hW hS (w := 18) (by omega) rfl) ?_))
              rintro _ m2 _ _ ⟨rfl, g2, u2, rfl, rfl⟩
              refine And.intro (fun h93 => ?_) (fun h93 => ?_)
              · replace h93 := fc_b0.mp h93
                rw [if_neg (fun q => by rw [decide_eq_true (show (0 : Int32) = 0 from rfl), decide_eq_true q.2] at h93; cases h93)] at g2
                refine And.intro rfl (Exists.intro _ (And.intro (c_rhasSign hW g2 (c := 40) (by omega) (by decide) rfl) ?_))
                rintro _ m4 _ _ ⟨rfl, g4, u4, rfl, rfl⟩
                refine And.intro (fun h118 => ?_) (fun h118 => ?_)
                · replace h118 := fc_b0.mp h118
                  rw [if_neg (fun q => by rw [decide_eq_true (show (0 : Int32) = 0 from rfl), decide_eq_true q.2] at h118; cases h118)] at g4
                  have hc4 : m4 252 13 = nI o.length := (u4.2 13 (by decide) (by decide)).trans ((u2.2 13 (by decide) (by decide)).trans hc)
                  have hs4 : fc_S2 (m4 259) (m4 260) o := by rw [u4.1 259 (by decide), u4.1 260 (by decide), u2.1 259 (by decide), u2.1 260 (by decide)]; exact hs
                  have hat5 : ∀ x z, (rem m4 o.length x z) 252 7 = nI (i + 1) := fun x z => (rem_rst g4).2.2.1
                  refine And.intro (fun h139 => ?_) (fun h139 => ?_)
                  · exact absurd h139 (by decide)
                  · refine And.intro (fun h148 => ?_) (fun h148 => ?_)
                    · exact absurd h148 (by decide)
                    · have hv4 : (ml 256 (i + 1)).toInt32 = tN s n (i + 1) := by rw [hS.value hiL, ev, ea, lN_i]
                      refine And.intro rfl (Exists.intro _ (And.intro (hW 252 6 256 rfl) ?_))
                      refine And.intro rfl ?_
                      rw [g4.2.2.1]
                      refine Exists.intro _ (Exists.intro _ (And.intro rfl (And.intro (fc_ixn rfl (by omega) (by decide)) ?_)))
                      refine And.intro rfl (Exists.intro _ (And.intro (c_remt hW hc4 (by omega) _ _) ?_))
                      rintro _ _ _ _ ⟨rfl, rfl, rfl, rfl⟩
                      first | rw [hv4] | skip
                      refine And.intro rfl ?_
                      rw [hat5]
                      refine And.intro rfl ?_
                      rw [nI_1 (i + 1)]
                      have hx := rem_rst (c := o.length) (x := 1) (z := tN s n (i + 1)) g4
                      have hcz : (rem m4 o.length 1 (tN s n (i + 1))) 252 7 = nI (i + 1) := hx.2.2.1
                      refine ⟨rfl, rfl, rfl, (u2.fo.tr u4.fo).tr (rem_fo.tr (rfr_at _).fo), i + 1, o.length + 1, show (rem m4 o.length 1 (tN s n (i + 1))) 252 13 = _ from rem_c, by omega, .inl ⟨tN s n (i + 1) :: o, (List.length_cons).symm, hx.next (by omega), ?_, PK_num (by omega) hd5 hk3 (by rw [ea]; exact nI_pos (by omega)) (by omega)⟩⟩
                      have hy := rem_s2 (x := 1) (z := tN s n (i + 1)) (y := tN s n (i + 1)) hs4 (.inl ⟨rfl, rfl, by rw [ea]; exact nI_pos (by omega)⟩)
                      exact hy
                · replace h118 := fc_b1.mp h118
                  rw [Bool.and_eq_true] at h118; exact absurd (of_decide_eq_true h118.2) (by rw [hk3]; decide)
              · replace h93 := fc_b1.mp h93
                rw [Bool.and_eq_true] at h93; exact absurd (of_decide_eq_true h93.2) (by rw [hk3]; decide)
            · rw [hfa] at h83; exact absurd (by decide) h83
    · rw [hS.sort] at h18
      have hk3 : ¬ tK s n (i + 1) = 3 := fun q => h18 ((nb_iff htk).mpr q)
      refine And.intro rfl (Exists.intro _ (And.intro (c_rwhFact hW hS rfl rfl) ?_))
      rintro _ _ _ _ ⟨rfl, rfl, rfl, rfl⟩
      generalize hz : whl (fun k => decide ((0 : Int32) = 0) && decide (tK s n (i + 1) = 4 ∧ tk_cl 2 s n (tS s n (i + 1)) (tE s n (i + 1)) = nI k)) 4 = z
      have hfc := whf_c hz
      refine And.intro (fun h36 => ?_) (fun h36 => ?_)
      · obtain ⟨hq4, kq, hkq, hqk, hqz⟩ := hfc.resolve_right (fun q => absurd h36 (by rw [q.1]; decide))
        have hiL : i + 1 < N := hS.lt (by rw [hq4]; decide)
        refine And.intro (fun h71 => ?_) (fun h71 => ?_)
        · refine And.intro rfl (Exists.intro _ (And.intro (c_rwrong hW hS _) ?_))
          rintro _ m1 _ _ ⟨rfl, g1, u1, rfl, rfl⟩
          have hf1 : m1 252 8 = tF s n 5 (i + 1) := by rw [p_wr, if_pos rfl] at g1; exact g1.2.2.2.1
          refine And.intro rfl ?_
          refine And.intro (fun h83 => ?_) (fun h83 => ?_)
          · rw [hf1] at h83; exact absurd ((fok_le (tF_ok (c := 5) (by omega) k3 _)).mp h83) (tF_ne (c := 5) (by omega) (by omega) k3 _)
          · rw [p_wr, if_pos rfl] at g1
            obtain rfl : dp = 5 := nIn (b := 5) (by omega) (by omega) h71
            exact ⟨rfl, rfl, rfl, u1.fo, i, o.length, (u1.2 13 (by decide) (by decide)).trans hc, Nat.le_refl _, .inr ⟨_, tF_ne (c := 5) (by omega) (by omega) k3 _, tF_ok (c := 5) (by omega) k3 _, g1, PE_deep (by omega) (.inr (.inr (.inl (by rw [ps_fa, if_pos hq4, hqk]; exact nI_ne1 (by omega)))))⟩⟩
        · have hd5 : dp < 5 := by
            rcases Nat.lt_or_ge dp 5 with q | q
            · exact q
            · exact absurd (show nI dp = 5 by rw [show dp = 5 by omega]; rfl) h71
          obtain ⟨D', rfl⟩ : ∃ D', D = D' + 5 := ⟨D - 5, by omega⟩
          refine And.intro rfl ?_
          refine And.intro (fun h83 => ?_) (fun h83 => ?_)
          · refine And.intro rfl (Exists.intro _ (And.intro (c_rhasWord hW hS (w := 18) (by omega) rfl) ?_))
            rintro _ m2 _ _ ⟨rfl, g2, u2, rfl, rfl⟩
            refine And.intro (fun h93 => ?_) (fun h93 => ?_)
            · replace h93 := fc_b0.mp h93
              rw [if_neg (fun q => by rw [decide_eq_true (show (0 : Int32) = 0 from rfl), decide_eq_true q.2] at h93; cases h93)] at g2
              refine And.intro rfl (Exists.intro _ (And.intro (c_rhasSign hW g2 (c := 40) (by omega) (by decide) rfl) ?_))
              rintro _ m4 _ _ ⟨rfl, g4, u4, rfl, rfl⟩
              refine And.intro (fun h118 => ?_) (fun h118 => ?_)
              · replace h118 := fc_b0.mp h118
                rw [if_neg (fun q => by rw [decide_eq_true (show (0 : Int32) = 0 from rfl), decide_eq_true q.2] at h118; cases h118)] at g4
                have hc4 : m4 252 13 = nI o.length := (u4.2 13 (by decide) (by decide)).trans ((u2.2 13 (by decide) (by decide)).trans hc)
                have hs4 : fc_S2 (m4 259) (m4 260) o := by rw [u4.1 259 (by decide), u4.1 260 (by decide), u2.1 259 (by decide), u2.1 260 (by decide)]; exact hs
                have hat5 : ∀ x z, (rem m4 o.length x z) 252 7 = nI (i + 1) := fun x z => (rem_rst g4).2.2.1
                refine And.intro (fun h139 => ?_) (fun h139 => ?_)
                · refine And.intro (fun h148 => ?_) (fun h148 => ?_)
                  · rw [hqz]
                    refine And.intro rfl (Exists.intro _ (And.intro (c_remt hW hc4 (by omega) _ _) ?_))
                    rintro _ _ _ _ ⟨rfl, rfl, rfl, rfl⟩
                    first | rw [hv4] | skip
                    refine And.intro rfl ?_
                    rw [hat5]
                    refine And.intro rfl ?_
                    rw [nI_1 (i + 1)]
                    have hx := rem_rst (c := o.length) (x := 2) (z := nI kq) g4
                    refine ⟨rfl, rfl, rfl, (u2.fo.tr u4.fo).tr (rem_fo.tr (rfr_at _).fo), i + 1, o.length + 1, show (rem m4 o.length 2 (nI kq)) 252 13 = _ from rem_c, by omega, .inl ⟨(-256 - nI kq) :: o, (List.length_cons).symm, hx.next (by omega), ?_, PK_fact (by omega) hd5 hq4 hkq hqk (by omega)⟩⟩
                    have hy := rem_s2 (x := 2) (z := nI kq) (y := -256 - nI kq) hs4 (.inr (.inl ⟨rfl, kq, hkq, rfl, rfl⟩))
                    exact hy
                  · exact absurd rfl h148
                · exact absurd rfl h139
              · replace h118 := fc_b1.mp h118
                rw [Bool.and_eq_true] at h118; exact absurd (of_decide_eq_true h118.2) (by rw [hq4]; decide)
            · replace h93 := fc_b1.mp h93
              rw [Bool.and_eq_true] at h93; exact absurd (of_decide_eq_true h93.2) (by rw [hq4]; decide)
          · rw [hfa] at h83; exact absurd (by decide) h83
      · refine And.intro (fun h40 => ?_) (fun h40 => ?_)
        · refine And.intro rfl (Exists.intro _ (And.intro (c_risSign hW hS (c := 40) (by omega) (by decide) rfl) ?_))
          rintro _ _ _ _ ⟨rfl, rfl, rfl, rfl⟩
          refine And.intro (fun h49 => ?_) (fun h49 => ?_)
          · replace h49 := fc_b0.mp h49
            have hk49 : ¬ tK s n (i + 1) = 40 := fun q => by rw [decide_eq_true (show (0 : Int32) = 0 from rfl), decide_eq_true (show tK s n (i + 1) = nI 40 from q)] at h49; cases h49
            refine And.intro rfl (Exists.intro _ (And.intro (c_risWord hW hS (w := 18) (by omega) rfl) ?_))
            rintro _ _ _ _ ⟨rfl, rfl, rfl, rfl⟩
            refine And.intro (fun h58 => ?_) (fun h58 => ?_)
            · replace h58 := fc_b0.mp h58
              have hk58 : ¬ tK s n (i + 1) = 146 := fun q => by rw [decide_eq_true (show (0 : Int32) = 0 from rfl), decide_eq_true (show tK s n (i + 1) = nI (128 + 18) from q)] at h58; cases h58
              refine And.intro rfl (Exists.intro _ (And.intro (c_rwrong hW hS _) ?_))
              rintro _ m1 _ _ ⟨rfl, g1, u1, rfl, rfl⟩
              have hf1 : m1 252 8 = tF s n 1 (i + 1) := by rw [p_wr, if_pos rfl] at g1; exact g1.2.2.2.1
              refine And.intro rfl ?_
              refine And.intro (fun h83 => ?_) (fun h83 => ?_)
              · rw [hf1] at h83; exact absurd ((fok_le (tF_ok (c := 1) (by omega) k3 _)).mp h83) (tF_ne (c := 1) (by omega) (by omega) k3 _)
              · rw [p_wr, if_pos rfl] at g1
                exact ⟨rfl, rfl, rfl, u1.fo, i, o.length, (u1.2 13 (by decide) (by decide)).trans hc, Nat.le_refl _, .inr ⟨_, tF_ne (c := 1) (by omega) (by omega) k3 _, tF_ok (c := 1) (by omega) k3 _, g1, PE_tok (by omega) hk58 hk49 (fa_cl (hfc.resolve_left (fun q => by obtain ⟨_, k, hk, _, e⟩ := q; exact h36 (by rw [e]; exact nI_pos' (by omega)))).2) hk3⟩⟩
            · replace h58 := fc_b1.mp h58
              have hk58 : tK s n (i + 1) = 146 := by rw [Bool.and_eq_true] at h58; exact of_decide_eq_true h58.2
              have hiL : i + 1 < N := hS.lt (by rw [hk58]; decide)
              refine And.intro (fun h71 => ?_) (fun h71 => ?_)
              · refine And.intro rfl (Exists.intro _ (And.intro (c_rwrong hW hS _) ?_))
                rintro _ m1 _ _ ⟨rfl, g1, u1, rfl, rfl⟩
                have hf1 : m1 252 8 = tF s n 5 (i + 1) := by rw [p_wr, if_pos rfl] at g1; exact g1.2.2.2.1
                refine And.intro rfl ?_
                refine And.intro (fun h83 => ?_) (fun h83 => ?_)
                · rw [hf1] at h83; exact absurd ((fok_le (tF_ok (c := 5) (by omega) k3 _)).mp h83) (tF_ne (c := 5) (by omega) (by omega) k3 _)
                · rw [p_wr, if_pos rfl] at g1
                  obtain rfl : dp = 5 := nIn (b := 5) (by omega) (by omega) h71
                  exact ⟨rfl, rfl, rfl, u1.fo, i, o.length, (u1.2 13 (by decide) (by decide)).trans hc, Nat.le_refl _, .inr ⟨_, tF_ne (c := 5) (by omega) (by omega) k3 _, tF_ok (c := 5) (by omega) k3 _, g1, PE_deep (by omega) (.inl hk58)⟩⟩
              · have hd5 : dp < 5 := by
                  rcases Nat.lt_or_ge dp 5 with q | q
                  · exact q
                  · exact absurd (show nI dp = 5 by rw [show dp = 5 by omega]; rfl) h71
                obtain ⟨D', rfl⟩ : ∃ D', D = D' + 5 := ⟨D - 5, by omega⟩
                refine And.intro rfl ?_
                refine And.intro (fun h83 => ?_) (fun h83 => ?_)
                · refine And.intro rfl (Exists.intro _ (And.intro (c_rhasWord hW hS (w := 18) (by omega) rfl) ?_))
                  rintro _ m2 _ _ ⟨rfl, g2, u2, rfl, rfl⟩
                  refine And.intro (fun h93 => ?_) (fun h93 => ?_)
                  · replace h93 := fc_b0.mp h93
                    exact absurd h93 (by rw [decide_eq_true (show (0 : Int32) = 0 from rfl), decide_eq_true (show tK s n (i + 1) = nI (128 + 18) from hk58)]; decide)
                  · replace h93 := fc_b1.mp h93
                    rw [if_pos ⟨rfl, hk58⟩] at g2
                    refine And.intro rfl (Exists.intro _ (And.intro (TP (i + 1) (dp + 1) (D' + 4) o m2 ml _ (nI_1 dp) (by omega) (by omega) (by omega) (by omega) g2 ((u2.2 13 (by decide) (by decide)).trans hc) (by rw [u2.1 259 (by decide), u2.1 260 (by decide)]; exact hs)) ?_))
                    rintro _ m3 _ _ ⟨rfl, rfl, rfl, f3, j3, c3, hc3, hb3, hk3⟩
                    have hj3 : j3 + 1 ≤ N := by rcases hk3 with ⟨_, _, q, _⟩ | ⟨_, _, _, q, _⟩ <;> exact q.2.1
                    refine And.intro rfl (Exists.intro _ (And.intro (c_remt hW hc3 (by omega) _ _) ?_))
                    rintro _ _ _ _ ⟨rfl, rfl, rfl, rfl⟩
                    rcases hk3 with ⟨o2, rfl, a1, a2, a3⟩ | ⟨e, a1, a2, a3, a4⟩
                    · exact ⟨rfl, rfl, rfl, u2.fo.tr (f3.tr rem_fo), j3, _, rem_c, by omega, .inl ⟨_, (List.length_cons).symm, rem_rst a1, rem_s2 a2 (.inr (.inr (.inl ⟨rfl, rfl⟩))), PK_not (by omega) hd5 hk58 a3 (by omega)⟩⟩
                    · exact ⟨rfl, rfl, rfl, u2.fo.tr (f3.tr rem_fo), j3, _, rem_c, by omega, .inr ⟨e, a1, a2, rem_rst a3, PE_not (by omega) hd5 hk58 a4⟩⟩
                · rw [hfa] at h83; exact absurd (by decide) h83
          · replace h49 := fc_b1.mp h49
            have hk49 : tK s n (i + 1) = 40 := by rw [Bool.and_eq_true] at h49; exact of_decide_eq_true h49.2
            have hiL : i + 1 < N := hS.lt (by rw [hk49]; decide)
            refine And.intro (fun h71 => ?_) (fun h71 => ?_)
            · refine And.intro rfl (Exists.intro _ (And.intro (c_rwrong hW hS _) ?_))
              rintro _ m1 _ _ ⟨rfl, g1, u1, rfl, rfl⟩
              have hf1 : m1 252 8 = tF s n 5 (i + 1) := by rw [p_wr, if_pos rfl] at g1; exact g1.2.2.2.1
              refine And.intro rfl ?_
              refine And.intro (fun h83 => ?_) (fun h83 => ?_)
              · rw [hf1] at h83; exact absurd ((fok_le (tF_ok (c := 5) (by omega) k3 _)).mp h83) (tF_ne (c := 5) (by omega) (by omega) k3 _)
              · rw [p_wr, if_pos rfl] at g1
                obtain rfl : dp = 5 := nIn (b := 5) (by omega) (by omega) h71
                exact ⟨rfl, rfl, rfl, u1.fo, i, o.length, (u1.2 13 (by decide) (by decide)).trans hc, Nat.le_refl _, .inr ⟨_, tF_ne (c := 5) (by omega) (by omega) k3 _, tF_ok (c := 5) (by omega) k3 _, g1, PE_deep (by omega) (.inr (.inl hk49))⟩⟩
            · have hd5 : dp < 5 := by
                rcases Nat.lt_or_ge dp 5 with q | q
                · exact q
                · exact absurd (show nI dp = 5 by rw [show dp = 5 by omega]; rfl) h71
              obtain ⟨D', rfl⟩ : ∃ D', D = D' + 5 := ⟨D - 5, by omega⟩
              refine And.intro rfl ?_
              refine And.intro (fun h83 => ?_) (fun h83 => ?_)
              · refine And.intro rfl (Exists.intro _ (And.intro (c_rhasWord hW hS (w := 18) (by omega) rfl) ?_))
                rintro _ m2 _ _ ⟨rfl, g2, u2, rfl, rfl⟩
                refine And.intro (fun h93 => ?_) (fun h93 => ?_)
                · replace h93 := fc_b0.mp h93
                  rw [if_neg (fun q => by rw [decide_eq_true (show (0 : Int32) = 0 from rfl), decide_eq_true q.2] at h93; cases h93)] at g2
                  refine And.intro rfl (Exists.intro _ (And.intro (c_rhasSign hW g2 (c := 40) (by omega) (by decide) rfl) ?_))
                  rintro _ m4 _ _ ⟨rfl, g4, u4, rfl, rfl⟩
                  refine And.intro (fun h118 => ?_) (fun h118 => ?_)
                  · replace h118 := fc_b0.mp h118
                    exact absurd h118 (by rw [decide_eq_true (show (0 : Int32) = 0 from rfl), decide_eq_true (show tK s n (i + 1) = nI 40 from hk49)]; decide)
                  · replace h118 := fc_b1.mp h118
                    rw [if_pos ⟨rfl, hk49⟩] at g4
                    refine And.intro rfl (Exists.intro _ (And.intro (WH (i + 1) (dp + 1) D' o m4 ml _ (nI_1 dp) (by omega) (by omega) (by omega) (by omega) g4 ((u4.2 13 (by decide) (by decide)).trans ((u2.2 13 (by decide) (by decide)).trans hc)) (by rw [u4.1 259 (by decide), u4.1 260 (by decide), u2.1 259 (by decide), u2.1 260 (by decide)]; exact hs)) ?_))
                    rintro _ m5 _ _ ⟨rfl, rfl, rfl, f5, j5, c5, hc5, hb5, hk5⟩
                    have hj5 : j5 + 1 ≤ N := by rcases hk5 with ⟨_, _, q, _⟩ | ⟨_, _, _, q, _⟩ <;> exact q.2.1
                    exact l_rpar hW hd5 (by omega) hk49 ho (u2.fo.tr u4.fo) f5 hc5 hb5 hk5
                · replace h93 := fc_b1.mp h93
                  rw [Bool.and_eq_true] at h93; exact absurd (of_decide_eq_true h93.2) (by rw [hk49]; decide)
              · rw [hfa] at h83; exact absurd (by decide) h83
        · exact absurd rfl h40
  · rw [hfa] at h4; exact absurd (by decide) h4
theorem c_rlevels (hW : fc_Wd mr) : ∀ t, TPc E s n N mr t ∧ WHc E s n N mr t := by
  have up : ∀ t, TPc E s n N mr t → WHc E s n N mr t := fun t h => c_rwhole hW (c_rtest hW (c_rsums hW (c_rproducts hW h)))
  intro t
  induction t with
  | zero =>
    have h : TPc E s n N mr 0 := fun i dp D o mi ml x0 hx0 ht hD hdp ho hS => absurd hS.2.1 (by omega)
    exact ⟨h, up 0 h⟩
  | succ t ih =>
    have h := c_rtakePart hW ih.1 ih.2
    exact ⟨h, up _ h⟩
end M84
