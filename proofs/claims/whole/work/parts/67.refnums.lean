/-! ===== the reference: numbers, kinds and names told ===== -/
section M67
variable {E : fc_E} {d : Nat} {mi : fc_Mi} {ml : fc_Ml} {mr : fc_Mr} {n N i : Nat} {s : Nat → Int32} {f : Int32}
/-- a number at hand: it is so much, in both -/
theorem rst.num (h : rst s n N i f mi ml) (g : rk s n (tS s n i) = 2) : ∃ a, a < 10000 ∧ tN s n i = nI a ∧ rw_ s n (tS s n i) = lN a ∧ tK s n i = 3 ∧ i < N := by
  have ht := h.tkc i
  have hk : tK s n i = 3 := (nb_iff ht).mp g
  have hiL : i < N := h.lt (by rw [hk]; decide)
  rcases ht with ⟨-, h1, -⟩ | ⟨-, h1, -⟩ | ⟨-, h1, -⟩ | ⟨-, h1, -⟩ | ⟨-, -, -, a, h1, h2, h3⟩ | ⟨-, h1, -⟩
  · rw [g] at h1; exact absurd h1 (by decide)
  · rw [g] at h1; exact absurd h1 (by decide)
  · rw [g] at h1; exact absurd h1 (by decide)
  · rw [g] at h1; exact absurd h1 (by decide)
  · exact ⟨a, h1, h2, h3, hk, hiL⟩
  · rw [g] at h1; exact absurd h1 (by decide)
theorem c_rtakeNumber (hW : fc_Wd mr) (hS : rst s n N i f mi ml) (hfk : fok f) {lo hi : Int32} {l h : Nat} (hlo : lo = nI l) (hhi : hi = nI h) (hl : l < 1000) (hh : h < 1000) : fc_R E mX11_takeNumber (d + 1) fc_sh [.ref 252, .int lo, .int hi] mi ml mr (rsq s n N (some (.int (if f = 0 ∧ tK s n i = 3 ∧ sp_from lo (tN s n i) hi = true then tN s n i else 0))) (p_nb s n lo hi (i, f)) mi ml mr) := by
  obtain ⟨⟨k1, k2, k3, k4, k5, k6⟩, hiN, hat, hfa, hkw, hok⟩ := id hS
  have htk := hS.tkc i
  refine fc_met rfl (Nat.le_of_ble_eq_true rfl) (fc_run oX11_takeNumber (fun _ => false) 400 ?_)
  refine And.intro rfl ?_
  refine And.intro (fun h4 => ?_) (fun h4 => ?_)
  · rw [hfa] at h4
    refine And.intro rfl (Exists.intro _ (And.intro (hW 252 4 254 rfl) ?_))
    refine And.intro rfl ?_
    rw [hat]
    refine Exists.intro _ (Exists.intro _ (And.intro rfl (And.intro (fc_ixn rfl (by omega) (by decide)) ?_)))
    refine And.intro (fun h17 => ?_) (fun h17 => ?_)
    · rw [hS.sort] at h17
      obtain ⟨a, ha, ea, ev, hk3, hiL⟩ := hS.num h17
      refine And.intro rfl ?_
      refine And.intro (fun h32 => ?_) (fun h32 => ?_)
      · rw [hfa] at h32
        refine And.intro rfl (Exists.intro _ (And.intro (hW 252 6 256 rfl) ?_))
        refine And.intro rfl ?_
        rw [hat]
        refine Exists.intro _ (Exists.intro _ (And.intro rfl (And.intro (fc_ixn rfl (by omega) (by decide)) ?_)))
        refine And.intro (fun h47 => ?_) (fun h47 => ?_)
        · rw [hS.value hiL, ev, hlo, nI_l (by omega), lg_lt (by omega) (by omega)] at h47
          refine And.intro rfl (Exists.intro _ (And.intro (c_rwrong hW hS _) ?_))
          rintro _ m1 _ _ ⟨rfl, g1, g2, rfl, rfl⟩
          have hf1 : m1 252 8 = tF s n 4 i := by rw [p_wr, if_pos h4] at g1; exact g1.2.2.2.1
          refine And.intro rfl ?_
          refine And.intro (fun h74 => ?_) (fun h74 => ?_)
          · rw [hf1] at h74; exact absurd ((fok_le (tF_ok (c := 4) (by omega) k3 i)).mp h74) (tF_ne (c := 4) (by omega) (by omega) k3 i)
          · have hns : sp_from lo (tN s n i) hi = false := by rw [ea, hlo, sp_from, decide_eq_true (nI_lt h47 (by omega))]; rfl
            refine ⟨?_, ?_, g2, rfl, rfl⟩
            · rw [if_neg (fun q => by rw [hns] at q; exact absurd q.2.2 (by decide))]
            · rw [p_nb, if_pos h4, if_pos hk3, hns, if_neg (by decide)]
              rw [p_wr, if_pos h4] at g1; exact g1
        · rw [hS.value hiL, ev, hlo, nI_l (by omega), lg_lt (by omega) (by omega)] at h47
          refine And.intro rfl (Exists.intro _ (And.intro (hW 252 6 256 rfl) ?_))
          refine And.intro rfl ?_
          rw [hat]
          refine Exists.intro _ (Exists.intro _ (And.intro rfl (And.intro (fc_ixn rfl (by omega) (by decide)) ?_)))
          refine And.intro (fun h62 => ?_) (fun h62 => ?_)
          · rw [hS.value hiL, ev, hhi, nI_l (by omega), lg_le (by omega) (by omega)] at h62
            refine And.intro rfl ?_
            refine And.intro (fun h74 => ?_) (fun h74 => ?_)
            · refine And.intro rfl ?_
              rw [hat]
              refine And.intro rfl ?_
              refine And.intro rfl (Exists.intro _ (And.intro (hW 252 6 256 rfl) ?_))
              refine And.intro rfl ?_
              rw [show (fc_u mi 252 7 (nI i + 1)) 252 7 = nI (i + 1) from (fc_u_at _ _ _ _).trans (nI_1 i)]
              refine Exists.intro _ (Exists.intro _ (And.intro rfl (And.intro (fc_ixn (nI_pred i) (by omega) (by decide)) ?_)))
              have hns : sp_from lo (tN s n i) hi = true := by rw [ea, hlo, hhi, sp_from, decide_eq_false (nI_nlt (by omega) (by omega)), decide_eq_false (nI_nlt (by omega) (by omega))]; rfl
              rw [show nI i + 1 = nI (i + 1) from nI_1 i]
              refine ⟨?_, ?_, rfr_at _, rfl, rfl⟩
              · rw [if_pos ⟨h4, hk3, hns⟩, hS.value hiL, ev, ea, lN_i]
              · rw [p_nb, if_pos h4, if_pos hk3, hns, if_pos rfl]
                rw [← h4]
                exact hS.next hiL
            · rw [hfa] at h74; exact absurd ((fok_le hfk).mpr h4) h74
          · rw [hS.value hiL, ev, hhi, nI_l (by omega), lg_le (by omega) (by omega)] at h62
            refine And.intro rfl (Exists.intro _ (And.intro (c_rwrong hW hS _) ?_))
            rintro _ m1 _ _ ⟨rfl, g1, g2, rfl, rfl⟩
            have hf1 : m1 252 8 = tF s n 4 i := by rw [p_wr, if_pos h4] at g1; exact g1.2.2.2.1
            refine And.intro rfl ?_
            refine And.intro (fun h74 => ?_) (fun h74 => ?_)
            · rw [hf1] at h74; exact absurd ((fok_le (tF_ok (c := 4) (by omega) k3 i)).mp h74) (tF_ne (c := 4) (by omega) (by omega) k3 i)
            · have hns : sp_from lo (tN s n i) hi = false := by rw [ea, hhi, sp_from, decide_eq_true (show nI h < nI a from nI_lt (by omega) (by omega))]; simp
              refine ⟨?_, ?_, g2, rfl, rfl⟩
              · rw [if_neg (fun q => by rw [hns] at q; exact absurd q.2.2 (by decide))]
              · rw [p_nb, if_pos h4, if_pos hk3, hns, if_neg (by decide)]
                rw [p_wr, if_pos h4] at g1; exact g1
      · rw [hfa] at h32; exact absurd h4 h32
    · rw [hS.sort] at h17
      refine And.intro rfl (Exists.intro _ (And.intro (c_rwrong hW hS _) ?_))
      rintro _ m1 _ _ ⟨rfl, g1, g2, rfl, rfl⟩
      have hf1 : m1 252 8 = tF s n 1 i := by rw [p_wr, if_pos h4] at g1; exact g1.2.2.2.1
      refine And.intro rfl ?_
      refine And.intro (fun h74 => ?_) (fun h74 => ?_)
      · rw [hf1] at h74; exact absurd ((fok_le (tF_ok (c := 1) (by omega) k3 i)).mp h74) (tF_ne (c := 1) (by omega) (by omega) k3 i)
      · have hnk : ¬ tK s n i = 3 := fun q => h17 ((nb_iff htk).mpr q)
        refine ⟨?_, ?_, g2, rfl, rfl⟩
        · rw [if_neg (fun q => hnk q.2.1)]
        · rw [p_nb, if_pos h4, if_neg hnk]
          rw [p_wr, if_pos h4] at g1; exact g1
  · rw [hfa] at h4
    refine And.intro rfl ?_
    refine And.intro (fun h32 => ?_) (fun h32 => ?_)
    · rw [hfa] at h32; exact absurd h32 h4
    · rw [hfa] at h32
      refine And.intro rfl ?_
      refine And.intro (fun h74 => ?_) (fun h74 => ?_)
      · rw [hfa] at h74; exact absurd ((fok_le hfk).mp h74) h4
      · refine ⟨?_, ?_, rfr.rf, rfl, rfl⟩
        · rw [if_neg (fun q => h4 q.1)]
        · rw [p_nb, if_neg h4]; exact hS

theorem p_wr_ok {x : Nat} (h5 : x ≤ 5) (hn : n ≤ 1000) (h : fok f) : fok (p_wr s n (nI x) (i, f)).2 := by
  rw [p_wr]; split
  · exact tF_ok h5 hn i
  · exact h
theorem p_sg_ok {c : Int32} (hn : n ≤ 1000) (h : fok f) : fok (p_sg s n c (i, f)).2 := by
  rw [p_sg]; split
  · split
    · exact ⟨0, by omega, rfl⟩
    · exact tF_ok (c := 1) (by omega) hn i
  · exact h
theorem p_nb_ok {lo hi : Int32} (hn : n ≤ 1000) (h : fok f) : fok (p_nb s n lo hi (i, f)).2 := by
  rw [p_nb]; split
  · split
    · split
      · exact ⟨0, by omega, rfl⟩
      · exact tF_ok (c := 4) (by omega) hn i
    · exact tF_ok (c := 1) (by omega) hn i
  · exact h
def p_on (s : Nat → Int32) (n : Nat) (p : Nat × Int32) : Nat × Int32 := if p.2 = 0 then (if sp_from 142 (tK s n p.1) 145 then (p.1 + 1, 0) else (p.1, tF s n 1 p.1)) else p
theorem sf_142 {x : Int32} : sp_from 142 x 145 = true ↔ ∃ k, k < 4 ∧ x = nI (142 + k) := by
  constructor
  · intro h
    simp only [sp_from, Bool.and_eq_true, Bool.not_eq_true', decide_eq_false_iff_not] at h
    have h0 : ¬ x < 0 := fun q => h.1 (Int32.lt_trans q (by decide))
    obtain ⟨c, hc, e⟩ := nI_of2 (M := 145) (n := 145) rfl h0 (Int32.not_lt.mp h.2)
    subst e
    have : 142 ≤ c := by
      rcases Nat.lt_or_ge c 142 with q | q
      · exact absurd (nI_lt (b := 142) q (by omega)) h.1
      · exact q
    exact ⟨c - 142, by omega, by rw [show 142 + (c - 142) = c by omega]⟩
  · rintro ⟨k, hk, rfl⟩
    rw [sp_from, decide_eq_false (show ¬ nI (142 + k) < 142 from nI_nlt (a := 142 + k) (b := 142) (by omega) (by omega)), decide_eq_false (show ¬ 145 < nI (142 + k) from nI_nlt (a := 145) (b := 142 + k) (by omega) (by omega))]; rfl
theorem c_rtakeOne (hW : fc_Wd mr) (hS : rst s n N i f mi ml) (hfk : fok f) : fc_R E mX11_takeOne (d + 2) fc_sh [.ref 252, .int 14, .int 4] mi ml mr (rsq s n N (some (.int (if f = 0 ∧ sp_from 142 (tK s n i) 145 = true then tK s n i - 142 else 0))) (p_on s n (i, f)) mi ml mr) := by
  obtain ⟨⟨k1, k2, k3, k4, k5, k6⟩, hiN, hat, hfa, hkw, hok⟩ := id hS
  have htk := hS.tkc i
  have hwc := whw_c (s := s) (n := n) (i := i) (f := f) (b := 14) (m := 4) (by omega)
  refine fc_met rfl (Nat.le_of_ble_eq_true rfl) (fc_run oX11_takeOne (fun _ => false) 400 ?_)
  refine And.intro rfl ?_
  refine And.intro (fun h4 => ?_) (fun h4 => ?_)
  · rw [hfa] at h4
    have h0 : f = 0 := (fok_le hfk).mp h4
    refine And.intro rfl (Exists.intro _ (And.intro (c_rwhWord hW hS (b := 14) (m := 4) (by omega) (fc_nl 14) (fc_nl 4)) ?_))
    rintro _ _ _ _ ⟨rfl, rfl, rfl, rfl⟩
    refine And.intro rfl ?_
    refine And.intro (fun h22 => ?_) (fun h22 => ?_)
    · refine And.intro (fun h26 => ?_) (fun h26 => ?_)
      · obtain ⟨kk, hkk, ek, ew⟩ : ∃ k, k < 4 ∧ tK s n i = nI (128 + (14 + k)) ∧ whl (fun k => decide (f = 0) && decide (tK s n i = nI (128 + (14 + k)))) 4 = nI k := by
          rcases hwc with ⟨-, q⟩ | ⟨-, q⟩
          · exact q
          · rw [q] at h26; exact absurd h26 (by decide)
        refine And.intro rfl ?_
        first | rw [hat] | skip
        refine And.intro rfl ?_
        refine And.intro (fun h43 => ?_) (fun h43 => ?_)
        · refine And.intro rfl ?_
          refine And.intro rfl ?_
          refine And.intro (fun h59 => ?_) (fun h59 => ?_)
          · rw [show nI i + 1 = nI (i + 1) from nI_1 i]
            have hsf : sp_from 142 (tK s n i) 145 = true := sf_142.mpr ⟨kk, hkk, by rw [ek, show 128 + (14 + kk) = 142 + kk by omega]⟩
            have hiL : i < N := hS.lt (fun q => by rw [q] at ek; exact absurd (nIn (a := 1) (by omega) (by omega) ek) (by omega))
            refine ⟨?_, ?_, rfr_at _, rfl, rfl⟩
            · rw [if_pos ⟨h0, hsf⟩, ew, ek, show (142 : Int32) = nI 142 from rfl, pk_sub (by omega), show 128 + (14 + kk) - 142 = kk by omega]
            · rw [p_on, if_pos h0, if_pos hsf]
              have := hS.next hiL
              rw [h0] at this; exact this
          · rw [fc_u_nj _ _ _ _ (by decide), hfa] at h59; exact absurd h4 h59
        · rw [hfa] at h43; exact absurd h4 h43
      · have en : f = 0 → ∀ k, k < 4 → ¬ tK s n i = nI (128 + (14 + k)) := by
          rcases hwc with ⟨-, k, hk4, -, q⟩ | ⟨q, -⟩
          · rw [q] at h26; exact absurd (nI_pos' (by omega)) h26
          · exact q
        refine And.intro rfl (Exists.intro _ (And.intro (c_rwrong hW hS _) ?_))
        rintro _ m1 _ _ ⟨rfl, g1, g2, rfl, rfl⟩
        have hf1 : m1 252 8 = tF s n 1 i := by rw [p_wr, if_pos h0] at g1; exact g1.2.2.2.1
        refine And.intro rfl ?_
        first | rw [hat] | skip
        refine And.intro rfl ?_
        refine And.intro (fun h43 => ?_) (fun h43 => ?_)
        · rw [hf1] at h43; exact absurd ((fok_le (tF_ok (c := 1) (by omega) k3 i)).mp h43) (tF_ne (c := 1) (by omega) (by omega) k3 i)
        · refine And.intro rfl ?_
          refine And.intro rfl ?_
          refine And.intro (fun h59 => ?_) (fun h59 => ?_)
          · rw [fc_u_nj _ _ _ _ (by decide), hf1] at h59; exact absurd ((fok_le (tF_ok (c := 1) (by omega) k3 i)).mp h59) (tF_ne (c := 1) (by omega) (by omega) k3 i)
          · have hsf : ¬ sp_from 142 (tK s n i) 145 = true := fun q => by
              obtain ⟨k, hk, e⟩ := sf_142.mp q
              exact en h0 k hk (by rw [e, show 142 + k = 128 + (14 + k) by omega])
            have hat1 : m1 252 7 = nI i := by rw [p_wr, if_pos h0] at g1; exact g1.2.2.1
            rw [hat1, Int32.add_zero, show fc_u m1 252 7 (nI i) = m1 by rw [← hat1, fc_u_self]]
            refine ⟨?_, ?_, g2, rfl, rfl⟩
            · rw [if_neg (fun q => hsf q.2)]
            · rw [p_on, if_pos h0, if_neg hsf]
              rw [p_wr, if_pos h0] at g1; exact g1
    · rw [hfa] at h22; exact absurd h0 h22
  · rw [hfa] at h4
    have hne : ¬ f = 0 := fun q => h4 ((fok_le hfk).mpr q)
    refine And.intro rfl ?_
    refine And.intro (fun h22 => ?_) (fun h22 => ?_)
    · rw [hfa] at h22; exact absurd h22 hne
    · refine And.intro rfl ?_
      first | rw [hat] | skip
      refine And.intro rfl ?_
      refine And.intro (fun h43 => ?_) (fun h43 => ?_)
      · rw [hfa] at h43; exact absurd h43 h4
      · refine And.intro rfl ?_
        refine And.intro rfl ?_
        refine And.intro (fun h59 => ?_) (fun h59 => ?_)
        · rw [fc_u_nj _ _ _ _ (by decide), hfa] at h59; exact absurd h59 h4
        · rw [Int32.add_zero, hS.same]
          refine ⟨?_, ?_, rfr.rf, rfl, rfl⟩
          · rw [if_neg (fun q => hne q.1)]
          · rw [p_on, if_neg hne]; exact hS

end M67
