/-! ===== the reference: names told ===== -/
/-- the number of the first name that is v -/
def na (nm : Nat → Int64) (of : Nat → Int32) (v : Int64) : Nat → Nat → Int32
  | 0, _ => -1
  | j + 1, k => if nm k = v then of k else na nm of v j (k + 1)
section M68
variable {E : fc_E} {d : Nat} {mi : fc_Mi} {ml : fc_Ml} {mr : fc_Mr} {n N i K : Nat} {s : Nat → Int32} {f : Int32}
theorem c_rtakeAfter (hW : fc_Wd mr) (hS : rst s n N i f mi ml) (hfk : fok f) {w : Nat} (hw : w < 21) {x : Int32} (hx : x = nI w) {lo hi : Int32} {l h : Nat} (hlo : lo = nI l) (hhi : hi = nI h) (hl : l < 1000) (hh : h < 1000) : fc_R E mX11_takeAfter (d + 3) fc_sh [.ref 252, .int x, .int lo, .int hi] mi ml mr (rsq s n N (some (.int (if (p_sg s n (nI (128 + w)) (i, f)).2 = 0 ∧ tK s n (p_sg s n (nI (128 + w)) (i, f)).1 = 3 ∧ sp_from lo (tN s n (p_sg s n (nI (128 + w)) (i, f)).1) hi = true then tN s n (p_sg s n (nI (128 + w)) (i, f)).1 else 0))) (p_nb s n lo hi (p_sg s n (nI (128 + w)) (i, f))) mi ml mr) := by
  obtain ⟨⟨k1, k2, k3, k4, k5, k6⟩, hiN, hat, hfa, hkw, hok⟩ := id hS
  have htk := hS.tkc i
  refine fc_met rfl (Nat.le_of_ble_eq_true rfl) (fc_run oX11_takeAfter (fun _ => false) 400 ?_)
  refine And.intro rfl (Exists.intro _ (And.intro (c_rtakeWord hW hS hw hx) ?_))
  rintro _ m1 _ _ ⟨rfl, g1, g2, rfl, rfl⟩
  refine And.intro rfl (Exists.intro _ (And.intro (c_rtakeNumber hW g1 (p_sg_ok k3 hfk) hlo hhi hl hh) ?_))
  rintro _ m2 _ _ ⟨rfl, g3, g4, rfl, rfl⟩
  exact ⟨rfl, g3, g2.tr g4, rfl, rfl⟩

theorem l_rnameAt1 (hW : fc_Wd mr) (hS : rst s n N i f mi ml) (hK : mi 252 19 = nI K) (hK18 : K ≤ 18) (hiL : i < N) : ∀ (j i0 : Nat) (c : Int32), i0 + j = K → c = nI i0 → fc_T E mX11_nameAt d (0, 0) fc_sh 2 [some (.ref 252), some (.int 1), some (.int c)] [] mi ml mr (fc_is (some (.int (na (ml 262) (mi 264) (rw_ s n (tS s n i)) j i0))) mi ml mr) := by
  intro j
  induction j with
  | zero =>
    intro i0 c hi hc
    subst hc
    obtain ⟨⟨k1, k2, k3, k4, k5, k6⟩, hiN, hat, hfa, hkw, hok⟩ := id hS
    have htk := hS.tkc i
    refine fc_run oX11_nameAt (fun pc => pc == 2) 400 ?_
    refine And.intro (fun h4 => ?_) (fun h4 => ?_)
    · exact absurd h4 (by decide)
    · refine And.intro rfl ?_
      rw [hK]
      refine And.intro (fun h18 => ?_) (fun h18 => ?_)
      · exact ⟨rfl, rfl, rfl, rfl⟩
      · exact absurd (nI_le (by omega) (by omega)) h18
  | succ j ih =>
    intro i0 c hi hc
    subst hc
    obtain ⟨⟨k1, k2, k3, k4, k5, k6⟩, hiN, hat, hfa, hkw, hok⟩ := id hS
    have htk := hS.tkc i
    refine fc_run oX11_nameAt (fun pc => pc == 2) 400 ?_
    refine And.intro (fun h4 => ?_) (fun h4 => ?_)
    · exact absurd h4 (by decide)
    · refine And.intro rfl ?_
      rw [hK]
      refine And.intro (fun h18 => ?_) (fun h18 => ?_)
      · exact absurd h18 (nI_ge (by omega) (by omega))
      · refine And.intro (fun h22 => ?_) (fun h22 => ?_)
        · exact absurd h22 (by decide)
        · refine And.intro rfl (Exists.intro _ (And.intro (hW 252 15 262 rfl) ?_))
          refine Exists.intro _ (Exists.intro _ (And.intro rfl (And.intro (fc_ixn rfl (by omega) (by decide)) ?_)))
          refine And.intro rfl (Exists.intro _ (And.intro (hW 252 6 256 rfl) ?_))
          refine And.intro rfl ?_
          rw [hat]
          refine Exists.intro _ (Exists.intro _ (And.intro rfl (And.intro (fc_ixn rfl (by omega) (by decide)) ?_)))
          refine And.intro (fun h50 => ?_) (fun h50 => ?_)
          · replace h50 := lg_cmp0.mp h50
            rw [hS.value hiL] at h50
            refine And.intro (fun h54 => ?_) (fun h54 => ?_)
            · exact absurd h54 (by decide)
            · refine And.intro rfl (Exists.intro _ (And.intro (hW 252 17 264 rfl) ?_))
              refine Exists.intro _ (Exists.intro _ (And.intro rfl (And.intro (fc_ixn rfl (by omega) (by decide)) ?_)))
              exact ⟨by rw [na, if_pos h50], rfl, rfl, rfl⟩
          · replace h50 := fun q => h50 (lg_cmp0.mpr q)
            rw [hS.value hiL] at h50
            rw [na, if_neg h50]
            exact ih (i0 + 1) _ (by omega) (fc_inc i0)

theorem c_rnameAt1 (hW : fc_Wd mr) (hS : rst s n N i f mi ml) (hK : mi 252 19 = nI K) (hK18 : K ≤ 18) (hiL : i < N) : fc_R E mX11_nameAt d fc_sh [.ref 252, .int 1] mi ml mr (fc_is (some (.int (na (ml 262) (mi 264) (rw_ s n (tS s n i)) K 0))) mi ml mr) := by
  refine fc_met rfl (Nat.le_of_ble_eq_true rfl) (fc_run oX11_nameAt (fun pc => pc == 2) 400 ?_)
  exact l_rnameAt1 hW hS hK hK18 hiL K 0 _ (by omega) rfl

theorem l_rnameAt0 (hW : fc_Wd mr) (hS : rst s n N i f mi ml) (hK : mi 252 18 = nI K) (hK18 : K ≤ 18) (hiL : i < N) : ∀ (j i0 : Nat) (c : Int32), i0 + j = K → c = nI i0 → fc_T E mX11_nameAt d (0, 0) fc_sh 2 [some (.ref 252), some (.int 0), some (.int c)] [] mi ml mr (fc_is (some (.int (na (ml 261) (mi 263) (rw_ s n (tS s n i)) j i0))) mi ml mr) := by
  intro j
  induction j with
  | zero =>
    intro i0 c hi hc
    subst hc
    obtain ⟨⟨k1, k2, k3, k4, k5, k6⟩, hiN, hat, hfa, hkw, hok⟩ := id hS
    have htk := hS.tkc i
    refine fc_run oX11_nameAt (fun pc => pc == 2) 400 ?_
    refine And.intro (fun h4 => ?_) (fun h4 => ?_)
    · refine And.intro rfl ?_
      rw [hK]
      refine And.intro (fun h18 => ?_) (fun h18 => ?_)
      · exact ⟨rfl, rfl, rfl, rfl⟩
      · exact absurd (nI_le (by omega) (by omega)) h18
    · exact absurd rfl h4
  | succ j ih =>
    intro i0 c hi hc
    subst hc
    obtain ⟨⟨k1, k2, k3, k4, k5, k6⟩, hiN, hat, hfa, hkw, hok⟩ := id hS
    have htk := hS.tkc i
    refine fc_run oX11_nameAt (fun pc => pc == 2) 400 ?_
    refine And.intro (fun h4 => ?_) (fun h4 => ?_)
    · refine And.intro rfl ?_
      rw [hK]
      refine And.intro (fun h18 => ?_) (fun h18 => ?_)
      · exact absurd h18 (nI_ge (by omega) (by omega))
      · refine And.intro (fun h22 => ?_) (fun h22 => ?_)
        · refine And.intro rfl (Exists.intro _ (And.intro (hW 252 14 261 rfl) ?_))
          refine Exists.intro _ (Exists.intro _ (And.intro rfl (And.intro (fc_ixn rfl (by omega) (by decide)) ?_)))
          refine And.intro rfl (Exists.intro _ (And.intro (hW 252 6 256 rfl) ?_))
          refine And.intro rfl ?_
          rw [hat]
          refine Exists.intro _ (Exists.intro _ (And.intro rfl (And.intro (fc_ixn rfl (by omega) (by decide)) ?_)))
          refine And.intro (fun h50 => ?_) (fun h50 => ?_)
          · replace h50 := lg_cmp0.mp h50
            rw [hS.value hiL] at h50
            refine And.intro (fun h54 => ?_) (fun h54 => ?_)
            · refine And.intro rfl (Exists.intro _ (And.intro (hW 252 16 263 rfl) ?_))
              refine Exists.intro _ (Exists.intro _ (And.intro rfl (And.intro (fc_ixn rfl (by omega) (by decide)) ?_)))
              exact ⟨by rw [na, if_pos h50], rfl, rfl, rfl⟩
            · exact absurd rfl h54
          · replace h50 := fun q => h50 (lg_cmp0.mpr q)
            rw [hS.value hiL] at h50
            rw [na, if_neg h50]
            exact ih (i0 + 1) _ (by omega) (fc_inc i0)
        · exact absurd rfl h22
    · exact absurd rfl h4

theorem c_rnameAt0 (hW : fc_Wd mr) (hS : rst s n N i f mi ml) (hK : mi 252 18 = nI K) (hK18 : K ≤ 18) (hiL : i < N) : fc_R E mX11_nameAt d fc_sh [.ref 252, .int 0] mi ml mr (fc_is (some (.int (na (ml 261) (mi 263) (rw_ s n (tS s n i)) K 0))) mi ml mr) := by
  refine fc_met rfl (Nat.le_of_ble_eq_true rfl) (fc_run oX11_nameAt (fun pc => pc == 2) 400 ?_)
  exact l_rnameAt0 hW hS hK hK18 hiL K 0 _ (by omega) rfl

def p_td (s : Nat → Int32) (n : Nat) (v but : Int32) (p : Nat × Int32) : Nat × Int32 := if p.2 = 0 then (if tK s n p.1 = 4 then (if sp_from 0 v 6 then (if sp_in but v then (p.1, tF s n 3 p.1) else (p.1 + 1, 0)) else (p.1, tF s n 2 p.1)) else (p.1, tF s n 1 p.1)) else p
theorem p_td_ok {v but : Int32} (hn : n ≤ 1000) (h : fok f) : fok (p_td s n v but (i, f)).2 := by
  rw [p_td]; split
  · split
    · split
      · split
        · exact tF_ok (c := 3) (by omega) hn i
        · exact ⟨0, by omega, rfl⟩
      · exact tF_ok (c := 2) (by omega) hn i
    · exact tF_ok (c := 1) (by omega) hn i
  · exact h
theorem rst.same1 {m1 : fc_Mi} {f1 : Int32} (h : rst s n N i f1 m1 ml) : fc_u m1 252 7 (m1 252 7 + 0) = m1 := by rw [Int32.add_zero, fc_u_self]
theorem nm_lt (h : rst s n N i f mi ml) (g : tK s n i = 4) : i < N := h.lt (by rw [g]; decide)
theorem c_rtakeTold1 (hW : fc_Wd mr) (hS : rst s n N i f mi ml) (hfk : fok f) (hK : mi 252 19 = nI K) (hK18 : K ≤ 18) (x but : Int32) : fc_R E mX11_takeTold (d + 3) fc_sh [.ref 252, .int 1, .int x, .int but] mi ml mr (rsq s n N (some (.int (if f = 0 ∧ tK s n i = 4 ∧ sp_from 0 (na (ml 262) (mi 264) (rw_ s n (tS s n i)) K 0 - x) 6 = true ∧ sp_in but (na (ml 262) (mi 264) (rw_ s n (tS s n i)) K 0 - x) = false then (na (ml 262) (mi 264) (rw_ s n (tS s n i)) K 0 - x) else 0))) (p_td s n (na (ml 262) (mi 264) (rw_ s n (tS s n i)) K 0 - x) but (i, f)) mi ml mr) := by
  obtain ⟨⟨k1, k2, k3, k4, k5, k6⟩, hiN, hat, hfa, hkw, hok⟩ := id hS
  have htk := hS.tkc i
  refine fc_met rfl (Nat.le_of_ble_eq_true rfl) (fc_run oX11_takeTold (fun _ => false) 400 ?_)
  refine And.intro rfl ?_
  refine And.intro (fun h4 => ?_) (fun h4 => ?_)
  · rw [hfa] at h4
    refine And.intro rfl (Exists.intro _ (And.intro (c_risName hW hS) ?_))
    rintro _ _ _ _ ⟨rfl, rfl, rfl, rfl⟩
    refine And.intro (fun h11 => ?_) (fun h11 => ?_)
    · replace h11 := fc_b0.mp h11
      have hk4 : ¬ tK s n i = 4 := fun q => by rw [decide_eq_true h4, decide_eq_true q] at h11; cases h11
      refine And.intro rfl (Exists.intro _ (And.intro (c_rwrong hW hS _) ?_))
      rintro _ m1 _ _ ⟨rfl, g1, g2, rfl, rfl⟩
      have g1' : rst s n N i (tF s n 1 i) m1 ml := by rw [p_wr, if_pos h4] at g1; exact g1
      have hf1 : m1 252 8 = tF s n 1 i := g1'.2.2.2.1
      refine And.intro rfl ?_
      refine And.intro (fun h23 => ?_) (fun h23 => ?_)
      · rw [hf1] at h23; exact absurd ((fok_le (tF_ok (c := 1) (by omega) k3 i)).mp h23) (tF_ne (c := 1) (by omega) (by omega) k3 i)
      · refine And.intro rfl ?_
        refine And.intro (fun h43 => ?_) (fun h43 => ?_)
        · rw [hf1] at h43; exact absurd h43 (tF_ne (c := 1) (by omega) (by omega) k3 i)
        · refine And.intro rfl ?_
          refine And.intro (fun h69 => ?_) (fun h69 => ?_)
          · rw [hf1] at h69; exact absurd h69 (tF_ne (c := 1) (by omega) (by omega) k3 i)
          · refine And.intro rfl ?_
            refine And.intro rfl ?_
            refine And.intro (fun h96 => ?_) (fun h96 => ?_)
            · rw [hf1] at h96; exact absurd ((fok_le (tF_ok (c := 1) (by omega) k3 i)).mp h96) (tF_ne (c := 1) (by omega) (by omega) k3 i)
            · refine And.intro rfl ?_
              refine And.intro rfl ?_
              refine And.intro (fun h112 => ?_) (fun h112 => ?_)
              · rw [fc_u_nj _ _ _ _ (by decide)] at h112
                rw [hf1] at h112; exact absurd ((fok_le (tF_ok (c := 1) (by omega) k3 i)).mp h112) (tF_ne (c := 1) (by omega) (by omega) k3 i)
              · rw [g1'.same1]
                refine ⟨?_, ?_, g2, rfl, rfl⟩
                · rw [if_neg (fun q => hk4 q.2.1)]
                · rw [p_td, if_pos h4, if_neg hk4]; exact g1'
    · replace h11 := fc_b1.mp h11
      have hk4 : tK s n i = 4 := by rw [Bool.and_eq_true] at h11; exact of_decide_eq_true h11.2
      refine And.intro rfl ?_
      refine And.intro (fun h23 => ?_) (fun h23 => ?_)
      · refine And.intro rfl (Exists.intro _ (And.intro (c_rnameAt1 hW hS hK hK18 (nm_lt hS hk4)) ?_))
        rintro _ _ _ _ ⟨rfl, rfl, rfl, rfl⟩
        refine And.intro rfl ?_
        refine And.intro (fun h43 => ?_) (fun h43 => ?_)
        · refine Exists.intro _ (And.intro (c_rwithin _ _ _) ?_)
          rintro _ _ _ _ ⟨rfl, rfl, rfl, rfl⟩
          refine And.intro (fun h54 => ?_) (fun h54 => ?_)
          · replace h54 := fc_b0.mp h54
            refine And.intro rfl (Exists.intro _ (And.intro (c_rwrong hW hS _) ?_))
            rintro _ m1 _ _ ⟨rfl, g1, g2, rfl, rfl⟩
            have g1' : rst s n N i (tF s n 2 i) m1 ml := by rw [p_wr, if_pos h4] at g1; exact g1
            have hf1 : m1 252 8 = tF s n 2 i := g1'.2.2.2.1
            refine And.intro rfl ?_
            refine And.intro rfl ?_
            refine And.intro (fun h96 => ?_) (fun h96 => ?_)
            · rw [hf1] at h96; exact absurd ((fok_le (tF_ok (c := 2) (by omega) k3 i)).mp h96) (tF_ne (c := 2) (by omega) (by omega) k3 i)
            · refine And.intro rfl ?_
              refine And.intro rfl ?_
              refine And.intro (fun h112 => ?_) (fun h112 => ?_)
              · rw [fc_u_nj _ _ _ _ (by decide)] at h112
                rw [hf1] at h112; exact absurd ((fok_le (tF_ok (c := 2) (by omega) k3 i)).mp h112) (tF_ne (c := 2) (by omega) (by omega) k3 i)
              · rw [g1'.same1]
                refine ⟨?_, ?_, g2, rfl, rfl⟩
                · rw [if_neg (fun q => by rw [h54] at q; exact absurd q.2.2.1 (by decide))]
                · rw [p_td, if_pos h4, if_pos hk4, if_neg (by rw [h54]; decide)]; exact g1'
          · replace h54 := fc_b1.mp h54
            refine And.intro rfl ?_
            refine And.intro (fun h69 => ?_) (fun h69 => ?_)
            · refine And.intro (fun h79 => ?_) (fun h79 => ?_)
              · have hbit : sp_in but (na (ml 262) (mi 264) (rw_ s n (tS s n i)) K 0 - x) = true := decide_eq_true h79
                refine And.intro rfl (Exists.intro _ (And.intro (c_rwrong hW hS _) ?_))
                rintro _ m1 _ _ ⟨rfl, g1, g2, rfl, rfl⟩
                have g1' : rst s n N i (tF s n 3 i) m1 ml := by rw [p_wr, if_pos h4] at g1; exact g1
                have hf1 : m1 252 8 = tF s n 3 i := g1'.2.2.2.1
                refine And.intro rfl ?_
                refine And.intro rfl ?_
                refine And.intro (fun h96 => ?_) (fun h96 => ?_)
                · rw [hf1] at h96; exact absurd ((fok_le (tF_ok (c := 3) (by omega) k3 i)).mp h96) (tF_ne (c := 3) (by omega) (by omega) k3 i)
                · refine And.intro rfl ?_
                  refine And.intro rfl ?_
                  refine And.intro (fun h112 => ?_) (fun h112 => ?_)
                  · rw [fc_u_nj _ _ _ _ (by decide)] at h112
                    rw [hf1] at h112; exact absurd ((fok_le (tF_ok (c := 3) (by omega) k3 i)).mp h112) (tF_ne (c := 3) (by omega) (by omega) k3 i)
                  · rw [g1'.same1]
                    refine ⟨?_, ?_, g2, rfl, rfl⟩
                    · rw [if_neg (fun q => by rw [hbit] at q; exact absurd q.2.2.2 (by decide))]
                    · rw [p_td, if_pos h4, if_pos hk4, if_pos h54, if_pos hbit]; exact g1'
              · have hbit : sp_in but (na (ml 262) (mi 264) (rw_ s n (tS s n i)) K 0 - x) = false := decide_eq_false h79
                refine And.intro rfl ?_
                refine And.intro rfl ?_
                refine And.intro (fun h96 => ?_) (fun h96 => ?_)
                · refine And.intro rfl ?_
                  refine And.intro rfl ?_
                  refine And.intro (fun h112 => ?_) (fun h112 => ?_)
                  · rw [hat, show nI i + 1 = nI (i + 1) from nI_1 i]
                    refine ⟨?_, ?_, rfr_at _, rfl, rfl⟩
                    · rw [if_pos ⟨h4, hk4, h54, hbit⟩]
                    · rw [p_td, if_pos h4, if_pos hk4, if_pos h54, hbit, if_neg (by decide)]
                      have := hS.next (nm_lt hS hk4)
                      rw [h4] at this; exact this
                  · rw [fc_u_nj _ _ _ _ (by decide)] at h112
                    rw [hfa] at h112; exact absurd ((fok_le hfk).mpr h4) h112
                · rw [hfa] at h96; exact absurd ((fok_le hfk).mpr h4) h96
            · rw [hfa] at h69; exact absurd h4 h69
        · rw [hfa] at h43; exact absurd h4 h43
      · rw [hfa] at h23; exact absurd ((fok_le hfk).mpr h4) h23
  · rw [hfa] at h4
    refine And.intro rfl ?_
    refine And.intro (fun h23 => ?_) (fun h23 => ?_)
    · rw [hfa] at h23; exact absurd ((fok_le hfk).mp h23) h4
    · refine And.intro rfl ?_
      refine And.intro (fun h43 => ?_) (fun h43 => ?_)
      · rw [hfa] at h43; exact absurd h43 h4
      · refine And.intro rfl ?_
        refine And.intro (fun h69 => ?_) (fun h69 => ?_)
        · rw [hfa] at h69; exact absurd h69 h4
        · refine And.intro rfl ?_
          refine And.intro rfl ?_
          refine And.intro (fun h96 => ?_) (fun h96 => ?_)
          · rw [hfa] at h96; exact absurd ((fok_le hfk).mp h96) h4
          · refine And.intro rfl ?_
            refine And.intro rfl ?_
            refine And.intro (fun h112 => ?_) (fun h112 => ?_)
            · rw [fc_u_nj _ _ _ _ (by decide)] at h112
              rw [hfa] at h112; exact absurd ((fok_le hfk).mp h112) h4
            · rw [hS.same1]
              refine ⟨?_, ?_, rfr.rf, rfl, rfl⟩
              · rw [if_neg (fun q => h4 q.1)]
              · rw [p_td, if_neg h4]; exact hS

theorem c_rtakeTold0 (hW : fc_Wd mr) (hS : rst s n N i f mi ml) (hfk : fok f) (hK : mi 252 18 = nI K) (hK18 : K ≤ 18) (x but : Int32) : fc_R E mX11_takeTold (d + 3) fc_sh [.ref 252, .int 0, .int x, .int but] mi ml mr (rsq s n N (some (.int (if f = 0 ∧ tK s n i = 4 ∧ sp_from 0 (na (ml 261) (mi 263) (rw_ s n (tS s n i)) K 0 - x) 6 = true ∧ sp_in but (na (ml 261) (mi 263) (rw_ s n (tS s n i)) K 0 - x) = false then (na (ml 261) (mi 263) (rw_ s n (tS s n i)) K 0 - x) else 0))) (p_td s n (na (ml 261) (mi 263) (rw_ s n (tS s n i)) K 0 - x) but (i, f)) mi ml mr) := by
  obtain ⟨⟨k1, k2, k3, k4, k5, k6⟩, hiN, hat, hfa, hkw, hok⟩ := id hS
  have htk := hS.tkc i
  refine fc_met rfl (Nat.le_of_ble_eq_true rfl) (fc_run oX11_takeTold (fun _ => false) 400 ?_)
  refine And.intro rfl ?_
  refine And.intro (fun h4 => ?_) (fun h4 => ?_)
  · rw [hfa] at h4
    refine And.intro rfl (Exists.intro _ (And.intro (c_risName hW hS) ?_))
    rintro _ _ _ _ ⟨rfl, rfl, rfl, rfl⟩
    refine And.intro (fun h11 => ?_) (fun h11 => ?_)
    · replace h11 := fc_b0.mp h11
      have hk4 : ¬ tK s n i = 4 := fun q => by rw [decide_eq_true h4, decide_eq_true q] at h11; cases h11
      refine And.intro rfl (Exists.intro _ (And.intro (c_rwrong hW hS _) ?_))
      rintro _ m1 _ _ ⟨rfl, g1, g2, rfl, rfl⟩
      have g1' : rst s n N i (tF s n 1 i) m1 ml := by rw [p_wr, if_pos h4] at g1; exact g1
      have hf1 : m1 252 8 = tF s n 1 i := g1'.2.2.2.1
      refine And.intro rfl ?_
      refine And.intro (fun h23 => ?_) (fun h23 => ?_)
      · rw [hf1] at h23; exact absurd ((fok_le (tF_ok (c := 1) (by omega) k3 i)).mp h23) (tF_ne (c := 1) (by omega) (by omega) k3 i)
      · refine And.intro rfl ?_
        refine And.intro (fun h43 => ?_) (fun h43 => ?_)
        · rw [hf1] at h43; exact absurd h43 (tF_ne (c := 1) (by omega) (by omega) k3 i)
        · refine And.intro rfl ?_
          refine And.intro (fun h69 => ?_) (fun h69 => ?_)
          · rw [hf1] at h69; exact absurd h69 (tF_ne (c := 1) (by omega) (by omega) k3 i)
          · refine And.intro rfl ?_
            refine And.intro rfl ?_
            refine And.intro (fun h96 => ?_) (fun h96 => ?_)
            · rw [hf1] at h96; exact absurd ((fok_le (tF_ok (c := 1) (by omega) k3 i)).mp h96) (tF_ne (c := 1) (by omega) (by omega) k3 i)
            · refine And.intro rfl ?_
              refine And.intro rfl ?_
              refine And.intro (fun h112 => ?_) (fun h112 => ?_)
              · rw [fc_u_nj _ _ _ _ (by decide)] at h112
                rw [hf1] at h112; exact absurd ((fok_le (tF_ok (c := 1) (by omega) k3 i)).mp h112) (tF_ne (c := 1) (by omega) (by omega) k3 i)
              · rw [g1'.same1]
                refine ⟨?_, ?_, g2, rfl, rfl⟩
                · rw [if_neg (fun q => hk4 q.2.1)]
                · rw [p_td, if_pos h4, if_neg hk4]; exact g1'
    · replace h11 := fc_b1.mp h11
      have hk4 : tK s n i = 4 := by rw [Bool.and_eq_true] at h11; exact of_decide_eq_true h11.2
      refine And.intro rfl ?_
      refine And.intro (fun h23 => ?_) (fun h23 => ?_)
      · refine And.intro rfl (Exists.intro _ (And.intro (c_rnameAt0 hW hS hK hK18 (nm_lt hS hk4)) ?_))
        rintro _ _ _ _ ⟨rfl, rfl, rfl, rfl⟩
        refine And.intro rfl ?_
        refine And.intro (fun h43 => ?_) (fun h43 => ?_)
        · refine Exists.intro _ (And.intro (c_rwithin _ _ _) ?_)
          rintro _ _ _ _ ⟨rfl, rfl, rfl, rfl⟩
          refine And.intro (fun h54 => ?_) (fun h54 => ?_)
          · replace h54 := fc_b0.mp h54
            refine And.intro rfl (Exists.intro _ (And.intro (c_rwrong hW hS _) ?_))
            rintro _ m1 _ _ ⟨rfl, g1, g2, rfl, rfl⟩
            have g1' : rst s n N i (tF s n 2 i) m1 ml := by rw [p_wr, if_pos h4] at g1; exact g1
            have hf1 : m1 252 8 = tF s n 2 i := g1'.2.2.2.1
            refine And.intro rfl ?_
            refine And.intro rfl ?_
            refine And.intro (fun h96 => ?_) (fun h96 => ?_)
            · rw [hf1] at h96; exact absurd ((fok_le (tF_ok (c := 2) (by omega) k3 i)).mp h96) (tF_ne (c := 2) (by omega) (by omega) k3 i)
            · refine And.intro rfl ?_
              refine And.intro rfl ?_
              refine And.intro (fun h112 => ?_) (fun h112 => ?_)
              · rw [fc_u_nj _ _ _ _ (by decide)] at h112
                rw [hf1] at h112; exact absurd ((fok_le (tF_ok (c := 2) (by omega) k3 i)).mp h112) (tF_ne (c := 2) (by omega) (by omega) k3 i)
              · rw [g1'.same1]
                refine ⟨?_, ?_, g2, rfl, rfl⟩
                · rw [if_neg (fun q => by rw [h54] at q; exact absurd q.2.2.1 (by decide))]
                · rw [p_td, if_pos h4, if_pos hk4, if_neg (by rw [h54]; decide)]; exact g1'
          · replace h54 := fc_b1.mp h54
            refine And.intro rfl ?_
            refine And.intro (fun h69 => ?_) (fun h69 => ?_)
            · refine And.intro (fun h79 => ?_) (fun h79 => ?_)
              · have hbit : sp_in but (na (ml 261) (mi 263) (rw_ s n (tS s n i)) K 0 - x) = true := decide_eq_true h79
                refine And.intro rfl (Exists.intro _ (And.intro (c_rwrong hW hS _) ?_))
                rintro _ m1 _ _ ⟨rfl, g1, g2, rfl, rfl⟩
                have g1' : rst s n N i (tF s n 3 i) m1 ml := by rw [p_wr, if_pos h4] at g1; exact g1
                have hf1 : m1 252 8 = tF s n 3 i := g1'.2.2.2.1
                refine And.intro rfl ?_
                refine And.intro rfl ?_
                refine And.intro (fun h96 => ?_) (fun h96 => ?_)
                · rw [hf1] at h96; exact absurd ((fok_le (tF_ok (c := 3) (by omega) k3 i)).mp h96) (tF_ne (c := 3) (by omega) (by omega) k3 i)
                · refine And.intro rfl ?_
                  refine And.intro rfl ?_
                  refine And.intro (fun h112 => ?_) (fun h112 => ?_)
                  · rw [fc_u_nj _ _ _ _ (by decide)] at h112
                    rw [hf1] at h112; exact absurd ((fok_le (tF_ok (c := 3) (by omega) k3 i)).mp h112) (tF_ne (c := 3) (by omega) (by omega) k3 i)
                  · rw [g1'.same1]
                    refine ⟨?_, ?_, g2, rfl, rfl⟩
                    · rw [if_neg (fun q => by rw [hbit] at q; exact absurd q.2.2.2 (by decide))]
                    · rw [p_td, if_pos h4, if_pos hk4, if_pos h54, if_pos hbit]; exact g1'
              · have hbit : sp_in but (na (ml 261) (mi 263) (rw_ s n (tS s n i)) K 0 - x) = false := decide_eq_false h79
                refine And.intro rfl ?_
                refine And.intro rfl ?_
                refine And.intro (fun h96 => ?_) (fun h96 => ?_)
                · refine And.intro rfl ?_
                  refine And.intro rfl ?_
                  refine And.intro (fun h112 => ?_) (fun h112 => ?_)
                  · rw [hat, show nI i + 1 = nI (i + 1) from nI_1 i]
                    refine ⟨?_, ?_, rfr_at _, rfl, rfl⟩
                    · rw [if_pos ⟨h4, hk4, h54, hbit⟩]
                    · rw [p_td, if_pos h4, if_pos hk4, if_pos h54, hbit, if_neg (by decide)]
                      have := hS.next (nm_lt hS hk4)
                      rw [h4] at this; exact this
                  · rw [fc_u_nj _ _ _ _ (by decide)] at h112
                    rw [hfa] at h112; exact absurd ((fok_le hfk).mpr h4) h112
                · rw [hfa] at h96; exact absurd ((fok_le hfk).mpr h4) h96
            · rw [hfa] at h69; exact absurd h4 h69
        · rw [hfa] at h43; exact absurd h4 h43
      · rw [hfa] at h23; exact absurd ((fok_le hfk).mpr h4) h23
  · rw [hfa] at h4
    refine And.intro rfl ?_
    refine And.intro (fun h23 => ?_) (fun h23 => ?_)
    · rw [hfa] at h23; exact absurd ((fok_le hfk).mp h23) h4
    · refine And.intro rfl ?_
      refine And.intro (fun h43 => ?_) (fun h43 => ?_)
      · rw [hfa] at h43; exact absurd h43 h4
      · refine And.intro rfl ?_
        refine And.intro (fun h69 => ?_) (fun h69 => ?_)
        · rw [hfa] at h69; exact absurd h69 h4
        · refine And.intro rfl ?_
          refine And.intro rfl ?_
          refine And.intro (fun h96 => ?_) (fun h96 => ?_)
          · rw [hfa] at h96; exact absurd ((fok_le hfk).mp h96) h4
          · refine And.intro rfl ?_
            refine And.intro rfl ?_
            refine And.intro (fun h112 => ?_) (fun h112 => ?_)
            · rw [fc_u_nj _ _ _ _ (by decide)] at h112
              rw [hfa] at h112; exact absurd ((fok_le hfk).mp h112) h4
            · rw [hS.same1]
              refine ⟨?_, ?_, rfr.rf, rfl, rfl⟩
              · rw [if_neg (fun q => h4 q.1)]
              · rw [p_td, if_neg h4]; exact hS

end M68
