/-! ===== the minute ===== -/
section M17
variable {E : fc_E} {d : Nat} {mi : fc_Mi} {ml : fc_Ml} {mr : fc_Mr} {a b n m t : Nat}
/-- the news behind a company's talk -/
def sp_sn (n : Nat) (k : Int32) (nw : Nat → Int32) (i : Nat) : Nat → Int32 := fun p => if decide (p < i) && sp_in k (nI p) then sp_or (fun p => sp_in k (nI p)) nw n else nw p
theorem l_share2 (hS : fc_S mr a) (hL : fc_L mr b) (hab : a + 8 ≤ b) (k : Int32) (hN : mi b 12 = nI n) (h5 : n ≤ 5) : ∀ (j i : Nat) (c : Int32) (mm : fc_Mi), i + j = n → c = nI i → mm = fc_ur mi (a + 3) (sp_sn n k (mi (a + 3)) i) → fc_T E mX7_shareNews (d + 1) (0, 0) fc_sh 42 [some (.ref a), some (.ref b), some (.int k), some (.int (sp_or (fun p => sp_in k (nI p)) (mi (a + 3)) n)), some (.int c)] [] mm ml mr (fc_is none (fc_ur mi (a + 3) (sp_sn n k (mi (a + 3)) n)) ml mr) := by
  intro j
  induction j with
  | zero =>
    intro i c mm hi hc hm
    subst hc
    have hN2 : mm b 12 = nI n := by rw [hm, fc_ur_off _ _ (by omega)]; exact hN
    refine fc_run oX7_shareNews (fun pc => pc == 42) 400 ?_
    refine And.intro (fc_L_0 hL) ?_
    refine And.intro (fun h48 => ?_) (fun h48 => ?_)
    · exact ⟨rfl, by rw [hm, show i = n by omega], rfl, rfl⟩
    · exact absurd (by rw [hN2]; exact nI_le (by omega) (by omega)) h48
  | succ j ih =>
    intro i c mm hi hc hm
    subst hc
    have hN2 : mm b 12 = nI n := by rw [hm, fc_ur_off _ _ (by omega)]; exact hN
    refine fc_run oX7_shareNews (fun pc => pc == 42) 400 ?_
    refine And.intro (fc_L_0 hL) ?_
    refine And.intro (fun h48 => ?_) (fun h48 => ?_)
    · exact absurd h48 (by rw [hN2]; exact nI_ge (by omega) (by omega))
    · refine Exists.intro _ (And.intro (c_isIn _ _) ?_)
      rintro _ _ _ _ ⟨rfl, rfl, rfl, rfl⟩
      refine And.intro (fun h57 => ?_) (fun h57 => ?_)
      · replace h57 := fc_b0.mp h57
        exact ih (i + 1) _ _ (by omega) (fc_inc i) (by
                first
                  | (rw [hm, fc_u_ur]; exact fc_rowE (fun j => by
                      unfold sp_sn
                      by_cases h1 : j = i
                      · subst h1; simp [h57]
                      · simp [h1, show (j < i + 1) ↔ (j < i) by omega]))
                  | (rw [hm]; exact fc_rowE (fun j => by
                      unfold sp_sn
                      by_cases h1 : j = i
                      · subst h1; simp [h57]
                      · simp [h1, show (j < i + 1) ↔ (j < i) by omega])))
      · replace h57 := fc_b1.mp h57
        refine And.intro (fc_S_0 hS) (Exists.intro _ (And.intro (fc_S_r4 hS) ?_))
        refine Exists.intro _ (Exists.intro _ (And.intro (fc_S_3 hS) (And.intro (by first | assumption | exact fc_ix_nI (by omega) (by omega) | exact fc_ix_nI (by assumption) (by omega)) ?_)))
        exact ih (i + 1) _ _ (by omega) (fc_inc i) (by
                first
                  | (rw [hm, fc_u_ur]; exact fc_rowE (fun j => by
                      unfold sp_sn
                      by_cases h1 : j = i
                      · subst h1; simp [h57]
                      · simp [h1, show (j < i + 1) ↔ (j < i) by omega]))
                  | (rw [hm]; exact fc_rowE (fun j => by
                      unfold sp_sn
                      by_cases h1 : j = i
                      · subst h1; simp [h57]
                      · simp [h1, show (j < i + 1) ↔ (j < i) by omega])))

theorem l_share1 (hS : fc_S mr a) (hL : fc_L mr b) (hab : a + 8 ≤ b) (k : Int32) (hN : mi b 12 = nI n) (h5 : n ≤ 5) : ∀ (j i : Nat) (c acc : Int32), i + j = n → c = nI i → acc = sp_or (fun p => sp_in k (nI p)) (mi (a + 3)) i → fc_T E mX7_shareNews (d + 1) (0, 0) fc_sh 5 [some (.ref a), some (.ref b), some (.int k), some (.int acc), some (.int c)] [] mi ml mr (fc_is none (fc_ur mi (a + 3) (sp_sn n k (mi (a + 3)) n)) ml mr) := by
  intro j
  induction j with
  | zero =>
    intro i c acc hi hc hacc
    subst hc
    refine fc_run oX7_shareNews (fun pc => pc == 5 || pc == 42) 400 ?_
    refine And.intro (fc_L_0 hL) ?_
    refine And.intro (fun h11 => ?_) (fun h11 => ?_)
    · rw [hacc, show i = n by omega]
      exact l_share2 hS hL hab k hN h5 n 0 _ _ (by omega) rfl (by unfold sp_sn; simp [fc_ur_self])
    · exact absurd (by rw [hN]; exact nI_le (by omega) (by omega)) h11
  | succ j ih =>
    intro i c acc hi hc hacc
    subst hc
    refine fc_run oX7_shareNews (fun pc => pc == 5 || pc == 42) 400 ?_
    refine And.intro (fc_L_0 hL) ?_
    refine And.intro (fun h11 => ?_) (fun h11 => ?_)
    · exact absurd h11 (by rw [hN]; exact nI_ge (by omega) (by omega))
    · refine Exists.intro _ (And.intro (c_isIn _ _) ?_)
      rintro _ _ _ _ ⟨rfl, rfl, rfl, rfl⟩
      refine And.intro (fun h20 => ?_) (fun h20 => ?_)
      · replace h20 := fc_b0.mp h20
        exact ih (i + 1) _ _ (by omega) (fc_inc i) (by first | (rw [hacc]; exact sp_or_t (P := fun p => sp_in k (nI p)) h20) | (rw [hacc]; exact sp_or_f (P := fun p => sp_in k (nI p)) h20))
      · replace h20 := fc_b1.mp h20
        refine And.intro (fc_S_0 hS) (Exists.intro _ (And.intro (fc_S_r4 hS) ?_))
        refine Exists.intro _ (Exists.intro _ (And.intro (fc_S_3 hS) (And.intro (by first | assumption | exact fc_ix_nI (by omega) (by omega) | exact fc_ix_nI (by assumption) (by omega)) ?_)))
        exact ih (i + 1) _ _ (by omega) (fc_inc i) (by first | (rw [hacc]; exact sp_or_t (P := fun p => sp_in k (nI p)) h20) | (rw [hacc]; exact sp_or_f (P := fun p => sp_in k (nI p)) h20))

theorem c_shareNews (hS : fc_S mr a) (hL : fc_L mr b) (hab : a + 8 ≤ b) (k : Int32) (hN : mi b 12 = nI n) (h5 : n ≤ 5) : fc_R E mX7_shareNews (d + 1) fc_sh [.ref a, .ref b, .int k] mi ml mr (fc_is none (fc_ur mi (a + 3) (sp_sn n k (mi (a + 3)) n)) ml mr) := by
  refine fc_met rfl (Nat.le_of_ble_eq_true rfl) (fc_run oX7_shareNews (fun pc => pc == 5) 400 ?_)
  exact l_share1 hS hL hab k hN h5 n 0 _ _ (by omega) rfl rfl

/-- the State at a behind the SMOKE -/
def sp_smoke (mi : fc_Mi) (a b : Nat) : fc_Mi :=
  fc_u (fc_u (fc_ur (fc_ur (fc_ur (fc_ur mi (a + 6) (va_cpy (mi (a + 7)) (mi (a + 6)) 0 0 6)) (a + 4) (va_cpy (mi (a + 5)) (mi (a + 4)) 0 0 5)) (a + 1) (va_cpy (mi (b + 6)) (mi (a + 1)) 0 0 5)) (a + 2) (fun j => if j < 5 then 0 else mi (a + 2) j)) a 1 0) a 0 (mi a 0 + 1)
theorem c_riseSmoke (hS : fc_S mr a) (hL : fc_L mr b) (hab : a + 8 ≤ b) : fc_R E mX7_riseSmoke (d + 1) fc_sh [.ref a, .ref b] mi ml mr (fc_is none (sp_smoke mi a b) ml mr) := by
  refine fc_met rfl (Nat.le_of_ble_eq_true rfl) (fc_run oX7_riseSmoke (fun _ => false) 400 ?_)
  refine And.intro (fc_S_0 hS) (Exists.intro _ (And.intro (fc_S_r8 hS) ?_))
  refine And.intro (fc_S_0 hS) (Exists.intro _ (And.intro (fc_S_r7 hS) ?_))
  refine Exists.intro _ (Exists.intro _ (And.intro (fc_S_7 hS) (And.intro (fc_S_6 hS) (And.intro (by decide) ?_))))
  refine And.intro (fc_S_0 hS) (Exists.intro _ (And.intro (fc_S_r6 hS) ?_))
  refine And.intro (fc_S_0 hS) (Exists.intro _ (And.intro (fc_S_r5 hS) ?_))
  refine Exists.intro _ (Exists.intro _ (And.intro (fc_S_5 hS) (And.intro (fc_S_4 hS) (And.intro (by decide) ?_))))
  refine And.intro (fc_L_0 hL) (Exists.intro _ (And.intro (fc_L_r5 hL) ?_))
  refine And.intro (fc_S_0 hS) (Exists.intro _ (And.intro (fc_S_r2 hS) ?_))
  refine Exists.intro _ (Exists.intro _ (And.intro (fc_L_6 hL) (And.intro (fc_S_1 hS) (And.intro (by decide) ?_))))
  refine And.intro (fc_S_0 hS) (Exists.intro _ (And.intro (fc_S_r3 hS) ?_))
  refine Exists.intro _ (And.intro (c_fill (fc_S_2 hS) (by omega) _) ?_)
  rintro _ _ _ _ ⟨rfl, rfl, rfl, rfl⟩
  refine And.intro (fc_S_0 hS) ?_
  refine And.intro (fc_S_0 hS) ?_
  refine And.intro (fc_S_0 hS) ?_
  refine ⟨rfl, ?_, rfl, rfl⟩
  have e1 : ∀ (f : fc_Mi) (g : Nat → Int32) (x z : Nat), z ≠ x → fc_ur f x g z = f z := fun f g x z h => fc_ur_off f g h
  unfold sp_smoke
  simp (config := { decide := true }) only [fc_ur_off, fc_u_off, ne_eq, Nat.add_right_inj, Nat.reduceEqDiff, not_false_eq_true, show ¬ (b + 6 = a + 6) by omega, show ¬ (b + 6 = a + 4) by omega, show ¬ (a = a + 6) by omega, show ¬ (a = a + 4) by omega, show ¬ (a = a + 1) by omega, show ¬ (a = a + 2) by omega]
  have e2 : ∀ (f : fc_Mi) (g : Nat → Int32) (x : Nat), x ≠ a → fc_ur f x g a = f a := fun f g x h => fc_ur_off f g (Ne.symm h)
  rw [fc_u_nj _ _ _ _ (show (0 : Nat) ≠ 1 by decide), e2 _ _ _ (by omega), e2 _ _ _ (by omega), e2 _ _ _ (by omega), e2 _ _ _ (by omega)]
  rfl

/-- the news behind the minute, places below k gone through -/
def sp_nw (n : Nat) (w wk nw : Nat → Int32) (mn : Int32) (k : Nat) : Nat → Int32 := fun p => if decide (p < n) && (sp_aw wk mn p && decide ((w p).toNatClampNeg < k)) then sp_or (fun q => decide (w q = w p) && sp_aw wk mn q) nw n else nw p
theorem fb_and2 {P P' : Nat → Bool} {n p : Nat} (hn : n ≤ 32) (hp : p < n) : sp_in (sp_set P n &&& sp_set P' n) (nI p) = (P p && P' p) := by
  rw [fb_in _ (by omega), b_and, fb_set hn (by omega), fb_set hn (by omega)]
  simp [hp]
/-- one place more -/
theorem sp_nw_step {n m : Nat} {w wk nw : Nat → Int32} {mn : Int32} {k : Nat} (hn : n ≤ 5) (hm : m ≤ 7) (hk : k < m) (hw : ∀ p, p < n → ∃ j, j < m ∧ w p = nI j) (p : Nat) :
    sp_sn n (sp_set (fun p => decide (w p = nI k)) n &&& sp_set (sp_aw wk mn) n) (sp_nw n w wk nw mn k) n p = sp_nw n w wk nw mn (k + 1) p := by
  unfold sp_sn
  by_cases hp : p < n
  · obtain ⟨j, hj, hwp⟩ := hw p hp
    have hcl : (w p).toNatClampNeg = j := by rw [hwp]; exact fc_cl (k := 7) (by omega) (by omega)
    rw [fb_and2 (by omega) hp]
    by_cases ha : sp_aw wk mn p = true
    · by_cases hjk : j = k
      · subst hjk
        have h1 : sp_nw n w wk nw mn (j + 1) p = sp_or (fun q => decide (w q = w p) && sp_aw wk mn q) nw n := by
          unfold sp_nw
          simp [hp, ha, hcl]
        rw [h1]
        simp only [hp, hwp, ha, decide_true, Bool.and_self, if_true]
        refine sp_or_congr (fun i hi => ?_)
        obtain ⟨ji, hji, hwi⟩ := hw i hi
        rw [fb_and2 (by omega) hi]
        refine ⟨rfl, fun hin => ?_⟩
        simp only [Bool.and_eq_true, decide_eq_true_eq] at hin
        have hci : (w i).toNatClampNeg = j := by rw [hin.1]; exact fc_cl (k := 7) (by omega) (by omega)
        unfold sp_nw
        simp [hci]
      · have hne : ¬ w p = nI k := by
          rw [hwp]
          intro q
          exact hjk ((nI_eq (by omega) (by omega)).mp q)
        simp only [hp, ha, hne, decide_true, decide_false, Bool.true_and, Bool.false_and, Bool.and_true, if_false]
        unfold sp_nw
        simp only [hp, ha, hcl, decide_true, Bool.true_and]
        have : (decide (j < k + 1)) = decide (j < k) := by
          by_cases h : j < k
          · simp [h, show j < k + 1 by omega]
          · simp [h, show ¬ j < k + 1 by omega]
        rw [this]
        simp
    · have ha' : sp_aw wk mn p = false := by simpa using ha
      unfold sp_nw
      simp [ha', hp]
  · unfold sp_nw
    simp [hp]
/-- who has acted, a minute on -/
def sp_ac (ac : Nat → Int32) (i : Nat) : Nat → Int32 := fun p => if p < i then (if 0 < ac p - 1 then ac p - 1 else 0) else ac p
/-- the State at a, a minute on, before any smoke -/
def sp_tick (mi : fc_Mi) (a b n m : Nat) : fc_Mi := fc_u (fc_ur (fc_ur mi (a + 3) (sp_nw n (mi (a + 1)) (mi (b + 7)) (mi (a + 3)) (mi a 1) m)) (a + 2) (sp_ac (mi (a + 2)) 5)) a 1 (mi a 1 + 1)
def sp_passQ (mi : fc_Mi) (ml : fc_Ml) (mr : fc_Mr) (a b n m : Nat) : fc_Q :=
  if mi b 14 ≤ mi a 1 + 1 then fc_is (some (.int 1)) (sp_smoke (sp_tick mi a b n m) a b) ml mr else fc_is (some (.int 0)) (sp_tick mi a b n m) ml mr
theorem l_pass2 (hS : fc_S mr a) (hL : fc_L mr b) (hab : a + 8 ≤ b) (hN : fc_LN mi b n m t) (hw : ∀ p, p < n → ∃ j, j < m ∧ mi (a + 1) p = nI j) : ∀ (j i : Nat) (c : Int32) (mm : fc_Mi), i + j = 5 → c = nI i → mm = fc_ur (fc_ur mi (a + 3) (sp_nw n (mi (a + 1)) (mi (b + 7)) (mi (a + 3)) (mi a 1) m)) (a + 2) (sp_ac (mi (a + 2)) i) → fc_T E mX7_pass (d + 2) (0, 0) fc_sh 38 [some (.ref a), some (.ref b), some (.int c)] [] mm ml mr (sp_passQ mi ml mr a b n m) := by
  intro j
  induction j with
  | zero =>
    intro i c mm hi hc hm
    subst hc
    have hr : mm (a + 2) = sp_ac (mi (a + 2)) i := by rw [hm, fc_ur_row]
    refine fc_run oX7_pass (fun pc => pc == 38) 400 ?_
    refine And.intro (fun h40 => ?_) (fun h40 => ?_)
    · refine And.intro (fc_S_0 hS) ?_
      refine And.intro (fc_S_0 hS) ?_
      have hi5 : i = 5 := by omega
      subst hi5
      refine And.intro (fc_S_0 hS) ?_
      refine And.intro (fc_L_0 hL) ?_
      refine And.intro (fun h85 => ?_) (fun h85 => ?_)
      · have hb : fc_u mm a 1 (mm a 1 + 1) a 1 = mi a 1 + 1 ∧ fc_u mm a 1 (mm a 1 + 1) b 14 = mi b 14 := by
          refine ⟨?_, ?_⟩
          · rw [fc_u_at, hm, fc_ur_off _ _ (by omega), fc_ur_off _ _ (by omega)]
          · rw [fc_u_off _ _ _ (by omega), hm, fc_ur_off _ _ (by omega), fc_ur_off _ _ (by omega)]
        rw [hb.1, hb.2] at h85
        have ht : fc_u mm a 1 (mm a 1 + 1) = sp_tick mi a b n m := by
          unfold sp_tick
          rw [hm, fc_ur_off (b := a) _ _ (by omega), fc_ur_off (b := a) _ _ (by omega)]
        rw [ht]
        refine And.intro (fc_S_0 hS) (Exists.intro _ (And.intro (c_riseSmoke hS hL hab) ?_))
        rintro _ _ _ _ ⟨rfl, rfl, rfl, rfl⟩
        refine And.intro (by first | exact Or.inl rfl | exact Or.inr rfl | exact fc_bb _ | assumption) ?_
        unfold sp_passQ
        first | (rw [if_neg h85]; exact ⟨rfl, rfl, rfl, rfl⟩) | (rw [if_pos h85]; exact ⟨rfl, rfl, rfl, rfl⟩)
      · have hb : fc_u mm a 1 (mm a 1 + 1) a 1 = mi a 1 + 1 ∧ fc_u mm a 1 (mm a 1 + 1) b 14 = mi b 14 := by
          refine ⟨?_, ?_⟩
          · rw [fc_u_at, hm, fc_ur_off _ _ (by omega), fc_ur_off _ _ (by omega)]
          · rw [fc_u_off _ _ _ (by omega), hm, fc_ur_off _ _ (by omega), fc_ur_off _ _ (by omega)]
        rw [hb.1, hb.2] at h85
        have ht : fc_u mm a 1 (mm a 1 + 1) = sp_tick mi a b n m := by
          unfold sp_tick
          rw [hm, fc_ur_off (b := a) _ _ (by omega), fc_ur_off (b := a) _ _ (by omega)]
        rw [ht]
        refine And.intro (by first | exact Or.inl rfl | exact Or.inr rfl | exact fc_bb _ | assumption) ?_
        unfold sp_passQ
        first | (rw [if_neg h85]; exact ⟨rfl, rfl, rfl, rfl⟩) | (rw [if_pos h85]; exact ⟨rfl, rfl, rfl, rfl⟩)
    · exact absurd (by rw [show i = 5 by omega]; decide) h40
  | succ j ih =>
    intro i c mm hi hc hm
    subst hc
    have hr : mm (a + 2) = sp_ac (mi (a + 2)) i := by rw [hm, fc_ur_row]
    refine fc_run oX7_pass (fun pc => pc == 38) 400 ?_
    refine And.intro (fun h40 => ?_) (fun h40 => ?_)
    · exact absurd h40 (nI_ge (b := 5) (by omega) (by omega))
    · refine And.intro (fc_S_0 hS) (Exists.intro _ (And.intro (fc_S_r3 hS) ?_))
      refine And.intro (fc_S_0 hS) (Exists.intro _ (And.intro (fc_S_r3 hS) ?_))
      refine Exists.intro _ (Exists.intro _ (And.intro (fc_S_2 hS) (And.intro (by first | assumption | exact fc_ix_nI (by omega) (by omega) | exact fc_ix_nI (by assumption) (by omega)) ?_)))
      refine Exists.intro _ (Exists.intro _ (And.intro (fc_S_2 hS) (And.intro (by first | assumption | exact fc_ix_nI (by omega) (by omega) | exact fc_ix_nI (by assumption) (by omega)) ?_)))
      exact ih (i + 1) _ _ (by omega) (fc_inc i) (by
              rw [hm, fc_u_ur]
              refine fc_rowE (fun j => ?_)
              rw [fc_ur_row]
              unfold sp_ac
              by_cases h1 : j = i
              · subst h1; simp
              · simp [h1, show (j < i + 1) ↔ (j < i) by omega])

theorem l_pass1 (hS : fc_S mr a) (hL : fc_L mr b) (hab : a + 8 ≤ b) (hN : fc_LN mi b n m t) (hw : ∀ p, p < n → ∃ j, j < m ∧ mi (a + 1) p = nI j) : ∀ (j i : Nat) (c : Int32) (mm : fc_Mi), i + j = m → c = nI i → mm = fc_ur mi (a + 3) (sp_nw n (mi (a + 1)) (mi (b + 7)) (mi (a + 3)) (mi a 1) i) → fc_T E mX7_pass (d + 2) (0, 0) fc_sh 2 [some (.ref a), some (.ref b), some (.int c)] [] mm ml mr (sp_passQ mi ml mr a b n m) := by
  intro j
  induction j with
  | zero =>
    intro i c mm hi hc hm
    subst hc
    have hNm : mm b 10 = nI m := by rw [hm, fc_ur_off _ _ (by omega)]; exact hN.2.2.1
    have hm7 := hN.2.2.2.1
    have h5 := hN.2.1
    have hN2 : mm b 12 = nI n := by rw [hm, fc_ur_off _ _ (by omega)]; exact hN.1
    refine fc_run oX7_pass (fun pc => pc == 2 || pc == 38) 400 ?_
    refine And.intro (fc_L_0 hL) ?_
    refine And.intro (fun h7 => ?_) (fun h7 => ?_)
    · exact l_pass2 hS hL hab hN hw 5 0 _ _ (by omega) rfl (by rw [hm, show i = m by omega]; symm; rw [show sp_ac (mi (a + 2)) 0 = (fc_ur mi (a + 3) (sp_nw n (mi (a + 1)) (mi (b + 7)) (mi (a + 3)) (mi a 1) m)) (a + 2) from by rw [fc_ur_off _ _ (by omega)]; funext p; simp [sp_ac]]; exact fc_ur_self _ _)
    · exact absurd (by rw [hNm]; exact nI_le (by omega) (by omega)) h7
  | succ j ih =>
    intro i c mm hi hc hm
    subst hc
    have hNm : mm b 10 = nI m := by rw [hm, fc_ur_off _ _ (by omega)]; exact hN.2.2.1
    have hm7 := hN.2.2.2.1
    have h5 := hN.2.1
    have hN2 : mm b 12 = nI n := by rw [hm, fc_ur_off _ _ (by omega)]; exact hN.1
    refine fc_run oX7_pass (fun pc => pc == 2 || pc == 38) 400 ?_
    refine And.intro (fc_L_0 hL) ?_
    refine And.intro (fun h7 => ?_) (fun h7 => ?_)
    · exact absurd h7 (by rw [hNm]; exact nI_ge (by omega) (by omega))
    · refine And.intro (fc_S_0 hS) (Exists.intro _ (And.intro (c_bitsAt hS hL _ hN2 h5) ?_))
      rintro _ _ _ _ ⟨rfl, rfl, rfl, rfl⟩
      refine And.intro (fc_S_0 hS) ?_
      refine And.intro (fc_L_0 hL) (Exists.intro _ (And.intro (c_awakeBits hL _ hN2 h5) ?_))
      rintro _ _ _ _ ⟨rfl, rfl, rfl, rfl⟩
      refine And.intro (fc_S_0 hS) (Exists.intro _ (And.intro (c_shareNews hS hL hab _ hN2 h5) ?_))
      rintro _ _ _ _ ⟨rfl, rfl, rfl, rfl⟩
      exact ih (i + 1) _ _ (by omega) (fc_inc i) (by
              rw [hm, fc_ur_row, fc_ur_ur, fc_ur_off (b := a + 1) _ _ (by omega), fc_ur_off (b := b + 7) _ _ (by omega), fc_ur_off (b := a) _ _ (by omega)]
              exact fc_rowE (fun p => sp_nw_step (m := m) h5 hm7 (by omega) hw p))

theorem c_pass (hS : fc_S mr a) (hL : fc_L mr b) (hab : a + 8 ≤ b) (hN : fc_LN mi b n m t) (hw : ∀ p, p < n → ∃ j, j < m ∧ mi (a + 1) p = nI j) : fc_R E mX7_pass (d + 2) fc_sh [.ref a, .ref b] mi ml mr (sp_passQ mi ml mr a b n m) := by
  refine fc_met rfl (Nat.le_of_ble_eq_true rfl) (fc_run oX7_pass (fun pc => pc == 2) 400 ?_)
  exact l_pass1 hS hL hab hN hw m 0 _ _ (by omega) rfl (by symm; rw [show sp_nw n (mi (a + 1)) (mi (b + 7)) (mi (a + 3)) (mi a 1) 0 = mi (a + 3) from by funext p; simp [sp_nw]]; exact fc_ur_self _ _)

end M17
