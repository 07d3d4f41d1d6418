/-! ===== FirstChimney: wide, worth, chance, count, would, when ===== -/
section M26
variable {E : fc_E} {d : Nat} {mi : fc_Mi} {ml : fc_Ml} {mr : fc_Mr} {b sc n m t : Nat}
/-- the widest pair: (pair, how far), first k, seconds from k + 1 on, j of them done -/
def sp_w1 (f : Nat → Nat → Int32) (k : Nat) (s : Int32 × Int32) : Nat → Int32 × Int32
  | 0 => s
  | i + 1 => if f k (k + 1 + i) ≤ (sp_w1 f k s i).2 then sp_w1 f k s i else if 1000 ≤ f k (k + 1 + i) then sp_w1 f k s i else (8 * nI k + nI (k + 1 + i), f k (k + 1 + i))
def sp_w2 (f : Nat → Nat → Int32) (m : Nat) : Nat → Int32 × Int32
  | 0 => (-1, 0)
  | i + 1 => sp_w1 f i (sp_w2 f m i) (m - (i + 1))
theorem l_wide1 (hH : fc_H mi mr b sc n m t) {k : Nat} (hk : k < m) (s0 : Int32 × Int32) {Q : fc_Q} (K : ∀ (be' le' c' : Int32) (x4 x5 : Option Value), be' = (sp_w1 (fun x z => mi (8 + x) z) k s0 (m - (k + 1))).1 → le' = (sp_w1 (fun x z => mi (8 + x) z) k s0 (m - (k + 1))).2 → c' = nI (k + 1) → fc_T E mX10_wide d (0, 0) fc_sh 6 [some (.ref 0), some (.int be'), some (.int le'), some (.int c'), x4, x5] [] mi ml mr Q) : ∀ (j i : Nat) (c be le : Int32) (x5 : Option Value), i + j = m - (k + 1) → c = nI (k + 1 + i) → be = (sp_w1 (fun x z => mi (8 + x) z) k s0 i).1 → le = (sp_w1 (fun x z => mi (8 + x) z) k s0 i).2 → fc_T E mX10_wide d (0, 0) fc_sh 22 [some (.ref 0), some (.int be), some (.int le), some (.int (nI k)), some (.int c), x5] [] mi ml mr Q := by
  obtain ⟨hW, hB, hL, hb, hN, hV, hC, hQ, hsc⟩ := id hH
  obtain ⟨hN1, hN2, hN3, hN4, hN5, hN6⟩ := id hN
  intro j
  induction j with
  | zero =>
    intro i c be le x5 hi hc h_be h_le
    subst hc
    refine fc_run oX10_wide (fun pc => pc == 22 || pc == 6) 400 ?_
    refine And.intro rfl (Exists.intro _ (And.intro hB ?_))
    refine And.intro (fc_L_0 hL) ?_
    refine And.intro (fun h31 => ?_) (fun h31 => ?_)
    · exact K _ _ _ _ _ (by rw [h_be, show i = m - (k + 1) by omega]) (by rw [h_le, show i = m - (k + 1) by omega]) (fc_inc k)
    · exact absurd (by rw [hN3]; exact nI_le (by omega) (by omega)) h31
  | succ j ih =>
    intro i c be le x5 hi hc h_be h_le
    subst hc
    refine fc_run oX10_wide (fun pc => pc == 22 || pc == 6) 400 ?_
    refine And.intro rfl (Exists.intro _ (And.intro hB ?_))
    refine And.intro (fc_L_0 hL) ?_
    refine And.intro (fun h31 => ?_) (fun h31 => ?_)
    · exact absurd h31 (by rw [hN3]; exact nI_ge (by omega) (by omega))
    · refine And.intro rfl (Exists.intro _ (And.intro (hW 0 2 6 rfl) ?_))
      refine And.intro rfl (Exists.intro _ (And.intro (hW 6 0 7 rfl) ?_))
      refine Exists.intro _ (Exists.intro _ (Exists.intro _ (Exists.intro _ (And.intro rfl (And.intro (by decide) (And.intro (fc_ix_nI (p := k) (by omega) (by omega)) (And.intro (fc_W7 hW (by omega)) ?_)))))))
      refine Exists.intro _ (Exists.intro _ (And.intro (fc_sh7 (by omega)) (And.intro (fc_ix_nI (p := k + 1 + i) (by omega) (by omega)) ?_)))
      refine And.intro (fun h51 => ?_) (fun h51 => ?_)
      · exact ih (i + 1) _ _ _ _ (by omega) (fc_inc (k + 1 + i)) (by rw [h_be]; rw [h_le] at h51; simp only [sp_w1, if_pos h51]) (by rw [h_le]; rw [h_le] at h51; simp only [sp_w1, if_pos h51])
      · refine And.intro (fun h59 => ?_) (fun h59 => ?_)
        · exact ih (i + 1) _ _ _ _ (by omega) (fc_inc (k + 1 + i)) (by rw [h_be]; rw [h_le] at h51; simp only [sp_w1, if_neg h51, if_pos h59]) (by rw [h_le]; rw [h_le] at h51; simp only [sp_w1, if_neg h51, if_pos h59])
        · exact ih (i + 1) _ _ _ _ (by omega) (fc_inc (k + 1 + i)) (by rw [h_le] at h51; simp only [sp_w1, if_neg h51, if_neg h59]) (by rw [h_le] at h51; simp only [sp_w1, if_neg h51, if_neg h59])

theorem l_wide2 (hH : fc_H mi mr b sc n m t) : ∀ (j i : Nat) (c : Int32) (be : Int32) (le : Int32) (x4 : Option Value) (x5 : Option Value), i + j = m → c = nI i → be = (sp_w2 (fun x z => mi (8 + x) z) m i).1 → le = (sp_w2 (fun x z => mi (8 + x) z) m i).2 → fc_T E mX10_wide d (0, 0) fc_sh 6 [some (.ref 0), some (.int be), some (.int le), some (.int c), x4, x5] [] mi ml mr (fc_is (some (.int (sp_w2 (fun x z => mi (8 + x) z) m m).1)) mi ml mr) := by
  obtain ⟨hW, hB, hL, hb, hN, hV, hC, hQ, hsc⟩ := id hH
  obtain ⟨hN1, hN2, hN3, hN4, hN5, hN6⟩ := id hN
  intro j
  induction j with
  | zero =>
    intro i c be le x4 x5 hi hc h_be h_le
    subst hc
    refine fc_run oX10_wide (fun pc => pc == 6 || pc == 22) 400 ?_
    refine And.intro rfl (Exists.intro _ (And.intro hB ?_))
    refine And.intro (fc_L_0 hL) ?_
    refine And.intro (fun h14 => ?_) (fun h14 => ?_)
    · exact ⟨by rw [h_be, show i = m by omega], rfl, rfl, rfl⟩
    · exact absurd (by rw [hN3]; exact nI_le (by omega) (by omega)) h14
  | succ j ih =>
    intro i c be le x4 x5 hi hc h_be h_le
    subst hc
    refine fc_run oX10_wide (fun pc => pc == 6 || pc == 22) 400 ?_
    refine And.intro rfl (Exists.intro _ (And.intro hB ?_))
    refine And.intro (fc_L_0 hL) ?_
    refine And.intro (fun h14 => ?_) (fun h14 => ?_)
    · exact absurd h14 (by rw [hN3]; exact nI_ge (by omega) (by omega))
    · exact l_wide1 hH (by omega) (sp_w2 (fun x z => mi (8 + x) z) m i) (fun be' le' c' x4 x5 h1 h2 h3 => ih (i + 1) _ _ _ _ _ (by omega) h3 (by rw [h1]; rfl) (by rw [h2]; rfl)) (m - (i + 1)) 0 _ _ _ _ (by omega) (nI_1 i) h_be h_le

theorem c_wide (hH : fc_H mi mr b sc n m t) : fc_R E mX10_wide d fc_sh [.ref 0] mi ml mr (fc_is (some (.int (sp_w2 (fun x z => mi (8 + x) z) m m).1)) mi ml mr) := by
  obtain ⟨hW, hB, hL, hb, hN, hV, hC, hQ, hsc⟩ := id hH
  obtain ⟨hN1, hN2, hN3, hN4, hN5, hN6⟩ := id hN
  refine fc_met rfl (Nat.le_of_ble_eq_true rfl) (fc_run oX10_wide (fun pc => pc == 6) 400 ?_)
  exact l_wide2 hH m 0 _ _ _ _ _ (by omega) rfl rfl rfl

def q_row (r : Int32) : Nat := if r = 0 then 23 else 24
def q_wo (mi : fc_Mi) (b t : Nat) (x r : Int32) : Int32 := sp_sw (fun k => sp_in (sp_set (fun q => decide (mi (q_row r) q = x)) t) (nI k)) (mi (b + 8)) t
theorem l_worth (hH : fc_H mi mr b sc n m t) (x r : Int32) : ∀ (j i : Nat) (c : Int32) (acc : Int32), i + j = t → c = nI i → acc = sp_sw (fun k => sp_in (sp_set (fun q => decide (mi (q_row r) q = x)) t) (nI k)) (mi (b + 8)) i → fc_T E mX10_worthOf (d + 1) (0, 0) fc_sh 33 [some (.ref 0), some (.int x), some (.int r), some (.int (sp_set (fun q => decide (mi (q_row r) q = x)) t)), some (.int acc), some (.int c)] [] mi ml mr (fc_is (some (.int (q_wo mi b t x r))) mi ml mr) := by
  obtain ⟨hW, hB, hL, hb, hN, hV, hC, hQ, hsc⟩ := id hH
  obtain ⟨hN1, hN2, hN3, hN4, hN5, hN6⟩ := id hN
  intro j
  induction j with
  | zero =>
    intro i c acc  hi hc h_acc
    subst hc
    refine fc_run oX10_worthOf (fun pc => pc == 33) 400 ?_
    refine And.intro rfl (Exists.intro _ (And.intro hB ?_))
    refine And.intro (fc_L_0 hL) ?_
    refine And.intro (fun h42 => ?_) (fun h42 => ?_)
    · exact ⟨by rw [h_acc, show i = t by omega]; rfl, rfl, rfl, rfl⟩
    · exact absurd (by rw [hN5]; exact nI_le (by omega) (by omega)) h42
  | succ j ih =>
    intro i c acc  hi hc h_acc
    subst hc
    refine fc_run oX10_worthOf (fun pc => pc == 33) 400 ?_
    refine And.intro rfl (Exists.intro _ (And.intro hB ?_))
    refine And.intro (fc_L_0 hL) ?_
    refine And.intro (fun h42 => ?_) (fun h42 => ?_)
    · exact absurd h42 (by rw [hN5]; exact nI_ge (by omega) (by omega))
    · refine Exists.intro _ (And.intro (c_isIn _ _) ?_)
      rintro _ _ _ _ ⟨rfl, rfl, rfl, rfl⟩
      refine And.intro (fun h51 => ?_) (fun h51 => ?_)
      · replace h51 := fc_b0.mp h51
        exact ih (i + 1) _ _ (by omega) (fc_inc i) (by rw [h_acc]; simp [sp_sw, h51])
      · replace h51 := fc_b1.mp h51
        refine And.intro rfl (Exists.intro _ (And.intro hB ?_))
        refine And.intro (fc_L_0 hL) (Exists.intro _ (And.intro (fc_L_r7 hL) ?_))
        refine Exists.intro _ (Exists.intro _ (And.intro (fc_L_8 hL) (And.intro (by first | assumption | exact fc_ix_nI (by omega) (by omega) | exact fc_ix_nI (by assumption) (by omega)) ?_)))
        exact ih (i + 1) _ _ (by omega) (fc_inc i) (by rw [h_acc]; simp [sp_sw, h51])

theorem c_worth (hH : fc_H mi mr b sc n m t) (x r : Int32) : fc_R E mX10_worthOf (d + 1) fc_sh [.ref 0, .int x, .int r] mi ml mr (fc_is (some (.int (q_wo mi b t x r))) mi ml mr) := by
  obtain ⟨hW, hB, hL, hb, hN, hV, hC, hQ, hsc⟩ := id hH
  obtain ⟨hN1, hN2, hN3, hN4, hN5, hN6⟩ := id hN
  refine fc_met rfl (Nat.le_of_ble_eq_true rfl) (fc_run oX10_worthOf (fun pc => pc == 33) 400 ?_)
  refine And.intro (fun h2 => ?_) (fun h2 => ?_)
  · refine And.intro rfl (Exists.intro _ (And.intro (hW 0 3 17 rfl) ?_))
    refine And.intro (fc_S_0 (fc_S_at17 hW)) (Exists.intro _ (And.intro (fc_S_r7 (fc_S_at17 hW)) ?_))
    refine And.intro rfl (Exists.intro _ (And.intro (c_thingsOf hH rfl _) ?_))
    rintro _ _ _ _ ⟨rfl, rfl, rfl, rfl⟩
    have hr : q_row r = 23 := by simp [q_row, h2]
    have := l_worth (E := E) (d := d) (ml := ml) hH x r t 0 _ _ (by omega) rfl rfl
    rw [hr] at this
    exact this
  · refine And.intro rfl (Exists.intro _ (And.intro (hW 0 3 17 rfl) ?_))
    refine And.intro (fc_S_0 (fc_S_at17 hW)) (Exists.intro _ (And.intro (fc_S_r8 (fc_S_at17 hW)) ?_))
    refine And.intro rfl (Exists.intro _ (And.intro (c_thingsOf hH rfl _) ?_))
    rintro _ _ _ _ ⟨rfl, rfl, rfl, rfl⟩
    have hr : q_row r = 24 := by simp [q_row, h2]
    have := l_worth (E := E) (d := d) (ml := ml) hH x r t 0 _ _ (by omega) rfl rfl
    rw [hr] at this
    exact this

theorem c_has (hH : fc_H mi mr b sc n m t) (x r : Int32) : fc_R E mX10_has (d + 2) fc_sh [.ref 0, .int x, .int r] mi ml mr (fc_is (some (.int (if sp_has (mi b 12) x then q_wo mi b t x r else -1))) mi ml mr) := by
  obtain ⟨hW, hB, hL, hb, hN, hV, hC, hQ, hsc⟩ := id hH
  obtain ⟨hN1, hN2, hN3, hN4, hN5, hN6⟩ := id hN
  refine fc_met rfl (Nat.le_of_ble_eq_true rfl) (fc_run oX10_has (fun _ => false) 400 ?_)
  refine And.intro rfl (Exists.intro _ (And.intro hB ?_))
  refine And.intro (fc_L_0 hL) (Exists.intro _ (And.intro (c_hasPerson hL _) ?_))
  rintro _ _ _ _ ⟨rfl, rfl, rfl, rfl⟩
  refine And.intro (fun h8 => ?_) (fun h8 => ?_)
  · replace h8 := fc_b0.mp h8
    exact ⟨by simp [h8], rfl, rfl, rfl⟩
  · replace h8 := fc_b1.mp h8
    refine And.intro rfl (Exists.intro _ (And.intro (c_worth hH _ _) ?_))
    rintro _ _ _ _ ⟨rfl, rfl, rfl, rfl⟩
    exact ⟨by simp [h8], rfl, rfl, rfl⟩

theorem l_rich (hH : fc_H mi mr b sc n m t) (r : Int32) : ∀ (j i : Nat) (c : Int32) (be : Int32) (mo : Int32) (x5 : Option Value), i + j = n → c = nI i → be = (sp_ax (fun p => q_wo mi b t (nI p) r) i).1 → mo = (sp_ax (fun p => q_wo mi b t (nI p) r) i).2 → fc_T E mX10_rich (d + 2) (0, 0) fc_sh 7 [some (.ref 0), some (.int r), some (.int be), some (.int mo), some (.int c), x5] [] mi ml mr (fc_is (some (.int (sp_ax (fun p => q_wo mi b t (nI p) r) n).1)) mi ml mr) := by
  obtain ⟨hW, hB, hL, hb, hN, hV, hC, hQ, hsc⟩ := id hH
  obtain ⟨hN1, hN2, hN3, hN4, hN5, hN6⟩ := id hN
  intro j
  induction j with
  | zero =>
    intro i c be mo x5 hi hc h_be h_mo
    subst hc
    refine fc_run oX10_rich (fun pc => pc == 7) 400 ?_
    refine And.intro rfl (Exists.intro _ (And.intro hB ?_))
    refine And.intro (fc_L_0 hL) ?_
    refine And.intro (fun h16 => ?_) (fun h16 => ?_)
    · exact ⟨by rw [h_be, show i = n by omega], rfl, rfl, rfl⟩
    · exact absurd (by rw [hN1]; exact nI_le (by omega) (by omega)) h16
  | succ j ih =>
    intro i c be mo x5 hi hc h_be h_mo
    subst hc
    refine fc_run oX10_rich (fun pc => pc == 7) 400 ?_
    refine And.intro rfl (Exists.intro _ (And.intro hB ?_))
    refine And.intro (fc_L_0 hL) ?_
    refine And.intro (fun h16 => ?_) (fun h16 => ?_)
    · exact absurd h16 (by rw [hN1]; exact nI_ge (by omega) (by omega))
    · refine And.intro rfl (Exists.intro _ (And.intro (c_worth hH _ _) ?_))
      rintro _ _ _ _ ⟨rfl, rfl, rfl, rfl⟩
      refine And.intro (fun h31 => ?_) (fun h31 => ?_)
      · exact ih (i + 1) _ _ _ _ (by omega) (fc_inc i) (by rw [h_be]; rw [h_mo] at h31; simp only [sp_ax, if_pos h31]) (by rw [h_mo]; rw [h_mo] at h31; simp only [sp_ax, if_pos h31])
      · exact ih (i + 1) _ _ _ _ (by omega) (fc_inc i) (by rw [h_mo] at h31; simp only [sp_ax, if_neg h31]) (by rw [h_mo] at h31; simp only [sp_ax, if_neg h31])

theorem c_rich (hH : fc_H mi mr b sc n m t) (r : Int32) : fc_R E mX10_rich (d + 2) fc_sh [.ref 0, .int r] mi ml mr (fc_is (some (.int (sp_ax (fun p => q_wo mi b t (nI p) r) n).1)) mi ml mr) := by
  obtain ⟨hW, hB, hL, hb, hN, hV, hC, hQ, hsc⟩ := id hH
  obtain ⟨hN1, hN2, hN3, hN4, hN5, hN6⟩ := id hN
  refine fc_met rfl (Nat.le_of_ble_eq_true rfl) (fc_run oX10_rich (fun pc => pc == 7) 400 ?_)
  exact l_rich hH r n 0 _ _ _ _ (by omega) rfl rfl rfl

def sp_ch (ah od : Int32) : Nat → Int32
  | 0 => 1
  | i + 1 => sp_ch ah od i * (if ah ≤ nI i then 10 else 10 - od)
def q_chance (mi : fc_Mi) (b : Nat) (x od : Int32) : Int32 := if sp_from 1 x 6 then (if sp_from 0 od 10 then sp_ch (if mi b 14 - mi 17 1 < x then mi b 14 - mi 17 1 else x) od 6 else -1) else -1
theorem l_chance (x od ah : Int32) : ∀ (j i : Nat) (c : Int32) (acc : Int32), i + j = 6 → c = nI i → acc = sp_ch ah od i → fc_T E mX10_chance (d + 1) (0, 0) fc_sh 48 [some (.ref 0), some (.int x), some (.int od), some (.int ah), some (.int acc), some (.int c)] [] mi ml mr (fc_is (some (.int (sp_ch ah od 6))) mi ml mr) := by
  intro j
  induction j with
  | zero =>
    intro i c acc  hi hc h_acc
    subst hc
    refine fc_run oX10_chance (fun pc => pc == 48) 400 ?_
    refine And.intro (fun h52 => ?_) (fun h52 => ?_)
    · exact ⟨by rw [h_acc, show i = 6 by omega], rfl, rfl, rfl⟩
    · exact absurd (by rw [show i = 6 by omega]; decide) h52
  | succ j ih =>
    intro i c acc  hi hc h_acc
    subst hc
    refine fc_run oX10_chance (fun pc => pc == 48) 400 ?_
    refine And.intro (fun h52 => ?_) (fun h52 => ?_)
    · exact absurd h52 (nI_ge (b := 6) (by omega) (by omega))
    · refine And.intro (fun h60 => ?_) (fun h60 => ?_)
      · exact ih (i + 1) _ _ (by omega) (fc_inc i) (by rw [h_acc]; simp [sp_ch, h60])
      · exact ih (i + 1) _ _ (by omega) (fc_inc i) (by rw [h_acc]; simp [sp_ch, h60])

theorem c_chance (hH : fc_H mi mr b sc n m t) (x od : Int32) : fc_R E mX10_chance (d + 1) fc_sh [.ref 0, .int x, .int od] mi ml mr (fc_is (some (.int (q_chance mi b x od))) mi ml mr) := by
  obtain ⟨hW, hB, hL, hb, hN, hV, hC, hQ, hsc⟩ := id hH
  obtain ⟨hN1, hN2, hN3, hN4, hN5, hN6⟩ := id hN
  refine fc_met rfl (Nat.le_of_ble_eq_true rfl) (fc_run oX10_chance (fun pc => pc == 48) 400 ?_)
  refine Exists.intro _ (And.intro (c_isFrom _ _ _) ?_)
  rintro _ _ _ _ ⟨rfl, rfl, rfl, rfl⟩
  refine And.intro (fun h7 => ?_) (fun h7 => ?_)
  · replace h7 := fc_b0.mp h7
    exact ⟨by simp [q_chance, h7], rfl, rfl, rfl⟩
  · replace h7 := fc_b1.mp h7
    refine Exists.intro _ (And.intro (c_isFrom _ _ _) ?_)
    rintro _ _ _ _ ⟨rfl, rfl, rfl, rfl⟩
    refine And.intro (fun h17 => ?_) (fun h17 => ?_)
    · replace h17 := fc_b0.mp h17
      exact ⟨by simp [q_chance, h7, h17], rfl, rfl, rfl⟩
    · replace h17 := fc_b1.mp h17
      refine And.intro rfl (Exists.intro _ (And.intro hB ?_))
      refine And.intro (fc_L_0 hL) ?_
      refine And.intro rfl (Exists.intro _ (And.intro (hW 0 3 17 rfl) ?_))
      refine And.intro (fc_S_0 (fc_S_at17 hW)) ?_
      unfold q_chance
      rw [if_pos h7, if_pos h17]
      exact l_chance x od _ 6 0 _ _ (by omega) rfl rfl

def sp_pr (f : Nat → Int32) : Int32 := sp_sum (fun p => sp_bc (f p)) 5 / 2
theorem l_pairs {r : Nat} (hr : fc_sh[r]? = some (20, 5)) : ∀ (j i : Nat) (c : Int32) (acc : Int32), i + j = 5 → c = nI i → acc = sp_sum (fun p => sp_bc (mi r p)) i → fc_T E mX10_pairsIn (d + 1) (0, 0) fc_sh 4 [some (.ref r), some (.int acc), some (.int c)] [] mi ml mr (fc_is (some (.int (sp_pr (mi r)))) mi ml mr) := by
  intro j
  induction j with
  | zero =>
    intro i c acc  hi hc h_acc
    subst hc
    refine fc_run oX10_pairsIn (fun pc => pc == 4) 400 ?_
    refine And.intro (fun h6 => ?_) (fun h6 => ?_)
    · refine And.intro (by decide) ?_
      exact ⟨by rw [h_acc, show i = 5 by omega]; rfl, rfl, rfl, rfl⟩
    · exact absurd (by rw [show i = 5 by omega]; decide) h6
  | succ j ih =>
    intro i c acc  hi hc h_acc
    subst hc
    refine fc_run oX10_pairsIn (fun pc => pc == 4) 400 ?_
    refine And.intro (fun h6 => ?_) (fun h6 => ?_)
    · exact absurd h6 (nI_ge (b := 5) (by omega) (by omega))
    · refine Exists.intro _ (Exists.intro _ (And.intro hr (And.intro (by first | assumption | exact fc_ix_nI (by omega) (by omega) | exact fc_ix_nI (by assumption) (by omega)) ?_)))
      refine Exists.intro _ (And.intro (c_bitCount _) ?_)
      rintro _ _ _ _ ⟨rfl, rfl, rfl, rfl⟩
      exact ih (i + 1) _ _ (by omega) (fc_inc i) (by rw [h_acc]; rfl)

theorem c_pairs {r : Nat} (hr : fc_sh[r]? = some (20, 5)) : fc_R E mX10_pairsIn (d + 1) fc_sh [.ref r] mi ml mr (fc_is (some (.int (sp_pr (mi r)))) mi ml mr) := by
  refine fc_met rfl (Nat.le_of_ble_eq_true rfl) (fc_run oX10_pairsIn (fun pc => pc == 4) 400 ?_)
  exact l_pairs hr 5 0 _ _ (by omega) rfl rfl

def q_count (mi : fc_Mi) (b sc n : Nat) (w : Int32) : Int32 := if w = 0 then mi b 10 else (if w = 1 then mi b 11 else (if w = 2 then mi b 12 else (if w = 3 then mi b 13 else (if w = 4 then mi b 14 else (if w = 5 then mi 17 0 else (if w = 6 then mi 17 1 else (if w = 7 then sp_set (sp_aw (mi (b + 7)) (mi 17 1)) n else (if w = 8 then sp_pr (mi 21) else (if w = 9 then sp_pr (mi 22) else (if w = 10 then mi sc 3 else (if w = 11 then mi 214 3 else (if w = 12 then mi 33 5 else (if w = 13 then mi 1 1 else (-1))))))))))))))
theorem c_count (hH : fc_H mi mr b sc n m t) (w : Int32) : fc_R E mX10_count (d + 2) fc_sh [.ref 0, .int w] mi ml mr (fc_is (some (.int (q_count mi b sc n w))) mi ml mr) := by
  obtain ⟨hW, hB, hL, hb, hN, hV, hC, hQ, hsc⟩ := id hH
  obtain ⟨hN1, hN2, hN3, hN4, hN5, hN6⟩ := id hN
  refine fc_met rfl (Nat.le_of_ble_eq_true rfl) (fc_run oX10_count (fun _ => false) 400 ?_)
  refine And.intro (fun h1 => ?_) (fun _ => And.intro (And.intro (fun h1 => ?_) (And.intro (fun h1 => ?_) (And.intro (fun h1 => ?_) (And.intro (fun h1 => ?_) (And.intro (fun h1 => ?_) (And.intro (fun h1 => ?_) (And.intro (fun h1 => ?_) (And.intro (fun h1 => ?_) (And.intro (fun h1 => ?_) (And.intro (fun h1 => ?_) (And.intro (fun h1 => ?_) (And.intro (fun h1 => ?_) (And.intro (fun h1 => ?_) (And.intro (fun h1 => ?_) trivial)))))))))))))) (by decide))
  · have n1_0 : ¬ w = 0 := by rintro rfl; revert h1; decide
    have n1_1 : ¬ w = 1 := by rintro rfl; revert h1; decide
    have n1_2 : ¬ w = 2 := by rintro rfl; revert h1; decide
    have n1_3 : ¬ w = 3 := by rintro rfl; revert h1; decide
    have n1_4 : ¬ w = 4 := by rintro rfl; revert h1; decide
    have n1_5 : ¬ w = 5 := by rintro rfl; revert h1; decide
    have n1_6 : ¬ w = 6 := by rintro rfl; revert h1; decide
    have n1_7 : ¬ w = 7 := by rintro rfl; revert h1; decide
    have n1_8 : ¬ w = 8 := by rintro rfl; revert h1; decide
    have n1_9 : ¬ w = 9 := by rintro rfl; revert h1; decide
    have n1_10 : ¬ w = 10 := by rintro rfl; revert h1; decide
    have n1_11 : ¬ w = 11 := by rintro rfl; revert h1; decide
    have n1_12 : ¬ w = 12 := by rintro rfl; revert h1; decide
    have n1_13 : ¬ w = 13 := by rintro rfl; revert h1; decide
    exact ⟨by simp [q_count, h1, n1_0, n1_1, n1_2, n1_3, n1_4, n1_5, n1_6, n1_7, n1_8, n1_9, n1_10, n1_11, n1_12, n1_13], rfl, rfl, rfl⟩
  · replace h1 := (fc_ofI 0 (by decide)).mp h1
    refine And.intro rfl (Exists.intro _ (And.intro hB ?_))
    refine And.intro (fc_L_0 hL) ?_
    exact ⟨by simp [q_count, h1], rfl, rfl, rfl⟩
  · replace h1 := (fc_ofI 1 (by decide)).mp h1
    refine And.intro rfl (Exists.intro _ (And.intro hB ?_))
    refine And.intro (fc_L_0 hL) ?_
    exact ⟨by simp [q_count, h1], rfl, rfl, rfl⟩
  · replace h1 := (fc_ofI 2 (by decide)).mp h1
    refine And.intro rfl (Exists.intro _ (And.intro hB ?_))
    refine And.intro (fc_L_0 hL) ?_
    exact ⟨by simp [q_count, h1], rfl, rfl, rfl⟩
  · replace h1 := (fc_ofI 3 (by decide)).mp h1
    refine And.intro rfl (Exists.intro _ (And.intro hB ?_))
    refine And.intro (fc_L_0 hL) ?_
    exact ⟨by simp [q_count, h1], rfl, rfl, rfl⟩
  · replace h1 := (fc_ofI 4 (by decide)).mp h1
    refine And.intro rfl (Exists.intro _ (And.intro hB ?_))
    refine And.intro (fc_L_0 hL) ?_
    exact ⟨by simp [q_count, h1], rfl, rfl, rfl⟩
  · replace h1 := (fc_ofI 5 (by decide)).mp h1
    refine And.intro rfl (Exists.intro _ (And.intro (hW 0 3 17 rfl) ?_))
    refine And.intro (fc_S_0 (fc_S_at17 hW)) ?_
    exact ⟨by simp [q_count, h1], rfl, rfl, rfl⟩
  · replace h1 := (fc_ofI 6 (by decide)).mp h1
    refine And.intro rfl (Exists.intro _ (And.intro (hW 0 3 17 rfl) ?_))
    refine And.intro (fc_S_0 (fc_S_at17 hW)) ?_
    exact ⟨by simp [q_count, h1], rfl, rfl, rfl⟩
  · replace h1 := (fc_ofI 7 (by decide)).mp h1
    refine And.intro rfl (Exists.intro _ (And.intro hB ?_))
    refine And.intro rfl (Exists.intro _ (And.intro (hW 0 3 17 rfl) ?_))
    refine And.intro (fc_S_0 (fc_S_at17 hW)) ?_
    refine And.intro (fc_L_0 hL) (Exists.intro _ (And.intro (c_awakeBits hL _ hN1 hN2) ?_))
    rintro _ _ _ _ ⟨rfl, rfl, rfl, rfl⟩
    exact ⟨by simp [q_count, h1], rfl, rfl, rfl⟩
  · replace h1 := (fc_ofI 8 (by decide)).mp h1
    refine And.intro rfl (Exists.intro _ (And.intro (hW 0 3 17 rfl) ?_))
    refine And.intro (fc_S_0 (fc_S_at17 hW)) (Exists.intro _ (And.intro (fc_S_r5 (fc_S_at17 hW)) ?_))
    refine Exists.intro _ (And.intro (c_pairs rfl) ?_)
    rintro _ _ _ _ ⟨rfl, rfl, rfl, rfl⟩
    exact ⟨by simp [q_count, h1], rfl, rfl, rfl⟩
  · replace h1 := (fc_ofI 9 (by decide)).mp h1
    refine And.intro rfl (Exists.intro _ (And.intro (hW 0 3 17 rfl) ?_))
    refine And.intro (fc_S_0 (fc_S_at17 hW)) (Exists.intro _ (And.intro (fc_S_r6 (fc_S_at17 hW)) ?_))
    refine Exists.intro _ (And.intro (c_pairs rfl) ?_)
    rintro _ _ _ _ ⟨rfl, rfl, rfl, rfl⟩
    exact ⟨by simp [q_count, h1], rfl, rfl, rfl⟩
  · replace h1 := (fc_ofI 10 (by decide)).mp h1
    refine And.intro rfl (Exists.intro _ (And.intro hC ?_))
    refine And.intro (fc_Q_0 hQ) ?_
    exact ⟨by simp [q_count, h1], rfl, rfl, rfl⟩
  · replace h1 := (fc_ofI 11 (by decide)).mp h1
    refine And.intro rfl (Exists.intro _ (And.intro (hW 0 6 214 rfl) ?_))
    refine And.intro rfl ?_
    exact ⟨by simp [q_count, h1], rfl, rfl, rfl⟩
  · replace h1 := (fc_ofI 12 (by decide)).mp h1
    refine And.intro rfl (Exists.intro _ (And.intro (hW 0 5 33 rfl) ?_))
    refine And.intro rfl ?_
    exact ⟨by simp [q_count, h1], rfl, rfl, rfl⟩
  · replace h1 := (fc_ofI 13 (by decide)).mp h1
    refine And.intro rfl (Exists.intro _ (And.intro (hW 0 0 1 rfl) ?_))
    refine And.intro rfl ?_
    exact ⟨by simp [q_count, h1], rfl, rfl, rfl⟩

def q_gift (mi : fc_Mi) (b : Nat) (x z : Int32) : Bool := sp_has (mi b 13) x && (sp_has (mi b 12) z && !decide (mi 23 x.toNatClampNeg = z))
theorem c_isGift (hH : fc_H mi mr b sc n m t) (x z : Int32) : fc_R E mX10_isGift (d + 1) fc_sh [.ref 0, .int x, .int z] mi ml mr (fc_is (some (.int (fc_b (q_gift mi b x z)))) mi ml mr) := by
  obtain ⟨hW, hB, hL, hb, hN, hV, hC, hQ, hsc⟩ := id hH
  obtain ⟨hN1, hN2, hN3, hN4, hN5, hN6⟩ := id hN
  refine fc_met rfl (Nat.le_of_ble_eq_true rfl) (fc_run oX10_isGift (fun _ => false) 400 ?_)
  refine And.intro rfl (Exists.intro _ (And.intro hB ?_))
  refine And.intro (fc_L_0 hL) (Exists.intro _ (And.intro (c_hasThing hL _) ?_))
  rintro _ _ _ _ ⟨rfl, rfl, rfl, rfl⟩
  refine And.intro (fun h8 => ?_) (fun h8 => ?_)
  · replace h8 := fc_b0.mp h8
    refine And.intro (by first | exact Or.inl rfl | exact Or.inr rfl | exact fc_bb _ | assumption) ?_
    exact ⟨by simp [q_gift, fc_b, h8], rfl, rfl, rfl⟩
  · replace h8 := fc_b1.mp h8
    rw [hN5] at h8
    obtain ⟨p, hp_p, rfl⟩ := sp_hasN (by omega) h8
    rw [← hN5] at h8
    have hc_p := fc_cl (k := 8) (show p < 8 by omega) (by omega)
    refine And.intro rfl (Exists.intro _ (And.intro hB ?_))
    refine And.intro (fc_L_0 hL) (Exists.intro _ (And.intro (c_hasPerson hL _) ?_))
    rintro _ _ _ _ ⟨rfl, rfl, rfl, rfl⟩
    refine And.intro (fun h19 => ?_) (fun h19 => ?_)
    · replace h19 := fc_b0.mp h19
      refine And.intro (by first | exact Or.inl rfl | exact Or.inr rfl | exact fc_bb _ | assumption) ?_
      exact ⟨by simp [q_gift, fc_b, h8, hc_p, h19], rfl, rfl, rfl⟩
    · replace h19 := fc_b1.mp h19
      rw [hN1] at h19
      obtain ⟨k, hp_k, rfl⟩ := sp_hasN (by omega) h19
      rw [← hN1] at h19
      have hc_k := fc_cl (k := 8) (show k < 8 by omega) (by omega)
      refine And.intro rfl (Exists.intro _ (And.intro (hW 0 3 17 rfl) ?_))
      refine And.intro (fc_S_0 (fc_S_at17 hW)) (Exists.intro _ (And.intro (fc_S_r7 (fc_S_at17 hW)) ?_))
      refine Exists.intro _ (Exists.intro _ (And.intro (fc_S_6 (fc_S_at17 hW)) (And.intro (by first | assumption | exact fc_ix_nI (by omega) (by omega) | exact fc_ix_nI (by assumption) (by omega)) ?_)))
      refine And.intro (fun h32 => ?_) (fun h32 => ?_)
      · refine And.intro (by first | exact Or.inl rfl | exact Or.inr rfl | exact fc_bb _ | assumption) ?_
        exact ⟨by simp [q_gift, fc_b, h8, hc_p, h19, hc_k, h32], rfl, rfl, rfl⟩
      · refine And.intro (by first | exact Or.inl rfl | exact Or.inr rfl | exact fc_bb _ | assumption) ?_
        exact ⟨by simp [q_gift, fc_b, h8, hc_p, h19, hc_k, h32], rfl, rfl, rfl⟩

end M26
