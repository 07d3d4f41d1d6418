/-! ===== FirstChimney: questions that change nothing, with loops ===== -/
def sp_mx (f : Nat → Int32) : Nat → Int32
  | 0 => 0
  | i + 1 => if sp_mx f i < f i then f i else sp_mx f i
def sp_mn (f : Nat → Int32) : Nat → Int32
  | 0 => 1000
  | i + 1 => if f i < sp_mn f i then f i else sp_mn f i
/-- the first least one and its place -/
def sp_ag (f : Nat → Int32) : Nat → Int32 × Int32
  | 0 => (-1, 1000)
  | i + 1 => if (sp_ag f i).2 ≤ f i then sp_ag f i else (nI i, f i)
def sp_ax (f : Nat → Int32) : Nat → Int32 × Int32
  | 0 => (-1, -1)
  | i + 1 => if f i ≤ (sp_ax f i).2 then sp_ax f i else (nI i, f i)
/-- all from i on, j of them -/
def sp_al (P : Nat → Bool) : Nat → Nat → Bool
  | 0, _ => true
  | j + 1, i => if P i then sp_al P j (i + 1) else false
def sp_sw (P : Nat → Bool) (f : Nat → Int32) : Nat → Int32
  | 0 => 0
  | n + 1 => if P n then sp_sw P f n + f n else sp_sw P f n
section M24
variable {E : fc_E} {d : Nat} {mi : fc_Mi} {ml : fc_Ml} {mr : fc_Mr} {b sc n m t : Nat}
theorem l_minutesOfAllTo (hH : fc_H mi mr b sc n m t) {k : Nat} (hk : k < 7) : ∀ (j i : Nat) (c : Int32) (acc : Int32), i + j = n → c = nI i → acc = sp_mx (fun p => q_mt mi b p k) i → fc_T E mX10_minutesOfAllTo (d + 3) (0, 0) fc_sh 4 [some (.ref 0), some (.int (nI k)), some (.int acc), some (.int c)] [] mi ml mr (fc_is (some (.int (sp_mx (fun p => q_mt mi b p k) n))) mi ml mr) := by
  obtain ⟨hW, hB, hL, hb, hN, hV, hC, hQ, hsc⟩ := id hH
  obtain ⟨hN1, hN2, hN3, hN4, hN5, hN6⟩ := id hN
  intro j
  induction j with
  | zero =>
    intro i c acc  hi hc h_acc
    subst hc
    refine fc_run oX10_minutesOfAllTo (fun pc => pc == 4) 400 ?_
    refine And.intro rfl (Exists.intro _ (And.intro hB ?_))
    refine And.intro (fc_L_0 hL) ?_
    refine And.intro (fun h12 => ?_) (fun h12 => ?_)
    · exact ⟨by rw [h_acc, show i = n by omega], rfl, rfl, rfl⟩
    · exact absurd (by rw [hN1]; exact nI_le (by omega) (by omega)) h12
  | succ j ih =>
    intro i c acc  hi hc h_acc
    subst hc
    refine fc_run oX10_minutesOfAllTo (fun pc => pc == 4) 400 ?_
    refine And.intro rfl (Exists.intro _ (And.intro hB ?_))
    refine And.intro (fc_L_0 hL) ?_
    refine And.intro (fun h12 => ?_) (fun h12 => ?_)
    · exact absurd h12 (by rw [hN1]; exact nI_ge (by omega) (by omega))
    · refine And.intro rfl (Exists.intro _ (And.intro (c_minutesTo hH (by omega) (by omega)) ?_))
      rintro _ _ _ _ ⟨rfl, rfl, rfl, rfl⟩
      exact ih (i + 1) _ _ (by omega) (fc_inc i) (by rw [h_acc]; rfl)

theorem c_minutesOfAllTo (hH : fc_H mi mr b sc n m t) {k : Nat} (hk : k < 7) : fc_R E mX10_minutesOfAllTo (d + 3) fc_sh [.ref 0, .int (nI k)] mi ml mr (fc_is (some (.int (sp_mx (fun p => q_mt mi b p k) n))) mi ml mr) := by
  obtain ⟨hW, hB, hL, hb, hN, hV, hC, hQ, hsc⟩ := id hH
  obtain ⟨hN1, hN2, hN3, hN4, hN5, hN6⟩ := id hN
  refine fc_met rfl (Nat.le_of_ble_eq_true rfl) (fc_run oX10_minutesOfAllTo (fun pc => pc == 4) 400 ?_)
  exact l_minutesOfAllTo hH hk  n 0 _ _ (by omega) rfl rfl

def q_mf (mi : fc_Mi) (b p o : Nat) : Nat → Int32 := fun k => if q_mt mi b p k < q_mt mi b o k then q_mt mi b o k else q_mt mi b p k
theorem l_meet (hH : fc_H mi mr b sc n m t) {p o : Nat} (hp : p < n) (ho : o < n) : ∀ (j i : Nat) (c : Int32) (acc : Int32), i + j = m → c = nI i → acc = sp_mn (q_mf mi b p o) i → fc_T E mX10_meet (d + 3) (0, 0) fc_sh 36 [some (.ref 0), some (.int (nI p)), some (.int (nI o)), some (.int acc), some (.int c)] [] mi ml mr (fc_is (some (.int (sp_non (sp_mn (q_mf mi b p o) m)))) mi ml mr) := by
  obtain ⟨hW, hB, hL, hb, hN, hV, hC, hQ, hsc⟩ := id hH
  obtain ⟨hN1, hN2, hN3, hN4, hN5, hN6⟩ := id hN
  intro j
  induction j with
  | zero =>
    intro i c acc  hi hc h_acc
    subst hc
    refine fc_run oX10_meet (fun pc => pc == 36) 400 ?_
    refine And.intro rfl (Exists.intro _ (And.intro hB ?_))
    refine And.intro (fc_L_0 hL) ?_
    refine And.intro (fun h45 => ?_) (fun h45 => ?_)
    · refine Exists.intro _ (And.intro (c_orNone _) ?_)
      rintro _ _ _ _ ⟨rfl, rfl, rfl, rfl⟩
      exact ⟨by rw [h_acc, show i = m by omega], rfl, rfl, rfl⟩
    · exact absurd (by rw [hN3]; exact nI_le (by omega) (by omega)) h45
  | succ j ih =>
    intro i c acc  hi hc h_acc
    subst hc
    refine fc_run oX10_meet (fun pc => pc == 36) 400 ?_
    refine And.intro rfl (Exists.intro _ (And.intro hB ?_))
    refine And.intro (fc_L_0 hL) ?_
    refine And.intro (fun h45 => ?_) (fun h45 => ?_)
    · exact absurd h45 (by rw [hN3]; exact nI_ge (by omega) (by omega))
    · refine And.intro rfl (Exists.intro _ (And.intro (c_minutesTo hH (by omega) (by omega)) ?_))
      rintro _ _ _ _ ⟨rfl, rfl, rfl, rfl⟩
      refine And.intro rfl (Exists.intro _ (And.intro (c_minutesTo hH (by omega) (by omega)) ?_))
      rintro _ _ _ _ ⟨rfl, rfl, rfl, rfl⟩
      exact ih (i + 1) _ _ (by omega) (fc_inc i) (by rw [h_acc]; rfl)

theorem c_meet (hH : fc_H mi mr b sc n m t) (x z : Int32) : fc_R E mX10_meet (d + 3) fc_sh [.ref 0, .int x, .int z] mi ml mr (fc_is (some (.int (if sp_has (mi b 12) x && (sp_has (mi b 12) z && !decide (x = z)) then sp_non (sp_mn (q_mf mi b x.toNatClampNeg z.toNatClampNeg) m) else -1))) mi ml mr) := by
  obtain ⟨hW, hB, hL, hb, hN, hV, hC, hQ, hsc⟩ := id hH
  obtain ⟨hN1, hN2, hN3, hN4, hN5, hN6⟩ := id hN
  refine fc_met rfl (Nat.le_of_ble_eq_true rfl) (fc_run oX10_meet (fun pc => pc == 36) 400 ?_)
  refine And.intro rfl (Exists.intro _ (And.intro hB ?_))
  refine And.intro (fc_L_0 hL) (Exists.intro _ (And.intro (c_hasPerson hL _) ?_))
  rintro _ _ _ _ ⟨rfl, rfl, rfl, rfl⟩
  refine And.intro (fun h8 => ?_) (fun h8 => ?_)
  · replace h8 := fc_b0.mp h8
    exact ⟨by simp [h8], rfl, rfl, rfl⟩
  · replace h8 := fc_b1.mp h8
    rw [hN1] at h8
    obtain ⟨p, hp_p, rfl⟩ := sp_hasN (by omega) h8
    rw [← hN1] at h8
    have hc_p := fc_cl (k := 8) (show p < 8 by omega) (by omega)
    refine And.intro rfl (Exists.intro _ (And.intro hB ?_))
    refine And.intro (fc_L_0 hL) (Exists.intro _ (And.intro (c_hasPerson hL _) ?_))
    rintro _ _ _ _ ⟨rfl, rfl, rfl, rfl⟩
    refine And.intro (fun h19 => ?_) (fun h19 => ?_)
    · replace h19 := fc_b0.mp h19
      exact ⟨by simp [h8, hc_p, h19], rfl, rfl, rfl⟩
    · replace h19 := fc_b1.mp h19
      rw [hN1] at h19
      obtain ⟨q, hp_q, rfl⟩ := sp_hasN (by omega) h19
      rw [← hN1] at h19
      have hc_q := fc_cl (k := 8) (show q < 8 by omega) (by omega)
      refine And.intro (fun h24 => ?_) (fun h24 => ?_)
      · exact ⟨by simp [h8, hc_p, h19, hc_q, h24], rfl, rfl, rfl⟩
      · rw [show (sp_has (mi b 12) (nI p) && (sp_has (mi b 12) (nI q) && !decide (nI p = nI q))) = true from by simp [h8, h19, h24], if_pos rfl, hc_p, hc_q]
        exact l_meet hH hp_p hp_q m 0 _ _ (by omega) rfl rfl

theorem l_all (hH : fc_H mi mr b sc n m t) (w : Int32) (hw0 : ¬ w < 0) (hw1 : w ≤ 1) : ∀ (j i : Nat) (c : Int32) (wh : Int32) (le : Int32) (x5 : Option Value), i + j = m → c = nI i → wh = (sp_ag (fun k => sp_mx (fun p => q_mt mi b p k) n) i).1 → le = (sp_ag (fun k => sp_mx (fun p => q_mt mi b p k) n) i).2 → fc_T E mX10_all (d + 4) (0, 0) fc_sh 30 [some (.ref 0), some (.int w), some (.int wh), some (.int le), some (.int c), x5] [] mi ml mr (fc_is (some (.int (if w = 0 then (sp_ag (fun k => sp_mx (fun p => q_mt mi b p k) n) m).1 else sp_non (sp_ag (fun k => sp_mx (fun p => q_mt mi b p k) n) m).2))) mi ml mr) := by
  obtain ⟨hW, hB, hL, hb, hN, hV, hC, hQ, hsc⟩ := id hH
  obtain ⟨hN1, hN2, hN3, hN4, hN5, hN6⟩ := id hN
  intro j
  induction j with
  | zero =>
    intro i c wh le x5 hi hc h_wh h_le
    subst hc
    refine fc_run oX10_all (fun pc => pc == 30) 400 ?_
    refine And.intro rfl (Exists.intro _ (And.intro hB ?_))
    refine And.intro (fc_L_0 hL) ?_
    refine And.intro (fun h39 => ?_) (fun h39 => ?_)
    · refine And.intro (fun h69 => ?_) (fun h69 => ?_)
      · exact ⟨by simp [h69, h_wh, h_le, show i = m by omega], rfl, rfl, rfl⟩
      · refine Exists.intro _ (And.intro (c_orNone _) ?_)
        rintro _ _ _ _ ⟨rfl, rfl, rfl, rfl⟩
        exact ⟨by simp [h69, h_wh, h_le, show i = m by omega], rfl, rfl, rfl⟩
    · exact absurd (by rw [hN3]; exact nI_le (by omega) (by omega)) h39
  | succ j ih =>
    intro i c wh le x5 hi hc h_wh h_le
    subst hc
    refine fc_run oX10_all (fun pc => pc == 30) 400 ?_
    refine And.intro rfl (Exists.intro _ (And.intro hB ?_))
    refine And.intro (fc_L_0 hL) ?_
    refine And.intro (fun h39 => ?_) (fun h39 => ?_)
    · exact absurd h39 (by rw [hN3]; exact nI_ge (by omega) (by omega))
    · refine And.intro rfl (Exists.intro _ (And.intro (c_minutesOfAllTo hH (by omega)) ?_))
      rintro _ _ _ _ ⟨rfl, rfl, rfl, rfl⟩
      refine And.intro (fun h53 => ?_) (fun h53 => ?_)
      · exact ih (i + 1) _ _ _ _ (by omega) (fc_inc i) (by rw [h_wh]; rw [h_le] at h53; simp only [sp_ag, if_pos h53]) (by rw [h_le]; rw [h_le] at h53; simp only [sp_ag, if_pos h53])
      · exact ih (i + 1) _ _ _ _ (by omega) (fc_inc i) (by rw [h_le] at h53; simp only [sp_ag, if_neg h53]) (by rw [h_le] at h53; simp only [sp_ag, if_neg h53])

theorem c_all (hH : fc_H mi mr b sc n m t) (w : Int32) : fc_R E mX10_all (d + 4) fc_sh [.ref 0, .int w] mi ml mr (fc_is (some (.int (if mi b 12 = 0 then -1 else if w < 0 then -1 else if w ≤ 1 then (if w = 0 then (sp_ag (fun k => sp_mx (fun p => q_mt mi b p k) n) m).1 else sp_non (sp_ag (fun k => sp_mx (fun p => q_mt mi b p k) n) m).2) else -1))) mi ml mr) := by
  obtain ⟨hW, hB, hL, hb, hN, hV, hC, hQ, hsc⟩ := id hH
  obtain ⟨hN1, hN2, hN3, hN4, hN5, hN6⟩ := id hN
  refine fc_met rfl (Nat.le_of_ble_eq_true rfl) (fc_run oX10_all (fun pc => pc == 30) 400 ?_)
  refine And.intro rfl (Exists.intro _ (And.intro hB ?_))
  refine And.intro (fc_L_0 hL) ?_
  refine And.intro (fun h7 => ?_) (fun h7 => ?_)
  · exact ⟨by simp [h7], rfl, rfl, rfl⟩
  · refine And.intro (fun h11 => ?_) (fun h11 => ?_)
    · exact ⟨by simp [h7, h11], rfl, rfl, rfl⟩
    · refine And.intro (fun h16 => ?_) (fun h16 => ?_)
      · rw [if_neg h7, if_neg h11, if_pos h16]
        exact l_all hH w h11 h16 m 0 _ _ _ _ (by omega) rfl rfl rfl
      · exact ⟨by simp [h7, h11, h16], rfl, rfl, rfl⟩

theorem l_hub (hH : fc_H mi mr b sc n m t) : ∀ (j i : Nat) (c : Int32) (wh : Int32) (le : Int32) (x4 : Option Value), i + j = m → c = nI i → wh = (sp_ag (fun k => sp_fr (mi (8 + k)) m) i).1 → le = (sp_ag (fun k => sp_fr (mi (8 + k)) m) i).2 → fc_T E mX10_hub (d + 1) (0, 0) fc_sh 8 [some (.ref 0), some (.int wh), some (.int le), some (.int c), x4] [] mi ml mr (fc_is (some (.int (sp_ag (fun k => sp_fr (mi (8 + k)) m) m).1)) mi ml mr) := by
  obtain ⟨hW, hB, hL, hb, hN, hV, hC, hQ, hsc⟩ := id hH
  obtain ⟨hN1, hN2, hN3, hN4, hN5, hN6⟩ := id hN
  intro j
  induction j with
  | zero =>
    intro i c wh le x4 hi hc h_wh h_le
    subst hc
    refine fc_run oX10_hub (fun pc => pc == 8) 400 ?_
    refine And.intro rfl (Exists.intro _ (And.intro hB ?_))
    refine And.intro (fc_L_0 hL) ?_
    refine And.intro (fun h16 => ?_) (fun h16 => ?_)
    · exact ⟨by rw [h_wh, show i = m by omega], rfl, rfl, rfl⟩
    · exact absurd (by rw [hN3]; exact nI_le (by omega) (by omega)) h16
  | succ j ih =>
    intro i c wh le x4 hi hc h_wh h_le
    subst hc
    refine fc_run oX10_hub (fun pc => pc == 8) 400 ?_
    refine And.intro rfl (Exists.intro _ (And.intro hB ?_))
    refine And.intro (fc_L_0 hL) ?_
    refine And.intro (fun h16 => ?_) (fun h16 => ?_)
    · exact absurd h16 (by rw [hN3]; exact nI_ge (by omega) (by omega))
    · refine And.intro rfl (Exists.intro _ (And.intro (hW 0 2 6 rfl) ?_))
      refine And.intro rfl (Exists.intro _ (And.intro hB ?_))
      refine And.intro rfl (Exists.intro _ (And.intro (c_farthest hW hL (by omega) hN3 hN4) ?_))
      rintro _ _ _ _ ⟨rfl, rfl, rfl, rfl⟩
      refine And.intro (fun h36 => ?_) (fun h36 => ?_)
      · exact ih (i + 1) _ _ _ _ (by omega) (fc_inc i) (by rw [h_wh]; rw [h_le] at h36; simp only [sp_ag, if_pos h36]) (by rw [h_le]; rw [h_le] at h36; simp only [sp_ag, if_pos h36])
      · exact ih (i + 1) _ _ _ _ (by omega) (fc_inc i) (by rw [h_le] at h36; simp only [sp_ag, if_neg h36]) (by rw [h_le] at h36; simp only [sp_ag, if_neg h36])

theorem c_hub (hH : fc_H mi mr b sc n m t) : fc_R E mX10_hub (d + 1) fc_sh [.ref 0] mi ml mr (fc_is (some (.int (sp_ag (fun k => sp_fr (mi (8 + k)) m) m).1)) mi ml mr) := by
  obtain ⟨hW, hB, hL, hb, hN, hV, hC, hQ, hsc⟩ := id hH
  obtain ⟨hN1, hN2, hN3, hN4, hN5, hN6⟩ := id hN
  refine fc_met rfl (Nat.le_of_ble_eq_true rfl) (fc_run oX10_hub (fun pc => pc == 8) 400 ?_)
  exact l_hub hH m 0 _ _ _ _ (by omega) rfl rfl rfl

theorem l_cuts (hH : fc_H mi mr b sc n m t) : ∀ (j i : Nat) (c : Int32) (acc : Int32), i + j = m → c = nI i → acc = sp_set (fun k => sp_cut (mi (b + 4)) m k m 0) i → fc_T E mX10_cuts (d + 4) (0, 0) fc_sh 4 [some (.ref 0), some (.int acc), some (.int c)] [] mi ml mr (fc_is (some (.int (sp_set (fun k => sp_cut (mi (b + 4)) m k m 0) m))) mi ml mr) := by
  obtain ⟨hW, hB, hL, hb, hN, hV, hC, hQ, hsc⟩ := id hH
  obtain ⟨hN1, hN2, hN3, hN4, hN5, hN6⟩ := id hN
  intro j
  induction j with
  | zero =>
    intro i c acc  hi hc h_acc
    subst hc
    refine fc_run oX10_cuts (fun pc => pc == 4) 400 ?_
    refine And.intro rfl (Exists.intro _ (And.intro hB ?_))
    refine And.intro (fc_L_0 hL) ?_
    refine And.intro (fun h12 => ?_) (fun h12 => ?_)
    · exact ⟨by rw [h_acc, show i = m by omega], rfl, rfl, rfl⟩
    · exact absurd (by rw [hN3]; exact nI_le (by omega) (by omega)) h12
  | succ j ih =>
    intro i c acc  hi hc h_acc
    subst hc
    refine fc_run oX10_cuts (fun pc => pc == 4) 400 ?_
    refine And.intro rfl (Exists.intro _ (And.intro hB ?_))
    refine And.intro (fc_L_0 hL) ?_
    refine And.intro (fun h12 => ?_) (fun h12 => ?_)
    · exact absurd h12 (by rw [hN3]; exact nI_ge (by omega) (by omega))
    · refine And.intro rfl (Exists.intro _ (And.intro (hW 0 2 6 rfl) ?_))
      refine And.intro rfl (Exists.intro _ (And.intro hB ?_))
      refine And.intro rfl (Exists.intro _ (And.intro (c_isCut hL _ hN3 hN4) ?_))
      rintro _ _ _ _ ⟨rfl, rfl, rfl, rfl⟩
      refine And.intro (fun h27 => ?_) (fun h27 => ?_)
      · replace h27 := fc_b0.mp h27
        exact ih (i + 1) _ _ (by omega) (fc_inc i) (by first | (rw [h_acc]; exact sp_set_t (P := fun k => sp_cut (mi (b + 4)) m k m 0) h27) | (rw [h_acc]; exact sp_set_f (P := fun k => sp_cut (mi (b + 4)) m k m 0) h27))
      · replace h27 := fc_b1.mp h27
        exact ih (i + 1) _ _ (by omega) (fc_inc i) (by first | (rw [h_acc]; exact sp_set_t (P := fun k => sp_cut (mi (b + 4)) m k m 0) h27) | (rw [h_acc]; exact sp_set_f (P := fun k => sp_cut (mi (b + 4)) m k m 0) h27))

theorem c_cuts (hH : fc_H mi mr b sc n m t) : fc_R E mX10_cuts (d + 4) fc_sh [.ref 0] mi ml mr (fc_is (some (.int (sp_set (fun k => sp_cut (mi (b + 4)) m k m 0) m))) mi ml mr) := by
  obtain ⟨hW, hB, hL, hb, hN, hV, hC, hQ, hsc⟩ := id hH
  obtain ⟨hN1, hN2, hN3, hN4, hN5, hN6⟩ := id hN
  refine fc_met rfl (Nat.le_of_ble_eq_true rfl) (fc_run oX10_cuts (fun pc => pc == 4) 400 ?_)
  exact l_cuts hH m 0 _ _ (by omega) rfl rfl

theorem l_could (hH : fc_H mi mr b sc n m t) (x : Int32) : ∀ (j i : Nat) (c : Int32) (acc : Int32), i + j = n → c = nI i → acc = sp_set (fun k => sp_cg (mi b 13) (mi b 12) (mi 23) (mi (b + 7)) (mi 19) (mi 18) (mi 17 1) x (nI k)) i → fc_T E mX10_could (d + 3) (0, 0) fc_sh 17 [some (.ref 0), some (.int x), some (.int acc), some (.int c)] [] mi ml mr (fc_is (some (.int (sp_set (fun k => sp_cg (mi b 13) (mi b 12) (mi 23) (mi (b + 7)) (mi 19) (mi 18) (mi 17 1) x (nI k)) n))) mi ml mr) := by
  obtain ⟨hW, hB, hL, hb, hN, hV, hC, hQ, hsc⟩ := id hH
  obtain ⟨hN1, hN2, hN3, hN4, hN5, hN6⟩ := id hN
  intro j
  induction j with
  | zero =>
    intro i c acc  hi hc h_acc
    subst hc
    refine fc_run oX10_could (fun pc => pc == 17) 400 ?_
    refine And.intro rfl (Exists.intro _ (And.intro hB ?_))
    refine And.intro (fc_L_0 hL) ?_
    refine And.intro (fun h25 => ?_) (fun h25 => ?_)
    · exact ⟨by rw [h_acc, show i = n by omega], rfl, rfl, rfl⟩
    · exact absurd (by rw [hN1]; exact nI_le (by omega) (by omega)) h25
  | succ j ih =>
    intro i c acc  hi hc h_acc
    subst hc
    refine fc_run oX10_could (fun pc => pc == 17) 400 ?_
    refine And.intro rfl (Exists.intro _ (And.intro hB ?_))
    refine And.intro (fc_L_0 hL) ?_
    refine And.intro (fun h25 => ?_) (fun h25 => ?_)
    · exact absurd h25 (by rw [hN1]; exact nI_ge (by omega) (by omega))
    · refine And.intro rfl (Exists.intro _ (And.intro (hW 0 3 17 rfl) ?_))
      refine And.intro rfl (Exists.intro _ (And.intro hB ?_))
      refine And.intro (fc_S_0 (fc_S_at17 hW)) (Exists.intro _ (And.intro (c_canGive (fc_S_at17 hW) hL hN hV _ _) ?_))
      rintro _ _ _ _ ⟨rfl, rfl, rfl, rfl⟩
      refine And.intro (fun h41 => ?_) (fun h41 => ?_)
      · replace h41 := fc_b0.mp h41
        exact ih (i + 1) _ _ (by omega) (fc_inc i) (by first | (rw [h_acc]; exact sp_set_t (P := fun k => sp_cg (mi b 13) (mi b 12) (mi 23) (mi (b + 7)) (mi 19) (mi 18) (mi 17 1) x (nI k)) h41) | (rw [h_acc]; exact sp_set_f (P := fun k => sp_cg (mi b 13) (mi b 12) (mi 23) (mi (b + 7)) (mi 19) (mi 18) (mi 17 1) x (nI k)) h41))
      · replace h41 := fc_b1.mp h41
        exact ih (i + 1) _ _ (by omega) (fc_inc i) (by first | (rw [h_acc]; exact sp_set_t (P := fun k => sp_cg (mi b 13) (mi b 12) (mi 23) (mi (b + 7)) (mi 19) (mi 18) (mi 17 1) x (nI k)) h41) | (rw [h_acc]; exact sp_set_f (P := fun k => sp_cg (mi b 13) (mi b 12) (mi 23) (mi (b + 7)) (mi 19) (mi 18) (mi 17 1) x (nI k)) h41))

theorem c_could (hH : fc_H mi mr b sc n m t) (x : Int32) : fc_R E mX10_could (d + 3) fc_sh [.ref 0, .int x] mi ml mr (fc_is (some (.int (if sp_has (mi b 13) x then sp_set (fun k => sp_cg (mi b 13) (mi b 12) (mi 23) (mi (b + 7)) (mi 19) (mi 18) (mi 17 1) x (nI k)) n else -1))) mi ml mr) := by
  obtain ⟨hW, hB, hL, hb, hN, hV, hC, hQ, hsc⟩ := id hH
  obtain ⟨hN1, hN2, hN3, hN4, hN5, hN6⟩ := id hN
  refine fc_met rfl (Nat.le_of_ble_eq_true rfl) (fc_run oX10_could (fun pc => pc == 17) 400 ?_)
  refine And.intro rfl (Exists.intro _ (And.intro hB ?_))
  refine And.intro (fc_L_0 hL) (Exists.intro _ (And.intro (c_hasThing hL _) ?_))
  rintro _ _ _ _ ⟨rfl, rfl, rfl, rfl⟩
  refine And.intro (fun h8 => ?_) (fun h8 => ?_)
  · replace h8 := fc_b0.mp h8
    exact ⟨by simp [h8], rfl, rfl, rfl⟩
  · replace h8 := fc_b1.mp h8
    rw [if_pos h8]
    exact l_could hH x n 0 _ _ (by omega) rfl rfl

end M24
