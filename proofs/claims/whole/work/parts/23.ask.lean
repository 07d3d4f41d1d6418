/-! ===== FirstChimney: questions that change nothing ===== -/
/-- a Script at sc, its rows behind it -/
def fc_Qs (mr : fc_Mr) (sc : Nat) : Prop := fc_sh[sc]? = some (5, 0) ∧ fc_sh[sc + 1]? = some (20, 40) ∧ fc_sh[sc + 2]? = some (20, 40) ∧ fc_sh[sc + 3]? = some (20, 40) ∧ mr sc 0 = some (sc + 1) ∧ mr sc 1 = some (sc + 2) ∧ mr sc 2 = some (sc + 3)
theorem fc_Q_0 {mr : fc_Mr} {sc : Nat} (h : fc_Qs mr sc) : fc_sh[sc]? = some (5, 0) := h.1
theorem fc_Q_1 {mr : fc_Mr} {sc : Nat} (h : fc_Qs mr sc) : fc_sh[sc + 1]? = some (20, 40) := h.2.1
theorem fc_Q_2 {mr : fc_Mr} {sc : Nat} (h : fc_Qs mr sc) : fc_sh[sc + 2]? = some (20, 40) := h.2.2.1
theorem fc_Q_3 {mr : fc_Mr} {sc : Nat} (h : fc_Qs mr sc) : fc_sh[sc + 3]? = some (20, 40) := h.2.2.2.1
theorem fc_Q_r0 {mr : fc_Mr} {sc : Nat} (h : fc_Qs mr sc) : mr sc 0 = some (sc + 1) := h.2.2.2.2.1
theorem fc_Q_r1 {mr : fc_Mr} {sc : Nat} (h : fc_Qs mr sc) : mr sc 1 = some (sc + 2) := h.2.2.2.2.2.1
theorem fc_Q_r2 {mr : fc_Mr} {sc : Nat} (h : fc_Qs mr sc) : mr sc 2 = some (sc + 3) := h.2.2.2.2.2.2
/-- the land in use is at b, the morning at sc; all is as it must be -/
def fc_H (mi : fc_Mi) (mr : fc_Mr) (b sc n m t : Nat) : Prop := fc_Wd mr ∧ mr 0 7 = some b ∧ fc_L mr b ∧ 218 ≤ b ∧ fc_LN mi b n m t ∧ fc_SV mi 17 n m t ∧ mr 0 9 = some sc ∧ fc_Qs mr sc ∧ 244 ≤ sc
section M23
variable {E : fc_E} {d : Nat} {mi : fc_Mi} {ml : fc_Ml} {mr : fc_Mr} {b sc n m t : Nat}
def q_place (mi : fc_Mi) (b n : Nat) (x w : Int32) : Int32 := if sp_has (mi b 10) x then (if w = 0 then mi (b + 4) x.toNatClampNeg else if w = 1 then sp_set (fun p => decide (mi 18 p = x)) n else if w = 2 then sp_set (fun p => decide (mi 18 p = x)) n &&& sp_set (sp_aw (mi (b + 7)) (mi 17 1)) n else -1) else -1
theorem c_place (hH : fc_H mi mr b sc n m t) (x w : Int32) : fc_R E mX10_place (d + 2) fc_sh [.ref 0, .int x, .int w] mi ml mr (fc_is (some (.int (q_place mi b n x w))) mi ml mr) := by
  obtain ⟨hW, hB, hL, hb, hN, hV, hC, hQ, hsc⟩ := id hH
  obtain ⟨hN1, hN2, hN3, hN4, hN5, hN6⟩ := id hN
  refine fc_met rfl (Nat.le_of_ble_eq_true rfl) (fc_run oX10_place (fun _ => false) 400 ?_)
  refine And.intro rfl (Exists.intro _ (And.intro hB ?_))
  refine And.intro (fc_L_0 hL) (Exists.intro _ (And.intro (c_hasPlace hL _) ?_))
  rintro _ _ _ _ ⟨rfl, rfl, rfl, rfl⟩
  refine And.intro (fun h8 => ?_) (fun h8 => ?_)
  · replace h8 := fc_b0.mp h8
    exact ⟨by simp [q_place, h8], rfl, rfl, rfl⟩
  · replace h8 := fc_b1.mp h8
    rw [hN3] at h8
    obtain ⟨p, hp_p, rfl⟩ := sp_hasN (by omega) h8
    rw [← hN3] at h8
    have hc_p := fc_cl (k := 8) (show p < 8 by omega) (by omega)
    refine And.intro (fun h14 => ?_) (fun _ => And.intro (And.intro (fun h14 => ?_) (And.intro (fun h14 => ?_) (And.intro (fun h14 => ?_) trivial))) (by decide))
    · have n14_0 : ¬ w = 0 := by rintro rfl; revert h14; decide
      have n14_1 : ¬ w = 1 := by rintro rfl; revert h14; decide
      have n14_2 : ¬ w = 2 := by rintro rfl; revert h14; decide
      exact ⟨by simp [q_place, h8, hc_p, h14, n14_0, n14_1, n14_2], rfl, rfl, rfl⟩
    · replace h14 := (fc_ofI 0 (by decide)).mp h14
      refine And.intro rfl (Exists.intro _ (And.intro hB ?_))
      refine And.intro (fc_L_0 hL) (Exists.intro _ (And.intro (fc_L_r3 hL) ?_))
      refine Exists.intro _ (Exists.intro _ (And.intro (fc_L_4 hL) (And.intro (by first | assumption | exact fc_ix_nI (by omega) (by omega) | exact fc_ix_nI (by assumption) (by omega)) ?_)))
      exact ⟨by simp [q_place, h8, hc_p, h14], rfl, rfl, rfl⟩
    · replace h14 := (fc_ofI 1 (by decide)).mp h14
      refine And.intro rfl (Exists.intro _ (And.intro (hW 0 3 17 rfl) ?_))
      refine And.intro rfl (Exists.intro _ (And.intro hB ?_))
      refine And.intro (fc_S_0 (fc_S_at17 hW)) (Exists.intro _ (And.intro (c_bitsAt (fc_S_at17 hW) hL _ hN1 hN2) ?_))
      rintro _ _ _ _ ⟨rfl, rfl, rfl, rfl⟩
      exact ⟨by simp [q_place, h8, hc_p, h14], rfl, rfl, rfl⟩
    · replace h14 := (fc_ofI 2 (by decide)).mp h14
      refine And.intro rfl (Exists.intro _ (And.intro (hW 0 3 17 rfl) ?_))
      refine And.intro rfl (Exists.intro _ (And.intro hB ?_))
      refine And.intro (fc_S_0 (fc_S_at17 hW)) (Exists.intro _ (And.intro (c_bitsAt (fc_S_at17 hW) hL _ hN1 hN2) ?_))
      rintro _ _ _ _ ⟨rfl, rfl, rfl, rfl⟩
      refine And.intro rfl (Exists.intro _ (And.intro hB ?_))
      refine And.intro rfl (Exists.intro _ (And.intro (hW 0 3 17 rfl) ?_))
      refine And.intro (fc_S_0 (fc_S_at17 hW)) ?_
      refine And.intro (fc_L_0 hL) (Exists.intro _ (And.intro (c_awakeBits hL _ hN1 hN2) ?_))
      rintro _ _ _ _ ⟨rfl, rfl, rfl, rfl⟩
      exact ⟨by simp [q_place, h8, hc_p, h14], rfl, rfl, rfl⟩

def q_person (mi : fc_Mi) (b t : Nat) (x w : Int32) : Int32 := if sp_has (mi b 12) x then (if w = 0 then mi (b + 5) x.toNatClampNeg else if w = 1 then mi (b + 6) x.toNatClampNeg else if w = 2 then mi 18 x.toNatClampNeg else if w = 3 then fc_b (sp_aw (mi (b + 7)) (mi 17 1) x.toNatClampNeg) else if w = 4 then fc_b (sp_rd (mi (b + 7)) (mi 19) (mi 17 1) x.toNatClampNeg) else if w = 5 then sp_set (fun q => decide (mi 23 q = x)) t else -1) else -1
theorem l_thingsOf (hH : fc_H mi mr b sc n m t) {r : Nat} (hr : fc_sh[r]? = some (20, 6)) (x : Int32) : ∀ (j i : Nat) (c acc : Int32), i + j = t → c = nI i → acc = sp_set (fun q => decide (mi r q = x)) i → fc_T E mX10_thingsOf d (0, 0) fc_sh 5 [some (.ref 0), some (.ref r), some (.int x), some (.int acc), some (.int c)] [] mi ml mr (fc_is (some (.int (sp_set (fun q => decide (mi r q = x)) t))) mi ml mr) := by
  obtain ⟨hW, hB, hL, hb, hN, hV, hC, hQ, hsc⟩ := id hH
  obtain ⟨hN1, hN2, hN3, hN4, hN5, hN6⟩ := id hN
  intro j
  induction j with
  | zero =>
    intro i c acc hi hc hacc
    subst hc
    refine fc_run oX10_thingsOf (fun pc => pc == 5) 400 ?_
    refine And.intro rfl (Exists.intro _ (And.intro hB ?_))
    refine And.intro (fc_L_0 hL) ?_
    refine And.intro (fun h14 => ?_) (fun h14 => ?_)
    · exact ⟨by rw [hacc, show i = t by omega], rfl, rfl, rfl⟩
    · exact absurd (by rw [hN5]; exact nI_le (by omega) (by omega)) h14
  | succ j ih =>
    intro i c acc hi hc hacc
    subst hc
    refine fc_run oX10_thingsOf (fun pc => pc == 5) 400 ?_
    refine And.intro rfl (Exists.intro _ (And.intro hB ?_))
    refine And.intro (fc_L_0 hL) ?_
    refine And.intro (fun h14 => ?_) (fun h14 => ?_)
    · exact absurd h14 (by rw [hN5]; exact nI_ge (by omega) (by omega))
    · refine Exists.intro _ (Exists.intro _ (And.intro hr (And.intro (by first | assumption | exact fc_ix_nI (by omega) (by omega) | exact fc_ix_nI (by assumption) (by omega)) ?_)))
      refine And.intro (fun h22 => ?_) (fun h22 => ?_)
      · exact ih (i + 1) _ _ (by omega) (fc_inc i) (by first | (rw [hacc]; exact sp_set_t (by simp [*])) | (rw [hacc]; exact sp_set_f (by simp [*])))
      · exact ih (i + 1) _ _ (by omega) (fc_inc i) (by first | (rw [hacc]; exact sp_set_t (by simp [*])) | (rw [hacc]; exact sp_set_f (by simp [*])))

theorem c_thingsOf (hH : fc_H mi mr b sc n m t) {r : Nat} (hr : fc_sh[r]? = some (20, 6)) (x : Int32) : fc_R E mX10_thingsOf d fc_sh [.ref 0, .ref r, .int x] mi ml mr (fc_is (some (.int (sp_set (fun q => decide (mi r q = x)) t))) mi ml mr) := by
  refine fc_met rfl (Nat.le_of_ble_eq_true rfl) (fc_run oX10_thingsOf (fun pc => pc == 5) 400 ?_)
  exact l_thingsOf hH hr x t 0 _ _ (by omega) rfl rfl
theorem c_person (hH : fc_H mi mr b sc n m t) (x w : Int32) : fc_R E mX10_person (d + 2) fc_sh [.ref 0, .int x, .int w] mi ml mr (fc_is (some (.int (q_person mi b t x w))) mi ml mr) := by
  obtain ⟨hW, hB, hL, hb, hN, hV, hC, hQ, hsc⟩ := id hH
  obtain ⟨hN1, hN2, hN3, hN4, hN5, hN6⟩ := id hN
  refine fc_met rfl (Nat.le_of_ble_eq_true rfl) (fc_run oX10_person (fun _ => false) 400 ?_)
  refine And.intro rfl (Exists.intro _ (And.intro hB ?_))
  refine And.intro (fc_L_0 hL) (Exists.intro _ (And.intro (c_hasPerson hL _) ?_))
  rintro _ _ _ _ ⟨rfl, rfl, rfl, rfl⟩
  refine And.intro (fun h8 => ?_) (fun h8 => ?_)
  · replace h8 := fc_b0.mp h8
    exact ⟨by simp [q_person, fc_b, h8], rfl, rfl, rfl⟩
  · replace h8 := fc_b1.mp h8
    rw [hN1] at h8
    obtain ⟨p, hp_p, rfl⟩ := sp_hasN (by omega) h8
    rw [← hN1] at h8
    have hc_p := fc_cl (k := 8) (show p < 8 by omega) (by omega)
    refine And.intro (fun h14 => ?_) (fun _ => And.intro (And.intro (fun h14 => ?_) (And.intro (fun h14 => ?_) (And.intro (fun h14 => ?_) (And.intro (fun h14 => ?_) (And.intro (fun h14 => ?_) (And.intro (fun h14 => ?_) trivial)))))) (by decide))
    · have n14_0 : ¬ w = 0 := by rintro rfl; revert h14; decide
      have n14_1 : ¬ w = 1 := by rintro rfl; revert h14; decide
      have n14_2 : ¬ w = 2 := by rintro rfl; revert h14; decide
      have n14_3 : ¬ w = 3 := by rintro rfl; revert h14; decide
      have n14_4 : ¬ w = 4 := by rintro rfl; revert h14; decide
      have n14_5 : ¬ w = 5 := by rintro rfl; revert h14; decide
      exact ⟨by simp [q_person, fc_b, h8, hc_p, h14, n14_0, n14_1, n14_2, n14_3, n14_4, n14_5], rfl, rfl, rfl⟩
    · replace h14 := (fc_ofI 0 (by decide)).mp h14
      refine And.intro rfl (Exists.intro _ (And.intro hB ?_))
      refine And.intro (fc_L_0 hL) (Exists.intro _ (And.intro (fc_L_r4 hL) ?_))
      refine Exists.intro _ (Exists.intro _ (And.intro (fc_L_5 hL) (And.intro (by first | assumption | exact fc_ix_nI (by omega) (by omega) | exact fc_ix_nI (by assumption) (by omega)) ?_)))
      exact ⟨by simp [q_person, fc_b, h8, hc_p, h14], rfl, rfl, rfl⟩
    · replace h14 := (fc_ofI 1 (by decide)).mp h14
      refine And.intro rfl (Exists.intro _ (And.intro hB ?_))
      refine And.intro (fc_L_0 hL) (Exists.intro _ (And.intro (fc_L_r5 hL) ?_))
      refine Exists.intro _ (Exists.intro _ (And.intro (fc_L_6 hL) (And.intro (by first | assumption | exact fc_ix_nI (by omega) (by omega) | exact fc_ix_nI (by assumption) (by omega)) ?_)))
      exact ⟨by simp [q_person, fc_b, h8, hc_p, h14], rfl, rfl, rfl⟩
    · replace h14 := (fc_ofI 2 (by decide)).mp h14
      refine And.intro rfl (Exists.intro _ (And.intro (hW 0 3 17 rfl) ?_))
      refine And.intro (fc_S_0 (fc_S_at17 hW)) (Exists.intro _ (And.intro (fc_S_r2 (fc_S_at17 hW)) ?_))
      refine Exists.intro _ (Exists.intro _ (And.intro (fc_S_1 (fc_S_at17 hW)) (And.intro (by first | assumption | exact fc_ix_nI (by omega) (by omega) | exact fc_ix_nI (by assumption) (by omega)) ?_)))
      exact ⟨by simp [q_person, fc_b, h8, hc_p, h14], rfl, rfl, rfl⟩
    · replace h14 := (fc_ofI 3 (by decide)).mp h14
      refine And.intro rfl (Exists.intro _ (And.intro hB ?_))
      refine And.intro rfl (Exists.intro _ (And.intro (hW 0 3 17 rfl) ?_))
      refine And.intro (fc_S_0 (fc_S_at17 hW)) ?_
      refine And.intro (fc_L_0 hL) (Exists.intro _ (And.intro (c_isAwake hL (by omega) _) ?_))
      rintro _ _ _ _ ⟨rfl, rfl, rfl, rfl⟩
      refine And.intro (fun h97 => ?_) (fun h97 => ?_)
      · replace h97 := fc_b0.mp h97
        exact ⟨by simp [q_person, fc_b, h8, hc_p, h14, h97], rfl, rfl, rfl⟩
      · replace h97 := fc_b1.mp h97
        exact ⟨by simp [q_person, fc_b, h8, hc_p, h14, h97], rfl, rfl, rfl⟩
    · replace h14 := (fc_ofI 4 (by decide)).mp h14
      refine And.intro rfl (Exists.intro _ (And.intro (hW 0 3 17 rfl) ?_))
      refine And.intro rfl (Exists.intro _ (And.intro hB ?_))
      refine And.intro (fc_S_0 (fc_S_at17 hW)) (Exists.intro _ (And.intro (c_isReady (fc_S_at17 hW) hL (by omega)) ?_))
      rintro _ _ _ _ ⟨rfl, rfl, rfl, rfl⟩
      refine And.intro (fun h118 => ?_) (fun h118 => ?_)
      · replace h118 := fc_b0.mp h118
        exact ⟨by simp [q_person, fc_b, h8, hc_p, h14, h118], rfl, rfl, rfl⟩
      · replace h118 := fc_b1.mp h118
        exact ⟨by simp [q_person, fc_b, h8, hc_p, h14, h118], rfl, rfl, rfl⟩
    · replace h14 := (fc_ofI 5 (by decide)).mp h14
      refine And.intro rfl (Exists.intro _ (And.intro (hW 0 3 17 rfl) ?_))
      refine And.intro (fc_S_0 (fc_S_at17 hW)) (Exists.intro _ (And.intro (fc_S_r7 (fc_S_at17 hW)) ?_))
      refine And.intro rfl (Exists.intro _ (And.intro (c_thingsOf hH rfl _) ?_))
      rintro _ _ _ _ ⟨rfl, rfl, rfl, rfl⟩
      exact ⟨by simp [q_person, fc_b, h8, hc_p, h14], rfl, rfl, rfl⟩

def q_thing (mi : fc_Mi) (b : Nat) (x w : Int32) : Int32 := if sp_has (mi b 13) x then (if w = 0 then mi (b + 8) x.toNatClampNeg else if w = 1 then mi 23 x.toNatClampNeg else if w = 2 then mi 24 x.toNatClampNeg else -1) else -1
theorem c_thing (hH : fc_H mi mr b sc n m t) (x w : Int32) : fc_R E mX10_thing (d + 1) fc_sh [.ref 0, .int x, .int w] mi ml mr (fc_is (some (.int (q_thing mi b x w))) mi ml mr) := by
  obtain ⟨hW, hB, hL, hb, hN, hV, hC, hQ, hsc⟩ := id hH
  obtain ⟨hN1, hN2, hN3, hN4, hN5, hN6⟩ := id hN
  refine fc_met rfl (Nat.le_of_ble_eq_true rfl) (fc_run oX10_thing (fun _ => false) 400 ?_)
  refine And.intro rfl (Exists.intro _ (And.intro hB ?_))
  refine And.intro (fc_L_0 hL) (Exists.intro _ (And.intro (c_hasThing hL _) ?_))
  rintro _ _ _ _ ⟨rfl, rfl, rfl, rfl⟩
  refine And.intro (fun h8 => ?_) (fun h8 => ?_)
  · replace h8 := fc_b0.mp h8
    exact ⟨by simp [q_thing, h8], rfl, rfl, rfl⟩
  · replace h8 := fc_b1.mp h8
    rw [hN5] at h8
    obtain ⟨p, hp_p, rfl⟩ := sp_hasN (by omega) h8
    rw [← hN5] at h8
    have hc_p := fc_cl (k := 8) (show p < 8 by omega) (by omega)
    refine And.intro (fun h14 => ?_) (fun _ => And.intro (And.intro (fun h14 => ?_) (And.intro (fun h14 => ?_) (And.intro (fun h14 => ?_) trivial))) (by decide))
    · have n14_0 : ¬ w = 0 := by rintro rfl; revert h14; decide
      have n14_1 : ¬ w = 1 := by rintro rfl; revert h14; decide
      have n14_2 : ¬ w = 2 := by rintro rfl; revert h14; decide
      exact ⟨by simp [q_thing, h8, hc_p, h14, n14_0, n14_1, n14_2], rfl, rfl, rfl⟩
    · replace h14 := (fc_ofI 0 (by decide)).mp h14
      refine And.intro rfl (Exists.intro _ (And.intro hB ?_))
      refine And.intro (fc_L_0 hL) (Exists.intro _ (And.intro (fc_L_r7 hL) ?_))
      refine Exists.intro _ (Exists.intro _ (And.intro (fc_L_8 hL) (And.intro (by first | assumption | exact fc_ix_nI (by omega) (by omega) | exact fc_ix_nI (by assumption) (by omega)) ?_)))
      exact ⟨by simp [q_thing, h8, hc_p, h14], rfl, rfl, rfl⟩
    · replace h14 := (fc_ofI 1 (by decide)).mp h14
      refine And.intro rfl (Exists.intro _ (And.intro (hW 0 3 17 rfl) ?_))
      refine And.intro (fc_S_0 (fc_S_at17 hW)) (Exists.intro _ (And.intro (fc_S_r7 (fc_S_at17 hW)) ?_))
      refine Exists.intro _ (Exists.intro _ (And.intro (fc_S_6 (fc_S_at17 hW)) (And.intro (by first | assumption | exact fc_ix_nI (by omega) (by omega) | exact fc_ix_nI (by assumption) (by omega)) ?_)))
      exact ⟨by simp [q_thing, h8, hc_p, h14], rfl, rfl, rfl⟩
    · replace h14 := (fc_ofI 2 (by decide)).mp h14
      refine And.intro rfl (Exists.intro _ (And.intro (hW 0 3 17 rfl) ?_))
      refine And.intro (fc_S_0 (fc_S_at17 hW)) (Exists.intro _ (And.intro (fc_S_r8 (fc_S_at17 hW)) ?_))
      refine Exists.intro _ (Exists.intro _ (And.intro (fc_S_7 (fc_S_at17 hW)) (And.intro (by first | assumption | exact fc_ix_nI (by omega) (by omega) | exact fc_ix_nI (by assumption) (by omega)) ?_)))
      exact ⟨by simp [q_thing, h8, hc_p, h14], rfl, rfl, rfl⟩

/-- in how many minutes one can be at a place -/
def q_mt (mi : fc_Mi) (b p k : Nat) : Int32 := sp_mo (mi (b + 7)) (mi 19) (mi (b + 5)) (mi 17 1) p (mi (8 + (mi 18 p).toNatClampNeg) k)
theorem c_minutesTo (hH : fc_H mi mr b sc n m t) {p k : Nat} (hp : p < n) (hk : k < 7) : fc_R E mX10_minutesTo (d + 2) fc_sh [.ref 0, .int (nI p), .int (nI k)] mi ml mr (fc_is (some (.int (q_mt mi b p k))) mi ml mr) := by
  obtain ⟨hW, hB, hL, hb, hN, hV, hC, hQ, hsc⟩ := id hH
  obtain ⟨hN1, hN2, hN3, hN4, hN5, hN6⟩ := id hN
  obtain ⟨jj, hjj, hw⟩ := hV.1 p hp
  have hcj := fc_cl (k := 7) (show jj < 7 by omega) (by omega)
  refine fc_met rfl (Nat.le_of_ble_eq_true rfl) (fc_run oX10_minutesTo (fun _ => false) 400 ?_)
  refine And.intro rfl (Exists.intro _ (And.intro (hW 0 3 17 rfl) ?_))
  refine And.intro rfl (Exists.intro _ (And.intro hB ?_))
  refine And.intro rfl (Exists.intro _ (And.intro (hW 0 2 6 rfl) ?_))
  refine And.intro rfl (Exists.intro _ (And.intro (hW 6 0 7 rfl) ?_))
  refine And.intro rfl (Exists.intro _ (And.intro (hW 0 3 17 rfl) ?_))
  refine And.intro (fc_S_0 (fc_S_at17 hW)) (Exists.intro _ (And.intro (fc_S_r2 (fc_S_at17 hW)) ?_))
  refine Exists.intro _ (Exists.intro _ (And.intro (fc_S_1 (fc_S_at17 hW)) (And.intro (by first | assumption | exact fc_ix_nI (by omega) (by omega) | exact fc_ix_nI (by assumption) (by omega)) ?_)))
  rw [hw]
  refine Exists.intro _ (Exists.intro _ (Exists.intro _ (Exists.intro _ (And.intro rfl (And.intro (by decide) (And.intro (fc_ix_nI (p := jj) (by omega) (by omega)) (And.intro (fc_W7 hW (by omega)) ?_)))))))
  refine Exists.intro _ (Exists.intro _ (And.intro (fc_sh7 (by omega)) (And.intro (by first | assumption | exact fc_ix_nI (by omega) (by omega) | exact fc_ix_nI (by assumption) (by omega)) ?_)))
  refine And.intro (fc_S_0 (fc_S_at17 hW)) (Exists.intro _ (And.intro (c_minutesOver (fc_S_at17 hW) hL (by omega) _) ?_))
  rintro _ _ _ _ ⟨rfl, rfl, rfl, rfl⟩
  exact ⟨by simp [q_mt, hw, hcj], rfl, rfl, rfl⟩

def q_soon (mi : fc_Mi) (b : Nat) (x k : Int32) : Int32 := if sp_has (mi b 12) x && sp_has (mi b 10) k then sp_non (q_mt mi b x.toNatClampNeg k.toNatClampNeg) else -1
theorem c_soon (hH : fc_H mi mr b sc n m t) (x k : Int32) : fc_R E mX10_soon (d + 3) fc_sh [.ref 0, .int x, .int k] mi ml mr (fc_is (some (.int (q_soon mi b x k))) mi ml mr) := by
  obtain ⟨hW, hB, hL, hb, hN, hV, hC, hQ, hsc⟩ := id hH
  obtain ⟨hN1, hN2, hN3, hN4, hN5, hN6⟩ := id hN
  refine fc_met rfl (Nat.le_of_ble_eq_true rfl) (fc_run oX10_soon (fun _ => false) 400 ?_)
  refine And.intro rfl (Exists.intro _ (And.intro hB ?_))
  refine And.intro (fc_L_0 hL) (Exists.intro _ (And.intro (c_hasPerson hL _) ?_))
  rintro _ _ _ _ ⟨rfl, rfl, rfl, rfl⟩
  refine And.intro (fun h8 => ?_) (fun h8 => ?_)
  · replace h8 := fc_b0.mp h8
    exact ⟨by simp [q_soon, h8], rfl, rfl, rfl⟩
  · replace h8 := fc_b1.mp h8
    rw [hN1] at h8
    obtain ⟨p, hp_p, rfl⟩ := sp_hasN (by omega) h8
    rw [← hN1] at h8
    have hc_p := fc_cl (k := 8) (show p < 8 by omega) (by omega)
    refine And.intro rfl (Exists.intro _ (And.intro hB ?_))
    refine And.intro (fc_L_0 hL) (Exists.intro _ (And.intro (c_hasPlace hL _) ?_))
    rintro _ _ _ _ ⟨rfl, rfl, rfl, rfl⟩
    refine And.intro (fun h19 => ?_) (fun h19 => ?_)
    · replace h19 := fc_b0.mp h19
      exact ⟨by simp [q_soon, h8, hc_p, h19], rfl, rfl, rfl⟩
    · replace h19 := fc_b1.mp h19
      rw [hN3] at h19
      obtain ⟨kk, hp_kk, rfl⟩ := sp_hasN (by omega) h19
      rw [← hN3] at h19
      have hc_kk := fc_cl (k := 8) (show kk < 8 by omega) (by omega)
      refine And.intro rfl (Exists.intro _ (And.intro (c_minutesTo hH (by omega) (by omega)) ?_))
      rintro _ _ _ _ ⟨rfl, rfl, rfl, rfl⟩
      refine Exists.intro _ (And.intro (c_orNone _) ?_)
      rintro _ _ _ _ ⟨rfl, rfl, rfl, rfl⟩
      exact ⟨by simp [q_soon, h8, hc_p, h19, hc_kk], rfl, rfl, rfl⟩

def q_intime (mi : fc_Mi) (b : Nat) (x k : Int32) : Bool := (sp_has (mi b 12) x && sp_has (mi b 10) k) && (!decide (99 < q_mt mi b x.toNatClampNeg k.toNatClampNeg) && !decide (mi b 14 ≤ mi 17 1 + q_mt mi b x.toNatClampNeg k.toNatClampNeg))
theorem c_intime (hH : fc_H mi mr b sc n m t) (x k : Int32) : fc_R E mX10_intime (d + 3) fc_sh [.ref 0, .int x, .int k] mi ml mr (fc_is (some (.int (fc_b (q_intime mi b x k)))) mi ml mr) := by
  obtain ⟨hW, hB, hL, hb, hN, hV, hC, hQ, hsc⟩ := id hH
  obtain ⟨hN1, hN2, hN3, hN4, hN5, hN6⟩ := id hN
  refine fc_met rfl (Nat.le_of_ble_eq_true rfl) (fc_run oX10_intime (fun _ => false) 400 ?_)
  refine And.intro rfl (Exists.intro _ (And.intro hB ?_))
  refine And.intro (fc_L_0 hL) (Exists.intro _ (And.intro (c_hasPerson hL _) ?_))
  rintro _ _ _ _ ⟨rfl, rfl, rfl, rfl⟩
  refine And.intro (fun h8 => ?_) (fun h8 => ?_)
  · replace h8 := fc_b0.mp h8
    refine And.intro (by first | exact Or.inl rfl | exact Or.inr rfl | exact fc_bb _ | assumption) ?_
    exact ⟨by simp [q_intime, fc_b, h8], rfl, rfl, rfl⟩
  · replace h8 := fc_b1.mp h8
    rw [hN1] at h8
    obtain ⟨p, hp_p, rfl⟩ := sp_hasN (by omega) h8
    rw [← hN1] at h8
    have hc_p := fc_cl (k := 8) (show p < 8 by omega) (by omega)
    refine And.intro rfl (Exists.intro _ (And.intro hB ?_))
    refine And.intro (fc_L_0 hL) (Exists.intro _ (And.intro (c_hasPlace hL _) ?_))
    rintro _ _ _ _ ⟨rfl, rfl, rfl, rfl⟩
    refine And.intro (fun h19 => ?_) (fun h19 => ?_)
    · replace h19 := fc_b0.mp h19
      refine And.intro (by first | exact Or.inl rfl | exact Or.inr rfl | exact fc_bb _ | assumption) ?_
      exact ⟨by simp [q_intime, fc_b, h8, hc_p, h19], rfl, rfl, rfl⟩
    · replace h19 := fc_b1.mp h19
      rw [hN3] at h19
      obtain ⟨kk, hp_kk, rfl⟩ := sp_hasN (by omega) h19
      rw [← hN3] at h19
      have hc_kk := fc_cl (k := 8) (show kk < 8 by omega) (by omega)
      refine And.intro rfl (Exists.intro _ (And.intro (c_minutesTo hH (by omega) (by omega)) ?_))
      rintro _ _ _ _ ⟨rfl, rfl, rfl, rfl⟩
      refine And.intro (fun h34 => ?_) (fun h34 => ?_)
      · refine And.intro (by first | exact Or.inl rfl | exact Or.inr rfl | exact fc_bb _ | assumption) ?_
        exact ⟨by simp [q_intime, fc_b, h8, hc_p, h19, hc_kk, h34], rfl, rfl, rfl⟩
      · refine And.intro rfl (Exists.intro _ (And.intro (hW 0 3 17 rfl) ?_))
        refine And.intro (fc_S_0 (fc_S_at17 hW)) ?_
        refine And.intro rfl (Exists.intro _ (And.intro hB ?_))
        refine And.intro (fc_L_0 hL) ?_
        refine And.intro (fun h53 => ?_) (fun h53 => ?_)
        · refine And.intro (by first | exact Or.inl rfl | exact Or.inr rfl | exact fc_bb _ | assumption) ?_
          exact ⟨by simp [q_intime, fc_b, h8, hc_p, h19, hc_kk, h34, h53], rfl, rfl, rfl⟩
        · refine And.intro (by first | exact Or.inl rfl | exact Or.inr rfl | exact fc_bb _ | assumption) ?_
          exact ⟨by simp [q_intime, fc_b, h8, hc_p, h19, hc_kk, h34, h53], rfl, rfl, rfl⟩

theorem c_back (hH : fc_H mi mr b sc n m t) : fc_R E mX10_back (d + 1) fc_sh [.ref 0] mi ml mr (fc_is (some (.int (sp_set (fun q => !decide (mi 23 q = mi 24 q)) t))) mi ml mr) := by
  obtain ⟨hW, hB, hL, hb, hN, hV, hC, hQ, hsc⟩ := id hH
  obtain ⟨hN1, hN2, hN3, hN4, hN5, hN6⟩ := id hN
  refine fc_met rfl (Nat.le_of_ble_eq_true rfl) (fc_run oX10_back (fun _ => false) 400 ?_)
  refine And.intro rfl (Exists.intro _ (And.intro (hW 0 3 17 rfl) ?_))
  refine And.intro rfl (Exists.intro _ (And.intro hB ?_))
  refine And.intro (fc_S_0 (fc_S_at17 hW)) (Exists.intro _ (And.intro (c_stray (fc_S_at17 hW) hL hN5 hN6) ?_))
  rintro _ _ _ _ ⟨rfl, rfl, rfl, rfl⟩
  first | exact ⟨rfl, rfl, rfl, rfl⟩ | skip

theorem c_heard (hH : fc_H mi mr b sc n m t) (x : Int32) : fc_R E mX10_heard (d + 1) fc_sh [.ref 0, .int x] mi ml mr (fc_is (some (.int (if sp_has (mi b 12) x then mi 20 x.toNatClampNeg else -1))) mi ml mr) := by
  obtain ⟨hW, hB, hL, hb, hN, hV, hC, hQ, hsc⟩ := id hH
  obtain ⟨hN1, hN2, hN3, hN4, hN5, hN6⟩ := id hN
  refine fc_met rfl (Nat.le_of_ble_eq_true rfl) (fc_run oX10_heard (fun _ => false) 400 ?_)
  refine And.intro rfl (Exists.intro _ (And.intro hB ?_))
  refine And.intro (fc_L_0 hL) (Exists.intro _ (And.intro (c_hasPerson hL _) ?_))
  rintro _ _ _ _ ⟨rfl, rfl, rfl, rfl⟩
  refine And.intro (fun h8 => ?_) (fun h8 => ?_)
  · replace h8 := fc_b0.mp h8
    exact ⟨by simp [h8], rfl, rfl, rfl⟩
  · replace h8 := fc_b1.mp h8
    rw [hN1] at h8
    obtain ⟨p, hp_p, rfl⟩ := sp_hasN (by omega) h8
    rw [← hN1] at h8
    have hc_p := fc_cl (k := 8) (show p < 8 by omega) (by omega)
    refine And.intro rfl (Exists.intro _ (And.intro (hW 0 3 17 rfl) ?_))
    refine And.intro (fc_S_0 (fc_S_at17 hW)) (Exists.intro _ (And.intro (fc_S_r4 (fc_S_at17 hW)) ?_))
    refine Exists.intro _ (Exists.intro _ (And.intro (fc_S_3 (fc_S_at17 hW)) (And.intro (by first | assumption | exact fc_ix_nI (by omega) (by omega) | exact fc_ix_nI (by assumption) (by omega)) ?_)))
    exact ⟨by simp [h8, hc_p], rfl, rfl, rfl⟩

theorem c_vows (hH : fc_H mi mr b sc n m t) (x r : Int32) : fc_R E mX10_vows (d + 1) fc_sh [.ref 0, .int x, .int r] mi ml mr (fc_is (some (.int (if sp_has (mi b 12) x then (if r = 0 then mi 21 x.toNatClampNeg else mi 22 x.toNatClampNeg) else -1))) mi ml mr) := by
  obtain ⟨hW, hB, hL, hb, hN, hV, hC, hQ, hsc⟩ := id hH
  obtain ⟨hN1, hN2, hN3, hN4, hN5, hN6⟩ := id hN
  refine fc_met rfl (Nat.le_of_ble_eq_true rfl) (fc_run oX10_vows (fun _ => false) 400 ?_)
  refine And.intro rfl (Exists.intro _ (And.intro hB ?_))
  refine And.intro (fc_L_0 hL) (Exists.intro _ (And.intro (c_hasPerson hL _) ?_))
  rintro _ _ _ _ ⟨rfl, rfl, rfl, rfl⟩
  refine And.intro (fun h8 => ?_) (fun h8 => ?_)
  · replace h8 := fc_b0.mp h8
    exact ⟨by simp [h8], rfl, rfl, rfl⟩
  · replace h8 := fc_b1.mp h8
    rw [hN1] at h8
    obtain ⟨p, hp_p, rfl⟩ := sp_hasN (by omega) h8
    rw [← hN1] at h8
    have hc_p := fc_cl (k := 8) (show p < 8 by omega) (by omega)
    refine And.intro (fun h14 => ?_) (fun h14 => ?_)
    · refine And.intro rfl (Exists.intro _ (And.intro (hW 0 3 17 rfl) ?_))
      refine And.intro (fc_S_0 (fc_S_at17 hW)) (Exists.intro _ (And.intro (fc_S_r5 (fc_S_at17 hW)) ?_))
      refine Exists.intro _ (Exists.intro _ (And.intro (fc_S_4 (fc_S_at17 hW)) (And.intro (by first | assumption | exact fc_ix_nI (by omega) (by omega) | exact fc_ix_nI (by assumption) (by omega)) ?_)))
      exact ⟨by simp [h8, hc_p, h14], rfl, rfl, rfl⟩
    · refine And.intro rfl (Exists.intro _ (And.intro (hW 0 3 17 rfl) ?_))
      refine And.intro (fc_S_0 (fc_S_at17 hW)) (Exists.intro _ (And.intro (fc_S_r6 (fc_S_at17 hW)) ?_))
      refine Exists.intro _ (Exists.intro _ (And.intro (fc_S_5 (fc_S_at17 hW)) (And.intro (by first | assumption | exact fc_ix_nI (by omega) (by omega) | exact fc_ix_nI (by assumption) (by omega)) ?_)))
      exact ⟨by simp [h8, hc_p, h14], rfl, rfl, rfl⟩

theorem c_reach (hH : fc_H mi mr b sc n m t) (x : Int32) : fc_R E mX10_reach (d + 3) fc_sh [.ref 0, .int x] mi ml mr (fc_is (some (.int (if sp_has (mi b 10) x then sp_sp (mi (b + 4)) m 0 (sp_one x.toNatClampNeg) m else -1))) mi ml mr) := by
  obtain ⟨hW, hB, hL, hb, hN, hV, hC, hQ, hsc⟩ := id hH
  obtain ⟨hN1, hN2, hN3, hN4, hN5, hN6⟩ := id hN
  refine fc_met rfl (Nat.le_of_ble_eq_true rfl) (fc_run oX10_reach (fun _ => false) 400 ?_)
  refine And.intro rfl (Exists.intro _ (And.intro hB ?_))
  refine And.intro (fc_L_0 hL) (Exists.intro _ (And.intro (c_hasPlace hL _) ?_))
  rintro _ _ _ _ ⟨rfl, rfl, rfl, rfl⟩
  refine And.intro (fun h8 => ?_) (fun h8 => ?_)
  · replace h8 := fc_b0.mp h8
    exact ⟨by simp [h8], rfl, rfl, rfl⟩
  · replace h8 := fc_b1.mp h8
    rw [hN3] at h8
    obtain ⟨p, hp_p, rfl⟩ := sp_hasN (by omega) h8
    rw [← hN3] at h8
    have hc_p := fc_cl (k := 8) (show p < 8 by omega) (by omega)
    refine And.intro rfl (Exists.intro _ (And.intro (hW 0 2 6 rfl) ?_))
    refine And.intro rfl (Exists.intro _ (And.intro hB ?_))
    refine And.intro rfl (Exists.intro _ (And.intro (c_spread hL _ _ hN3 hN4) ?_))
    rintro _ _ _ _ ⟨rfl, rfl, rfl, rfl⟩
    exact ⟨by simp [h8, hc_p], rfl, rfl, rfl⟩

theorem c_far (hH : fc_H mi mr b sc n m t) (x k : Int32) : fc_R E mX10_far (d + 1) fc_sh [.ref 0, .int x, .int k] mi ml mr (fc_is (some (.int (if sp_has (mi b 10) x && sp_has (mi b 10) k then sp_non (mi (8 + x.toNatClampNeg) k.toNatClampNeg) else -1))) mi ml mr) := by
  obtain ⟨hW, hB, hL, hb, hN, hV, hC, hQ, hsc⟩ := id hH
  obtain ⟨hN1, hN2, hN3, hN4, hN5, hN6⟩ := id hN
  refine fc_met rfl (Nat.le_of_ble_eq_true rfl) (fc_run oX10_far (fun _ => false) 400 ?_)
  refine And.intro rfl (Exists.intro _ (And.intro hB ?_))
  refine And.intro (fc_L_0 hL) (Exists.intro _ (And.intro (c_hasPlace hL _) ?_))
  rintro _ _ _ _ ⟨rfl, rfl, rfl, rfl⟩
  refine And.intro (fun h8 => ?_) (fun h8 => ?_)
  · replace h8 := fc_b0.mp h8
    exact ⟨by simp [h8], rfl, rfl, rfl⟩
  · replace h8 := fc_b1.mp h8
    rw [hN3] at h8
    obtain ⟨p, hp_p, rfl⟩ := sp_hasN (by omega) h8
    rw [← hN3] at h8
    have hc_p := fc_cl (k := 8) (show p < 8 by omega) (by omega)
    refine And.intro rfl (Exists.intro _ (And.intro hB ?_))
    refine And.intro (fc_L_0 hL) (Exists.intro _ (And.intro (c_hasPlace hL _) ?_))
    rintro _ _ _ _ ⟨rfl, rfl, rfl, rfl⟩
    refine And.intro (fun h19 => ?_) (fun h19 => ?_)
    · replace h19 := fc_b0.mp h19
      exact ⟨by simp [h8, hc_p, h19], rfl, rfl, rfl⟩
    · replace h19 := fc_b1.mp h19
      rw [hN3] at h19
      obtain ⟨kk, hp_kk, rfl⟩ := sp_hasN (by omega) h19
      rw [← hN3] at h19
      have hc_kk := fc_cl (k := 8) (show kk < 8 by omega) (by omega)
      refine And.intro rfl (Exists.intro _ (And.intro (hW 0 2 6 rfl) ?_))
      refine And.intro rfl (Exists.intro _ (And.intro (hW 6 0 7 rfl) ?_))
      refine Exists.intro _ (Exists.intro _ (Exists.intro _ (Exists.intro _ (And.intro rfl (And.intro (by decide) (And.intro (by first | assumption | exact fc_ix_nI (by omega) (by omega) | exact fc_ix_nI (by assumption) (by omega)) (And.intro (fc_W7 hW (by omega)) ?_)))))))
      refine Exists.intro _ (Exists.intro _ (And.intro (fc_sh7 (by omega)) (And.intro (by first | assumption | exact fc_ix_nI (by omega) (by omega) | exact fc_ix_nI (by assumption) (by omega)) ?_)))
      refine Exists.intro _ (And.intro (c_orNone _) ?_)
      rintro _ _ _ _ ⟨rfl, rfl, rfl, rfl⟩
      exact ⟨by simp [h8, hc_p, h19, hc_kk], rfl, rfl, rfl⟩

theorem c_links (hH : fc_H mi mr b sc n m t) (x : Int32) : fc_R E mX10_links (d + 1) fc_sh [.ref 0, .int x] mi ml mr (fc_is (some (.int (if sp_has (mi b 10) x then sp_bc (mi (b + 4) x.toNatClampNeg) else -1))) mi ml mr) := by
  obtain ⟨hW, hB, hL, hb, hN, hV, hC, hQ, hsc⟩ := id hH
  obtain ⟨hN1, hN2, hN3, hN4, hN5, hN6⟩ := id hN
  refine fc_met rfl (Nat.le_of_ble_eq_true rfl) (fc_run oX10_links (fun _ => false) 400 ?_)
  refine And.intro rfl (Exists.intro _ (And.intro hB ?_))
  refine And.intro (fc_L_0 hL) (Exists.intro _ (And.intro (c_hasPlace hL _) ?_))
  rintro _ _ _ _ ⟨rfl, rfl, rfl, rfl⟩
  refine And.intro (fun h8 => ?_) (fun h8 => ?_)
  · replace h8 := fc_b0.mp h8
    exact ⟨by simp [h8], rfl, rfl, rfl⟩
  · replace h8 := fc_b1.mp h8
    rw [hN3] at h8
    obtain ⟨p, hp_p, rfl⟩ := sp_hasN (by omega) h8
    rw [← hN3] at h8
    have hc_p := fc_cl (k := 8) (show p < 8 by omega) (by omega)
    refine And.intro rfl (Exists.intro _ (And.intro hB ?_))
    refine And.intro (fc_L_0 hL) (Exists.intro _ (And.intro (fc_L_r3 hL) ?_))
    refine Exists.intro _ (Exists.intro _ (And.intro (fc_L_4 hL) (And.intro (by first | assumption | exact fc_ix_nI (by omega) (by omega) | exact fc_ix_nI (by assumption) (by omega)) ?_)))
    refine Exists.intro _ (And.intro (c_bitCount _) ?_)
    rintro _ _ _ _ ⟨rfl, rfl, rfl, rfl⟩
    exact ⟨by simp [h8, hc_p], rfl, rfl, rfl⟩

theorem c_sleeps (hH : fc_H mi mr b sc n m t) (x : Int32) : fc_R E mX10_sleeps (d + 1) fc_sh [.ref 0, .int x] mi ml mr (fc_is (some (.int (if sp_has (mi b 12) x then (if 0 < mi (b + 7) x.toNatClampNeg - mi 17 1 then mi (b + 7) x.toNatClampNeg - mi 17 1 else 0) else -1))) mi ml mr) := by
  obtain ⟨hW, hB, hL, hb, hN, hV, hC, hQ, hsc⟩ := id hH
  obtain ⟨hN1, hN2, hN3, hN4, hN5, hN6⟩ := id hN
  refine fc_met rfl (Nat.le_of_ble_eq_true rfl) (fc_run oX10_sleeps (fun _ => false) 400 ?_)
  refine And.intro rfl (Exists.intro _ (And.intro hB ?_))
  refine And.intro (fc_L_0 hL) (Exists.intro _ (And.intro (c_hasPerson hL _) ?_))
  rintro _ _ _ _ ⟨rfl, rfl, rfl, rfl⟩
  refine And.intro (fun h8 => ?_) (fun h8 => ?_)
  · replace h8 := fc_b0.mp h8
    exact ⟨by simp [h8], rfl, rfl, rfl⟩
  · replace h8 := fc_b1.mp h8
    rw [hN1] at h8
    obtain ⟨p, hp_p, rfl⟩ := sp_hasN (by omega) h8
    rw [← hN1] at h8
    have hc_p := fc_cl (k := 8) (show p < 8 by omega) (by omega)
    refine And.intro rfl (Exists.intro _ (And.intro hB ?_))
    refine And.intro rfl (Exists.intro _ (And.intro (hW 0 3 17 rfl) ?_))
    refine And.intro (fc_S_0 (fc_S_at17 hW)) ?_
    refine And.intro (fc_L_0 hL) (Exists.intro _ (And.intro (c_sleepOf hL (by omega) _) ?_))
    rintro _ _ _ _ ⟨rfl, rfl, rfl, rfl⟩
    exact ⟨by simp [h8, hc_p], rfl, rfl, rfl⟩

end M23
