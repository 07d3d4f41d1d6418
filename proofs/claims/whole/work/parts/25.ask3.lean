/-! ===== FirstChimney: the rest of the questions ===== -/
section M25
variable {E : fc_E} {d : Nat} {mi : fc_Mi} {ml : fc_Ml} {mr : fc_Mr} {b sc n m t : Nat}
theorem l_sees (hH : fc_H mi mr b sc n m t) {p : Nat} (hp : p < n) : ∀ (j i : Nat) (c : Int32) (acc : Int32), i + j = m → c = nI i → acc = sp_or (fun k => decide (nI k = mi 18 p) || sp_in (mi (b + 4) (mi 18 p).toNatClampNeg) (nI k)) (fun k => sp_set (fun q => decide (mi 18 q = nI k)) n) i → fc_T E mX10_sees (d + 1) (0, 0) fc_sh 28 [some (.ref 0), some (.int (nI p)), some (.int (mi 18 p)), some (.int acc), some (.int c)] [] mi ml mr (fc_is (some (.int (sp_or (fun k => decide (nI k = mi 18 p) || sp_in (mi (b + 4) (mi 18 p).toNatClampNeg) (nI k)) (fun k => sp_set (fun q => decide (mi 18 q = nI k)) n) m &&& (sp_one p ^^^ (-1))))) mi ml mr) := by
  obtain ⟨hW, hB, hL, hb, hN, hV, hC, hQ, hsc⟩ := id hH
  obtain ⟨hN1, hN2, hN3, hN4, hN5, hN6⟩ := id hN
  obtain ⟨jj, hjj, hw⟩ := hV.1 p hp
  have hcj := fc_cl (k := 7) (show jj < 7 by omega) (by omega)
  intro j
  induction j with
  | zero =>
    intro i c acc  hi hc h_acc
    subst hc
    refine fc_run oX10_sees (fun pc => pc == 28) 400 ?_
    refine And.intro rfl (Exists.intro _ (And.intro hB ?_))
    refine And.intro (fc_L_0 hL) ?_
    refine And.intro (fun h37 => ?_) (fun h37 => ?_)
    · exact ⟨by rw [h_acc, show i = m by omega]; rfl, rfl, rfl, rfl⟩
    · exact absurd (by rw [hN3]; exact nI_le (by omega) (by omega)) h37
  | succ j ih =>
    intro i c acc  hi hc h_acc
    subst hc
    refine fc_run oX10_sees (fun pc => pc == 28) 400 ?_
    refine And.intro rfl (Exists.intro _ (And.intro hB ?_))
    refine And.intro (fc_L_0 hL) ?_
    refine And.intro (fun h37 => ?_) (fun h37 => ?_)
    · exact absurd h37 (by rw [hN3]; exact nI_ge (by omega) (by omega))
    · refine And.intro (fun h43 => ?_) (fun h43 => ?_)
      · refine And.intro rfl (Exists.intro _ (And.intro (hW 0 3 17 rfl) ?_))
        refine And.intro rfl (Exists.intro _ (And.intro hB ?_))
        refine And.intro (fc_S_0 (fc_S_at17 hW)) (Exists.intro _ (And.intro (c_bitsAt (fc_S_at17 hW) hL _ hN1 hN2) ?_))
        rintro _ _ _ _ ⟨rfl, rfl, rfl, rfl⟩
        exact ih (i + 1) _ _ (by omega) (fc_inc i) (by rw [h_acc]; exact sp_or_t (P := fun k => decide (nI k = mi 18 p) || sp_in (mi (b + 4) (mi 18 p).toNatClampNeg) (nI k)) (f := fun k => sp_set (fun q => decide (mi 18 q = nI k)) n) (by simp [h43]))
      · refine And.intro rfl (Exists.intro _ (And.intro hB ?_))
        refine And.intro (fc_L_0 hL) (Exists.intro _ (And.intro (fc_L_r3 hL) ?_))
        refine Exists.intro _ (Exists.intro _ (And.intro (fc_L_4 hL) (And.intro (show fc_ix (mi 18 p) 7 (mi 18 p).toNatClampNeg from fc_ix_in (by rw [hw]; exact vp_in_nI (by omega) (by omega))) ?_)))
        refine Exists.intro _ (And.intro (c_isIn _ _) ?_)
        rintro _ _ _ _ ⟨rfl, rfl, rfl, rfl⟩
        refine And.intro (fun h60 => ?_) (fun h60 => ?_)
        · replace h60 := fc_b0.mp h60
          exact ih (i + 1) _ _ (by omega) (fc_inc i) (by rw [h_acc]; exact sp_or_f (P := fun k => decide (nI k = mi 18 p) || sp_in (mi (b + 4) (mi 18 p).toNatClampNeg) (nI k)) (f := fun k => sp_set (fun q => decide (mi 18 q = nI k)) n) (by simp [h43, h60]))
        · replace h60 := fc_b1.mp h60
          refine And.intro rfl (Exists.intro _ (And.intro (hW 0 3 17 rfl) ?_))
          refine And.intro rfl (Exists.intro _ (And.intro hB ?_))
          refine And.intro (fc_S_0 (fc_S_at17 hW)) (Exists.intro _ (And.intro (c_bitsAt (fc_S_at17 hW) hL _ hN1 hN2) ?_))
          rintro _ _ _ _ ⟨rfl, rfl, rfl, rfl⟩
          exact ih (i + 1) _ _ (by omega) (fc_inc i) (by rw [h_acc]; exact sp_or_t (P := fun k => decide (nI k = mi 18 p) || sp_in (mi (b + 4) (mi 18 p).toNatClampNeg) (nI k)) (f := fun k => sp_set (fun q => decide (mi 18 q = nI k)) n) (by simp [h43, h60]))

theorem c_sees (hH : fc_H mi mr b sc n m t) (x : Int32) : fc_R E mX10_sees (d + 1) fc_sh [.ref 0, .int x] mi ml mr (fc_is (some (.int (if sp_has (mi b 12) x then ((fun p => sp_or (fun k => decide (nI k = mi 18 p) || sp_in (mi (b + 4) (mi 18 p).toNatClampNeg) (nI k)) (fun k => sp_set (fun q => decide (mi 18 q = nI k)) n) m &&& (sp_one p ^^^ (-1))) x.toNatClampNeg) else -1))) mi ml mr) := by
  obtain ⟨hW, hB, hL, hb, hN, hV, hC, hQ, hsc⟩ := id hH
  obtain ⟨hN1, hN2, hN3, hN4, hN5, hN6⟩ := id hN
  refine fc_met rfl (Nat.le_of_ble_eq_true rfl) (fc_run oX10_sees (fun pc => pc == 28) 400 ?_)
  refine And.intro rfl (Exists.intro _ (And.intro hB ?_))
  refine And.intro (fc_L_0 hL) (Exists.intro _ (And.intro (c_hasPerson hL _) ?_))
  rintro _ _ _ _ ⟨rfl, rfl, rfl, rfl⟩
  refine And.intro (fun h8 => ?_) (fun h8 => ?_)
  · replace h8 := fc_b0.mp h8
    exact ⟨by simp [h8], rfl, rfl, rfl⟩
  · replace h8 := fc_b1.mp h8
    rw [hN1] at h8
    obtain ⟨p, hp_p, rfl⟩ := sp_hasN (by omega) h8
    rw [← hN1] at h8
    have hc_p := fc_cl (k := 8) (show p < 8 by omega) (by omega)
    refine And.intro rfl (Exists.intro _ (And.intro (hW 0 3 17 rfl) ?_))
    refine And.intro (fc_S_0 (fc_S_at17 hW)) (Exists.intro _ (And.intro (fc_S_r2 (fc_S_at17 hW)) ?_))
    refine Exists.intro _ (Exists.intro _ (And.intro (fc_S_1 (fc_S_at17 hW)) (And.intro (by first | assumption | exact fc_ix_nI (by omega) (by omega) | exact fc_ix_nI (by assumption) (by omega)) ?_)))
    rw [if_pos h8, hc_p]
    exact l_sees hH hp_p m 0 _ _ (by omega) rfl rfl

theorem l_alone (hH : fc_H mi mr b sc n m t) : ∀ (j i : Nat) (c : Int32) (acc : Int32) (x4 : Option Value), i + j = m → c = nI i → acc = sp_or (fun k => decide (sp_bc (sp_set (fun q => decide (mi 18 q = nI k)) n &&& sp_set (sp_aw (mi (b + 7)) (mi 17 1)) n) = 1)) (fun k => (sp_set (fun q => decide (mi 18 q = nI k)) n &&& sp_set (sp_aw (mi (b + 7)) (mi 17 1)) n)) i → fc_T E mX10_alone (d + 2) (0, 0) fc_sh 19 [some (.ref 0), some (.int (sp_set (sp_aw (mi (b + 7)) (mi 17 1)) n)), some (.int acc), some (.int c), x4] [] mi ml mr (fc_is (some (.int (sp_or (fun k => decide (sp_bc (sp_set (fun q => decide (mi 18 q = nI k)) n &&& sp_set (sp_aw (mi (b + 7)) (mi 17 1)) n) = 1)) (fun k => (sp_set (fun q => decide (mi 18 q = nI k)) n &&& sp_set (sp_aw (mi (b + 7)) (mi 17 1)) n)) m))) mi ml mr) := by
  obtain ⟨hW, hB, hL, hb, hN, hV, hC, hQ, hsc⟩ := id hH
  obtain ⟨hN1, hN2, hN3, hN4, hN5, hN6⟩ := id hN
  intro j
  induction j with
  | zero =>
    intro i c acc x4 hi hc h_acc
    subst hc
    refine fc_run oX10_alone (fun pc => pc == 19) 400 ?_
    refine And.intro rfl (Exists.intro _ (And.intro hB ?_))
    refine And.intro (fc_L_0 hL) ?_
    refine And.intro (fun h27 => ?_) (fun h27 => ?_)
    · exact ⟨by rw [h_acc, show i = m by omega], rfl, rfl, rfl⟩
    · exact absurd (by rw [hN3]; exact nI_le (by omega) (by omega)) h27
  | succ j ih =>
    intro i c acc x4 hi hc h_acc
    subst hc
    refine fc_run oX10_alone (fun pc => pc == 19) 400 ?_
    refine And.intro rfl (Exists.intro _ (And.intro hB ?_))
    refine And.intro (fc_L_0 hL) ?_
    refine And.intro (fun h27 => ?_) (fun h27 => ?_)
    · exact absurd h27 (by rw [hN3]; exact nI_ge (by omega) (by omega))
    · refine And.intro rfl (Exists.intro _ (And.intro (hW 0 3 17 rfl) ?_))
      refine And.intro rfl (Exists.intro _ (And.intro hB ?_))
      refine And.intro (fc_S_0 (fc_S_at17 hW)) (Exists.intro _ (And.intro (c_bitsAt (fc_S_at17 hW) hL _ hN1 hN2) ?_))
      rintro _ _ _ _ ⟨rfl, rfl, rfl, rfl⟩
      refine Exists.intro _ (And.intro (c_bitCount _) ?_)
      rintro _ _ _ _ ⟨rfl, rfl, rfl, rfl⟩
      refine And.intro (fun h52 => ?_) (fun h52 => ?_)
      · exact ih (i + 1) _ _ _ (by omega) (fc_inc i) (by rw [h_acc]; exact sp_or_t (P := fun k => decide (sp_bc (sp_set (fun q => decide (mi 18 q = nI k)) n &&& sp_set (sp_aw (mi (b + 7)) (mi 17 1)) n) = 1)) (f := fun k => (sp_set (fun q => decide (mi 18 q = nI k)) n &&& sp_set (sp_aw (mi (b + 7)) (mi 17 1)) n)) (by simp [h52]))
      · exact ih (i + 1) _ _ _ (by omega) (fc_inc i) (by rw [h_acc]; exact sp_or_f (P := fun k => decide (sp_bc (sp_set (fun q => decide (mi 18 q = nI k)) n &&& sp_set (sp_aw (mi (b + 7)) (mi 17 1)) n) = 1)) (f := fun k => (sp_set (fun q => decide (mi 18 q = nI k)) n &&& sp_set (sp_aw (mi (b + 7)) (mi 17 1)) n)) (by simp [h52]))

theorem c_alone (hH : fc_H mi mr b sc n m t) : fc_R E mX10_alone (d + 2) fc_sh [.ref 0] mi ml mr (fc_is (some (.int (sp_or (fun k => decide (sp_bc (sp_set (fun q => decide (mi 18 q = nI k)) n &&& sp_set (sp_aw (mi (b + 7)) (mi 17 1)) n) = 1)) (fun k => (sp_set (fun q => decide (mi 18 q = nI k)) n &&& sp_set (sp_aw (mi (b + 7)) (mi 17 1)) n)) m))) mi ml mr) := by
  obtain ⟨hW, hB, hL, hb, hN, hV, hC, hQ, hsc⟩ := id hH
  obtain ⟨hN1, hN2, hN3, hN4, hN5, hN6⟩ := id hN
  refine fc_met rfl (Nat.le_of_ble_eq_true rfl) (fc_run oX10_alone (fun pc => pc == 19) 400 ?_)
  refine And.intro rfl (Exists.intro _ (And.intro hB ?_))
  refine And.intro rfl (Exists.intro _ (And.intro (hW 0 3 17 rfl) ?_))
  refine And.intro (fc_S_0 (fc_S_at17 hW)) ?_
  refine And.intro (fc_L_0 hL) (Exists.intro _ (And.intro (c_awakeBits hL _ hN1 hN2) ?_))
  rintro _ _ _ _ ⟨rfl, rfl, rfl, rfl⟩
  exact l_alone hH m 0 _ _ _ (by omega) rfl rfl

/-- k sightings, of places that there are -/
def fc_Se (mi : fc_Mi) (m k : Nat) : Prop := mi 214 3 = nI k ∧ k ≤ 8 ∧ (∀ i, i < k → ∃ j, j < m ∧ mi 215 i = nI j) ∧ ∀ i, i < k → mi 217 i = 0 ∨ mi 217 i = 1
/-- whether the i-th sighting may be of p -/
def q_fit (mi : fc_Mi) (b p : Nat) (i : Nat) : Bool := decide ((if mi 216 i < q_mt mi b p (mi 215 i).toNatClampNeg then (0 : Int32) else 1) = mi 217 i)
theorem l_fits (hH : fc_H mi mr b sc n m t) {k : Nat} (hK : fc_Se mi m k) {p : Nat} (hp : p < n) : ∀ (j i : Nat) (c : Int32) (x3 : Option Value), i + j = k → c = nI i → fc_T E mX10_fitsSeen (d + 3) (0, 0) fc_sh 2 [some (.ref 0), some (.int (nI p)), some (.int c), x3] [] mi ml mr (fc_is (some (.int (fc_b (sp_al (q_fit mi b p) j i)))) mi ml mr) := by
  obtain ⟨hW, hB, hL, hb, hN, hV, hC, hQ, hsc⟩ := id hH
  obtain ⟨hN1, hN2, hN3, hN4, hN5, hN6⟩ := id hN
  obtain ⟨hK1, hK2, hK3, hK4⟩ := id hK
  intro j
  induction j with
  | zero =>
    intro i c x3 hi hc
    subst hc
    refine fc_run oX10_fitsSeen (fun pc => pc == 2) 400 ?_
    refine And.intro rfl (Exists.intro _ (And.intro (hW 0 6 214 rfl) ?_))
    refine And.intro rfl ?_
    refine And.intro (fun h10 => ?_) (fun h10 => ?_)
    · refine And.intro (by first | exact Or.inl rfl | exact Or.inr rfl | exact fc_bb _ | assumption) ?_
      exact ⟨rfl, rfl, rfl, rfl⟩
    · exact absurd (by rw [hK1]; exact nI_le (by omega) (by omega)) h10
  | succ j ih =>
    intro i c x3 hi hc
    subst hc
    obtain ⟨jj, hjj, hw⟩ := hK3 i (by omega)
    have hcj := fc_cl (k := 7) (show jj < 7 by omega) (by omega)
    refine fc_run oX10_fitsSeen (fun pc => pc == 2) 400 ?_
    refine And.intro rfl (Exists.intro _ (And.intro (hW 0 6 214 rfl) ?_))
    refine And.intro rfl ?_
    refine And.intro (fun h10 => ?_) (fun h10 => ?_)
    · exact absurd h10 (by rw [hK1]; exact nI_ge (by omega) (by omega))
    · refine And.intro rfl (Exists.intro _ (And.intro (hW 0 6 214 rfl) ?_))
      refine And.intro rfl (Exists.intro _ (And.intro (hW 214 0 215 rfl) ?_))
      refine Exists.intro _ (Exists.intro _ (And.intro rfl (And.intro (by first | assumption | exact fc_ix_nI (by omega) (by omega) | exact fc_ix_nI (by assumption) (by omega)) ?_)))
      rw [hw]
      refine And.intro rfl (Exists.intro _ (And.intro (c_minutesTo hH (by omega) (by omega)) ?_))
      rintro _ _ _ _ ⟨rfl, rfl, rfl, rfl⟩
      refine And.intro rfl (Exists.intro _ (And.intro (hW 0 6 214 rfl) ?_))
      refine And.intro rfl (Exists.intro _ (And.intro (hW 214 1 216 rfl) ?_))
      refine Exists.intro _ (Exists.intro _ (And.intro rfl (And.intro (by first | assumption | exact fc_ix_nI (by omega) (by omega) | exact fc_ix_nI (by assumption) (by omega)) ?_)))
      refine And.intro (fun h36 => ?_) (fun h36 => ?_)
      · refine And.intro rfl (Exists.intro _ (And.intro (hW 0 6 214 rfl) ?_))
        refine And.intro rfl (Exists.intro _ (And.intro (hW 214 2 217 rfl) ?_))
        refine Exists.intro _ (Exists.intro _ (And.intro rfl (And.intro (by first | assumption | exact fc_ix_nI (by omega) (by omega) | exact fc_ix_nI (by assumption) (by omega)) ?_)))
        refine And.intro (fun h55 => ?_) (fun h55 => ?_)
        · have e : q_fit mi b p i = true := by simp [q_fit, hw, hcj, h36, h55]
          rw [sp_al, if_pos e]
          exact ih (i + 1) _ _ (by omega) (fc_inc i)
        · refine And.intro (by first | exact Or.inl rfl | exact Or.inr rfl | exact fc_bb _ | assumption) ?_
          have e : q_fit mi b p i = false := by simp [q_fit, hw, hcj, h36, h55]
          exact ⟨by rw [sp_al, e]; rfl, rfl, rfl, rfl⟩
      · refine And.intro rfl (Exists.intro _ (And.intro (hW 0 6 214 rfl) ?_))
        refine And.intro rfl (Exists.intro _ (And.intro (hW 214 2 217 rfl) ?_))
        refine Exists.intro _ (Exists.intro _ (And.intro rfl (And.intro (by first | assumption | exact fc_ix_nI (by omega) (by omega) | exact fc_ix_nI (by assumption) (by omega)) ?_)))
        refine And.intro (fun h55 => ?_) (fun h55 => ?_)
        · have e : q_fit mi b p i = true := by simp [q_fit, hw, hcj, h36, h55]
          rw [sp_al, if_pos e]
          exact ih (i + 1) _ _ (by omega) (fc_inc i)
        · refine And.intro (by first | exact Or.inl rfl | exact Or.inr rfl | exact fc_bb _ | assumption) ?_
          have e : q_fit mi b p i = false := by simp [q_fit, hw, hcj, h36, h55]
          exact ⟨by rw [sp_al, e]; rfl, rfl, rfl, rfl⟩

theorem c_fits (hH : fc_H mi mr b sc n m t) {k : Nat} (hK : fc_Se mi m k) {p : Nat} (hp : p < n) : fc_R E mX10_fitsSeen (d + 3) fc_sh [.ref 0, .int (nI p)] mi ml mr (fc_is (some (.int (fc_b (sp_al (q_fit mi b p) k 0)))) mi ml mr) := by
  refine fc_met rfl (Nat.le_of_ble_eq_true rfl) (fc_run oX10_fitsSeen (fun pc => pc == 2) 400 ?_)
  exact l_fits hH hK hp k 0 _ _ (by omega) rfl

theorem l_who (hH : fc_H mi mr b sc n m t) {k : Nat} (hK : fc_Se mi m k) : ∀ (j i : Nat) (c : Int32) (acc : Int32), i + j = n → c = nI i → acc = sp_set (fun p => sp_al (q_fit mi b p) k 0) i → fc_T E mX10_who (d + 4) (0, 0) fc_sh 4 [some (.ref 0), some (.int acc), some (.int c)] [] mi ml mr (fc_is (some (.int (sp_set (fun p => sp_al (q_fit mi b p) k 0) n))) mi ml mr) := by
  obtain ⟨hW, hB, hL, hb, hN, hV, hC, hQ, hsc⟩ := id hH
  obtain ⟨hN1, hN2, hN3, hN4, hN5, hN6⟩ := id hN
  intro j
  induction j with
  | zero =>
    intro i c acc  hi hc h_acc
    subst hc
    refine fc_run oX10_who (fun pc => pc == 4) 400 ?_
    refine And.intro rfl (Exists.intro _ (And.intro hB ?_))
    refine And.intro (fc_L_0 hL) ?_
    refine And.intro (fun h12 => ?_) (fun h12 => ?_)
    · exact ⟨by rw [h_acc, show i = n by omega], rfl, rfl, rfl⟩
    · exact absurd (by rw [hN1]; exact nI_le (by omega) (by omega)) h12
  | succ j ih =>
    intro i c acc  hi hc h_acc
    subst hc
    refine fc_run oX10_who (fun pc => pc == 4) 400 ?_
    refine And.intro rfl (Exists.intro _ (And.intro hB ?_))
    refine And.intro (fc_L_0 hL) ?_
    refine And.intro (fun h12 => ?_) (fun h12 => ?_)
    · exact absurd h12 (by rw [hN1]; exact nI_ge (by omega) (by omega))
    · refine And.intro rfl (Exists.intro _ (And.intro (c_fits hH hK (by omega)) ?_))
      rintro _ _ _ _ ⟨rfl, rfl, rfl, rfl⟩
      refine And.intro (fun h20 => ?_) (fun h20 => ?_)
      · replace h20 := fc_b0.mp h20
        exact ih (i + 1) _ _ (by omega) (fc_inc i) (by first | (rw [h_acc]; exact sp_set_t (P := fun p => sp_al (q_fit mi b p) k 0) h20) | (rw [h_acc]; exact sp_set_f (P := fun p => sp_al (q_fit mi b p) k 0) h20))
      · replace h20 := fc_b1.mp h20
        exact ih (i + 1) _ _ (by omega) (fc_inc i) (by first | (rw [h_acc]; exact sp_set_t (P := fun p => sp_al (q_fit mi b p) k 0) h20) | (rw [h_acc]; exact sp_set_f (P := fun p => sp_al (q_fit mi b p) k 0) h20))

theorem c_who (hH : fc_H mi mr b sc n m t) {k : Nat} (hK : fc_Se mi m k) : fc_R E mX10_who (d + 4) fc_sh [.ref 0] mi ml mr (fc_is (some (.int (sp_set (fun p => sp_al (q_fit mi b p) k 0) n))) mi ml mr) := by
  obtain ⟨hW, hB, hL, hb, hN, hV, hC, hQ, hsc⟩ := id hH
  obtain ⟨hN1, hN2, hN3, hN4, hN5, hN6⟩ := id hN
  refine fc_met rfl (Nat.le_of_ble_eq_true rfl) (fc_run oX10_who (fun pc => pc == 4) 400 ?_)
  exact l_who hH hK n 0 _ _ (by omega) rfl rfl

def q_lw (mi : fc_Mi) (b n : Nat) (s mn : Int32) (kk : Nat) : Int32 := if sp_num (fun p => sp_in s (nI p) && !decide (mn < q_mt mi b p kk)) n < sp_bc s - sp_num (fun p => sp_in s (nI p) && !decide (mn < q_mt mi b p kk)) n then sp_bc s - sp_num (fun p => sp_in s (nI p) && !decide (mn < q_mt mi b p kk)) n else sp_num (fun p => sp_in s (nI p) && !decide (mn < q_mt mi b p kk)) n
theorem l_left (hH : fc_H mi mr b sc n m t) (s mn : Int32) {kk : Nat} (hk : kk < 7) : ∀ (j i : Nat) (c : Int32) (acc : Int32), i + j = n → c = nI i → acc = sp_num (fun p => sp_in s (nI p) && !decide (mn < q_mt mi b p kk)) i → fc_T E mX10_leftAtWorst (d + 3) (0, 0) fc_sh 6 [some (.ref 0), some (.int s), some (.int (nI kk)), some (.int mn), some (.int acc), some (.int c)] [] mi ml mr (fc_is (some (.int (q_lw mi b n s mn kk))) mi ml mr) := by
  obtain ⟨hW, hB, hL, hb, hN, hV, hC, hQ, hsc⟩ := id hH
  obtain ⟨hN1, hN2, hN3, hN4, hN5, hN6⟩ := id hN
  intro j
  induction j with
  | zero =>
    intro i c acc  hi hc h_acc
    subst hc
    refine fc_run oX10_leftAtWorst (fun pc => pc == 6) 400 ?_
    refine And.intro rfl (Exists.intro _ (And.intro hB ?_))
    refine And.intro (fc_L_0 hL) ?_
    refine And.intro (fun h15 => ?_) (fun h15 => ?_)
    · refine Exists.intro _ (And.intro (c_bitCount _) ?_)
      rintro _ _ _ _ ⟨rfl, rfl, rfl, rfl⟩
      exact ⟨by rw [h_acc, show i = n by omega]; rfl, rfl, rfl, rfl⟩
    · exact absurd (by rw [hN1]; exact nI_le (by omega) (by omega)) h15
  | succ j ih =>
    intro i c acc  hi hc h_acc
    subst hc
    refine fc_run oX10_leftAtWorst (fun pc => pc == 6) 400 ?_
    refine And.intro rfl (Exists.intro _ (And.intro hB ?_))
    refine And.intro (fc_L_0 hL) ?_
    refine And.intro (fun h15 => ?_) (fun h15 => ?_)
    · exact absurd h15 (by rw [hN1]; exact nI_ge (by omega) (by omega))
    · refine Exists.intro _ (And.intro (c_isIn _ _) ?_)
      rintro _ _ _ _ ⟨rfl, rfl, rfl, rfl⟩
      refine And.intro (fun h24 => ?_) (fun h24 => ?_)
      · replace h24 := fc_b0.mp h24
        exact ih (i + 1) _ _ (by omega) (fc_inc i) (by rw [h_acc]; exact sp_num_f (P := fun p => sp_in s (nI p) && !decide (mn < q_mt mi b p kk)) (by simp [h24]))
      · replace h24 := fc_b1.mp h24
        refine And.intro rfl (Exists.intro _ (And.intro (c_minutesTo hH (by omega) (by omega)) ?_))
        rintro _ _ _ _ ⟨rfl, rfl, rfl, rfl⟩
        refine And.intro (fun h35 => ?_) (fun h35 => ?_)
        · exact ih (i + 1) _ _ (by omega) (fc_inc i) (by rw [h_acc]; exact sp_num_f (P := fun p => sp_in s (nI p) && !decide (mn < q_mt mi b p kk)) (by simp [h24, h35]))
        · exact ih (i + 1) _ _ (by omega) (fc_inc i) (by rw [h_acc]; exact sp_num_t (P := fun p => sp_in s (nI p) && !decide (mn < q_mt mi b p kk)) (by simp [h24, h35]))

theorem c_left (hH : fc_H mi mr b sc n m t) (s mn : Int32) {kk : Nat} (hk : kk < 7) : fc_R E mX10_leftAtWorst (d + 3) fc_sh [.ref 0, .int s, .int (nI kk), .int mn] mi ml mr (fc_is (some (.int (q_lw mi b n s mn kk))) mi ml mr) := by
  obtain ⟨hW, hB, hL, hb, hN, hV, hC, hQ, hsc⟩ := id hH
  obtain ⟨hN1, hN2, hN3, hN4, hN5, hN6⟩ := id hN
  refine fc_met rfl (Nat.le_of_ble_eq_true rfl) (fc_run oX10_leftAtWorst (fun pc => pc == 6) 400 ?_)
  exact l_left hH s mn hk n 0 _ _ (by omega) rfl rfl

/-- the best question, minutes mn, places below i -/
def sp_a1 (f : Nat → Nat → Int32) (mn : Nat) (s : Int32 × Int32) : Nat → Int32 × Int32
  | 0 => s
  | i + 1 => if (sp_a1 f mn s i).2 ≤ f mn i then sp_a1 f mn s i else (8 * nI mn + nI i, f mn i)
def sp_a2 (f : Nat → Nat → Int32) (m : Nat) (s : Int32 × Int32) : Nat → Int32 × Int32
  | 0 => s
  | i + 1 => sp_a1 f i (sp_a2 f m s i) m
theorem l_ask1 (hH : fc_H mi mr b sc n m t) (s : Int32) (s0 : Int32 × Int32) {mn : Nat} {Q : fc_Q} (K : ∀ (be' le' c' : Int32) (x5 x6 : Option Value), be' = (sp_a1 (fun mn kk => q_lw mi b n s (nI mn) kk) mn s0 m).1 → le' = (sp_a1 (fun mn kk => q_lw mi b n s (nI mn) kk) mn s0 m).2 → c' = nI (mn + 1) → fc_T E mX10_ask (d + 5) (0, 0) fc_sh 15 [some (.ref 0), some (.int s), some (.int be'), some (.int le'), some (.int c'), x5, x6] [] mi ml mr Q) : ∀ (j i : Nat) (c : Int32) (be : Int32) (le : Int32) (x6 : Option Value), i + j = m → c = nI i → be = (sp_a1 (fun mn kk => q_lw mi b n s (nI mn) kk) mn s0 i).1 → le = (sp_a1 (fun mn kk => q_lw mi b n s (nI mn) kk) mn s0 i).2 → fc_T E mX10_ask (d + 5) (0, 0) fc_sh 25 [some (.ref 0), some (.int s), some (.int be), some (.int le), some (.int (nI mn)), some (.int c), x6] [] mi ml mr (Q) := by
  obtain ⟨hW, hB, hL, hb, hN, hV, hC, hQ, hsc⟩ := id hH
  obtain ⟨hN1, hN2, hN3, hN4, hN5, hN6⟩ := id hN
  intro j
  induction j with
  | zero =>
    intro i c be le x6 hi hc h_be h_le
    subst hc
    refine fc_run oX10_ask (fun pc => pc == 25 || pc == 15) 400 ?_
    refine And.intro rfl (Exists.intro _ (And.intro hB ?_))
    refine And.intro (fc_L_0 hL) ?_
    refine And.intro (fun h34 => ?_) (fun h34 => ?_)
    · exact K _ _ _ _ _ (by rw [h_be, show i = m by omega]) (by rw [h_le, show i = m by omega]) (fc_inc mn)
    · exact absurd (by rw [hN3]; exact nI_le (by omega) (by omega)) h34
  | succ j ih =>
    intro i c be le x6 hi hc h_be h_le
    subst hc
    refine fc_run oX10_ask (fun pc => pc == 25 || pc == 15) 400 ?_
    refine And.intro rfl (Exists.intro _ (And.intro hB ?_))
    refine And.intro (fc_L_0 hL) ?_
    refine And.intro (fun h34 => ?_) (fun h34 => ?_)
    · exact absurd h34 (by rw [hN3]; exact nI_ge (by omega) (by omega))
    · refine And.intro rfl (Exists.intro _ (And.intro (c_left hH _ _ (by omega)) ?_))
      rintro _ _ _ _ ⟨rfl, rfl, rfl, rfl⟩
      refine And.intro (fun h51 => ?_) (fun h51 => ?_)
      · exact ih (i + 1) _ _ _ _ (by omega) (fc_inc i) (by rw [h_be]; rw [h_le] at h51; simp only [sp_a1, if_pos h51]) (by rw [h_le]; rw [h_le] at h51; simp only [sp_a1, if_pos h51])
      · exact ih (i + 1) _ _ _ _ (by omega) (fc_inc i) (by rw [h_le] at h51; simp only [sp_a1, if_neg h51]) (by rw [h_le] at h51; simp only [sp_a1, if_neg h51])

theorem l_ask2 (hH : fc_H mi mr b sc n m t) (s : Int32) : ∀ (j i : Nat) (c : Int32) (be : Int32) (le : Int32) (x5 : Option Value) (x6 : Option Value), i + j = 100 → c = nI i → be = (sp_a2 (fun mn kk => q_lw mi b n s (nI mn) kk) m (-1, sp_bc s) i).1 → le = (sp_a2 (fun mn kk => q_lw mi b n s (nI mn) kk) m (-1, sp_bc s) i).2 → fc_T E mX10_ask (d + 5) (0, 0) fc_sh 15 [some (.ref 0), some (.int s), some (.int be), some (.int le), some (.int c), x5, x6] [] mi ml mr (fc_is (some (.int (sp_a2 (fun mn kk => q_lw mi b n s (nI mn) kk) m (-1, sp_bc s) 100).1)) mi ml mr) := by
  obtain ⟨hW, hB, hL, hb, hN, hV, hC, hQ, hsc⟩ := id hH
  obtain ⟨hN1, hN2, hN3, hN4, hN5, hN6⟩ := id hN
  intro j
  induction j with
  | zero =>
    intro i c be le x5 x6 hi hc h_be h_le
    subst hc
    refine fc_run oX10_ask (fun pc => pc == 15 || pc == 25) 400 ?_
    refine And.intro (fun h19 => ?_) (fun h19 => ?_)
    · exact ⟨by rw [h_be, show i = 100 by omega], rfl, rfl, rfl⟩
    · exact absurd (by rw [show i = 100 by omega]; decide) h19
  | succ j ih =>
    intro i c be le x5 x6 hi hc h_be h_le
    subst hc
    refine fc_run oX10_ask (fun pc => pc == 15 || pc == 25) 400 ?_
    refine And.intro (fun h19 => ?_) (fun h19 => ?_)
    · exact absurd h19 (nI_nlt (a := 99) (by omega) (by omega))
    · exact l_ask1 hH s (sp_a2 (fun mn kk => q_lw mi b n s (nI mn) kk) m (-1, sp_bc s) i) (fun be' le' c' x5 x6 h1 h2 h3 => ih (i + 1) _ _ _ _ _ (by omega) h3 (by rw [h1]; rfl) (by rw [h2]; rfl)) m 0 _ _ _ _ (by omega) rfl h_be h_le

theorem c_ask (hH : fc_H mi mr b sc n m t) {k : Nat} (hK : fc_Se mi m k) : fc_R E mX10_ask (d + 5) fc_sh [.ref 0] mi ml mr (fc_is (some (.int ((fun s => (sp_a2 (fun mn kk => q_lw mi b n s (nI mn) kk) m (-1, sp_bc s) 100).1) (sp_set (fun p => sp_al (q_fit mi b p) k 0) n)))) mi ml mr) := by
  obtain ⟨hW, hB, hL, hb, hN, hV, hC, hQ, hsc⟩ := id hH
  obtain ⟨hN1, hN2, hN3, hN4, hN5, hN6⟩ := id hN
  refine fc_met rfl (Nat.le_of_ble_eq_true rfl) (fc_run oX10_ask (fun pc => pc == 15) 400 ?_)
  refine And.intro rfl (Exists.intro _ (And.intro (c_who hH hK) ?_))
  rintro _ _ _ _ ⟨rfl, rfl, rfl, rfl⟩
  refine Exists.intro _ (And.intro (c_bitCount _) ?_)
  rintro _ _ _ _ ⟨rfl, rfl, rfl, rfl⟩
  exact l_ask2 hH (sp_set (fun p => sp_al (q_fit mi b p) k 0) n) 100 0 _ _ _ _ _ (by omega) rfl rfl rfl

end M25
