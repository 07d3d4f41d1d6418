/-! ===== FirstChimney: deeds ===== -/
section M29
variable {E : fc_E} {d : Nat} {mi : fc_Mi} {ml : fc_Ml} {mr : fc_Mr} {b sc n m t : Nat}
theorem sp_kp_off (mi : fc_Mi) {sl kp : Nat} (h : sl < 16) {x : Nat} (hx : x ≠ 33) (h2 : x < 38 ∨ 166 ≤ x) : sp_kp mi sl kp x = mi x := by
  unfold sp_kp
  rw [fc_u_off _ _ _ hx, fc_u_off _ _ _ hx, sp_cp_off _ _ _ (by omega)]
def fc_Pa (mi : fc_Mi) (sl kp : Nat) : Prop := mi 33 4 = nI sl ∧ sl < 16 ∧ mi 33 5 = nI kp ∧ kp ≤ 16
theorem fc_LN.off {mi mm : fc_Mi} {b n m t : Nat} (h : fc_LN mi b n m t) (e : mm b = mi b) : fc_LN mm b n m t := by unfold fc_LN at *; rw [e]; exact h
theorem fc_SV.off {mi mm : fc_Mi} {a n m t : Nat} (h : fc_SV mi a n m t) (e1 : mm (a + 1) = mi (a + 1)) (e2 : mm (a + 6) = mi (a + 6)) (e3 : mm (a + 7) = mi (a + 7)) : fc_SV mm a n m t := by unfold fc_SV at *; rw [e1, e2, e3]; exact h
/-- the memory behind a walk -/
def q_walk (mi : fc_Mi) (b sl kp : Nat) (x k : Int32) : fc_Mi := fc_u (fc_u (sp_kp mi sl kp) 18 x.toNatClampNeg k) 19 x.toNatClampNeg (if mi (b + 5) x.toNatClampNeg = 2 then 2 else 1)
theorem c_walk (hH : fc_H mi mr b sc n m t) {sl kp : Nat} (hPa : fc_Pa mi sl kp) (x k : Int32) : fc_R E mX10_walk (d + 3) fc_sh [.ref 0, .int x, .int k] mi ml mr (if sp_cw (mi b 12) (mi b 10) (mi (b + 7)) (mi 19) (mi 18) (mi (b + 4)) (mi 17 1) x k then fc_is (some (.int 1)) (q_walk mi b sl kp x k) ml mr else fc_is (some (.int 0)) mi ml mr) := by
  obtain ⟨hW, hB, hL, hb, hN, hV, hC, hQ, hsc⟩ := id hH
  obtain ⟨hN1, hN2, hN3, hN4, hN5, hN6⟩ := id hN
  obtain ⟨hP1, hP2, hP3, hP4⟩ := id hPa
  have off : ∀ x, x ≠ 33 → x < 38 ∨ 166 ≤ x → sp_kp mi sl kp x = mi x := fun x h1 h2 => sp_kp_off mi hP2 h1 h2
  refine fc_met rfl (Nat.le_of_ble_eq_true rfl) (fc_run oX10_walk (fun _ => false) 400 ?_)
  refine And.intro rfl (Exists.intro _ (And.intro (hW 0 3 17 rfl) ?_))
  refine And.intro rfl (Exists.intro _ (And.intro hB ?_))
  refine And.intro (fc_S_0 (fc_S_at17 hW)) (Exists.intro _ (And.intro (c_canWalk (fc_S_at17 hW) hL hN hV _ _) ?_))
  rintro _ _ _ _ ⟨rfl, rfl, rfl, rfl⟩
  refine And.intro (fun h13 => ?_) (fun h13 => ?_)
  · replace h13 := fc_b0.mp h13
    refine And.intro (by first | exact Or.inl rfl | exact Or.inr rfl | exact fc_bb _ | assumption) ?_
    rw [if_neg (by rw [show sp_cw (mi b 12) (mi b 10) (mi (b + 7)) (mi 19) (mi 18) (mi (b + 4)) (mi 17 1) x k = false from h13]; decide)]
    exact ⟨rfl, rfl, rfl, rfl⟩
  · replace h13 := fc_b1.mp h13
    obtain ⟨p, hp, rfl⟩ : ∃ p, p < n ∧ x = nI p := by
      unfold sp_cw at h13
      simp only [Bool.and_eq_true] at h13
      rw [hN1] at h13
      exact sp_hasN (by omega) h13.1
    have hc_p := fc_cl (k := 8) (show p < 8 by omega) (by omega)
    refine And.intro rfl (Exists.intro _ (And.intro (hW 0 5 33 rfl) ?_))
    refine And.intro rfl (Exists.intro _ (And.intro (hW 0 3 17 rfl) ?_))
    refine And.intro rfl (Exists.intro _ (And.intro (c_keep hW hP1 hP2 hP3 hP4) ?_))
    rintro _ _ _ _ ⟨rfl, rfl, rfl, rfl⟩
    refine And.intro rfl (Exists.intro _ (And.intro (hW 0 3 17 rfl) ?_))
    refine And.intro rfl (Exists.intro _ (And.intro hB ?_))
    refine And.intro (fc_S_0 (fc_S_at17 hW)) (Exists.intro _ (And.intro (c_goTo (fc_S_at17 hW) hL (by omega) (by omega) _) ?_))
    rintro _ _ _ _ ⟨rfl, rfl, rfl, rfl⟩
    refine And.intro (by first | exact Or.inl rfl | exact Or.inr rfl | exact fc_bb _ | assumption) ?_
    rw [if_pos h13]
    refine ⟨rfl, ?_, rfl, rfl⟩
    unfold q_walk
    rw [hc_p, off (b + 5) (by omega) (by omega)]

def q_gs (mi : fc_Mi) (b n len : Nat) (x z : Int32) : Nat × (Nat → Int32) := sp_bd n (mi 18) (mi (b + 7)) (mi (b + 5)) (mi (b + 11)) (mi (b + 12)) len (mi (b + 8) x.toNatClampNeg) (mi 17 1) (mi 23 x.toNatClampNeg).toNatClampNeg z.toNatClampNeg
/-- the memory behind a gift -/
def q_give (mi : fc_Mi) (b n len sl kp : Nat) (x z : Int32) : fc_Mi := sp_gv (sp_kp mi sl kp) 17 b x.toNatClampNeg (mi 23 x.toNatClampNeg).toNatClampNeg z (q_gs mi b n len x z)
theorem c_give (hH : fc_H mi mr b sc n m t) {sl kp : Nat} (hPa : fc_Pa mi sl kp) {len : Nat} (hA : fc_La mi b len) (x z : Int32) : fc_R E mX10_give (d + 5) fc_sh [.ref 0, .int x, .int z] mi ml mr (if sp_cg (mi b 13) (mi b 12) (mi 23) (mi (b + 7)) (mi 19) (mi 18) (mi 17 1) x z then fc_is (some (.int (fc_b (sp_bi (q_gs mi b n len x z))))) (q_give mi b n len sl kp x z) ml mr else fc_is (some (.int (-1))) mi ml mr) := by
  obtain ⟨hW, hB, hL, hb, hN, hV, hC, hQ, hsc⟩ := id hH
  obtain ⟨hN1, hN2, hN3, hN4, hN5, hN6⟩ := id hN
  obtain ⟨hP1, hP2, hP3, hP4⟩ := id hPa
  have off : ∀ x, x ≠ 33 → x < 38 ∨ 166 ≤ x → sp_kp mi sl kp x = mi x := fun x h1 h2 => sp_kp_off mi hP2 h1 h2
  obtain ⟨hA1, hA2, hA3⟩ := id hA
  refine fc_met rfl (Nat.le_of_ble_eq_true rfl) (fc_run oX10_give (fun _ => false) 400 ?_)
  refine And.intro rfl (Exists.intro _ (And.intro (hW 0 3 17 rfl) ?_))
  refine And.intro rfl (Exists.intro _ (And.intro hB ?_))
  refine And.intro (fc_S_0 (fc_S_at17 hW)) (Exists.intro _ (And.intro (c_canGive (fc_S_at17 hW) hL hN hV _ _) ?_))
  rintro _ _ _ _ ⟨rfl, rfl, rfl, rfl⟩
  refine And.intro (fun h13 => ?_) (fun h13 => ?_)
  · replace h13 := fc_b0.mp h13
    rw [if_neg (by rw [show sp_cg (mi b 13) (mi b 12) (mi 23) (mi (b + 7)) (mi 19) (mi 18) (mi 17 1) x z = false from h13]; decide)]
    exact ⟨rfl, rfl, rfl, rfl⟩
  · replace h13 := fc_b1.mp h13
    obtain ⟨hg1, hg2⟩ : sp_has (mi b 13) x = true ∧ sp_has (mi b 12) z = true := by
      unfold sp_cg at h13
      simp only [Bool.and_eq_true] at h13
      exact ⟨h13.1, h13.2.1⟩
    rw [hN5] at hg1
    obtain ⟨k, hk, rfl⟩ := sp_hasN (by omega) hg1
    rw [hN1] at hg2
    obtain ⟨o, ho, rfl⟩ := sp_hasN (by omega) hg2
    obtain ⟨p, hp, hw⟩ := hV.2.1 k hk
    have hc_k := fc_cl (k := 8) (show k < 8 by omega) (by omega)
    have hc_o := fc_cl (k := 8) (show o < 8 by omega) (by omega)
    have hc_p := fc_cl (k := 8) (show p < 8 by omega) (by omega)
    refine And.intro rfl (Exists.intro _ (And.intro (hW 0 5 33 rfl) ?_))
    refine And.intro rfl (Exists.intro _ (And.intro (hW 0 3 17 rfl) ?_))
    refine And.intro rfl (Exists.intro _ (And.intro (c_keep hW hP1 hP2 hP3 hP4) ?_))
    rintro _ _ _ _ ⟨rfl, rfl, rfl, rfl⟩
    refine And.intro rfl (Exists.intro _ (And.intro (hW 0 3 17 rfl) ?_))
    refine And.intro rfl (Exists.intro _ (And.intro hB ?_))
    refine And.intro (fc_S_0 (fc_S_at17 hW)) (Exists.intro _ (And.intro (c_handOver (fc_S_at17 hW) hL (by rw [off _ (by omega) (by omega)]; exact hN1) hN2 (by rw [off _ (by omega) (by omega)]; exact hA1) hA2 (show k < 6 by omega) (by rw [off _ (by omega) (by omega)]; exact hw) (by omega) (by omega)) ?_))
    rintro _ _ _ _ ⟨rfl, rfl, rfl, rfl⟩
    have hS : sp_bd n (sp_kp mi sl kp (17 + 1)) (sp_kp mi sl kp (b + 7)) (sp_kp mi sl kp (b + 5)) (sp_kp mi sl kp (b + 11)) (sp_kp mi sl kp (b + 12)) len (sp_kp mi sl kp (b + 8) k) (sp_kp mi sl kp 17 1) p o = q_gs mi b n len (nI k) (nI o) := by
      unfold q_gs
      rw [off (17 + 1) (by omega) (by omega), off (b + 7) (by omega) (by omega), off (b + 5) (by omega) (by omega), off (b + 11) (by omega) (by omega), off (b + 12) (by omega) (by omega), off (b + 8) (by omega) (by omega), off 17 (by omega) (by omega), hc_k, show mi 23 k = nI p from hw, hc_p, hc_o]
    rw [hS]
    refine And.intro (fun h42 => ?_) (fun h42 => ?_)
    · replace h42 := fc_b0.mp h42
      rw [if_pos h13]
      refine ⟨by rw [h42]; rfl, ?_, rfl, rfl⟩
      unfold q_give
      rw [hc_k, show mi 23 k = nI p from hw, hc_p]
    · replace h42 := fc_b1.mp h42
      rw [if_pos h13]
      refine ⟨by rw [h42]; rfl, ?_, rfl, rfl⟩
      unfold q_give
      rw [hc_k, show mi 23 k = nI p from hw, hc_p]

def q_vs (mi : fc_Mi) (b n len : Nat) (x z : Int32) : Nat × (Nat → Int32) := sp_bd n (mi 18) (mi (b + 7)) (mi (b + 5)) (mi (b + 11)) (mi (b + 12)) len 0 (mi 17 1) x.toNatClampNeg z.toNatClampNeg
/-- the memory behind a vow -/
def q_vow (mi : fc_Mi) (b n len sl kp : Nat) (x z : Int32) : fc_Mi := sp_vw (sp_kp mi sl kp) 17 b x.toNatClampNeg z.toNatClampNeg (q_vs mi b n len x z)
theorem c_vow (hH : fc_H mi mr b sc n m t) {sl kp : Nat} (hPa : fc_Pa mi sl kp) {len : Nat} (hA : fc_La mi b len) (x z : Int32) : fc_R E mX10_vow (d + 4) fc_sh [.ref 0, .int x, .int z] mi ml mr (if sp_cv (mi b 12) (mi (b + 7)) (mi 19) (mi 18) (mi (b + 5)) (mi 21) (mi 17 1) x z then fc_is (some (.int (fc_b (sp_bi (q_vs mi b n len x z))))) (q_vow mi b n len sl kp x z) ml mr else fc_is (some (.int (-1))) mi ml mr) := by
  obtain ⟨hW, hB, hL, hb, hN, hV, hC, hQ, hsc⟩ := id hH
  obtain ⟨hN1, hN2, hN3, hN4, hN5, hN6⟩ := id hN
  obtain ⟨hP1, hP2, hP3, hP4⟩ := id hPa
  have off : ∀ x, x ≠ 33 → x < 38 ∨ 166 ≤ x → sp_kp mi sl kp x = mi x := fun x h1 h2 => sp_kp_off mi hP2 h1 h2
  obtain ⟨hA1, hA2, hA3⟩ := id hA
  refine fc_met rfl (Nat.le_of_ble_eq_true rfl) (fc_run oX10_vow (fun _ => false) 400 ?_)
  refine And.intro rfl (Exists.intro _ (And.intro (hW 0 3 17 rfl) ?_))
  refine And.intro rfl (Exists.intro _ (And.intro hB ?_))
  refine And.intro (fc_S_0 (fc_S_at17 hW)) (Exists.intro _ (And.intro (c_canVow (fc_S_at17 hW) hL hN _ _) ?_))
  rintro _ _ _ _ ⟨rfl, rfl, rfl, rfl⟩
  refine And.intro (fun h13 => ?_) (fun h13 => ?_)
  · replace h13 := fc_b0.mp h13
    rw [if_neg (by rw [show sp_cv (mi b 12) (mi (b + 7)) (mi 19) (mi 18) (mi (b + 5)) (mi 21) (mi 17 1) x z = false from h13]; decide)]
    exact ⟨rfl, rfl, rfl, rfl⟩
  · replace h13 := fc_b1.mp h13
    obtain ⟨hg1, hg2⟩ : sp_has (mi b 12) x = true ∧ sp_has (mi b 12) z = true := by
      unfold sp_cv at h13
      simp only [Bool.and_eq_true] at h13
      exact ⟨h13.1, h13.2.1⟩
    rw [hN1] at hg1 hg2
    obtain ⟨k, hk, rfl⟩ := sp_hasN (by omega) hg1
    obtain ⟨o, ho, rfl⟩ := sp_hasN (by omega) hg2
    have hc_k := fc_cl (k := 8) (show k < 8 by omega) (by omega)
    have hc_o := fc_cl (k := 8) (show o < 8 by omega) (by omega)
    refine And.intro rfl (Exists.intro _ (And.intro (hW 0 5 33 rfl) ?_))
    refine And.intro rfl (Exists.intro _ (And.intro (hW 0 3 17 rfl) ?_))
    refine And.intro rfl (Exists.intro _ (And.intro (c_keep hW hP1 hP2 hP3 hP4) ?_))
    rintro _ _ _ _ ⟨rfl, rfl, rfl, rfl⟩
    refine And.intro rfl (Exists.intro _ (And.intro (hW 0 3 17 rfl) ?_))
    refine And.intro rfl (Exists.intro _ (And.intro hB ?_))
    refine And.intro (fc_S_0 (fc_S_at17 hW)) (Exists.intro _ (And.intro (c_pledge (fc_S_at17 hW) hL (by rw [off _ (by omega) (by omega)]; exact hN1) hN2 (by rw [off _ (by omega) (by omega)]; exact hA1) hA2 (show k < 5 by omega) (show o < 5 by omega)) ?_))
    rintro _ _ _ _ ⟨rfl, rfl, rfl, rfl⟩
    have hS : sp_bd n (sp_kp mi sl kp (17 + 1)) (sp_kp mi sl kp (b + 7)) (sp_kp mi sl kp (b + 5)) (sp_kp mi sl kp (b + 11)) (sp_kp mi sl kp (b + 12)) len 0 (sp_kp mi sl kp 17 1) k o = q_vs mi b n len (nI k) (nI o) := by
      unfold q_vs
      rw [off (17 + 1) (by omega) (by omega), off (b + 7) (by omega) (by omega), off (b + 5) (by omega) (by omega), off (b + 11) (by omega) (by omega), off (b + 12) (by omega) (by omega), off 17 (by omega) (by omega), hc_k, hc_o]
    rw [hS]
    refine And.intro (fun h42 => ?_) (fun h42 => ?_)
    · replace h42 := fc_b0.mp h42
      rw [if_pos h13]
      refine ⟨by rw [h42]; rfl, ?_, rfl, rfl⟩
      unfold q_vow
      rw [hc_k, hc_o]
    · replace h42 := fc_b1.mp h42
      rw [if_pos h13]
      refine ⟨by rw [h42]; rfl, ?_, rfl, rfl⟩
      unfold q_vow
      rw [hc_k, hc_o]

theorem c_minute (hH : fc_H mi mr b sc n m t) {sl kp : Nat} (hPa : fc_Pa mi sl kp) : fc_R E mX10_minute (d + 3) fc_sh [.ref 0] mi ml mr (sp_passQ (sp_kp mi sl kp) ml mr 17 b n m) := by
  obtain ⟨hW, hB, hL, hb, hN, hV, hC, hQ, hsc⟩ := id hH
  obtain ⟨hN1, hN2, hN3, hN4, hN5, hN6⟩ := id hN
  obtain ⟨hP1, hP2, hP3, hP4⟩ := id hPa
  have off : ∀ x, x ≠ 33 → x < 38 ∨ 166 ≤ x → sp_kp mi sl kp x = mi x := fun x h1 h2 => sp_kp_off mi hP2 h1 h2
  refine fc_met rfl (Nat.le_of_ble_eq_true rfl) (fc_run oX10_minute (fun _ => false) 400 ?_)
  refine And.intro rfl (Exists.intro _ (And.intro (hW 0 5 33 rfl) ?_))
  refine And.intro rfl (Exists.intro _ (And.intro (hW 0 3 17 rfl) ?_))
  refine And.intro rfl (Exists.intro _ (And.intro (c_keep hW hP1 hP2 hP3 hP4) ?_))
  rintro _ _ _ _ ⟨rfl, rfl, rfl, rfl⟩
  refine And.intro rfl (Exists.intro _ (And.intro (hW 0 3 17 rfl) ?_))
  refine And.intro rfl (Exists.intro _ (And.intro hB ?_))
  refine And.intro rfl (Exists.intro _ (And.intro (c_pass (t := t) (fc_S_at17 hW) hL (by omega) (hN.off (off b (by omega) (by omega))) (by rw [off (17 + 1) (by omega) (by omega)]; exact hV.1)) ?_))
  intro v m1 m2 m3 hq
  have hv : v = some (.int 0) ∨ v = some (.int 1) := by
    unfold sp_passQ at hq
    split at hq
    · exact Or.inr hq.1.symm
    · exact Or.inl hq.1.symm
  rcases hv with rfl | rfl
  · exact And.intro (Or.inl rfl) hq
  · exact And.intro (Or.inr rfl) hq
theorem c_undo (hH : fc_H mi mr b sc n m t) {sl kp : Nat} (hPa : fc_Pa mi sl kp) : fc_R E mX10_undo (d + 2) fc_sh [.ref 0] mi ml mr (if kp = 0 then fc_is (some (.int 0)) mi ml mr else fc_is (some (.int 1)) (sp_bb mi sl kp) ml mr) := by
  obtain ⟨hW, hB, hL, hb, hN, hV, hC, hQ, hsc⟩ := id hH
  obtain ⟨hN1, hN2, hN3, hN4, hN5, hN6⟩ := id hN
  obtain ⟨hP1, hP2, hP3, hP4⟩ := id hPa
  have off : ∀ x, x ≠ 33 → x < 38 ∨ 166 ≤ x → sp_kp mi sl kp x = mi x := fun x h1 h2 => sp_kp_off mi hP2 h1 h2
  refine fc_met rfl (Nat.le_of_ble_eq_true rfl) (fc_run oX10_undo (fun _ => false) 400 ?_)
  refine And.intro rfl (Exists.intro _ (And.intro (hW 0 5 33 rfl) ?_))
  refine And.intro rfl (Exists.intro _ (And.intro (hW 0 3 17 rfl) ?_))
  refine And.intro rfl (Exists.intro _ (And.intro (c_bringBack hW hP1 hP2 hP3 hP4) ?_))
  intro v m1 m2 m3 hq
  have hv : v = some (.int 0) ∨ v = some (.int 1) := by
    split at hq
    · exact Or.inl hq.1.symm
    · exact Or.inr hq.1.symm
  rcases hv with rfl | rfl
  · exact And.intro (Or.inl rfl) hq
  · exact And.intro (Or.inr rfl) hq
theorem c_see (hH : fc_H mi mr b sc n m t) {k : Nat} (hk : mi 214 3 = nI k) (hk8 : k ≤ 8) (x mn cn : Int32) : fc_R E mX10_see (d + 1) fc_sh [.ref 0, .int x, .int mn, .int cn] mi ml mr (if sp_has (mi b 10) x && (sp_from 0 mn 99 && !decide (k = 8)) then fc_is (some (.int 1)) (sp_ad mi k x mn cn) ml mr else fc_is (some (.int 0)) mi ml mr) := by
  obtain ⟨hW, hB, hL, hb, hN, hV, hC, hQ, hsc⟩ := id hH
  obtain ⟨hN1, hN2, hN3, hN4, hN5, hN6⟩ := id hN
  refine fc_met rfl (Nat.le_of_ble_eq_true rfl) (fc_run oX10_see (fun _ => false) 400 ?_)
  refine And.intro rfl (Exists.intro _ (And.intro hB ?_))
  refine And.intro (fc_L_0 hL) (Exists.intro _ (And.intro (c_hasPlace hL _) ?_))
  rintro _ _ _ _ ⟨rfl, rfl, rfl, rfl⟩
  refine And.intro (fun h8 => ?_) (fun h8 => ?_)
  · replace h8 := fc_b0.mp h8
    refine And.intro (by first | exact Or.inl rfl | exact Or.inr rfl | exact fc_bb _ | assumption) ?_
    rw [if_neg (by simp [h8])]
    exact ⟨rfl, rfl, rfl, rfl⟩
  · replace h8 := fc_b1.mp h8
    refine Exists.intro _ (And.intro (c_isFrom _ _ _) ?_)
    rintro _ _ _ _ ⟨rfl, rfl, rfl, rfl⟩
    refine And.intro (fun h18 => ?_) (fun h18 => ?_)
    · replace h18 := fc_b0.mp h18
      refine And.intro (by first | exact Or.inl rfl | exact Or.inr rfl | exact fc_bb _ | assumption) ?_
      rw [if_neg (by simp [h8, h18])]
      exact ⟨rfl, rfl, rfl, rfl⟩
    · replace h18 := fc_b1.mp h18
      refine And.intro rfl (Exists.intro _ (And.intro (hW 0 6 214 rfl) ?_))
      refine And.intro (fc_Z_0 (fc_Z_at214 hW)) (Exists.intro _ (And.intro (c_add hW hk hk8 _ _ _) ?_))
      intro v m1 m2 m3 hq
      have hv : (k = 8 ∧ fc_is (some (.int (fc_b false))) mi ml mr v m1 m2 m3) ∨ (¬ k = 8 ∧ fc_is (some (.int (fc_b true))) (sp_ad mi k x mn cn) ml mr v m1 m2 m3) := by
        split at hq
        · next e => exact Or.inl ⟨e, hq⟩
        · next e => exact Or.inr ⟨e, hq⟩
      obtain ⟨bb, hk9, hv⟩ : ∃ bb : Bool, (bb = !decide (k = 8)) ∧ fc_is (some (.int (fc_b bb))) (if bb then sp_ad mi k x mn cn else mi) ml mr v m1 m2 m3 := by
        rcases hv with ⟨e, hv⟩ | ⟨e, hv⟩
        · exact ⟨false, by simp [e], hv⟩
        · exact ⟨true, by simp [e], hv⟩
      obtain ⟨rfl, rfl, rfl, rfl⟩ := hv
      refine And.intro (fun h31 => ?_) (fun h31 => ?_)
      · replace h31 := fc_b0.mp h31
        refine And.intro (by first | exact Or.inl rfl | exact Or.inr rfl | exact fc_bb _ | assumption) ?_
        rw [h31] at hk9
        rw [if_neg (by rw [h8, h18, ← hk9]; decide), h31]
        exact ⟨rfl, rfl, rfl, rfl⟩
      · replace h31 := fc_b1.mp h31
        refine And.intro (by first | exact Or.inl rfl | exact Or.inr rfl | exact fc_bb _ | assumption) ?_
        rw [h31] at hk9
        rw [if_pos (by rw [h8, h18, ← hk9]; rfl), h31]
        exact ⟨rfl, rfl, rfl, rfl⟩

theorem c_mark (hH : fc_H mi mr b sc n m t) (x bk : Int32) : fc_R E mX10_mark (d + 2) fc_sh [.ref 0, .int x, .int bk] mi ml mr (if sp_from 0 x 3 then (if bk = 0 then fc_is (some (.int 1)) (sp_ly mi x.toNatClampNeg) ml mr else if mi 37 x.toNatClampNeg = 0 then fc_is (some (.int 0)) mi ml mr else fc_is (some (.int 1)) (sp_gb mi x.toNatClampNeg) ml mr) else fc_is (some (.int 0)) mi ml mr) := by
  obtain ⟨hW, hB, hL, hb, hN, hV, hC, hQ, hsc⟩ := id hH
  obtain ⟨hN1, hN2, hN3, hN4, hN5, hN6⟩ := id hN
  refine fc_met rfl (Nat.le_of_ble_eq_true rfl) (fc_run oX10_mark (fun _ => false) 400 ?_)
  refine Exists.intro _ (And.intro (c_isFrom _ _ _) ?_)
  rintro _ _ _ _ ⟨rfl, rfl, rfl, rfl⟩
  refine And.intro (fun h6 => ?_) (fun h6 => ?_)
  · replace h6 := fc_b0.mp h6
    refine And.intro (by first | exact Or.inl rfl | exact Or.inr rfl | exact fc_bb _ | assumption) ?_
    rw [if_neg (by rw [show sp_from 0 x 3 = false from h6]; decide)]
    exact ⟨rfl, rfl, rfl, rfl⟩
  · replace h6 := fc_b1.mp h6
    obtain ⟨k, hk, rfl⟩ : ∃ k, k < 4 ∧ x = nI k := by
      unfold sp_from at h6
      simp only [Bool.and_eq_true, Bool.not_eq_true', decide_eq_false_iff_not] at h6
      obtain ⟨j, h1, rfl⟩ := nI_of h6.1
      refine ⟨j, ?_, rfl⟩
      rcases Nat.lt_or_ge j 4 with q | q
      · exact q
      · exact absurd ((nI_ltI (a := 3) (by omega) (by omega)).mpr (by omega)) h6.2
    have hc_k := fc_cl (k := 8) (show k < 8 by omega) (by omega)
    refine And.intro (fun h12 => ?_) (fun h12 => ?_)
    · refine And.intro rfl (Exists.intro _ (And.intro (hW 0 5 33 rfl) ?_))
      refine And.intro rfl (Exists.intro _ (And.intro (hW 0 3 17 rfl) ?_))
      refine And.intro rfl (Exists.intro _ (And.intro (hW 0 6 214 rfl) ?_))
      refine And.intro rfl (Exists.intro _ (And.intro (c_lay hW hk) ?_))
      rintro _ _ _ _ ⟨rfl, rfl, rfl, rfl⟩
      refine And.intro (by first | exact Or.inl rfl | exact Or.inr rfl | exact fc_bb _ | assumption) ?_
      rw [if_pos h6, if_pos h12, hc_k]
      exact ⟨rfl, rfl, rfl, rfl⟩
    · refine And.intro rfl (Exists.intro _ (And.intro (hW 0 5 33 rfl) ?_))
      refine And.intro rfl (Exists.intro _ (And.intro (hW 0 3 17 rfl) ?_))
      refine And.intro rfl (Exists.intro _ (And.intro (hW 0 6 214 rfl) ?_))
      refine And.intro rfl (Exists.intro _ (And.intro (c_goBack hW hk) ?_))
      intro v m1 m2 m3 hq
      have hv : v = some (.int 0) ∨ v = some (.int 1) := by
        split at hq
        · exact Or.inl hq.1.symm
        · exact Or.inr hq.1.symm
      rw [if_pos h6, if_neg h12, hc_k]
      rcases hv with rfl | rfl
      · exact And.intro (Or.inl rfl) hq
      replace hq := hq
      refine And.intro (by first | exact Or.inl rfl | exact Or.inr rfl | exact fc_bb _ | assumption) ?_
      exact hq

end M29
