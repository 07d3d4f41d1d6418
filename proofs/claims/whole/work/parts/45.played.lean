/-! ===== land() ===== -/
section M45
variable {E : fc_E} {d : Nat} {mi : fc_Mi} {ml : fc_Ml} {mr : fc_Mr} {s : Nat → Int32} {n i a b sc m k t : Nat}
theorem fc_L.mv {mr2 : fc_Mr} (h : fc_L mr b) (e : ∀ x, 1 ≤ x → mr2 x = mr x) (hb : 1 ≤ b) : fc_L mr2 b := by
  unfold fc_L at *
  rw [e b hb, e (b + 10) (by omega)]
  exact h
theorem fc_Qs.mv {mr2 : fc_Mr} (h : fc_Qs mr sc) (e : ∀ x, 1 ≤ x → mr2 x = mr x) (hb : 1 ≤ sc) : fc_Qs mr2 sc := by
  unfold fc_Qs at *
  rw [e sc hb]
  exact h
theorem fc_Wd.w (h : fc_Wd mr) {x0 k0 : Nat} (h0 : fc_fr x0 k0 = none) (v : Option Nat) : fc_Wd (fc_u mr x0 k0 v) := by
  intro x k r e
  by_cases ex : x = x0
  · by_cases ek : k = k0
    · subst ex ek
      rw [h0] at e; cases e
    · rw [fc_u_nj _ _ _ _ ek]; exact h x k r e
  · rw [fc_u_off _ _ _ ex]; exact h x k r e
/-- the memory behind a land read -/
def q_ld (M : fc_Mi) (b2 sc m : Nat) : fc_Mi := sp_fg (fc_u (fc_u (sp_bg (sp_mm (fc_u M 1 1 0) b2 m m) 17 b2 5 6) sc 3 0) 214 3 0) 4
def fc_ldq (b b2 sc : Nat) (mi : fc_Mi) (ml : fc_Ml) (mr : fc_Mr) (r : Except Int32 fc_Ab) : fc_Q := fun v mi' ml' mr' => ∃ M, fc_Fm b2 mi M ml ml' ∧ (match r with
  | .error f => v = some (.int f) ∧ mr = mr' ∧ fc_u M 1 1 0 = mi'
  | .ok A => v = some (.int 0) ∧ fc_u (fc_u mr 0 8 (some b)) 0 7 (some b2) = mr' ∧ fc_AI A ∧ fc_RC A M ml' b2 ∧ q_ld M b2 sc (A.1 0) = mi')
theorem c_land (hH : fc_H mi mr b sc k m t) {b2 : Nat} (hB2 : mr 0 8 = some b2) (hL2 : fc_L mr b2) (hb2 : 218 ≤ b2) (hb3 : b2 + 12 < 244) (hT : fc_Tp mi n) (hs : mi 2 = s) (hz : ∀ f, ps_ld s n 1000 0 ps_0 = .error f → ¬ f = 0) : fc_R E mX10_land (d + 10) fc_sh [.ref 0] mi ml mr (fc_ldq b b2 sc mi ml mr (ps_ld s n 1000 0 ps_0)) := by
  obtain ⟨hW, hB, hL, hb, hN, hV, hC, hQ, hsc⟩ := id hH
  obtain ⟨r, hr⟩ : ∃ r, ps_ld s n 1000 0 ps_0 = r := ⟨_, rfl⟩
  refine fc_met rfl (Nat.le_of_ble_eq_true rfl) (fc_run oX10_land (fun _ => false) 400 ?_)
  refine And.intro rfl (Exists.intro _ (And.intro (hW 0 1 3 rfl) ?_))
  refine And.intro rfl (Exists.intro _ (And.intro (hW 0 0 1 rfl) ?_))
  refine And.intro rfl (Exists.intro _ (And.intro hB2 ?_))
  refine And.intro rfl (Exists.intro _ (And.intro (c_landread hW hL2 (by omega) hT hs) ?_))
  rintro v12 m12 l12 _ ⟨rfl, F12, q12⟩
  rw [hr] at q12 hz ⊢
  obtain ⟨x12, rfl⟩ : ∃ x, v12 = some (.int x) := by
    revert q12
    rcases r with f | q
    · exact fun h => ⟨_, h⟩
    · exact fun h => ⟨_, h.1⟩
  refine And.intro rfl (Exists.intro _ (And.intro (hW 0 0 1 rfl) ?_))
  refine And.intro rfl (Exists.intro _ (And.intro (c_tclear hW) ?_))
  rintro _ _ _ _ ⟨rfl, rfl, rfl, rfl⟩
  refine And.intro (fun h24 => ?_) (fun h24 => ?_)
  · obtain ⟨A, rfl, qI, qR⟩ : ∃ A, r = .ok A ∧ fc_AI A ∧ fc_RC A m12 l12 b2 := by
      rcases r with f | q
      · exact absurd ((Value.int.inj (Option.some.inj q12)).symm.trans h24) (hz f rfl)
      · exact ⟨q, rfl, q12.2⟩
    have hM : (fc_u m12 1 1 0) b2 10 = nI (A.1 0) := by rw [fc_u_off _ _ _ (by omega)]; exact qR.1.1
    refine And.intro rfl (Exists.intro _ (And.intro hB2 ?_))
    refine And.intro rfl (Exists.intro _ (And.intro hB ?_))
    refine And.intro rfl ?_
    refine And.intro rfl ?_
    have hW := (hW.w (x0 := 0) (k0 := 8) rfl (some b)).w (x0 := 0) (k0 := 7) rfl (some b2)
    have em : ∀ x, 1 ≤ x → (fc_u (fc_u mr 0 8 (some b)) 0 7 (some b2)) x = mr x := fun x hx => by rw [fc_u_off _ _ _ (by omega), fc_u_off _ _ _ (by omega)]
    have hL2 := hL2.mv em (by omega)
    have hQ := hQ.mv em (by omega)
    have hB2 : (fc_u (fc_u mr 0 8 (some b)) 0 7 (some b2)) 0 7 = some b2 := fc_u_at _ _ _ _
    have hC : (fc_u (fc_u mr 0 8 (some b)) 0 7 (some b2)) 0 9 = some sc := by rw [fc_u_nj _ _ _ _ (by decide), fc_u_nj _ _ _ _ (by decide)]; exact hC
    refine And.intro rfl (Exists.intro _ (And.intro (hW 0 2 6 rfl) ?_))
    refine And.intro rfl (Exists.intro _ (And.intro hB2 ?_))
    refine And.intro rfl (Exists.intro _ (And.intro (c_measure hW hL2 (by omega) hM qI.1.1) ?_))
    rintro _ _ _ _ ⟨rfl, rfl, rfl, rfl⟩
    refine And.intro rfl (Exists.intro _ (And.intro (hW 0 3 17 rfl) ?_))
    refine And.intro rfl (Exists.intro _ (And.intro hB2 ?_))
    refine And.intro (fc_S_0 (fc_S_at17 hW)) (Exists.intro _ (And.intro (c_begin (fc_S_at17 hW) hL2 (by omega)) ?_))
    rintro _ _ _ _ ⟨rfl, rfl, rfl, rfl⟩
    refine And.intro rfl (Exists.intro _ (And.intro hC ?_))
    refine And.intro (fc_Q_0 hQ) ?_
    refine And.intro rfl (Exists.intro _ (And.intro (hW 0 6 214 rfl) ?_))
    refine And.intro (fc_Z_0 (fc_Z_at214 hW)) ?_
    refine And.intro rfl (Exists.intro _ (And.intro (hW 0 5 33 rfl) ?_))
    refine And.intro rfl (Exists.intro _ (And.intro (c_forget hW) ?_))
    rintro _ _ _ _ ⟨rfl, rfl, rfl, rfl⟩
    exact ⟨m12, F12, rfl, rfl, qI, qR, rfl⟩
  · rcases r with f | q
    · exact ⟨m12, F12, q12, rfl, rfl⟩
    · exact absurd (Value.int.inj (Option.some.inj q12.1)) h24

/-! ===== a line played ===== -/
/-- the law of a land -/
def cw (mi : fc_Mi) (b len : Nat) : fc_Ev := fun ck pr cr jd => sp_bi (sp_lw (mi (b + 11)) ck pr cr jd (fun _ => 0) len)
theorem as_bd_cw {len : Nat} (hA : fc_La mi b len) (v : Nat → Int32) (pr ck : Int32) (p o : Nat) : sp_bi (sp_bd n (mi (a + 1)) (mi (b + 7)) (mi (b + 5)) (mi (b + 11)) v len pr ck p o) = as_bd (cl mi b) (cv mi a) n (cw mi b len) pr ck p o := by
  rw [sp_bn_v0 hA.2.2]
  rfl
/-- the cells that a deed on the State at a may move -/
def fc_dm (a b : Nat) (mi mi' : fc_Mi) : Prop := ∀ x, (x < a ∨ a + 8 ≤ x) → x ≠ b + 12 → mi' x = mi x
theorem fc_dm.u {mm : fc_Mi} {x j : Nat} {v : Int32} (h : fc_dm a b mi mm) (hx : a ≤ x ∧ x < a + 8) : fc_dm a b mi (fc_u mm x j v) := fun y h1 h2 => by rw [fc_u_off _ _ _ (by omega)]; exact h y h1 h2
theorem fc_dm.ur {mm : fc_Mi} {x : Nat} {v : Nat → Int32} (h : fc_dm a b mi mm) (hx : a ≤ x ∧ x < a + 8 ∨ x = b + 12) : fc_dm a b mi (fc_ur mm x v) := fun y h1 h2 => by rw [fc_ur_off _ _ (by omega)]; exact h y h1 h2
theorem fc_dm.rf : fc_dm a b mi mi := fun _ _ _ => rfl
theorem fc_dm.tr {m1 m2 : fc_Mi} (h : fc_dm a b mi m1) (g : fc_dm a b m1 m2) : fc_dm a b mi m2 := fun x h1 h2 => (g x h1 h2).trans (h x h1 h2)
theorem sp_gv_cv {q p : Nat} {z : Int32} {st : Nat × (Nat → Int32)} (hab : a + 8 ≤ b) : cv (sp_gv mi a b q p z st) a = as_gv (cv mi a) q p z (sp_bi st) ∧ fc_dm a b mi (sp_gv mi a b q p z st) := by
  unfold sp_gv as_gv
  split
  · exact ⟨by rw [cv_u _ _ (by omega), cv_u _ _ (by omega), cv_u _ _ (by omega), cv_uro _ _ (by omega)], ((((fc_dm.rf).ur (Or.inr rfl)).u (by omega)).u (by omega)).u (by omega)⟩
  · exact ⟨by rw [cv_u _ _ (by omega), cv_u _ _ (by omega), cv_uro _ _ (by omega)], (((fc_dm.rf).ur (Or.inr rfl)).u (by omega)).u (by omega)⟩
theorem cv_m (f : fc_Mi) (a : Nat) {x : Nat} (h : x < 8) (j : Nat) (w : Int32) : cv (fc_u f (a + x) j (f (a + x) j ||| w)) a = fc_u (cv f a) x j (cv f a x j ||| w) := by rw [cv_u f a h, cv_at f a h]
theorem sp_vw0_cv {p q : Nat} (mm : fc_Mi) : cv (sp_vw0 mm a p q) a = sp_vw0 (cv mm a) 0 p q := by
  unfold sp_vw0
  simp only
  rw [cv_m _ _ (by omega), cv_m _ _ (by omega), cv_u _ _ (by omega), cv_u _ _ (by omega)] <;> rfl
theorem sp_vw1_cv {p q : Nat} (mm : fc_Mi) : cv (sp_vw1 mm a p q) a = sp_vw1 (cv mm a) 0 p q := by
  unfold sp_vw1
  simp only
  rw [cv_m _ _ (by omega), cv_m _ _ (by omega)] <;> rfl
theorem sp_vw0_dm {mm : fc_Mi} {p q : Nat} (h : fc_dm a b mi mm) : fc_dm a b mi (sp_vw0 mm a p q) := (((h.u (by omega)).u (by omega)).u (by omega)).u (by omega)
theorem sp_vw1_dm {mm : fc_Mi} {p q : Nat} (h : fc_dm a b mi mm) : fc_dm a b mi (sp_vw1 mm a p q) := (h.u (by omega)).u (by omega)
theorem sp_vw_cv {p q : Nat} {st : Nat × (Nat → Int32)} (hab : a + 8 ≤ b) : cv (sp_vw mi a b p q st) a = as_vw (cv mi a) p q (sp_bi st) ∧ fc_dm a b mi (sp_vw mi a b p q st) := by
  unfold sp_vw as_vw
  split
  · exact ⟨by rw [sp_vw1_cv, sp_vw0_cv, cv_uro _ _ (by omega)], sp_vw1_dm (sp_vw0_dm ((fc_dm.rf).ur (Or.inr rfl)))⟩
  · exact ⟨by rw [sp_vw0_cv, cv_uro _ _ (by omega)], sp_vw0_dm ((fc_dm.rf).ur (Or.inr rfl))⟩
theorem sp_tick_cv (hab : a + 8 ≤ b) : cv (sp_tick mi a b n m) a = as_tick (cl mi b) (cv mi a) n m ∧ fc_dm a b mi (sp_tick mi a b n m) := by
  unfold sp_tick as_tick
  exact ⟨by rw [cv_u0, cv_ur _ _ (by omega), cv_ur _ _ (by omega)]; rfl, (((fc_dm.rf).ur (Or.inl (by omega))).ur (Or.inl (by omega))).u (by omega)⟩
theorem sp_smoke_cv (hab : a + 8 ≤ b) (mm : fc_Mi) : cv (sp_smoke mm a b) a = as_smoke (cl mm b) (cv mm a) ∧ fc_dm a b mm (sp_smoke mm a b) := by
  unfold sp_smoke as_smoke
  exact ⟨by rw [cv_u0, cv_u0, cv_ur _ _ (by omega), cv_ur _ _ (by omega), cv_ur _ _ (by omega), cv_ur _ _ (by omega)]; rfl, ((((((fc_dm.rf).ur (Or.inl (by omega))).ur (Or.inl (by omega))).ur (Or.inl (by omega))).ur (Or.inl (by omega))).u (by omega)).u (by omega)⟩
/-- behind a minute -/
theorem sp_pass_cv {v : Option Value} {mi' : fc_Mi} {ml' : fc_Ml} {mr' : fc_Mr} (hab : a + 8 ≤ b) (h : sp_passQ mi ml mr a b n m v mi' ml' mr') : v = some (.int (fc_b (decide (mi b 14 ≤ mi a 1 + 1)))) ∧ cv mi' a = as_pass (cl mi b) (cv mi a) n m (mi b 14) ∧ fc_dm a b mi mi' ∧ ml = ml' ∧ mr = mr' := by
  obtain ⟨t1, t2⟩ := sp_tick_cv (mi := mi) (n := n) (m := m) hab
  unfold sp_passQ at h
  unfold as_pass
  have e0 : cv mi a 0 1 = mi a 1 := rfl
  rw [e0]
  by_cases e : mi b 14 ≤ mi a 1 + 1
  · rw [if_pos e] at h
    rw [if_pos e]
    obtain ⟨rfl, rfl, rfl, rfl⟩ := h
    obtain ⟨s1, s2⟩ := sp_smoke_cv (a := a) (b := b) hab (sp_tick mi a b n m)
    have ec : cl (sp_tick mi a b n m) b = cl mi b := cl_off (fun x h1 h2 => t2 x (by omega) (by omega))
    exact ⟨by simp [e, fc_b], by rw [s1, t1, ec], t2.tr s2, rfl, rfl⟩
  · rw [if_neg e] at h
    rw [if_neg e]
    obtain ⟨rfl, rfl, rfl, rfl⟩ := h
    exact ⟨by simp [e, fc_b], t1, t2, rfl, rfl⟩
def fc_plq (a b : Nat) (mi : fc_Mi) (ml : fc_Ml) (mr : fc_Mr) (r : fc_Mi × Int32) : fc_Q := fun v mi' ml' mr' => v = some (.int r.2) ∧ cv mi' a = r.1 ∧ fc_dm a b mi mi' ∧ ml = ml' ∧ mr = mr'
theorem fc_ifb (c : Prop) [Decidable c] (x : Int32) (h : x = 0 ∨ x = 1) (e : c ↔ ¬ x = 0) : (if c then (1 : Int32) else 0) = x := by
  rcases h with rfl | rfl
  · rw [if_neg (fun q => (e.mp q) rfl)]
  · rw [if_pos (e.mpr (by decide))]
theorem c_play (hS : fc_S mr a) (hL : fc_L mr b) (hab : a + 8 ≤ b) (hQ : fc_Qs mr sc) (hN : fc_LN mi b k m t) (hV : fc_SV mi a k m t) {len : Nat} (hA : fc_La mi b len) (hi : i < 40) : fc_R E mX5_play (d + 5) fc_sh [.ref sc, .int (nI i), .ref b, .ref a] mi ml mr (fc_plq a b mi ml mr (as_play (cl mi b) (cv mi a) k m t (mi b 14) (cw mi b len) (mi (sc + 1) i) (mi (sc + 2) i) (mi (sc + 3) i))) := by
  obtain ⟨hN1, hN2, hN3, hN4, hN5, hN6⟩ := id hN
  obtain ⟨hA1, hA2, hA3⟩ := id hA
  refine fc_met rfl (Nat.le_of_ble_eq_true rfl) (fc_run oX5_play (fun _ => false) 400 ?_)
  refine And.intro (fc_Q_0 hQ) (Exists.intro _ (And.intro (fc_Q_r1 hQ) ?_))
  refine Exists.intro _ (Exists.intro _ (And.intro (fc_Q_2 hQ) (And.intro (fc_ix_nI hi (by omega)) ?_)))
  refine And.intro (fc_Q_0 hQ) (Exists.intro _ (And.intro (fc_Q_r2 hQ) ?_))
  refine Exists.intro _ (Exists.intro _ (And.intro (fc_Q_3 hQ) (And.intro (fc_ix_nI hi (by omega)) ?_)))
  refine And.intro (fc_Q_0 hQ) (Exists.intro _ (And.intro (fc_Q_r0 hQ) ?_))
  refine Exists.intro _ (Exists.intro _ (And.intro (fc_Q_1 hQ) (And.intro (fc_ix_nI hi (by omega)) ?_)))
  refine And.intro (fun h22 => ?_) (fun _ => And.intro (And.intro (fun h22 => ?_) (And.intro (fun h22 => ?_) (And.intro (fun h22 => ?_) trivial))) (by decide))
  · have n22_0 : ¬ mi (sc + 1) i = 139 := by intro q; rw [q] at h22; revert h22; decide
    have n22_1 : ¬ mi (sc + 1) i = 140 := by intro q; rw [q] at h22; revert h22; decide
    have n22_2 : ¬ mi (sc + 1) i = 141 := by intro q; rw [q] at h22; revert h22; decide
    refine And.intro (fc_S_0 hS) (Exists.intro _ (And.intro (c_pass (t := t) hS hL hab hN hV.1) ?_))
    intro v m1 m2 m3 q139
    obtain ⟨x139, rfl⟩ : ∃ x, v = some (.int x) := ⟨_, (sp_pass_cv hab q139).1⟩
    obtain ⟨-, c1, c2, rfl, rfl⟩ := sp_pass_cv hab q139
    exact ⟨by rw [as_play, if_neg n22_0, if_neg n22_1, if_neg n22_2], by rw [as_play, if_neg n22_0, if_neg n22_1, if_neg n22_2]; exact c1, c2, rfl, rfl⟩
  · replace h22 := (fc_ofI 139 (by decide)).mp h22
    refine And.intro (fc_S_0 hS) (Exists.intro _ (And.intro (c_canWalk hS hL hN hV _ _) ?_))
    rintro _ _ _ _ ⟨rfl, rfl, rfl, rfl⟩
    refine And.intro (fun h57 => ?_) (fun h57 => ?_)
    · replace h57 := fc_b0.mp h57
      rw [hN1, hN3] at h57
      have e : as_play (cl mi b) (cv mi a) k m t (mi b 14) (cw mi b len) (mi (sc + 1) i) (mi (sc + 2) i) (mi (sc + 3) i) = (cv mi a, -1) := by rw [as_play, if_pos h22]; exact if_neg (by rw [show sp_cw (nI k) (nI m) (cl mi b 7) (cv mi a 2) (cv mi a 1) (cl mi b 4) (cv mi a 0 1) (mi (sc + 2) i) (mi (sc + 3) i) = false from h57]; decide)
      rw [e]
      exact ⟨rfl, rfl, fc_dm.rf, rfl, rfl⟩
    · replace h57 := fc_b1.mp h57
      obtain ⟨hg1, hg2⟩ := sp_cw_has h57
      rw [hN1] at hg1
      obtain ⟨p, hp, ex⟩ := sp_hasN (by omega) hg1
      have hc_p := fc_cl (k := 8) (show p < 8 by omega) (by omega)
      refine And.intro (fc_S_0 hS) (Exists.intro _ (And.intro (by rw [ex]; exact c_goTo hS hL hab (by omega) _) ?_))
      rintro _ _ _ _ ⟨rfl, rfl, rfl, rfl⟩
      rw [hN1, hN3] at h57
      have e : as_play (cl mi b) (cv mi a) k m t (mi b 14) (cw mi b len) (mi (sc + 1) i) (mi (sc + 2) i) (mi (sc + 3) i) = (as_wk (cl mi b) (cv mi a) (mi (sc + 2) i).toNatClampNeg (mi (sc + 3) i), 0) := by rw [as_play, if_pos h22]; exact if_pos h57
      rw [e, ex, hc_p]
      exact ⟨rfl, by rw [cv_u _ _ (by omega), cv_u _ _ (by omega)]; rfl, ((fc_dm.rf).u (by omega)).u (by omega), rfl, rfl⟩
  · replace h22 := (fc_ofI 140 (by decide)).mp h22
    refine And.intro (fc_S_0 hS) (Exists.intro _ (And.intro (c_canGive hS hL hN hV _ _) ?_))
    rintro _ _ _ _ ⟨rfl, rfl, rfl, rfl⟩
    refine And.intro (fun h82 => ?_) (fun h82 => ?_)
    · replace h82 := fc_b0.mp h82
      rw [hN1, hN5] at h82
      have e : as_play (cl mi b) (cv mi a) k m t (mi b 14) (cw mi b len) (mi (sc + 1) i) (mi (sc + 2) i) (mi (sc + 3) i) = (cv mi a, -1) := by rw [as_play, if_neg (by rw [h22]; decide), if_pos h22]; exact if_neg (by rw [show sp_cg (nI t) (nI k) (cv mi a 6) (cl mi b 7) (cv mi a 2) (cv mi a 1) (cv mi a 0 1) (mi (sc + 2) i) (mi (sc + 3) i) = false from h82]; decide)
      rw [e]
      exact ⟨rfl, rfl, fc_dm.rf, rfl, rfl⟩
    · replace h82 := fc_b1.mp h82
      obtain ⟨hg1, hg2⟩ := sp_cg_has h82
      rw [hN5] at hg1
      obtain ⟨q, hq, ex⟩ := sp_hasN (by omega) hg1
      rw [hN1] at hg2
      obtain ⟨w, hw, ez⟩ := sp_hasN (by omega) hg2
      obtain ⟨p, hp, hh⟩ := hV.2.1 q hq
      have hc_q := fc_cl (k := 8) (show q < 8 by omega) (by omega)
      have hc_w := fc_cl (k := 8) (show w < 8 by omega) (by omega)
      have hc_p := fc_cl (k := 8) (show p < 8 by omega) (by omega)
      refine And.intro (fc_S_0 hS) (Exists.intro _ (And.intro (by rw [ex, ez]; exact c_handOver hS hL hN1 hN2 hA1 hA2 (show q < 6 by omega) hh (by omega) hab) ?_))
      rintro _ _ _ _ ⟨rfl, rfl, rfl, rfl⟩
      refine And.intro (fun h96 => ?_) (fun h96 => ?_)
      · replace h96 := fc_b0.mp h96
        rw [hN1, hN5] at h82
        rw [as_bd_cw hA] at h96
        have e : as_play (cl mi b) (cv mi a) k m t (mi b 14) (cw mi b len) (mi (sc + 1) i) (mi (sc + 2) i) (mi (sc + 3) i) = (as_gv (cv mi a) q p (nI w) (as_bd (cl mi b) (cv mi a) k (cw mi b len) (mi (b + 8) q) (mi a 1) p w), fc_b (as_bd (cl mi b) (cv mi a) k (cw mi b len) (mi (b + 8) q) (mi a 1) p w)) := by
          have e1 : cv mi a 6 q = nI p := hh
          rw [as_play, if_neg (by rw [h22]; decide), if_pos h22, if_pos (show sp_cg (nI t) (nI k) (cv mi a 6) (cl mi b 7) (cv mi a 2) (cv mi a 1) (cv mi a 0 1) (mi (sc + 2) i) (mi (sc + 3) i) = true from h82), ex, ez, hc_q, hc_w, e1, hc_p]
          rfl
        obtain ⟨c1, c2⟩ := sp_gv_cv (mi := mi) (q := q) (p := p) (z := nI w) (st := sp_bd k (mi (a + 1)) (mi (b + 7)) (mi (b + 5)) (mi (b + 11)) (mi (b + 12)) len (mi (b + 8) q) (mi a 1) p w) hab
        rw [e]
        exact ⟨by rw [h96]; rfl, by rw [c1, as_bd_cw hA], c2, rfl, rfl⟩
      · replace h96 := fc_b1.mp h96
        rw [hN1, hN5] at h82
        rw [as_bd_cw hA] at h96
        have e : as_play (cl mi b) (cv mi a) k m t (mi b 14) (cw mi b len) (mi (sc + 1) i) (mi (sc + 2) i) (mi (sc + 3) i) = (as_gv (cv mi a) q p (nI w) (as_bd (cl mi b) (cv mi a) k (cw mi b len) (mi (b + 8) q) (mi a 1) p w), fc_b (as_bd (cl mi b) (cv mi a) k (cw mi b len) (mi (b + 8) q) (mi a 1) p w)) := by
          have e1 : cv mi a 6 q = nI p := hh
          rw [as_play, if_neg (by rw [h22]; decide), if_pos h22, if_pos (show sp_cg (nI t) (nI k) (cv mi a 6) (cl mi b 7) (cv mi a 2) (cv mi a 1) (cv mi a 0 1) (mi (sc + 2) i) (mi (sc + 3) i) = true from h82), ex, ez, hc_q, hc_w, e1, hc_p]
          rfl
        obtain ⟨c1, c2⟩ := sp_gv_cv (mi := mi) (q := q) (p := p) (z := nI w) (st := sp_bd k (mi (a + 1)) (mi (b + 7)) (mi (b + 5)) (mi (b + 11)) (mi (b + 12)) len (mi (b + 8) q) (mi a 1) p w) hab
        rw [e]
        exact ⟨by rw [h96]; rfl, by rw [c1, as_bd_cw hA], c2, rfl, rfl⟩
  · replace h22 := (fc_ofI 141 (by decide)).mp h22
    refine And.intro (fc_S_0 hS) (Exists.intro _ (And.intro (c_canVow hS hL hN _ _) ?_))
    rintro _ _ _ _ ⟨rfl, rfl, rfl, rfl⟩
    refine And.intro (fun h114 => ?_) (fun h114 => ?_)
    · replace h114 := fc_b0.mp h114
      rw [hN1] at h114
      have e : as_play (cl mi b) (cv mi a) k m t (mi b 14) (cw mi b len) (mi (sc + 1) i) (mi (sc + 2) i) (mi (sc + 3) i) = (cv mi a, -1) := by rw [as_play, if_neg (by rw [h22]; decide), if_neg (by rw [h22]; decide), if_pos h22]; exact if_neg (by rw [show sp_cv (nI k) (cl mi b 7) (cv mi a 2) (cv mi a 1) (cl mi b 5) (cv mi a 4) (cv mi a 0 1) (mi (sc + 2) i) (mi (sc + 3) i) = false from h114]; decide)
      rw [e]
      exact ⟨rfl, rfl, fc_dm.rf, rfl, rfl⟩
    · replace h114 := fc_b1.mp h114
      obtain ⟨hg1, hg2, hg3⟩ := sp_cv_has h114
      rw [hN1] at hg1 hg2
      obtain ⟨p, hp, ex⟩ := sp_hasN (by omega) hg1
      obtain ⟨w, hw, ez⟩ := sp_hasN (by omega) hg2
      have hc_p := fc_cl (k := 8) (show p < 8 by omega) (by omega)
      have hc_w := fc_cl (k := 8) (show w < 8 by omega) (by omega)
      refine And.intro (fc_S_0 hS) (Exists.intro _ (And.intro (by rw [ex, ez]; exact c_pledge hS hL hN1 hN2 hA1 hA2 (show p < 5 by omega) (show w < 5 by omega)) ?_))
      rintro _ _ _ _ ⟨rfl, rfl, rfl, rfl⟩
      refine And.intro (fun h128 => ?_) (fun h128 => ?_)
      · replace h128 := fc_b0.mp h128
        rw [hN1] at h114
        rw [as_bd_cw hA] at h128
        have e : as_play (cl mi b) (cv mi a) k m t (mi b 14) (cw mi b len) (mi (sc + 1) i) (mi (sc + 2) i) (mi (sc + 3) i) = (as_vw (cv mi a) p w (as_bd (cl mi b) (cv mi a) k (cw mi b len) 0 (mi a 1) p w), fc_b (as_bd (cl mi b) (cv mi a) k (cw mi b len) 0 (mi a 1) p w)) := by
          rw [as_play, if_neg (by rw [h22]; decide), if_neg (by rw [h22]; decide), if_pos h22, if_pos (show sp_cv (nI k) (cl mi b 7) (cv mi a 2) (cv mi a 1) (cl mi b 5) (cv mi a 4) (cv mi a 0 1) (mi (sc + 2) i) (mi (sc + 3) i) = true from h114), ex, ez, hc_p, hc_w]
          rfl
        obtain ⟨c1, c2⟩ := sp_vw_cv (mi := mi) (p := p) (q := w) (st := sp_bd k (mi (a + 1)) (mi (b + 7)) (mi (b + 5)) (mi (b + 11)) (mi (b + 12)) len 0 (mi a 1) p w) hab
        rw [e]
        exact ⟨by rw [h128]; rfl, by rw [c1, as_bd_cw hA], c2, rfl, rfl⟩
      · replace h128 := fc_b1.mp h128
        rw [hN1] at h114
        rw [as_bd_cw hA] at h128
        have e : as_play (cl mi b) (cv mi a) k m t (mi b 14) (cw mi b len) (mi (sc + 1) i) (mi (sc + 2) i) (mi (sc + 3) i) = (as_vw (cv mi a) p w (as_bd (cl mi b) (cv mi a) k (cw mi b len) 0 (mi a 1) p w), fc_b (as_bd (cl mi b) (cv mi a) k (cw mi b len) 0 (mi a 1) p w)) := by
          rw [as_play, if_neg (by rw [h22]; decide), if_neg (by rw [h22]; decide), if_pos h22, if_pos (show sp_cv (nI k) (cl mi b 7) (cv mi a 2) (cv mi a 1) (cl mi b 5) (cv mi a 4) (cv mi a 0 1) (mi (sc + 2) i) (mi (sc + 3) i) = true from h114), ex, ez, hc_p, hc_w]
          rfl
        obtain ⟨c1, c2⟩ := sp_vw_cv (mi := mi) (p := p) (q := w) (st := sp_bd k (mi (a + 1)) (mi (b + 7)) (mi (b + 5)) (mi (b + 11)) (mi (b + 12)) len 0 (mi a 1) p w) hab
        rw [e]
        exact ⟨by rw [h128]; rfl, by rw [c1, as_bd_cw hA], c2, rfl, rfl⟩

end M45
