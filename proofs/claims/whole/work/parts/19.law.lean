/-! ===== the law of what binds ===== -/
section M19
variable {E : fc_E} {d : Nat} {mi : fc_Mi} {ml : fc_Ml} {mr : fc_Mr} {a b n m t : Nat}
def sp_op (z ck pr cr jd : Int32) : Int32 := if z = -259 then jd else if z = -258 then cr else if z = -257 then pr else if z = -256 then ck else z
def sp_jn (z l r : Int32) : Int32 := if z = -147 then (if l = 0 then 0 else if r = 0 then 0 else 1) else if z = -61 then (if l = r then 1 else 0) else if z = -60 then (if l < r then 1 else 0) else if z = -45 then l - r else if z = -43 then l + r else if z = -42 then l * r else (if l = 0 then (if r = 0 then 0 else 1) else 1)
theorem fc_toI {x : Int32} {k : Int} (z : Int32) (hz : z.toInt = k) : x.toInt = k ↔ x = z := by
  rw [← hz]
  exact Int32.toInt_inj
theorem fc_ofI {x : Int32} {k : Int} (z : Int32) (hz : Int32.ofInt k = z) : x = Int32.ofInt k ↔ x = z := by rw [hz]
theorem c_operand (z ck pr cr jd : Int32) : fc_R E mX2_operand d fc_sh [.int z, .int ck, .int pr, .int cr, .int jd] mi ml mr (fc_is (some (.int (sp_op z ck pr cr jd))) mi ml mr) := by
  refine fc_met rfl (Nat.le_of_ble_eq_true rfl) (fc_run oX2_operand (fun _ => false) 400 ?_)
  refine And.intro (fun h1 => ?_) (fun _ => And.intro (And.intro (fun h1 => ?_) (And.intro (fun h1 => ?_) (And.intro (fun h1 => ?_) (And.intro (fun h1 => ?_) trivial)))) (by decide))
  · have n1 : ¬ z = -259 := by rintro rfl; revert h1; decide
    have n2 : ¬ z = -258 := by rintro rfl; revert h1; decide
    have n3 : ¬ z = -257 := by rintro rfl; revert h1; decide
    have n4 : ¬ z = -256 := by rintro rfl; revert h1; decide
    exact ⟨by simp [sp_op, n1, n2, n3, n4], rfl, rfl, rfl⟩
  · replace h1 := (fc_ofI (-259) (by decide)).mp h1
    subst h1
    exact ⟨by simp [sp_op], rfl, rfl, rfl⟩
  · replace h1 := (fc_ofI (-258) (by decide)).mp h1
    subst h1
    exact ⟨by simp [sp_op], rfl, rfl, rfl⟩
  · replace h1 := (fc_ofI (-257) (by decide)).mp h1
    subst h1
    exact ⟨by simp [sp_op], rfl, rfl, rfl⟩
  · replace h1 := (fc_ofI (-256) (by decide)).mp h1
    subst h1
    exact ⟨by simp [sp_op], rfl, rfl, rfl⟩

theorem c_joined (z l r : Int32) : fc_R E mX2_joined d fc_sh [.int z, .int l, .int r] mi ml mr (fc_is (some (.int (sp_jn z l r))) mi ml mr) := by
  refine fc_met rfl (Nat.le_of_ble_eq_true rfl) (fc_run oX2_joined (fun _ => false) 400 ?_)
  refine And.intro (fun h1 => ?_) (fun h1_0 => And.intro (fun h1 => ?_) (fun h1_1 => And.intro (fun h1 => ?_) (fun h1_2 => And.intro (fun h1 => ?_) (fun h1_3 => And.intro (fun h1 => ?_) (fun h1_4 => And.intro (fun h1 => ?_) (fun h1_5 => ?_))))))
  · replace h1 := (fc_toI (-147) (by decide)).mp h1
    subst h1
    refine And.intro (fun h95 => ?_) (fun h95 => ?_)
    · exact ⟨by simp [sp_jn, h95], rfl, rfl, rfl⟩
    · refine And.intro (fun h99 => ?_) (fun h99 => ?_)
      · exact ⟨by simp [sp_jn, h95, h99], rfl, rfl, rfl⟩
      · exact ⟨by simp [sp_jn, h95, h99], rfl, rfl, rfl⟩
  · replace h1 := (fc_toI (-61) (by decide)).mp h1
    subst h1
    refine And.intro (fun h85 => ?_) (fun h85 => ?_)
    · exact ⟨by simp [sp_jn, h85], rfl, rfl, rfl⟩
    · exact ⟨by simp [sp_jn, h85], rfl, rfl, rfl⟩
  · replace h1 := (fc_toI (-60) (by decide)).mp h1
    subst h1
    refine And.intro (fun h74 => ?_) (fun h74 => ?_)
    · exact ⟨by simp [sp_jn, h74], rfl, rfl, rfl⟩
    · exact ⟨by simp [sp_jn, h74], rfl, rfl, rfl⟩
  · replace h1 := (fc_toI (-45) (by decide)).mp h1
    subst h1
    exact ⟨by simp [sp_jn], rfl, rfl, rfl⟩
  · replace h1 := (fc_toI (-43) (by decide)).mp h1
    subst h1
    exact ⟨by simp [sp_jn], rfl, rfl, rfl⟩
  · replace h1 := (fc_toI (-42) (by decide)).mp h1
    subst h1
    exact ⟨by simp [sp_jn], rfl, rfl, rfl⟩
  · have n0 : ¬ z = -147 := fun q => h1_0 ((fc_toI (-147) (by decide)).mpr q)
    have n1 : ¬ z = -61 := fun q => h1_1 ((fc_toI (-61) (by decide)).mpr q)
    have n2 : ¬ z = -60 := fun q => h1_2 ((fc_toI (-60) (by decide)).mpr q)
    have n3 : ¬ z = -45 := fun q => h1_3 ((fc_toI (-45) (by decide)).mpr q)
    have n4 : ¬ z = -43 := fun q => h1_4 ((fc_toI (-43) (by decide)).mpr q)
    have n5 : ¬ z = -42 := fun q => h1_5 ((fc_toI (-42) (by decide)).mpr q)
    refine And.intro (fun h109 => ?_) (fun h109 => ?_)
    · refine And.intro (fun h113 => ?_) (fun h113 => ?_)
      · exact ⟨by simp [sp_jn, n0, n1, n2, n3, n4, n5, h109, h113], rfl, rfl, rfl⟩
      · exact ⟨by simp [sp_jn, n0, n1, n2, n3, n4, n5, h109, h113], rfl, rfl, rfl⟩
    · exact ⟨by simp [sp_jn, n0, n1, n2, n3, n4, n5, h109], rfl, rfl, rfl⟩

/-- one step of the law's reckoning: how many values wait, and which -/
def sp_st (z ck pr cr jd : Int32) (s : Nat × (Nat → Int32)) : Nat × (Nat → Int32) :=
  if z = -146 then (if s.1 = 0 then s else (s.1, upd s.2 (s.1 - 1) (if s.2 (s.1 - 1) = 0 then 1 else 0)))
  else if z < 0 ∧ -256 < z then (if s.1 < 2 then s else (s.1 - 1, upd s.2 (s.1 - 2) (sp_jn z (s.2 (s.1 - 2)) (s.2 (s.1 - 1)))))
  else (if s.1 < 64 then (s.1 + 1, upd s.2 s.1 (sp_op z ck pr cr jd)) else s)
def sp_lw (code : Nat → Int32) (ck pr cr jd : Int32) (v0 : Nat → Int32) : Nat → Nat × (Nat → Int32)
  | 0 => (0, v0)
  | i + 1 => sp_st (code i) ck pr cr jd (sp_lw code ck pr cr jd v0 i)
def sp_val (s : Nat × (Nat → Int32)) : Int32 := if s.1 = 0 then 0 else s.2 0
theorem sp_st_le {z ck pr cr jd : Int32} {s : Nat × (Nat → Int32)} (h : s.1 ≤ 64) : (sp_st z ck pr cr jd s).1 ≤ 64 := by
  unfold sp_st
  split
  · split <;> simp [h]
  · split
    · split
      · exact h
      · show s.1 - 1 ≤ 64; omega
    · split
      · show s.1 + 1 ≤ 64; omega
      · exact h
theorem sp_lw_le {code : Nat → Int32} {ck pr cr jd : Int32} {v0 : Nat → Int32} : ∀ i, (sp_lw code ck pr cr jd v0 i).1 ≤ 64
  | 0 => Nat.zero_le _
  | i + 1 => sp_st_le (sp_lw_le i)
theorem fc_pm {T : Nat} (h : 1 ≤ T) : nI T - 1 = nI (T - 1) := by
  obtain ⟨k, rfl⟩ : ∃ k, T = k + 1 := ⟨T - 1, by omega⟩
  exact nI_pred k
theorem fc_ixp {T : Nat} (h : 1 ≤ T) (h2 : T ≤ 64) : fc_ix (nI T - 1) 64 (T - 1) := by rw [fc_pm h]; exact fc_ix_nI (by omega) (by omega)
theorem fc_m1 {T : Nat} (h : 1 ≤ T) : nI T + Int32.ofInt (-1) = nI (T - 1) := by
  obtain ⟨k, rfl⟩ : ∃ k, T = k + 1 := ⟨T - 1, by omega⟩
  exact pk_m1 k
theorem l_valueAt (hL : fc_L mr b) (ck pr cr jd : Int32) {len : Nat} (hlen : mi (b + 10) 2 = nI len) (hl : len ≤ 1000) : ∀ (j i : Nat) (c tp : Int32) (x7 : Option Value) (mm : fc_Mi), i + j = len → c = nI i → tp = nI (sp_lw (mi (b + 11)) ck pr cr jd (mi (b + 12)) i).1 → mm = fc_ur mi (b + 12) (sp_lw (mi (b + 11)) ck pr cr jd (mi (b + 12)) i).2 → fc_T E mX2_valueAt (d + 1) (0, 0) fc_sh 6 [some (.ref (b + 10)), some (.int ck), some (.int pr), some (.int cr), some (.int jd), some (.int tp), some (.int c), x7] [] mm ml mr (fc_is (some (.int (sp_val (sp_lw (mi (b + 11)) ck pr cr jd (mi (b + 12)) len)))) (fc_ur mi (b + 12) (sp_lw (mi (b + 11)) ck pr cr jd (mi (b + 12)) len).2) ml mr) := by
  intro j
  induction j with
  | zero =>
    intro i c tp x7 mm hi hc htp hm
    subst hc
    have hT : (sp_lw (mi (b + 11)) ck pr cr jd (mi (b + 12)) i).1 ≤ 64 := sp_lw_le i
    rcases hs : sp_lw (mi (b + 11)) ck pr cr jd (mi (b + 12)) i with ⟨T, V⟩
    rw [hs] at htp hm hT
    replace hT : T ≤ 64 := hT
    replace htp : tp = nI T := htp
    replace hm : mm = fc_ur mi (b + 12) V := hm
    subst htp
    have hc1 : mm (b + 10) 2 = nI len := by rw [hm, fc_ur_off _ _ (by omega)]; exact hlen
    have hc2 : mm (b + 11) = mi (b + 11) := by rw [hm, fc_ur_off _ _ (by omega)]
    have hr : mm (b + 12) = V := by rw [hm, fc_ur_row]
    refine fc_run oX2_valueAt (fun pc => pc == 6) 400 ?_
    refine And.intro (fc_L_10 hL) ?_
    refine And.intro (fun h12 => ?_) (fun h12 => ?_)
    · refine And.intro (fun h158 => ?_) (fun h158 => ?_)
      · have t158 : T = 0 := by
          have := (nI_ltI (b := 1) (by omega) (by omega)).mp h158
          omega
        exact ⟨by rw [show len = i by omega, hs]; simp [sp_val, t158], by rw [hm, show len = i by omega, hs], rfl, rfl⟩
      · have t158 : ¬ T = 0 := fun q => h158 ((nI_ltI (b := 1) (by omega) (by omega)).mpr (by omega))
        refine And.intro (fc_L_10 hL) (Exists.intro _ (And.intro (fc_L_r11 hL) ?_))
        refine Exists.intro _ (Exists.intro _ (And.intro (fc_L_12 hL) (And.intro (fc_ix_nI (p := 0) (by omega) (by omega)) ?_)))
        rw [hr]
        exact ⟨by rw [show len = i by omega, hs]; simp [sp_val, t158], by rw [hm, show len = i by omega, hs], rfl, rfl⟩
    · exact absurd (by rw [hc1]; exact nI_le (by omega) (by omega)) h12
  | succ j ih =>
    intro i c tp x7 mm hi hc htp hm
    subst hc
    have hT : (sp_lw (mi (b + 11)) ck pr cr jd (mi (b + 12)) i).1 ≤ 64 := sp_lw_le i
    rcases hs : sp_lw (mi (b + 11)) ck pr cr jd (mi (b + 12)) i with ⟨T, V⟩
    rw [hs] at htp hm hT
    replace hT : T ≤ 64 := hT
    replace htp : tp = nI T := htp
    replace hm : mm = fc_ur mi (b + 12) V := hm
    subst htp
    have hc1 : mm (b + 10) 2 = nI len := by rw [hm, fc_ur_off _ _ (by omega)]; exact hlen
    have hc2 : mm (b + 11) = mi (b + 11) := by rw [hm, fc_ur_off _ _ (by omega)]
    have hr : mm (b + 12) = V := by rw [hm, fc_ur_row]
    refine fc_run oX2_valueAt (fun pc => pc == 6) 400 ?_
    refine And.intro (fc_L_10 hL) ?_
    refine And.intro (fun h12 => ?_) (fun h12 => ?_)
    · exact absurd h12 (by rw [hc1]; exact nI_ge (by omega) (by omega))
    · refine And.intro (fc_L_10 hL) (Exists.intro _ (And.intro (fc_L_r10 hL) ?_))
      refine Exists.intro _ (Exists.intro _ (And.intro (fc_L_11 hL) (And.intro (fc_ix_nI (p := i) (by omega) (by omega)) ?_)))
      rw [hc2]
      refine And.intro (fun h29 => ?_) (fun h29 => ?_)
      · refine And.intro (fun h35 => ?_) (fun h35 => ?_)
        · have t35 : T = 0 := by
            have := (nI_ltI (b := 1) (by omega) (by omega)).mp h35
            omega
          have e : sp_st (mi (b + 11) i) ck pr cr jd (T, V) = (T, V) := by simp [sp_st, h29, t35]
          exact ih (i + 1) _ _ _ _ (by omega) (fc_inc i) (by
            show _ = nI (sp_st (mi (b + 11) i) ck pr cr jd (sp_lw (mi (b + 11)) ck pr cr jd (mi (b + 12)) i)).1
            rw [hs, e]
            skip) (by
            show _ = fc_ur mi (b + 12) (sp_st (mi (b + 11) i) ck pr cr jd (sp_lw (mi (b + 11)) ck pr cr jd (mi (b + 12)) i)).2
            rw [hs, e]
            rw [hm])
        · have t35 : ¬ T = 0 := fun q => h35 ((nI_ltI (b := 1) (by omega) (by omega)).mpr (by omega))
          refine And.intro (fc_L_10 hL) (Exists.intro _ (And.intro (fc_L_r11 hL) ?_))
          refine And.intro (fc_L_10 hL) (Exists.intro _ (And.intro (fc_L_r11 hL) ?_))
          refine Exists.intro _ (Exists.intro _ (And.intro (fc_L_12 hL) (And.intro (fc_ixp (by omega) hT) ?_)))
          rw [hr]
          refine And.intro (fun h55 => ?_) (fun h55 => ?_)
          · refine Exists.intro _ (Exists.intro _ (And.intro (fc_L_12 hL) (And.intro (fc_ixp (by omega) hT) ?_)))
            have e : sp_st (mi (b + 11) i) ck pr cr jd (T, V) = (T, upd V (T - 1) 1) := by simp [sp_st, h29, t35, h55]
            exact ih (i + 1) _ _ _ _ (by omega) (fc_inc i) (by
              show _ = nI (sp_st (mi (b + 11) i) ck pr cr jd (sp_lw (mi (b + 11)) ck pr cr jd (mi (b + 12)) i)).1
              rw [hs, e]
              skip) (by
              show _ = fc_ur mi (b + 12) (sp_st (mi (b + 11) i) ck pr cr jd (sp_lw (mi (b + 11)) ck pr cr jd (mi (b + 12)) i)).2
              rw [hs, e]
              rw [hm, fc_u_ur]; rfl)
          · refine Exists.intro _ (Exists.intro _ (And.intro (fc_L_12 hL) (And.intro (fc_ixp (by omega) hT) ?_)))
            have e : sp_st (mi (b + 11) i) ck pr cr jd (T, V) = (T, upd V (T - 1) 0) := by simp [sp_st, h29, t35, h55]
            exact ih (i + 1) _ _ _ _ (by omega) (fc_inc i) (by
              show _ = nI (sp_st (mi (b + 11) i) ck pr cr jd (sp_lw (mi (b + 11)) ck pr cr jd (mi (b + 12)) i)).1
              rw [hs, e]
              skip) (by
              show _ = fc_ur mi (b + 12) (sp_st (mi (b + 11) i) ck pr cr jd (sp_lw (mi (b + 11)) ck pr cr jd (mi (b + 12)) i)).2
              rw [hs, e]
              rw [hm, fc_u_ur]; rfl)
      · refine And.intro (fun h69 => ?_) (fun h69 => ?_)
        · have z84 : ¬ (mi (b + 11) i < 0 ∧ -256 < mi (b + 11) i) := fun q => absurd h69 (Int32.not_le.mpr q.1)
          refine And.intro (fun h84 => ?_) (fun h84 => ?_)
          · have t84 : ¬ T < 64 := fun q => absurd h84 (nI_ge (b := 64) q (by omega))
            have e : sp_st (mi (b + 11) i) ck pr cr jd (T, V) = (T, V) := by simp [sp_st, h29, z84, t84]
            exact ih (i + 1) _ _ _ _ (by omega) (fc_inc i) (by
              show _ = nI (sp_st (mi (b + 11) i) ck pr cr jd (sp_lw (mi (b + 11)) ck pr cr jd (mi (b + 12)) i)).1
              rw [hs, e]
              skip) (by
              show _ = fc_ur mi (b + 12) (sp_st (mi (b + 11) i) ck pr cr jd (sp_lw (mi (b + 11)) ck pr cr jd (mi (b + 12)) i)).2
              rw [hs, e]
              rw [hm])
          · have t84 : T < 64 := by
              rcases Nat.lt_or_ge T 64 with q | q
              · exact q
              · exact absurd (nI_le (a := 64) q (by omega)) h84
            refine And.intro (fc_L_10 hL) (Exists.intro _ (And.intro (fc_L_r11 hL) ?_))
            refine Exists.intro _ (And.intro (c_operand _ _ _ _ _) ?_)
            rintro _ _ _ _ ⟨rfl, rfl, rfl, rfl⟩
            refine Exists.intro _ (Exists.intro _ (And.intro (fc_L_12 hL) (And.intro (fc_ix_nI (p := T) (by omega) (by omega)) ?_)))
            have e : sp_st (mi (b + 11) i) ck pr cr jd (T, V) = (T + 1, upd V T (sp_op (mi (b + 11) i) ck pr cr jd)) := by simp [sp_st, h29, z84, t84]
            exact ih (i + 1) _ _ _ _ (by omega) (fc_inc i) (by
              show _ = nI (sp_st (mi (b + 11) i) ck pr cr jd (sp_lw (mi (b + 11)) ck pr cr jd (mi (b + 12)) i)).1
              rw [hs, e]
              exact fc_inc T) (by
              show _ = fc_ur mi (b + 12) (sp_st (mi (b + 11) i) ck pr cr jd (sp_lw (mi (b + 11)) ck pr cr jd (mi (b + 12)) i)).2
              rw [hs, e]
              rw [hm, fc_u_ur]; rfl)
        · refine And.intro (fun h77 => ?_) (fun h77 => ?_)
          · have z113 : mi (b + 11) i < 0 ∧ -256 < mi (b + 11) i := ⟨Int32.not_le.mp h69, h77⟩
            refine And.intro (fun h113 => ?_) (fun h113 => ?_)
            · have t113 : T < 2 := (nI_ltI (b := 2) (by omega) (by omega)).mp h113
              have e : sp_st (mi (b + 11) i) ck pr cr jd (T, V) = (T, V) := by simp [sp_st, h29, z113, t113]
              exact ih (i + 1) _ _ _ _ (by omega) (fc_inc i) (by
                show _ = nI (sp_st (mi (b + 11) i) ck pr cr jd (sp_lw (mi (b + 11)) ck pr cr jd (mi (b + 12)) i)).1
                rw [hs, e]
                skip) (by
                show _ = fc_ur mi (b + 12) (sp_st (mi (b + 11) i) ck pr cr jd (sp_lw (mi (b + 11)) ck pr cr jd (mi (b + 12)) i)).2
                rw [hs, e]
                rw [hm])
            · have t113 : ¬ T < 2 := fun q => h113 ((nI_ltI (b := 2) (by omega) (by omega)).mpr q)
              refine And.intro (fc_L_10 hL) (Exists.intro _ (And.intro (fc_L_r11 hL) ?_))
              refine And.intro (fc_L_10 hL) (Exists.intro _ (And.intro (fc_L_r11 hL) ?_))
              refine Exists.intro _ (Exists.intro _ (And.intro (fc_L_12 hL) (And.intro (by rw [fc_m1 (by omega)]; exact fc_ixp (by omega) (by omega)) ?_)))
              rw [hr]
              refine And.intro (fc_L_10 hL) (Exists.intro _ (And.intro (fc_L_r11 hL) ?_))
              refine Exists.intro _ (Exists.intro _ (And.intro (fc_L_12 hL) (And.intro (by rw [fc_m1 (by omega)]; exact fc_ix_nI (by omega) (by omega)) ?_)))
              rw [hr]
              refine Exists.intro _ (And.intro (c_joined _ _ _) ?_)
              rintro _ _ _ _ ⟨rfl, rfl, rfl, rfl⟩
              refine Exists.intro _ (Exists.intro _ (And.intro (fc_L_12 hL) (And.intro (by rw [fc_m1 (by omega)]; exact fc_ixp (by omega) (by omega)) ?_)))
              have e : sp_st (mi (b + 11) i) ck pr cr jd (T, V) = (T - 1, upd V (T - 2) (sp_jn (mi (b + 11) i) (V (T - 2)) (V (T - 1)))) := by simp [sp_st, h29, z113, t113]
              exact ih (i + 1) _ _ _ _ (by omega) (fc_inc i) (by
                show _ = nI (sp_st (mi (b + 11) i) ck pr cr jd (sp_lw (mi (b + 11)) ck pr cr jd (mi (b + 12)) i)).1
                rw [hs, e]
                exact fc_m1 (by omega)) (by
                show _ = fc_ur mi (b + 12) (sp_st (mi (b + 11) i) ck pr cr jd (sp_lw (mi (b + 11)) ck pr cr jd (mi (b + 12)) i)).2
                rw [hs, e]
                rw [hm, fc_u_ur]; rfl)
          · have z84 : ¬ (mi (b + 11) i < 0 ∧ -256 < mi (b + 11) i) := fun q => h77 q.2
            refine And.intro (fun h84 => ?_) (fun h84 => ?_)
            · have t84 : ¬ T < 64 := fun q => absurd h84 (nI_ge (b := 64) q (by omega))
              have e : sp_st (mi (b + 11) i) ck pr cr jd (T, V) = (T, V) := by simp [sp_st, h29, z84, t84]
              exact ih (i + 1) _ _ _ _ (by omega) (fc_inc i) (by
                show _ = nI (sp_st (mi (b + 11) i) ck pr cr jd (sp_lw (mi (b + 11)) ck pr cr jd (mi (b + 12)) i)).1
                rw [hs, e]
                skip) (by
                show _ = fc_ur mi (b + 12) (sp_st (mi (b + 11) i) ck pr cr jd (sp_lw (mi (b + 11)) ck pr cr jd (mi (b + 12)) i)).2
                rw [hs, e]
                rw [hm])
            · have t84 : T < 64 := by
                rcases Nat.lt_or_ge T 64 with q | q
                · exact q
                · exact absurd (nI_le (a := 64) q (by omega)) h84
              refine And.intro (fc_L_10 hL) (Exists.intro _ (And.intro (fc_L_r11 hL) ?_))
              refine Exists.intro _ (And.intro (c_operand _ _ _ _ _) ?_)
              rintro _ _ _ _ ⟨rfl, rfl, rfl, rfl⟩
              refine Exists.intro _ (Exists.intro _ (And.intro (fc_L_12 hL) (And.intro (fc_ix_nI (p := T) (by omega) (by omega)) ?_)))
              have e : sp_st (mi (b + 11) i) ck pr cr jd (T, V) = (T + 1, upd V T (sp_op (mi (b + 11) i) ck pr cr jd)) := by simp [sp_st, h29, z84, t84]
              exact ih (i + 1) _ _ _ _ (by omega) (fc_inc i) (by
                show _ = nI (sp_st (mi (b + 11) i) ck pr cr jd (sp_lw (mi (b + 11)) ck pr cr jd (mi (b + 12)) i)).1
                rw [hs, e]
                exact fc_inc T) (by
                show _ = fc_ur mi (b + 12) (sp_st (mi (b + 11) i) ck pr cr jd (sp_lw (mi (b + 11)) ck pr cr jd (mi (b + 12)) i)).2
                rw [hs, e]
                rw [hm, fc_u_ur]; rfl)

theorem c_valueAt (hL : fc_L mr b) (ck pr cr jd : Int32) {len : Nat} (hlen : mi (b + 10) 2 = nI len) (hl : len ≤ 1000) : fc_R E mX2_valueAt (d + 1) fc_sh [.ref (b + 10), .int ck, .int pr, .int cr, .int jd] mi ml mr (fc_is (some (.int (sp_val (sp_lw (mi (b + 11)) ck pr cr jd (mi (b + 12)) len)))) (fc_ur mi (b + 12) (sp_lw (mi (b + 11)) ck pr cr jd (mi (b + 12)) len).2) ml mr) := by
  refine fc_met rfl (Nat.le_of_ble_eq_true rfl) (fc_run oX2_valueAt (fun pc => pc == 6) 400 ?_)
  exact l_valueAt hL ck pr cr jd hlen hl len 0 _ _ _ _ (by omega) rfl rfl (fc_ur_self _ _).symm

end M19
