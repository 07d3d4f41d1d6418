/-! ===== judged, news ===== -/
section M46
variable {E : fc_E} {d : Nat} {mi : fc_Mi} {ml : fc_Ml} {mr : fc_Mr} {a b sc n m t sm : Nat}
/-- land and state now are such as can be -/
def fc_Gd (mi : fc_Mi) (b n m t sm : Nat) : Prop := mi b 14 = nI sm ∧ as_lok n m t sm (cl mi b) ∧ as_ok n m t sm (cv mi 17)
theorem as_ok.sv (h : as_ok n m t sm (cv mi a)) : fc_SV mi a n m t := ⟨fun p hp => (h.1 p hp).1, fun q hq => (h.2.1 q hq).1, fun q hq => (h.2.1 q hq).2⟩
theorem sp_bg_cv (hn : n ≤ 5) (ht : t ≤ 6) : as_ag n t (cv (sp_bg mi a b 5 6) a) (as_beg (cl mi b)) := by
  unfold sp_bg
  rw [cv_ur _ _ (by omega), cv_ur _ _ (by omega), cv_ur _ _ (by omega), cv_ur _ _ (by omega), cv_ur _ _ (by omega), cv_ur _ _ (by omega), cv_ur _ _ (by omega), cv_u0, cv_u0]
  refine ⟨⟨?_, ?_⟩, fun p hp => ?_, fun q hq => ?_⟩
  · simp [fc_u, fc_ur, as_beg]
  · simp [fc_u, fc_ur, as_beg]
  · have h5 : p < 5 := by omega
    simp [fc_u, fc_ur, as_beg, sp_to, h5, cl]
  · have h6 : q < 6 := by omega
    simp [fc_u, fc_ur, as_beg, sp_to, h6, cl]
theorem sp_bg_dm : fc_dm a b mi (sp_bg mi a b 5 6) := fun x h _ => sp_bg_row mi a b 5 6 (by omega)
theorem sp_cp_cv {c : Nat} (hn : n ≤ 5) (ht : t ≤ 6) : as_ag n t (cv (sp_cp mi a c) a) (cv mi c) := by
  unfold sp_cp
  rw [cv_ur _ _ (by omega), cv_ur _ _ (by omega), cv_ur _ _ (by omega), cv_ur _ _ (by omega), cv_ur _ _ (by omega), cv_ur _ _ (by omega), cv_ur _ _ (by omega), cv_u0, cv_u0]
  refine ⟨⟨?_, ?_⟩, fun p hp => ?_, fun q hq => ?_⟩
  · simp [fc_u, fc_ur, cv]
  · simp [fc_u, fc_ur, cv]
  · have h5 : p < 5 := by omega
    simp [fc_u, fc_ur, sp_to, h5, cv]
  · have h6 : q < 6 := by omega
    simp [fc_u, fc_ur, sp_to, h6, cv]
theorem sp_cp_dm {c : Nat} : fc_dm a b mi (sp_cp mi a c) := fun x h _ => sp_cp_off mi a c (by omega)
theorem fc_H.dm {mm : fc_Mi} (h : fc_H mi mr b sc n m t) (g : fc_dm 25 b mi mm) : fc_H mm mr b sc n m t := by
  obtain ⟨hW, hB, hL, hb, hN, hV, hC, hQ, hsc⟩ := h
  exact ⟨hW, hB, hL, hb, hN.off (g b (by omega) (by omega)), hV.off (g _ (by omega) (by omega)) (g _ (by omega) (by omega)) (g _ (by omega) (by omega)), hC, hQ, hsc⟩
theorem fc_La.dm {mm : fc_Mi} {len : Nat} (h : fc_La mi b len) (hab : a + 8 ≤ b) (g : fc_dm a b mi mm) : fc_La mm b len := by
  unfold fc_La at *
  rw [g (b + 10) (by omega) (by omega), g (b + 11) (by omega) (by omega)]
  exact h
theorem cw_dm {mm : fc_Mi} {len : Nat} (hab : a + 8 ≤ b) (g : fc_dm a b mi mm) : cw mm b len = cw mi b len := by
  unfold cw
  rw [g (b + 11) (by omega) (by omega)]
theorem cl_dm {mm : fc_Mi} (hab : a + 8 ≤ b) (g : fc_dm a b mi mm) : cl mm b = cl mi b := cl_off (fun x h1 h2 => g x (by omega) (by omega))
/-- an answer; the trial's state has been used -/
def fc_dv (b : Nat) (x : Int32) (mi : fc_Mi) (ml : fc_Ml) (mr : fc_Mr) : fc_Q := fun v mi' ml' mr' => v = some (.int x) ∧ fc_dm 25 b mi mi' ∧ ml = ml' ∧ mr = mr'
/-- a morning's lines played: the state, the first that can't be, the first that binds -/
def as_run (L σ : fc_Mi) (n m t : Nat) (s : Int32) (ev : fc_Ev) (dd xs zs : Nat → Int32) : Nat → fc_Mi × Int32 × Int32
  | 0 => (σ, -1, -1)
  | i + 1 => ((as_play L (as_run L σ n m t s ev dd xs zs i).1 n m t s ev (dd i) (xs i) (zs i)).1,
      if (as_play L (as_run L σ n m t s ev dd xs zs i).1 n m t s ev (dd i) (xs i) (zs i)).2 = -1 ∧ (as_run L σ n m t s ev dd xs zs i).2.1 = -1 then nI i else (as_run L σ n m t s ev dd xs zs i).2.1,
      if (as_play L (as_run L σ n m t s ev dd xs zs i).1 n m t s ev (dd i) (xs i) (zs i)).2 = 1 ∧ (as_run L σ n m t s ev dd xs zs i).2.2 = -1 then nI i else (as_run L σ n m t s ev dd xs zs i).2.2)
theorem as_run_ok {L σ : fc_Mi} {ev : fc_Ev} {dd xs zs : Nat → Int32} (hL : as_lok n m t sm L) (h : as_ok n m t sm σ) : ∀ i, as_ok n m t sm (as_run L σ n m t (nI sm) ev dd xs zs i).1
  | 0 => h
  | i + 1 => as_play_ok hL (as_run_ok hL h i)
/-- how many things are not with those who had them -/
def as_mv (L σ : fc_Mi) (t : Nat) : Int32 := sp_num (fun q => !decide (σ 6 q = L 9 q)) t
def as_jd (L σ : fc_Mi) (n m t : Nat) (s : Int32) (ev : fc_Ev) (dd xs zs : Nat → Int32) (k : Nat) (w : Int32) : Int32 :=
  if w = 0 then (as_run L σ n m t s ev dd xs zs k).2.1 else if w = 1 then (as_run L σ n m t s ev dd xs zs k).2.2 else as_mv L (as_run L σ n m t s ev dd xs zs k).1 t
theorem l_moved (hH : fc_H mi mr b sc n m t) : ∀ (j i : Nat) (c : Int32) (acc : Int32), i + j = t → c = nI i → acc = sp_num (fun q => !decide (mi 31 q = mi (b + 9) q)) i → fc_T E mX10_movedThings d (0, 0) fc_sh 4 [some (.ref 0), some (.ref 25), some (.int acc), some (.int c)] [] mi ml mr (fc_is (some (.int (sp_num (fun q => !decide (mi 31 q = mi (b + 9) q)) t))) mi ml mr) := by
  obtain ⟨hW, hB, hL, hb, hN, hV, hC, hQ, hsc⟩ := id hH
  obtain ⟨hN1, hN2, hN3, hN4, hN5, hN6⟩ := id hN
  intro j
  induction j with
  | zero =>
    intro i c acc  hi hc h_acc
    subst hc
    refine fc_run oX10_movedThings (fun pc => pc == 4) 400 ?_
    refine And.intro rfl (Exists.intro _ (And.intro hB ?_))
    refine And.intro (fc_L_0 hL) ?_
    refine And.intro (fun h12 => ?_) (fun h12 => ?_)
    · exact ⟨by rw [h_acc, show i = t by omega], rfl, rfl, rfl⟩
    · exact absurd (by rw [hN5]; exact nI_le (by omega) (by omega)) h12
  | succ j ih =>
    intro i c acc  hi hc h_acc
    subst hc
    refine fc_run oX10_movedThings (fun pc => pc == 4) 400 ?_
    refine And.intro rfl (Exists.intro _ (And.intro hB ?_))
    refine And.intro (fc_L_0 hL) ?_
    refine And.intro (fun h12 => ?_) (fun h12 => ?_)
    · exact absurd h12 (by rw [hN5]; exact nI_ge (by omega) (by omega))
    · refine And.intro (fc_S_0 (fc_S_at25 hW)) (Exists.intro _ (And.intro (fc_S_r7 (fc_S_at25 hW)) ?_))
      refine Exists.intro _ (Exists.intro _ (And.intro (fc_S_6 (fc_S_at25 hW)) (And.intro (by first | assumption | exact fc_ix_nI (by omega) (by omega) | exact fc_ix_nI (by assumption) (by omega)) ?_)))
      refine And.intro rfl (Exists.intro _ (And.intro hB ?_))
      refine And.intro (fc_L_0 hL) (Exists.intro _ (And.intro (fc_L_r8 hL) ?_))
      refine Exists.intro _ (Exists.intro _ (And.intro (fc_L_9 hL) (And.intro (by first | assumption | exact fc_ix_nI (by omega) (by omega) | exact fc_ix_nI (by assumption) (by omega)) ?_)))
      refine And.intro (fun h30 => ?_) (fun h30 => ?_)
      · exact ih (i + 1) _ _ (by omega) (fc_inc i) (by rw [h_acc]; exact sp_num_f (P := fun q => !decide (mi 31 q = mi (b + 9) q)) (by simp; exact h30))
      · exact ih (i + 1) _ _ (by omega) (fc_inc i) (by rw [h_acc]; exact sp_num_t (P := fun q => !decide (mi 31 q = mi (b + 9) q)) (by simp; exact h30))

theorem c_moved (hH : fc_H mi mr b sc n m t) : fc_R E mX10_movedThings d fc_sh [.ref 0, .ref 25] mi ml mr (fc_is (some (.int (sp_num (fun q => !decide (mi 31 q = mi (b + 9) q)) t))) mi ml mr) := by
  obtain ⟨hW, hB, hL, hb, hN, hV, hC, hQ, hsc⟩ := id hH
  obtain ⟨hN1, hN2, hN3, hN4, hN5, hN6⟩ := id hN
  refine fc_met rfl (Nat.le_of_ble_eq_true rfl) (fc_run oX10_movedThings (fun pc => pc == 4) 400 ?_)
  exact l_moved hH t 0 _ _ (by omega) rfl rfl

theorem l_judged (hH : fc_H mi mr b sc n m t) {len : Nat} (hbs : b + 12 < sc) (hA : fc_La mi b len) (hG2 : as_lok n m t sm (cl mi b)) (hs : mi b 14 = nI sm) {σ : fc_Mi} (h0 : as_ok n m t sm σ) {k : Nat} (hk : mi sc 3 = nI k) (hk4 : k ≤ 40) (w : Int32) : ∀ (j i : Nat) (c x2 x3 : Int32) (x5 : Option Value) (mm : fc_Mi), i + j = k → c = nI i → fc_dm 25 b mi mm → cv mm 25 = (as_run (cl mi b) σ n m t (nI sm) (cw mi b len) (mi (sc + 1)) (mi (sc + 2)) (mi (sc + 3)) i).1 → x2 = (as_run (cl mi b) σ n m t (nI sm) (cw mi b len) (mi (sc + 1)) (mi (sc + 2)) (mi (sc + 3)) i).2.1 → x3 = (as_run (cl mi b) σ n m t (nI sm) (cw mi b len) (mi (sc + 1)) (mi (sc + 2)) (mi (sc + 3)) i).2.2 → fc_T E mX10_judged (d + 6) (0, 0) fc_sh 30 [some (.ref 0), some (.int w), some (.int x2), some (.int x3), some (.int c), x5] [] mm ml mr (fc_dv b (as_jd (cl mi b) σ n m t (nI sm) (cw mi b len) (mi (sc + 1)) (mi (sc + 2)) (mi (sc + 3)) k w) mi ml mr) := by
  intro j
  induction j with
  | zero =>
    intro i c x2 x3 x5 mm hi hc hD hR h2 h3
    subst hc
    have hHm := hH.dm hD
    have hok : as_ok n m t sm (cv mm 25) := by rw [hR]; exact as_run_ok hG2 h0 i
    obtain ⟨hW, hB, hL, hb, hN, hV, hC, hQ, hsc⟩ := id hHm
    have hk3 : mm sc 3 = nI k := by rw [hD sc (by omega) (by omega)]; exact hk
    refine fc_run oX10_judged (fun pc => pc == 30) 400 ?_
    refine And.intro rfl (Exists.intro _ (And.intro hC ?_))
    refine And.intro (fc_Q_0 hQ) ?_
    refine And.intro (fun h39 => ?_) (fun h39 => ?_)
    · refine And.intro (fun h96 => ?_) (fun h96_0 => And.intro (fun h96 => ?_) (fun h96_1 => ?_))
      · replace h96 := (fc_toI 0 (by decide)).mp h96
        exact ⟨by rw [h2, as_jd, if_pos h96, show i = k by omega], hD, rfl, rfl⟩
      · replace h96_0 : ¬ w = 0 := fun q => h96_0 ((fc_toI 0 (by decide)).mpr q)
        replace h96 := (fc_toI 1 (by decide)).mp h96
        exact ⟨by rw [h3, as_jd, if_neg (by rw [h96]; decide), if_pos h96, show i = k by omega], hD, rfl, rfl⟩
      · replace h96_0 : ¬ w = 0 := fun q => h96_0 ((fc_toI 0 (by decide)).mpr q)
        replace h96_1 : ¬ w = 1 := fun q => h96_1 ((fc_toI 1 (by decide)).mpr q)
        refine And.intro rfl (Exists.intro _ (And.intro (hW 0 4 25 rfl) ?_))
        refine And.intro rfl (Exists.intro _ (And.intro (c_moved hHm) ?_))
        rintro _ _ _ _ ⟨rfl, rfl, rfl, rfl⟩
        refine ⟨?_, hD, rfl, rfl⟩
        rw [as_jd, if_neg h96_0, if_neg h96_1, ← show i = k by omega, ← hR]
        have e9 : mm (b + 9) = mi (b + 9) := hD _ (by omega) (by omega)
        rw [e9]
        rfl
    · exact absurd (by rw [hk3]; exact nI_le (by omega) (by omega)) h39
  | succ j ih =>
    intro i c x2 x3 x5 mm hi hc hD hR h2 h3
    subst hc
    have hHm := hH.dm hD
    have hok : as_ok n m t sm (cv mm 25) := by rw [hR]; exact as_run_ok hG2 h0 i
    obtain ⟨hW, hB, hL, hb, hN, hV, hC, hQ, hsc⟩ := id hHm
    have hk3 : mm sc 3 = nI k := by rw [hD sc (by omega) (by omega)]; exact hk
    refine fc_run oX10_judged (fun pc => pc == 30) 400 ?_
    refine And.intro rfl (Exists.intro _ (And.intro hC ?_))
    refine And.intro (fc_Q_0 hQ) ?_
    refine And.intro (fun h39 => ?_) (fun h39 => ?_)
    · exact absurd h39 (by rw [hk3]; exact nI_ge (by omega) (by omega))
    · refine And.intro rfl (Exists.intro _ (And.intro hC ?_))
      refine And.intro rfl (Exists.intro _ (And.intro hB ?_))
      refine And.intro rfl (Exists.intro _ (And.intro (hW 0 4 25 rfl) ?_))
      refine And.intro (fc_Q_0 hQ) (Exists.intro _ (And.intro (c_play (fc_S_at25 hW) hL (by omega) hQ hN hok.sv (hA.dm (by omega) hD) (show i < 40 by omega)) ?_))
      rintro _ m56 _ _ ⟨rfl, C56, D56, rfl, rfl⟩
      have eM : as_play (cl mm b) (cv mm 25) n m t (mm b 14) (cw mm b len) (mm (sc + 1) i) (mm (sc + 2) i) (mm (sc + 3) i) = as_play (cl mi b) (as_run (cl mi b) σ n m t (nI sm) (cw mi b len) (mi (sc + 1)) (mi (sc + 2)) (mi (sc + 3)) i).1 n m t (nI sm) (cw mi b len) (mi (sc + 1) i) (mi (sc + 2) i) (mi (sc + 3) i) := by
        rw [hR, cl_dm (by omega) hD, cw_dm (by omega) hD, hD b (by omega) (by omega), hs, hD (sc + 1) (by omega) (by omega), hD (sc + 2) (by omega) (by omega), hD (sc + 3) (by omega) (by omega)]
      have eP := congrArg Prod.snd eM
      refine And.intro (fun h64 => ?_) (fun h64 => ?_)
      · refine And.intro (fun h69 => ?_) (fun h69 => ?_)
        · refine And.intro (fun h78 => ?_) (fun h78 => ?_)
          · refine And.intro (fun h83 => ?_) (fun h83 => ?_)
            · exact ih (i + 1) _ _ _ _ _ (by omega) (fc_inc i) (hD.tr D56) (by rw [C56, eM]; rfl) (by rw [as_run]; simp only; rw [if_pos ⟨by rw [← eP]; exact h64, by rw [← h2]; exact h69⟩]) (by rw [as_run]; simp only; rw [if_pos ⟨by rw [← eP]; exact h78, by rw [← h3]; exact h83⟩])
            · exact ih (i + 1) _ _ _ _ _ (by omega) (fc_inc i) (hD.tr D56) (by rw [C56, eM]; rfl) (by rw [as_run]; simp only; rw [if_pos ⟨by rw [← eP]; exact h64, by rw [← h2]; exact h69⟩]) (by rw [as_run]; simp only; rw [if_neg (fun q => h83 (by rw [h3]; exact q.2))]; exact h3)
          · exact ih (i + 1) _ _ _ _ _ (by omega) (fc_inc i) (hD.tr D56) (by rw [C56, eM]; rfl) (by rw [as_run]; simp only; rw [if_pos ⟨by rw [← eP]; exact h64, by rw [← h2]; exact h69⟩]) (by rw [as_run]; simp only; rw [if_neg (fun q => h78 (by rw [eP]; exact q.1))]; exact h3)
        · refine And.intro (fun h78 => ?_) (fun h78 => ?_)
          · refine And.intro (fun h83 => ?_) (fun h83 => ?_)
            · exact ih (i + 1) _ _ _ _ _ (by omega) (fc_inc i) (hD.tr D56) (by rw [C56, eM]; rfl) (by rw [as_run]; simp only; rw [if_neg (fun q => h69 (by rw [h2]; exact q.2))]; exact h2) (by rw [as_run]; simp only; rw [if_pos ⟨by rw [← eP]; exact h78, by rw [← h3]; exact h83⟩])
            · exact ih (i + 1) _ _ _ _ _ (by omega) (fc_inc i) (hD.tr D56) (by rw [C56, eM]; rfl) (by rw [as_run]; simp only; rw [if_neg (fun q => h69 (by rw [h2]; exact q.2))]; exact h2) (by rw [as_run]; simp only; rw [if_neg (fun q => h83 (by rw [h3]; exact q.2))]; exact h3)
          · exact ih (i + 1) _ _ _ _ _ (by omega) (fc_inc i) (hD.tr D56) (by rw [C56, eM]; rfl) (by rw [as_run]; simp only; rw [if_neg (fun q => h69 (by rw [h2]; exact q.2))]; exact h2) (by rw [as_run]; simp only; rw [if_neg (fun q => h78 (by rw [eP]; exact q.1))]; exact h3)
      · refine And.intro (fun h78 => ?_) (fun h78 => ?_)
        · refine And.intro (fun h83 => ?_) (fun h83 => ?_)
          · exact ih (i + 1) _ _ _ _ _ (by omega) (fc_inc i) (hD.tr D56) (by rw [C56, eM]; rfl) (by rw [as_run]; simp only; rw [if_neg (fun q => h64 (by rw [eP]; exact q.1))]; exact h2) (by rw [as_run]; simp only; rw [if_pos ⟨by rw [← eP]; exact h78, by rw [← h3]; exact h83⟩])
          · exact ih (i + 1) _ _ _ _ _ (by omega) (fc_inc i) (hD.tr D56) (by rw [C56, eM]; rfl) (by rw [as_run]; simp only; rw [if_neg (fun q => h64 (by rw [eP]; exact q.1))]; exact h2) (by rw [as_run]; simp only; rw [if_neg (fun q => h83 (by rw [h3]; exact q.2))]; exact h3)
        · exact ih (i + 1) _ _ _ _ _ (by omega) (fc_inc i) (hD.tr D56) (by rw [C56, eM]; rfl) (by rw [as_run]; simp only; rw [if_neg (fun q => h64 (by rw [eP]; exact q.1))]; exact h2) (by rw [as_run]; simp only; rw [if_neg (fun q => h78 (by rw [eP]; exact q.1))]; exact h3)

theorem c_judged (hH : fc_H mi mr b sc n m t) {len : Nat} (hbs : b + 12 < sc) (hA : fc_La mi b len) (hG : fc_Gd mi b n m t sm) {k : Nat} (hk : mi sc 3 = nI k) (hk4 : k ≤ 40) (w : Int32) : fc_R E mX10_judged (d + 6) fc_sh [.ref 0, .int w] mi ml mr (fun v mi' ml' mr' => (sp_from 0 w 2 = false ∧ fc_is (some (.int (-2))) mi ml mr v mi' ml' mr') ∨ (sp_from 0 w 2 = true ∧ fc_dv b (as_jd (cl mi b) (cv (sp_bg mi 25 b 5 6) 25) n m t (nI sm) (cw mi b len) (mi (sc + 1)) (mi (sc + 2)) (mi (sc + 3)) k w) mi ml mr v mi' ml' mr')) := by
  obtain ⟨hW, hB, hL, hb, hN, hV, hC, hQ, hsc⟩ := id hH
  obtain ⟨hN1, hN2, hN3, hN4, hN5, hN6⟩ := id hN
  obtain ⟨hG1, hG2, hG3⟩ := id hG
  refine fc_met rfl (Nat.le_of_ble_eq_true rfl) (fc_run oX10_judged (fun pc => pc == 30) 400 ?_)
  refine And.intro (fun h1 => ?_) (fun h1 => ?_)
  · refine Or.inl ⟨?_, rfl, rfl, rfl, rfl⟩
    simp [sp_from, h1]
  · refine And.intro (fun h6 => ?_) (fun h6 => ?_)
    · refine And.intro rfl (Exists.intro _ (And.intro (hW 0 4 25 rfl) ?_))
      refine And.intro rfl (Exists.intro _ (And.intro hB ?_))
      refine And.intro (fc_S_0 (fc_S_at25 hW)) (Exists.intro _ (And.intro (c_begin (fc_S_at25 hW) hL (by omega)) ?_))
      rintro _ _ _ _ ⟨rfl, rfl, rfl, rfl⟩
      refine fc_conT (l_judged (hH.dm sp_bg_dm) hbs (hA.dm (by omega) sp_bg_dm) (by rw [cl_dm (a := 25) (by omega) sp_bg_dm]; exact hG2) (by rw [sp_bg_dm b (by omega) (by omega)]; exact hG1) (σ := cv (sp_bg mi 25 b 5 6) 25) ((as_beg_ok hG2).ag (sp_bg_cv hN2 hN6).sy) (k := k) (by rw [sp_bg_dm sc (by omega) (by omega)]; exact hk) hk4 w k 0 _ _ _ _ _ (by omega) rfl fc_dm.rf rfl rfl rfl) ?_
      rintro v a1 a2 a3 ⟨q1, q2, rfl, rfl⟩
      refine Or.inr ⟨by simp [sp_from]; exact ⟨Int32.not_lt.mp h1, h6⟩, ?_, sp_bg_dm.tr q2, rfl, rfl⟩
      rw [q1, cl_dm (a := 25) (by omega) sp_bg_dm, cw_dm (a := 25) (by omega) sp_bg_dm, sp_bg_dm (sc + 1) (by omega) (by omega), sp_bg_dm (sc + 2) (by omega) (by omega), sp_bg_dm (sc + 3) (by omega) (by omega)]
    · refine Or.inl ⟨?_, rfl, rfl, rfl, rfl⟩
      simp [sp_from]; intro _; exact Int32.not_le.mp h6

/-- in how many minutes all have heard of all -/
def as_nws (L : fc_Mi) (n m : Nat) (s : Int32) : Nat → Nat → fc_Mi → Int32
  | 0, _, _ => -1
  | j + 1, i, σ => if sp_sum (fun p => sp_bc (σ 3 p)) n = nI n * nI n then nI i else as_nws L n m s j (i + 1) (as_pass L σ n m s)
theorem l_news (hH : fc_H mi mr b sc n m t) (hG2 : as_lok n m t sm (cl mi b)) (hs : mi b 14 = nI sm) : ∀ (j i : Nat) (c : Int32) (mm : fc_Mi), i + j = 100 → c = nI i → fc_dm 25 b mi mm → as_ok n m t sm (cv mm 25) → fc_T E mX10_news (d + 3) (0, 0) fc_sh 13 [some (.ref 0), some (.int c)] [] mm ml mr (fc_dv b (as_nws (cl mi b) n m (nI sm) j i (cv mm 25)) mi ml mr) := by
  intro j
  induction j with
  | zero =>
    intro i c mm hi hc hD hok
    subst hc
    obtain ⟨hW, hB, hL, hb, hN, hV, hC, hQ, hsc⟩ := id hH
    obtain ⟨hN1, hN2, hN3, hN4, hN5, hN6⟩ := id hN
    have hNm := hN.off (hD b (by omega) (by omega))
    have hNm1 := hNm.1
    refine fc_run oX10_news (fun pc => pc == 13) 400 ?_
    refine And.intro (fun h16 => ?_) (fun h16 => ?_)
    · exact ⟨rfl, hD, rfl, rfl⟩
    · exact absurd (nI_lt (a := 99) (b := i) (by omega) (by omega)) h16
  | succ j ih =>
    intro i c mm hi hc hD hok
    subst hc
    obtain ⟨hW, hB, hL, hb, hN, hV, hC, hQ, hsc⟩ := id hH
    obtain ⟨hN1, hN2, hN3, hN4, hN5, hN6⟩ := id hN
    have hNm := hN.off (hD b (by omega) (by omega))
    have hNm1 := hNm.1
    refine fc_run oX10_news (fun pc => pc == 13) 400 ?_
    refine And.intro (fun h16 => ?_) (fun h16 => ?_)
    · exact absurd h16 (nI_nlt (b := i) (a := 99) (by omega) (by omega))
    · refine And.intro rfl (Exists.intro _ (And.intro (hW 0 4 25 rfl) ?_))
      refine And.intro rfl (Exists.intro _ (And.intro hB ?_))
      refine And.intro (fc_S_0 (fc_S_at25 hW)) (Exists.intro _ (And.intro (c_newsOfAll (fc_S_at25 hW) hL hNm1 hN2) ?_))
      rintro _ _ _ _ ⟨rfl, rfl, rfl, rfl⟩
      refine And.intro rfl (Exists.intro _ (And.intro hB ?_))
      refine And.intro (fc_L_0 hL) ?_
      rw [hNm1]
      refine And.intro rfl (Exists.intro _ (And.intro hB ?_))
      refine And.intro (fc_L_0 hL) ?_
      rw [hNm1]
      refine And.intro (fun h45 => ?_) (fun h45 => ?_)
      · replace h45 : sp_sum (fun p => sp_bc (cv mm 25 3 p)) n = nI n * nI n := h45
        exact ⟨by rw [as_nws, if_pos h45], hD, rfl, rfl⟩
      · replace h45 : ¬ sp_sum (fun p => sp_bc (cv mm 25 3 p)) n = nI n * nI n := h45
        refine And.intro rfl (Exists.intro _ (And.intro (hW 0 4 25 rfl) ?_))
        refine And.intro rfl (Exists.intro _ (And.intro hB ?_))
        refine And.intro (fc_S_0 (fc_S_at25 hW)) (Exists.intro _ (And.intro (c_pass (t := t) (fc_S_at25 hW) hL (by omega) hNm hok.sv.1) ?_))
        intro v m58 l58 r58 q58
        obtain ⟨rfl, C58, D58, rfl, rfl⟩ := sp_pass_cv (by omega) q58
        have eM : as_pass (cl mm b) (cv mm 25) n m (mm b 14) = as_pass (cl mi b) (cv mm 25) n m (nI sm) := by rw [cl_dm (by omega) hD, hD b (by omega) (by omega), hs]
        rw [as_nws, if_neg h45, ← eM, ← C58]
        exact ih (i + 1) _ _ (by omega) (fc_inc i) (hD.tr D58) (by rw [C58, eM]; exact as_pass_ok hG2 hok)

theorem c_news (hH : fc_H mi mr b sc n m t) (hG : fc_Gd mi b n m t sm) : fc_R E mX10_news (d + 3) fc_sh [.ref 0] mi ml mr (fc_dv b (as_nws (cl mi b) n m (nI sm) 100 0 (cv (sp_cp mi 25 17) 25)) mi ml mr) := by
  obtain ⟨hW, hB, hL, hb, hN, hV, hC, hQ, hsc⟩ := id hH
  obtain ⟨hN1, hN2, hN3, hN4, hN5, hN6⟩ := id hN
  obtain ⟨hG1, hG2, hG3⟩ := id hG
  refine fc_met rfl (Nat.le_of_ble_eq_true rfl) (fc_run oX10_news (fun pc => pc == 13) 400 ?_)
  refine And.intro rfl (Exists.intro _ (And.intro (hW 0 4 25 rfl) ?_))
  refine And.intro rfl (Exists.intro _ (And.intro (hW 0 3 17 rfl) ?_))
  refine And.intro (fc_S_0 (fc_S_at25 hW)) (Exists.intro _ (And.intro (c_copy (fc_S_at25 hW) (fc_S_at17 hW) (Or.inr (by omega))) ?_))
  rintro _ _ _ _ ⟨rfl, rfl, rfl, rfl⟩
  refine fc_conT (l_news (hH.dm sp_cp_dm) (by rw [cl_dm (a := 25) (by omega) sp_cp_dm]; exact hG2) (by rw [sp_cp_dm (b := b) b (by omega) (by omega)]; exact hG1) 100 0 _ _ (by omega) rfl fc_dm.rf (hG3.ag (sp_cp_cv hN2 hN6).sy)) ?_
  rintro v a1 a2 a3 ⟨q1, q2, rfl, rfl⟩
  exact ⟨by rw [q1, cl_dm (a := 25) (by omega) sp_cp_dm], sp_cp_dm.tr q2, rfl, rfl⟩

end M46
