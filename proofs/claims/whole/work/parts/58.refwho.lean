/-! ===== the reference: who it was, whom to ask for; chance; rests ===== -/
/-- what is seen: places, minutes, whether one can -/
def rsn (mi : fc_Mi) (m k : Nat) (P Q C : Nat → Int32) : Prop := mi 268 39 = nI k ∧ k ≤ 8 ∧ ∀ s, s < k → (mi 268 (40 + 3 * s) = P s ∧ mi 268 (40 + 3 * s + 1) = Q s ∧ mi 268 (40 + 3 * s + 2) = C s) ∧ (∃ j, j < m ∧ P s = nI j) ∧ (C s = 0 ∨ C s = 1)
def a_fit (L σ : fc_Mi) (m : Nat) (P Q C : Nat → Int32) (p s : Nat) : Bool := decide ((if Q s < a_mt L σ m p (P s) then (0 : Int32) else 1) = C s)
theorem sp_al_i {P : Nat → Bool} : ∀ j i, sp_al P j i = true ↔ ∀ k, i ≤ k → k < i + j → P k = true
  | 0, i => by simp [sp_al]; omega
  | j + 1, i => by
    rw [sp_al]
    by_cases h : P i = true
    · rw [if_pos h, sp_al_i j (i + 1)]
      constructor
      · intro g k h1 h2
        by_cases e : k = i
        · rw [e]; exact h
        · exact g k (by omega) (by omega)
      · intro g k h1 h2; exact g k (by omega) (by omega)
    · rw [if_neg h]
      constructor
      · intro q; cases q
      · intro g; exact absurd (g i (by omega) (by omega)) h
theorem sp_al_s (P : Nat → Bool) (j : Nat) : sp_al P (j + 1) 0 = (sp_al P j 0 && P j) := by
  have h1 := sp_al_i (P := P) (j + 1) 0
  have h2 := sp_al_i (P := P) j 0
  cases h : sp_al P j 0 && P j with
  | true =>
    rw [Bool.and_eq_true] at h
    exact h1.mpr (fun k _ hk => by
      by_cases e : k = j
      · rw [e]; exact h.2
      · exact h2.mp h.1 k (by omega) (by omega))
  | false =>
    cases g : sp_al P (j + 1) 0 with
    | false => rfl
    | true =>
      have g := h1.mp g
      rw [h2.mpr (fun k _ hk => g k (by omega) (by omega)), g j (by omega) (by omega)] at h
      cases h
section M58
variable {E : fc_E} {d : Nat} {mi : fc_Mi} {ml : fc_Ml} {mr : fc_Mr} {B n m t sm g : Nat} {L σ : fc_Mi}
theorem rsn.off {mm : fc_Mi} {k : Nat} {P Q C : Nat → Int32} (h : rsn mi m k P Q C) (h1 : mm 268 = mi 268) : rsn mm m k P Q C := by unfold rsn at *; rw [h1]; exact h
theorem one_all : ∀ n, n ≤ 5 → ((1 : Int32) <<< (nI n &&& 31)) - 1 = sp_set (fun _ => true) n := by decide +kernel
theorem set_keep {P : Nat → Bool} {i : Nat} {F : Nat → Bool} (hn : n ≤ 5) (h : F i = true) : sp_set (fun p => P p && (!decide (p < i) || F p)) n &&& (-1) = sp_set (fun p => P p && (!decide (p < i + 1) || F p)) n := by
  apply b_ext
  intro k hk
  rw [b_and, b_m1 k hk, fb_set (by omega) hk, fb_set (by omega) hk, Bool.and_true]
  by_cases e : k = i
  · subst e; simp [h]
  · by_cases g : k < i
    · simp [g, show k < i + 1 by omega]
    · simp [g, show ¬ k < i + 1 by omega]
theorem set_drop {P : Nat → Bool} {i : Nat} {F : Nat → Bool} (hn : n ≤ 5) (hi : i < n) (h : F i = false) : sp_set (fun p => P p && (!decide (p < i) || F p)) n &&& (((1 : Int32) <<< (nI i &&& 31)) ^^^ (-1)) = sp_set (fun p => P p && (!decide (p < i + 1) || F p)) n := by
  apply b_ext
  intro k hk
  rw [b_and, fb_not _ hk, fb_one (by omega) hk, fb_set (by omega) hk, fb_set (by omega) hk]
  by_cases e : k = i
  · subst e; simp [h]
  · by_cases g : k < i
    · simp [g, e, show k < i + 1 by omega]
    · simp [g, e, show ¬ k < i + 1 by omega]
theorem l_rwho2 (hW : fc_Wd mr) (hA : ra mi 0 n m t sm L σ) {k : Nat} {P Q C : Nat → Int32} (hS : rsn mi m k P Q C) {s : Nat} (hs : s < k) {x3v : Int32} (h3v : x3v = nI (40 + 3 * s)) {K0 : fc_Q} (K : ∀ (acc c : Int32) (x3 x4 x5 : Option Value), acc = sp_set (fun p => sp_al (a_fit L σ m P Q C p) (s + 1) 0) n → c = nI (s + 1) → fc_T E mX11_whoNow (d + 4) (0, 0) fc_sh 11 [some (.ref 252), some (.int acc), some (.int c), x3, x4, x5] [] mi ml mr K0) : ∀ (j i : Nat) (c acc : Int32) (x5 : Option Value), i + j = n → c = nI i → acc = sp_set (fun p => (fun p => sp_al (a_fit L σ m P Q C p) s 0) p && (!decide (p < i) || (fun p => a_fit L σ m P Q C p s) p)) n → fc_T E mX11_whoNow (d + 4) (0, 0) fc_sh 32 [some (.ref 252), some (.int acc), some (.int (nI s)), some (.int x3v), some (.int c), x5] [] mi ml mr (K0) := by
  intro j
  induction j with
  | zero =>
    intro i c acc x5 hi hc h_acc
    subst hc
    obtain ⟨⟨e0, e2, e3, e4⟩, hB, hLo, hSo, hLg, hSg⟩ := id hA
    obtain ⟨h5, h7, h6, hss1, hss2, hLp, hLt⟩ := id hLo
    obtain ⟨⟨hs1, hs2, hs4⟩, ⟨jj, hj, ej⟩, hs3⟩ := hS.2.2 s hs
    have hk8 := hS.2.1
    refine fc_run oX11_whoNow (fun pc => pc == 32 || pc == 11) 400 ?_
    refine And.intro rfl (Exists.intro _ (And.intro (c_rpersons hW hA) ?_))
    rintro _ _ _ _ ⟨rfl, rfl, rfl, rfl⟩
    refine And.intro (fun h38 => ?_) (fun h38 => ?_)
    · exact K _ _ _ _ _ (by
        rw [h_acc, show i = n by omega]
        refine sp_set_congr (fun p hp => ?_)
        rw [decide_eq_true hp, sp_al_s]; simp) (fc_inc s)
    · exact absurd (nI_le (by omega) (by omega)) h38
  | succ j ih =>
    intro i c acc x5 hi hc h_acc
    subst hc
    obtain ⟨⟨e0, e2, e3, e4⟩, hB, hLo, hSo, hLg, hSg⟩ := id hA
    obtain ⟨h5, h7, h6, hss1, hss2, hLp, hLt⟩ := id hLo
    obtain ⟨⟨hs1, hs2, hs4⟩, ⟨jj, hj, ej⟩, hs3⟩ := hS.2.2 s hs
    have hk8 := hS.2.1
    refine fc_run oX11_whoNow (fun pc => pc == 32 || pc == 11) 400 ?_
    refine And.intro rfl (Exists.intro _ (And.intro (c_rpersons hW hA) ?_))
    rintro _ _ _ _ ⟨rfl, rfl, rfl, rfl⟩
    refine And.intro (fun h38 => ?_) (fun h38 => ?_)
    · exact absurd h38 (nI_ge (by omega) (by omega))
    · refine And.intro rfl (Exists.intro _ (And.intro (hW 252 24 268 rfl) ?_))
      refine Exists.intro _ (Exists.intro _ (And.intro rfl (And.intro (fc_ixn h3v (by omega) (by decide)) ?_)))
      refine And.intro rfl (Exists.intro _ (And.intro (c_rsoonOf hW hA rfl (hs1.trans ej) (by omega) (by omega)) ?_))
      rintro _ _ _ _ ⟨rfl, rfl, rfl, rfl⟩
      refine And.intro rfl (Exists.intro _ (And.intro (hW 252 24 268 rfl) ?_))
      refine Exists.intro _ (Exists.intro _ (And.intro rfl (And.intro (fc_ixn (fc_na h3v (fc_nl 1)) (by omega) (by decide)) ?_)))
      refine And.intro (fun h61 => ?_) (fun h61 => ?_)
      · rw [hs2, hs1] at h61
        refine And.intro rfl (Exists.intro _ (And.intro (hW 252 24 268 rfl) ?_))
        refine Exists.intro _ (Exists.intro _ (And.intro rfl (And.intro (fc_ixn (fc_na h3v (fc_nl 2)) (by omega) (by decide)) ?_)))
        refine And.intro (fun h83 => ?_) (fun h83 => ?_)
        · rw [hs4] at h83
          refine And.intro (fun h91 => ?_) (fun h91 => ?_)
          · exact absurd h91 (by decide)
          · have hv : (if Q s < a_mt L σ m i (P s) then (0 : Int32) else 1) = 0 := by rw [if_pos h61]
            have hC : C s = 1 := h83
            exact ih (i + 1) _ _ _ (by omega) (fc_inc i) (by rw [h_acc]; exact set_drop h5 (by omega) (decide_eq_false (by rw [hv, hC]; decide)))
        · rw [hs4] at h83
          refine And.intro (fun h91 => ?_) (fun h91 => ?_)
          · have hv : (if Q s < a_mt L σ m i (P s) then (0 : Int32) else 1) = 0 := by rw [if_pos h61]
            have hC : C s = 0 := hs3.resolve_right h83
            exact ih (i + 1) _ _ _ (by omega) (fc_inc i) (by rw [h_acc]; exact set_keep h5 (decide_eq_true (by rw [hv, hC])))
          · exact absurd rfl h91
      · rw [hs2, hs1] at h61
        refine And.intro rfl (Exists.intro _ (And.intro (hW 252 24 268 rfl) ?_))
        refine Exists.intro _ (Exists.intro _ (And.intro rfl (And.intro (fc_ixn (fc_na h3v (fc_nl 2)) (by omega) (by decide)) ?_)))
        refine And.intro (fun h83 => ?_) (fun h83 => ?_)
        · rw [hs4] at h83
          refine And.intro (fun h91 => ?_) (fun h91 => ?_)
          · have hv : (if Q s < a_mt L σ m i (P s) then (0 : Int32) else 1) = 1 := by rw [if_neg h61]
            have hC : C s = 1 := h83
            exact ih (i + 1) _ _ _ (by omega) (fc_inc i) (by rw [h_acc]; exact set_keep h5 (decide_eq_true (by rw [hv, hC])))
          · exact absurd rfl h91
        · rw [hs4] at h83
          refine And.intro (fun h91 => ?_) (fun h91 => ?_)
          · exact absurd h91 (by decide)
          · have hv : (if Q s < a_mt L σ m i (P s) then (0 : Int32) else 1) = 1 := by rw [if_neg h61]
            have hC : C s = 0 := hs3.resolve_right h83
            exact ih (i + 1) _ _ _ (by omega) (fc_inc i) (by rw [h_acc]; exact set_drop h5 (by omega) (decide_eq_false (by rw [hv, hC]; decide)))

theorem l_rwho1 (hW : fc_Wd mr) (hA : ra mi 0 n m t sm L σ) {k : Nat} {P Q C : Nat → Int32} (hS : rsn mi m k P Q C) : ∀ (j i : Nat) (c acc : Int32) (x3 x4 x5 : Option Value), i + j = k → c = nI i → acc = sp_set (fun p => sp_al (a_fit L σ m P Q C p) i 0) n → fc_T E mX11_whoNow (d + 4) (0, 0) fc_sh 11 [some (.ref 252), some (.int acc), some (.int c), x3, x4, x5] [] mi ml mr (fc_is (some (.int (sp_set (fun p => sp_al (a_fit L σ m P Q C p) k 0) n))) mi ml mr) := by
  intro j
  induction j with
  | zero =>
    intro i c acc x3 x4 x5 hi hc h_acc
    subst hc
    obtain ⟨⟨e0, e2, e3, e4⟩, hB, hLo, hSo, hLg, hSg⟩ := id hA
    obtain ⟨h5, h7, h6, hs1, hs2, hLp, hLt⟩ := id hLo
    refine fc_run oX11_whoNow (fun pc => pc == 11 || pc == 32) 400 ?_
    refine And.intro rfl (Exists.intro _ (And.intro (hW 252 24 268 rfl) ?_))
    refine Exists.intro _ (Exists.intro _ (And.intro rfl (And.intro (fc_ixn (fc_nl 39) (by omega) (by decide)) ?_)))
    refine And.intro (fun h19 => ?_) (fun h19 => ?_)
    · exact ⟨by rw [h_acc, show i = k by omega], rfl, rfl, rfl⟩
    · exact absurd (by rw [hS.1]; exact nI_le (by omega) (by have := hS.2.1; omega)) h19
  | succ j ih =>
    intro i c acc x3 x4 x5 hi hc h_acc
    subst hc
    obtain ⟨⟨e0, e2, e3, e4⟩, hB, hLo, hSo, hLg, hSg⟩ := id hA
    obtain ⟨h5, h7, h6, hs1, hs2, hLp, hLt⟩ := id hLo
    refine fc_run oX11_whoNow (fun pc => pc == 11 || pc == 32) 400 ?_
    refine And.intro rfl (Exists.intro _ (And.intro (hW 252 24 268 rfl) ?_))
    refine Exists.intro _ (Exists.intro _ (And.intro rfl (And.intro (fc_ixn (fc_nl 39) (by omega) (by decide)) ?_)))
    refine And.intro (fun h19 => ?_) (fun h19 => ?_)
    · exact absurd h19 (by rw [hS.1]; exact nI_ge (by omega) (by have := hS.2.1; omega))
    · exact l_rwho2 hW hA hS (show i < k by omega) (fc_na (fc_nl 40) (fc_nm (fc_nl 3) rfl)) (fun acc' c' y3 y4 y5 h1 h2 => ih (i + 1) _ _ _ _ _ (by omega) h2 h1) n 0 _ _ _ (by omega) rfl (by rw [h_acc]; exact sp_set_congr (fun p hp => by simp))

theorem c_rwhoNow (hW : fc_Wd mr) (hA : ra mi 0 n m t sm L σ) {k : Nat} {P Q C : Nat → Int32} (hS : rsn mi m k P Q C) : fc_R E mX11_whoNow (d + 4) fc_sh [.ref 252] mi ml mr (fc_is (some (.int (sp_set (fun p => sp_al (a_fit L σ m P Q C p) k 0) n))) mi ml mr) := by
  obtain ⟨⟨e0, e2, e3, e4⟩, hB, hLo, hSo, hLg, hSg⟩ := id hA
  obtain ⟨h5, h7, h6, hs1, hs2, hLp, hLt⟩ := id hLo
  refine fc_met rfl (Nat.le_of_ble_eq_true rfl) (fc_run oX11_whoNow (fun pc => pc == 11) 400 ?_)
  refine And.intro rfl (Exists.intro _ (And.intro (c_rpersons hW hA) ?_))
  rintro _ _ _ _ ⟨rfl, rfl, rfl, rfl⟩
  exact l_rwho1 hW hA hS k 0 _ _ _ _ _ (by omega) rfl ((one_all n h5).trans (sp_set_congr (fun p hp => rfl)))

theorem c_rwho (hW : fc_Wd mr) (hA : ra mi 0 n m t sm L σ) {k : Nat} {P Q C : Nat → Int32} (hS : rsn mi m k P Q C) : fc_R E mX11_who (d + 5) fc_sh [.ref 252] mi ml mr (fc_is (some (.int (sp_set (fun p => sp_al (a_fit L σ m P Q C p) k 0) n))) (fc_u mi 252 0 0) ml mr) := by
  replace hA : ra (fc_u mi 252 0 0) 0 n m t sm L σ := hA.off rfl rfl
  obtain ⟨⟨e0, e2, e3, e4⟩, hB, hLo, hSo, hLg, hSg⟩ := id hA
  obtain ⟨h5, h7, h6, hs1, hs2, hLp, hLt⟩ := id hLo
  replace hS : rsn (fc_u mi 252 0 0) m k P Q C := hS.off rfl
  refine fc_met rfl (Nat.le_of_ble_eq_true rfl) (fc_run oX11_who (fun _ => false) 400 ?_)
  refine And.intro rfl ?_
  refine And.intro rfl (Exists.intro _ (And.intro (c_rwhoNow hW hA hS) ?_))
  rintro _ _ _ _ ⟨rfl, rfl, rfl, rfl⟩
  exact ⟨rfl, rfl, rfl, rfl⟩

/-- how many are left at the worst -/
def a_lw (L σ : fc_Mi) (n m : Nat) (s : Int32) (mn kk : Nat) : Int32 := if sp_num (fun p => sp_in s (nI p) && !decide (nI mn < a_mt L σ m p (nI kk))) n < sp_bc s - sp_num (fun p => sp_in s (nI p) && !decide (nI mn < a_mt L σ m p (nI kk))) n then sp_bc s - sp_num (fun p => sp_in s (nI p) && !decide (nI mn < a_mt L σ m p (nI kk))) n else sp_num (fun p => sp_in s (nI p) && !decide (nI mn < a_mt L σ m p (nI kk))) n
theorem l_rask3 (hW : fc_Wd mr) (hA : ra mi 0 n m t sm L σ) {s : Int32} {mn kk : Nat} (hk : kk < m) (be le : Int32) {K0 : fc_Q} (K : ∀ (x8 : Option Value), fc_T E mX11_ask (d + 5) (0, 0) fc_sh 96 [some (.ref 252), some (.int s), some (.int (sp_bc s)), some (.int be), some (.int le), some (.int (nI mn)), some (.int (nI kk)), some (.int (sp_num (fun p => sp_in s (nI p) && !decide (nI mn < a_mt L σ m p (nI kk))) n)), x8] [] mi ml mr K0) : ∀ (j i : Nat) (c acc : Int32), i + j = n → c = nI i → acc = sp_num (fun p => sp_in s (nI p) && !decide (nI mn < a_mt L σ m p (nI kk))) i → fc_T E mX11_ask (d + 5) (0, 0) fc_sh 48 [some (.ref 252), some (.int s), some (.int (sp_bc s)), some (.int be), some (.int le), some (.int (nI mn)), some (.int (nI kk)), some (.int acc), some (.int c)] [] mi ml mr (K0) := by
  intro j
  induction j with
  | zero =>
    intro i c acc hi hc h_acc
    subst hc
    obtain ⟨⟨e0, e2, e3, e4⟩, hB, hLo, hSo, hLg, hSg⟩ := id hA
    obtain ⟨h5, h7, h6, hs1, hs2, hLp, hLt⟩ := id hLo
    refine fc_run oX11_ask (fun pc => pc == 48 || pc == 96) 400 ?_
    refine And.intro rfl (Exists.intro _ (And.intro (c_rpersons hW hA) ?_))
    rintro _ _ _ _ ⟨rfl, rfl, rfl, rfl⟩
    refine And.intro (fun h54 => ?_) (fun h54 => ?_)
    · rw [h_acc, show i = n by omega]
      exact K _
    · exact absurd (nI_le (by omega) (by omega)) h54
  | succ j ih =>
    intro i c acc hi hc h_acc
    subst hc
    obtain ⟨⟨e0, e2, e3, e4⟩, hB, hLo, hSo, hLg, hSg⟩ := id hA
    obtain ⟨h5, h7, h6, hs1, hs2, hLp, hLt⟩ := id hLo
    refine fc_run oX11_ask (fun pc => pc == 48 || pc == 96) 400 ?_
    refine And.intro rfl (Exists.intro _ (And.intro (c_rpersons hW hA) ?_))
    rintro _ _ _ _ ⟨rfl, rfl, rfl, rfl⟩
    refine And.intro (fun h54 => ?_) (fun h54 => ?_)
    · exact absurd h54 (nI_ge (by omega) (by omega))
    · refine And.intro (fun h66 => ?_) (fun h66 => ?_)
      · refine And.intro rfl (Exists.intro _ (And.intro (c_rsoonOf hW hA rfl rfl (by omega) (by omega)) ?_))
        rintro _ _ _ _ ⟨rfl, rfl, rfl, rfl⟩
        refine And.intro (fun h79 => ?_) (fun h79 => ?_)
        · exact ih (i + 1) _ _ (by omega) (fc_inc i) (by rw [h_acc, Int32.add_zero]; exact sp_num_f (P := fun p => sp_in s (nI p) && !decide (nI mn < a_mt L σ m p (nI kk))) (by show (_ && !decide (nI mn < a_mt L σ m i (nI kk))) = false; rw [nd_f h79]; simp))
        · exact ih (i + 1) _ _ (by omega) (fc_inc i) (by rw [h_acc]; exact sp_num_t (P := fun p => sp_in s (nI p) && !decide (nI mn < a_mt L σ m p (nI kk))) (by show (sp_in s (nI i) && !decide (nI mn < a_mt L σ m i (nI kk))) = true; rw [sp_in, decide_eq_true h66, nd_t h79]; rfl))
      · exact ih (i + 1) _ _ (by omega) (fc_inc i) (by rw [h_acc, Int32.add_zero]; exact sp_num_f (P := fun p => sp_in s (nI p) && !decide (nI mn < a_mt L σ m p (nI kk))) (by show (sp_in s (nI i) && _) = false; rw [sp_in, decide_eq_false h66]; rfl))

theorem l_rask4 (hW : fc_Wd mr) (hA : ra mi 0 n m t sm L σ) {s : Int32} {mn kk : Nat} {be le : Int32} {x8 : Option Value} {s0 : Int32 × Int32} (h_be : be = (sp_a1 (fun mn kk => a_lw L σ n m s mn kk) mn s0 kk).1) (h_le : le = (sp_a1 (fun mn kk => a_lw L σ n m s mn kk) mn s0 kk).2) {K0 : fc_Q} (K : ∀ (be' le' c : Int32) (x7 x8 : Option Value), be' = (sp_a1 (fun mn kk => a_lw L σ n m s mn kk) mn s0 (kk + 1)).1 → le' = (sp_a1 (fun mn kk => a_lw L σ n m s mn kk) mn s0 (kk + 1)).2 → c = nI (kk + 1) → fc_T E mX11_ask (d + 5) (0, 0) fc_sh 33 [some (.ref 252), some (.int s), some (.int (sp_bc s)), some (.int be'), some (.int le'), some (.int (nI mn)), some (.int c), x7, x8] [] mi ml mr K0) : fc_T E mX11_ask (d + 5) (0, 0) fc_sh 96 [some (.ref 252), some (.int s), some (.int (sp_bc s)), some (.int be), some (.int le), some (.int (nI mn)), some (.int (nI kk)), some (.int (sp_num (fun p => sp_in s (nI p) && !decide (nI mn < a_mt L σ m p (nI kk))) n)), x8] [] mi ml mr K0 := by
  refine fc_run oX11_ask (fun pc => pc == 33) 400 ?_
  refine And.intro (fun h102 => ?_) (fun h102 => ?_)
  · refine And.intro (fun h120 => ?_) (fun h120 => ?_)
    · refine And.intro (fun h140 => ?_) (fun h140 => ?_)
      · have hlw : a_lw L σ n m s mn kk = sp_bc s - sp_num (fun p => sp_in s (nI p) && !decide (nI mn < a_mt L σ m p (nI kk))) n := by unfold a_lw; rw [a_max0, if_pos h102]
        rw [h_le, ← hlw] at h120
        exact K _ _ _ _ _ (by rw [h_be, sp_a1, if_pos h120]) (by rw [h_le, sp_a1, if_pos h120]) (fc_inc kk)
      · exact absurd h120 h140
    · refine And.intro (fun h140 => ?_) (fun h140 => ?_)
      · exact absurd h140 h120
      · have hlw : a_lw L σ n m s mn kk = sp_bc s - sp_num (fun p => sp_in s (nI p) && !decide (nI mn < a_mt L σ m p (nI kk))) n := by unfold a_lw; rw [a_max0, if_pos h102]
        rw [h_le, ← hlw] at h120
        exact K _ _ _ _ _ (by rw [sp_a1, if_neg h120]) (by rw [sp_a1, if_neg h120, hlw]) (fc_inc kk)
  · refine And.intro (fun h120 => ?_) (fun h120 => ?_)
    · refine And.intro (fun h140 => ?_) (fun h140 => ?_)
      · have hlw : a_lw L σ n m s mn kk = sp_num (fun p => sp_in s (nI p) && !decide (nI mn < a_mt L σ m p (nI kk))) n := by unfold a_lw; rw [a_max0, if_neg h102]
        rw [h_le, ← hlw] at h120
        exact K _ _ _ _ _ (by rw [h_be, sp_a1, if_pos h120]) (by rw [h_le, sp_a1, if_pos h120]) (fc_inc kk)
      · exact absurd h120 h140
    · refine And.intro (fun h140 => ?_) (fun h140 => ?_)
      · exact absurd h140 h120
      · have hlw : a_lw L σ n m s mn kk = sp_num (fun p => sp_in s (nI p) && !decide (nI mn < a_mt L σ m p (nI kk))) n := by unfold a_lw; rw [a_max0, if_neg h102]
        rw [h_le, ← hlw] at h120
        exact K _ _ _ _ _ (by rw [sp_a1, if_neg h120]) (by rw [sp_a1, if_neg h120, hlw]) (fc_inc kk)
theorem l_rask2 (hW : fc_Wd mr) (hA : ra mi 0 n m t sm L σ) {s : Int32} {mn : Nat} (hmn : mn ≤ 99) (s0 : Int32 × Int32) {K0 : fc_Q} (K : ∀ (be le c : Int32) (x6 x7 x8 : Option Value), be = (sp_a1 (fun mn kk => a_lw L σ n m s mn kk) mn s0 m).1 → le = (sp_a1 (fun mn kk => a_lw L σ n m s mn kk) mn s0 m).2 → c = nI (mn + 1) → fc_T E mX11_ask (d + 5) (0, 0) fc_sh 23 [some (.ref 252), some (.int s), some (.int (sp_bc s)), some (.int be), some (.int le), some (.int c), x6, x7, x8] [] mi ml mr K0) : ∀ (j i : Nat) (c be le : Int32) (x7 x8 : Option Value), i + j = m → c = nI i → be = (sp_a1 (fun mn kk => a_lw L σ n m s mn kk) mn s0 i).1 → le = (sp_a1 (fun mn kk => a_lw L σ n m s mn kk) mn s0 i).2 → fc_T E mX11_ask (d + 5) (0, 0) fc_sh 33 [some (.ref 252), some (.int s), some (.int (sp_bc s)), some (.int be), some (.int le), some (.int (nI mn)), some (.int c), x7, x8] [] mi ml mr (K0) := by
  intro j
  induction j with
  | zero =>
    intro i c be le x7 x8 hi hc h_be h_le
    subst hc
    obtain ⟨⟨e0, e2, e3, e4⟩, hB, hLo, hSo, hLg, hSg⟩ := id hA
    obtain ⟨h5, h7, h6, hs1, hs2, hLp, hLt⟩ := id hLo
    refine fc_run oX11_ask (fun pc => pc == 33 || pc == 23 || pc == 48) 400 ?_
    refine And.intro rfl (Exists.intro _ (And.intro (c_rplaces hW hA) ?_))
    rintro _ _ _ _ ⟨rfl, rfl, rfl, rfl⟩
    refine And.intro (fun h39 => ?_) (fun h39 => ?_)
    · exact K _ _ _ _ _ _ (by rw [h_be, show i = m by omega]) (by rw [h_le, show i = m by omega]) (fc_inc mn)
    · exact absurd (nI_le (by omega) (by omega)) h39
  | succ j ih =>
    intro i c be le x7 x8 hi hc h_be h_le
    subst hc
    obtain ⟨⟨e0, e2, e3, e4⟩, hB, hLo, hSo, hLg, hSg⟩ := id hA
    obtain ⟨h5, h7, h6, hs1, hs2, hLp, hLt⟩ := id hLo
    refine fc_run oX11_ask (fun pc => pc == 33 || pc == 23 || pc == 48) 400 ?_
    refine And.intro rfl (Exists.intro _ (And.intro (c_rplaces hW hA) ?_))
    rintro _ _ _ _ ⟨rfl, rfl, rfl, rfl⟩
    refine And.intro (fun h39 => ?_) (fun h39 => ?_)
    · exact absurd h39 (nI_ge (by omega) (by omega))
    · exact l_rask3 hW hA (show i < m by omega) be le (fun y8 => l_rask4 hW hA h_be h_le (fun be' le' c' y7 y8 h1 h2 h3 => ih (i + 1) _ _ _ _ _ (by omega) h3 h1 h2)) n 0 _ _ (by omega) rfl rfl

theorem l_rask1 (hW : fc_Wd mr) (hA : ra mi 0 n m t sm L σ) {s : Int32} (s0 : Int32 × Int32) : ∀ (j i : Nat) (c be le : Int32) (x6 x7 x8 : Option Value), i + j = 100 → c = nI i → be = (sp_a2 (fun mn kk => a_lw L σ n m s mn kk) m s0 i).1 → le = (sp_a2 (fun mn kk => a_lw L σ n m s mn kk) m s0 i).2 → fc_T E mX11_ask (d + 5) (0, 0) fc_sh 23 [some (.ref 252), some (.int s), some (.int (sp_bc s)), some (.int be), some (.int le), some (.int c), x6, x7, x8] [] mi ml mr (fc_is (some (.int (sp_a2 (fun mn kk => a_lw L σ n m s mn kk) m s0 100).1)) mi ml mr) := by
  intro j
  induction j with
  | zero =>
    intro i c be le x6 x7 x8 hi hc h_be h_le
    subst hc
    obtain ⟨⟨e0, e2, e3, e4⟩, hB, hLo, hSo, hLg, hSg⟩ := id hA
    obtain ⟨h5, h7, h6, hs1, hs2, hLp, hLt⟩ := id hLo
    refine fc_run oX11_ask (fun pc => pc == 23 || pc == 33) 400 ?_
    refine And.intro (fun h27 => ?_) (fun h27 => ?_)
    · exact ⟨by rw [h_be, show i = 100 by omega], rfl, rfl, rfl⟩
    · exact absurd (nI_lt (a := 99) (b := i) (by omega) (by omega)) h27
  | succ j ih =>
    intro i c be le x6 x7 x8 hi hc h_be h_le
    subst hc
    obtain ⟨⟨e0, e2, e3, e4⟩, hB, hLo, hSo, hLg, hSg⟩ := id hA
    obtain ⟨h5, h7, h6, hs1, hs2, hLp, hLt⟩ := id hLo
    refine fc_run oX11_ask (fun pc => pc == 23 || pc == 33) 400 ?_
    refine And.intro (fun h27 => ?_) (fun h27 => ?_)
    · exact absurd h27 (nI_nlt (b := i) (a := 99) (by omega) (by omega))
    · exact l_rask2 hW hA (show i ≤ 99 by omega) (sp_a2 (fun mn kk => a_lw L σ n m s mn kk) m s0 i) (fun be' le' c' y6 y7 y8 h1 h2 h3 => ih (i + 1) _ _ _ _ _ _ (by omega) h3 h1 h2) m 0 _ _ _ _ _ (by omega) rfl h_be h_le

theorem c_rask (hW : fc_Wd mr) (hA : ra mi 0 n m t sm L σ) {k : Nat} {P Q C : Nat → Int32} (hS : rsn mi m k P Q C) : fc_R E mX11_ask (d + 5) fc_sh [.ref 252] mi ml mr (fc_is (some (.int ((fun s => (sp_a2 (fun mn kk => a_lw L σ n m s mn kk) m (-1, sp_bc s) 100).1) (sp_set (fun p => sp_al (a_fit L σ m P Q C p) k 0) n)))) (fc_u mi 252 0 0) ml mr) := by
  replace hA : ra (fc_u mi 252 0 0) 0 n m t sm L σ := hA.off rfl rfl
  obtain ⟨⟨e0, e2, e3, e4⟩, hB, hLo, hSo, hLg, hSg⟩ := id hA
  obtain ⟨h5, h7, h6, hs1, hs2, hLp, hLt⟩ := id hLo
  replace hS : rsn (fc_u mi 252 0 0) m k P Q C := hS.off rfl
  refine fc_met rfl (Nat.le_of_ble_eq_true rfl) (fc_run oX11_ask (fun pc => pc == 23) 400 ?_)
  refine And.intro rfl ?_
  refine And.intro rfl (Exists.intro _ (And.intro (c_rwhoNow hW hA hS) ?_))
  rintro _ _ _ _ ⟨rfl, rfl, rfl, rfl⟩
  refine Exists.intro _ (And.intro (c_rbits (lo7_set (by omega))) ?_)
  rintro _ _ _ _ ⟨rfl, rfl, rfl, rfl⟩
  exact l_rask1 hW hA _ 100 0 _ _ _ _ _ _ (by omega) rfl rfl rfl

def pwl (b : Int64) : Nat → Int64
  | 0 => 1
  | i + 1 => pwl b i * b
theorem ch_eq : ∀ a, a ≤ 6 → ∀ q, q ≤ 10 → (pwl (10 - (nI q).toInt64) a * 1000000 / pwl 10 a).toInt32 = sp_ch (nI a) (nI q) 6 := by decide +kernel
theorem ch_nz : ∀ a, a ≤ 6 → ¬ pwl 10 a = 0 := by decide +kernel
theorem sp_from16 {w : Int32} (h : sp_from 1 w 6 = true) : ∃ p, p ≤ 6 ∧ w = nI p := by
  simp only [sp_from, Bool.and_eq_true, Bool.not_eq_true', decide_eq_false_iff_not] at h
  have h0 : ¬ w < 0 := fun q => h.1 (Int32.lt_trans q (by decide))
  exact nI_of2 (M := 6) (n := 6) rfl h0 (Int32.not_lt.mp h.2)
theorem sp_from10 {w : Int32} (h : sp_from 0 w 10 = true) : ∃ p, p ≤ 10 ∧ w = nI p := by
  simp only [sp_from, Bool.and_eq_true, Bool.not_eq_true', decide_eq_false_iff_not] at h
  exact nI_of2 (M := 10) (n := 10) rfl h.1 (Int32.not_lt.mp h.2)
theorem l_rchance (hW : fc_Wd mr) (hA : ra mi 0 n m t sm L σ) {mn a q : Nat} (hmn : σ 0 1 = nI mn) (hms : mn < sm) (ha : a ≤ 6) (hq : q ≤ 10) {b : Nat} (hb : b = (if a < sm - mn then a else sm - mn)) : ∀ (j i : Nat) (c : Int32) (y z : Int64), i + j = b → c = nI i → y = pwl 10 i → z = pwl (10 - (nI q).toInt64) i → fc_T E mX11_chance (d + 1) (0, 0) fc_sh 35 [some (.ref 252), some (.int (nI a)), some (.int (nI q)), some (.long y), none, some (.long z), none, some (.int c)] [] mi ml mr (fc_is (some (.int (sp_ch (nI b) (nI q) 6))) mi ml mr) := by
  intro j
  induction j with
  | zero =>
    intro i c y z hi hc hy hz
    subst hc
    obtain ⟨⟨e0, e2, e3, e4⟩, hB, hLo, hSo, hLg, hSg⟩ := id hA
    obtain ⟨h5, h7, h6, hs1, hs2, hLp, hLt⟩ := id hLo
    refine fc_run oX11_chance (fun pc => pc == 35) 400 ?_
    refine And.intro (fun h38 => ?_) (fun h38 => ?_)
    · refine And.intro (by rw [hy]; exact ch_nz i (by split at hb <;> omega)) ?_
      exact ⟨by rw [hy, hz, ← ch_eq b (by split at hb <;> omega) q hq, show i = b by omega], rfl, rfl, rfl⟩
    · refine And.intro rfl (Exists.intro _ (And.intro (hW 252 24 268 rfl) ?_))
      refine Exists.intro _ (Exists.intro _ (And.intro rfl (And.intro (fc_ixn (fc_nl 1) (by omega) (by decide)) ?_)))
      refine And.intro rfl (Exists.intro _ (And.intro (c_rsmokeAt hW hA) ?_))
      rintro _ _ _ _ ⟨rfl, rfl, rfl, rfl⟩
      refine And.intro (fun h54 => ?_) (fun h54 => ?_)
      · refine And.intro (by rw [hy]; exact ch_nz i (by split at hb <;> omega)) ?_
        exact ⟨by rw [hy, hz, ← ch_eq b (by split at hb <;> omega) q hq, show i = b by omega], rfl, rfl, rfl⟩
      · rw [ra_10 hA, hmn, nI_add] at h54
        exfalso
        split at hb
        · exact h38 (nI_le (by omega) (by omega))
        · exact h54 (nI_le (by omega) (by omega))
  | succ j ih =>
    intro i c y z hi hc hy hz
    subst hc
    obtain ⟨⟨e0, e2, e3, e4⟩, hB, hLo, hSo, hLg, hSg⟩ := id hA
    obtain ⟨h5, h7, h6, hs1, hs2, hLp, hLt⟩ := id hLo
    refine fc_run oX11_chance (fun pc => pc == 35) 400 ?_
    refine And.intro (fun h38 => ?_) (fun h38 => ?_)
    · exact absurd h38 (nI_ge (by split at hb <;> omega) (by omega))
    · refine And.intro rfl (Exists.intro _ (And.intro (hW 252 24 268 rfl) ?_))
      refine Exists.intro _ (Exists.intro _ (And.intro rfl (And.intro (fc_ixn (fc_nl 1) (by omega) (by decide)) ?_)))
      refine And.intro rfl (Exists.intro _ (And.intro (c_rsmokeAt hW hA) ?_))
      rintro _ _ _ _ ⟨rfl, rfl, rfl, rfl⟩
      refine And.intro (fun h54 => ?_) (fun h54 => ?_)
      · rw [ra_10 hA, hmn, nI_add] at h54
        exact absurd h54 (nI_ge (by split at hb <;> omega) (by omega))
      · exact ih (i + 1) _ _ _ (by omega) (fc_inc i) (by rw [hy]; rfl) (by rw [hz]; rfl)

theorem c_rchance (hW : fc_Wd mr) (hA : ra mi 0 n m t sm L σ) {mn : Nat} (hmn : σ 0 1 = nI mn) (hms : mn < sm) (x z : Int32) : fc_R E mX11_chance (d + 1) fc_sh [.ref 252, .int x, .int z] mi ml mr (fc_is (some (.int (if sp_from 1 x 6 then (if sp_from 0 z 10 then sp_ch (if nI sm - σ 0 1 < x then nI sm - σ 0 1 else x) z 6 else -1) else -1))) (fc_u mi 252 0 0) ml mr) := by
  replace hA : ra (fc_u mi 252 0 0) 0 n m t sm L σ := hA.off rfl rfl
  obtain ⟨⟨e0, e2, e3, e4⟩, hB, hLo, hSo, hLg, hSg⟩ := id hA
  obtain ⟨h5, h7, h6, hs1, hs2, hLp, hLt⟩ := id hLo
  refine fc_met rfl (Nat.le_of_ble_eq_true rfl) (fc_run oX11_chance (fun pc => pc == 35) 400 ?_)
  refine And.intro rfl ?_
  refine Exists.intro _ (And.intro (c_rwithin _ _ _) ?_)
  rintro _ _ _ _ ⟨rfl, rfl, rfl, rfl⟩
  refine And.intro (fun h12 => ?_) (fun h12 => ?_)
  · replace h12 := fc_b0.mp h12
    exact ⟨by simp [h12], rfl, rfl, rfl⟩
  · replace h12 := fc_b1.mp h12
    refine Exists.intro _ (And.intro (c_rwithin _ _ _) ?_)
    rintro _ _ _ _ ⟨rfl, rfl, rfl, rfl⟩
    refine And.intro (fun h22 => ?_) (fun h22 => ?_)
    · replace h22 := fc_b0.mp h22
      exact ⟨by simp [h12, h22], rfl, rfl, rfl⟩
    · replace h22 := fc_b1.mp h22
      rw [if_pos h12, if_pos h22]
      obtain ⟨a, ha, ea⟩ := sp_from16 h12
      obtain ⟨q, hq, eq⟩ := sp_from10 h22
      subst ea eq
      have e : (if nI sm - σ 0 1 < nI a then nI sm - σ 0 1 else nI a) = nI (if a < sm - mn then a else sm - mn) := by
        rw [hmn, pk_sub (by omega)]
        by_cases g : a < sm - mn
        · rw [if_pos g, if_neg (nI_nlt (by omega) (by omega))]
        · rw [if_neg g]
          by_cases g2 : sm - mn < a
          · rw [if_pos (nI_lt g2 (by omega))]
          · rw [if_neg (nI_nlt (by omega) (by omega)), show a = sm - mn by omega]
      rw [e]
      exact l_rchance hW hA hmn hms ha hq rfl _ 0 _ _ _ (Nat.zero_add _) rfl rfl rfl

theorem c_rgetsBy (x z bo lo ga : Int32) : fc_R E mX11_getsBy d fc_sh [.int x, .int z, .int bo, .int lo, .int ga] mi ml mr (fc_is (some (.int (sp_gt bo lo ga x z))) mi ml mr) := by
  refine fc_met rfl (Nat.le_of_ble_eq_true rfl) (fc_run oX11_getsBy (fun _ => false) 400 ?_)
  refine And.intro (fun h2 => ?_) (fun h2 => ?_)
  · refine And.intro (fun h7 => ?_) (fun h7 => ?_)
    · exact ⟨by rw [sp_gt, if_pos h2, if_pos h7], rfl, rfl, rfl⟩
    · exact ⟨by rw [sp_gt, if_pos h2, if_neg h7], rfl, rfl, rfl⟩
  · refine And.intro (fun h22 => ?_) (fun h22 => ?_)
    · exact ⟨by rw [sp_gt, if_neg h2, if_pos h22], rfl, rfl, rfl⟩
    · exact ⟨by rw [sp_gt, if_neg h2, if_neg h22], rfl, rfl, rfl⟩

/-- how many rests there are among the first, and which is the one asked for -/
def rs_n (R : Nat → Bool) : Nat → Int32
  | 0 => 0
  | i + 1 => if R i then rs_n R i + 1 else rs_n R i
def rs_f (R : Nat → Bool) (w : Int32) : Nat → Int32
  | 0 => -1
  | i + 1 => if R i ∧ rs_n R i = w then nI i else rs_f R w i
def rs_may (bo lo ga w : Int32) : Bool := sp_from 0 bo 9 && (sp_from 0 lo 9 && (sp_from 0 ga 9 && !decide (w < -1)))
def rs_t (bo lo ga w : Int32) : Bool := !(rs_may bo lo ga w && (decide (w < 0) || !decide (rs_f (fun k => sp_rst bo lo ga (nI k)) w 4 < 0)))
def rs_a (bo lo ga w : Int32) : Int32 := if rs_t bo lo ga w then 0 else if w < 0 then rs_n (fun k => sp_rst bo lo ga (nI k)) 4 else rs_f (fun k => sp_rst bo lo ga (nI k)) w 4
theorem l_rrests1a {bo lo ga w nn ff : Int32} {i : Nat} (hi : i < 4) {x9 x10 x11 : Option Value} {K0 : fc_Q} (K : ∀ (x9 x10 : Option Value), fc_T E mX11_rests (d + 1) (0, 0) fc_sh 132 [some (.ref 252), some (.int bo), some (.int lo), some (.int ga), some (.int w), some (.int 1), some (.int nn), some (.int ff), some (.int (nI i)), x9, x10, some (.int (fc_b (sp_rst bo lo ga (nI i))))] [] mi ml mr K0) : fc_T E mX11_rests (d + 1) (0, 0) fc_sh 52 [some (.ref 252), some (.int bo), some (.int lo), some (.int ga), some (.int w), some (.int 1), some (.int nn), some (.int ff), some (.int (nI i)), x9, x10, x11] [] mi ml mr K0 := by
  refine fc_run oX11_rests (fun pc => pc == 132) 400 ?_
  refine And.intro (fun h55 => ?_) (fun h55 => ?_)
  · exact absurd h55 (nI_ge (a := i) (b := 4) (by omega) (by omega))
  · refine And.intro (fun h60 => ?_) (fun h60 => ?_)
    · exact absurd h60 (by decide)
    · refine And.intro (by decide) ?_
      refine And.intro (by decide) ?_
      refine Exists.intro _ (And.intro (c_rgetsBy _ _ _ _ _) ?_)
      rintro _ _ _ _ ⟨rfl, rfl, rfl, rfl⟩
      refine Exists.intro _ (And.intro (c_rgetsBy _ _ _ _ _) ?_)
      rintro _ _ _ _ ⟨rfl, rfl, rfl, rfl⟩
      refine And.intro (fun h97 => ?_) (fun h97 => ?_)
      · have hR : sp_rst bo lo ga (nI i) = false := by
          unfold sp_rst
          rw [nd_f h97]; rfl
        rw [hR] at K
        exact K _ _
      · refine Exists.intro _ (And.intro (c_rgetsBy _ _ _ _ _) ?_)
        rintro _ _ _ _ ⟨rfl, rfl, rfl, rfl⟩
        refine Exists.intro _ (And.intro (c_rgetsBy _ _ _ _ _) ?_)
        rintro _ _ _ _ ⟨rfl, rfl, rfl, rfl⟩
        refine And.intro (fun h122 => ?_) (fun h122 => ?_)
        · have hR : sp_rst bo lo ga (nI i) = false := by
            unfold sp_rst
            rw [nd_f h122]; simp
          rw [hR] at K
          exact K _ _
        · have hR : sp_rst bo lo ga (nI i) = true := by
            unfold sp_rst
            rw [nd_t h97, nd_t h122]; rfl
          rw [hR] at K
          exact K _ _
theorem l_rrests1 {bo lo ga w nn ff : Int32} {i : Nat} (hi : i < 4) {x9 x10 x11 : Option Value} (hn : nn = rs_n (fun k => sp_rst bo lo ga (nI k)) i) (hf : ff = rs_f (fun k => sp_rst bo lo ga (nI k)) w i) {K0 : fc_Q} (K : ∀ (nn' ff' c : Int32) (x9 x10 x11 : Option Value), nn' = rs_n (fun k => sp_rst bo lo ga (nI k)) (i + 1) → ff' = rs_f (fun k => sp_rst bo lo ga (nI k)) w (i + 1) → c = nI (i + 1) → fc_T E mX11_rests (d + 1) (0, 0) fc_sh 52 [some (.ref 252), some (.int bo), some (.int lo), some (.int ga), some (.int w), some (.int 1), some (.int nn'), some (.int ff'), some (.int c), x9, x10, x11] [] mi ml mr K0) : fc_T E mX11_rests (d + 1) (0, 0) fc_sh 52 [some (.ref 252), some (.int bo), some (.int lo), some (.int ga), some (.int w), some (.int 1), some (.int nn), some (.int ff), some (.int (nI i)), x9, x10, x11] [] mi ml mr K0 := by
  refine l_rrests1a hi (fun y9 y10 => ?_)
  refine fc_run oX11_rests (fun pc => pc == 52) 400 ?_
  refine And.intro (fun h134 => ?_) (fun h134 => ?_)
  · replace h134 := fc_b0.mp h134
    refine And.intro (fun h157 => ?_) (fun h157 => ?_)
    · replace h157 := fc_b0.mp h157
      exact K _ _ _ _ _ _ (by rw [rs_n, if_neg (by rw [h134]; decide), Int32.add_zero]; exact hn) (by rw [rs_f, if_neg (fun q => absurd q.1 (by rw [h134]; decide))]; exact hf) (fc_inc i)
    · replace h157 := fc_b1.mp h157
      rw [h134] at h157; cases h157
  · replace h134 := fc_b1.mp h134
    refine And.intro (fun h141 => ?_) (fun h141 => ?_)
    · refine And.intro (fun h157 => ?_) (fun h157 => ?_)
      · replace h157 := fc_b0.mp h157
        rw [h134] at h157; cases h157
      · replace h157 := fc_b1.mp h157
        exact K _ _ _ _ _ _ (by rw [rs_n, if_pos h134, hn]) (by rw [rs_f, if_pos ⟨h134, by rw [← hn]; exact h141⟩]) (fc_inc i)
    · refine And.intro (fun h157 => ?_) (fun h157 => ?_)
      · replace h157 := fc_b0.mp h157
        rw [h134] at h157; cases h157
      · replace h157 := fc_b1.mp h157
        exact K _ _ _ _ _ _ (by rw [rs_n, if_pos h134, hn]) (by rw [rs_f, if_neg (fun q => h141 (by rw [hn]; exact q.2))]; exact hf) (fc_inc i)
theorem l_rrestsE1 (hW : fc_Wd mr) {bo lo ga w c : Int32} {x9 x10 x11 : Option Value} (hm : rs_may bo lo ga w = true) : fc_T E mX11_rests (d + 1) (0, 0) fc_sh 174 [some (.ref 252), some (.int bo), some (.int lo), some (.int ga), some (.int w), some (.int 1), some (.int (rs_n (fun k => sp_rst bo lo ga (nI k)) 4)), some (.int (rs_f (fun k => sp_rst bo lo ga (nI k)) w 4)), some (.int c), x9, x10, x11] [] mi ml mr (fc_is (some (.int (rs_a bo lo ga w))) (fc_u mi 252 0 (fc_b (rs_t bo lo ga w))) ml mr) := by
  refine fc_run oX11_rests (fun _ => false) 400 ?_
  refine And.intro (fun h177 => ?_) (fun h177 => ?_)
  · exact absurd h177 (by decide)
  · refine And.intro (fun h182 => ?_) (fun h182 => ?_)
    · refine And.intro rfl ?_
      refine And.intro rfl ?_
      refine And.intro (fun h202 => ?_) (fun h202 => ?_)
      · refine And.intro (fun h211 => ?_) (fun h211 => ?_)
        · exact absurd h182 (Int32.not_lt.mpr h211)
        · have ht : rs_t bo lo ga w = false := by
            unfold rs_t
            rw [hm, decide_eq_true h182]; rfl
          exact ⟨by rw [rs_a, ht, if_neg (by decide), if_pos h182], by rw [ht]; rfl, rfl, rfl⟩
      · exact absurd (show (0 : Int32) ≤ 0 by decide) h202
    · refine And.intro (fun h187 => ?_) (fun h187 => ?_)
      · refine And.intro rfl ?_
        refine And.intro rfl ?_
        refine And.intro (fun h202 => ?_) (fun h202 => ?_)
        · exact absurd h202 (show ¬ (1 : Int32) ≤ 0 by decide)
        · have ht : rs_t bo lo ga w = true := by
            unfold rs_t
            rw [hm, decide_eq_false h182, nd_f (show rs_f (fun k => sp_rst bo lo ga (nI k)) w 4 < 0 from h187)]; rfl
          exact ⟨by rw [rs_a, ht, if_pos rfl], by rw [ht]; rfl, rfl, rfl⟩
      · refine And.intro rfl ?_
        refine And.intro rfl ?_
        refine And.intro (fun h202 => ?_) (fun h202 => ?_)
        · refine And.intro (fun h211 => ?_) (fun h211 => ?_)
          · have ht : rs_t bo lo ga w = false := by
              unfold rs_t
              rw [hm, decide_eq_false h182, nd_t (show ¬ rs_f (fun k => sp_rst bo lo ga (nI k)) w 4 < 0 from h187)]; rfl
            exact ⟨by rw [rs_a, ht, if_neg (by decide), if_neg h182], by rw [ht]; rfl, rfl, rfl⟩
          · exact absurd (Int32.not_lt.mp h182) h211
        · exact absurd (show (0 : Int32) ≤ 0 by decide) h202
theorem l_rrestsE0 (hW : fc_Wd mr) {bo lo ga w c : Int32} {x9 x10 x11 : Option Value} (hm : rs_may bo lo ga w = false) {nn ff : Int32} : fc_T E mX11_rests (d + 1) (0, 0) fc_sh 174 [some (.ref 252), some (.int bo), some (.int lo), some (.int ga), some (.int w), some (.int 0), some (.int nn), some (.int ff), some (.int c), x9, x10, x11] [] mi ml mr (fc_is (some (.int (rs_a bo lo ga w))) (fc_u mi 252 0 (fc_b (rs_t bo lo ga w))) ml mr) := by
  refine fc_run oX11_rests (fun _ => false) 400 ?_
  refine And.intro (fun h177 => ?_) (fun h177 => ?_)
  · refine And.intro rfl ?_
    refine And.intro rfl ?_
    refine And.intro (fun h202 => ?_) (fun h202 => ?_)
    · exact absurd h202 (show ¬ (1 : Int32) ≤ 0 by decide)
    · have ht : rs_t bo lo ga w = true := by
        unfold rs_t
        rw [hm]; rfl
      exact ⟨by rw [rs_a, ht, if_pos rfl], by rw [ht]; rfl, rfl, rfl⟩
  · exact absurd rfl h177
theorem l_rrests (hW : fc_Wd mr) {bo lo ga w : Int32} (hm : rs_may bo lo ga w = true) : ∀ (j i : Nat) (nn ff c : Int32) (x9 x10 x11 : Option Value), i + j = 4 → c = nI i → nn = rs_n (fun k => sp_rst bo lo ga (nI k)) i → ff = rs_f (fun k => sp_rst bo lo ga (nI k)) w i → fc_T E mX11_rests (d + 1) (0, 0) fc_sh 52 [some (.ref 252), some (.int bo), some (.int lo), some (.int ga), some (.int w), some (.int 1), some (.int nn), some (.int ff), some (.int c), x9, x10, x11] [] mi ml mr (fc_is (some (.int (rs_a bo lo ga w))) (fc_u mi 252 0 (fc_b (rs_t bo lo ga w))) ml mr) := by
  intro j
  induction j with
  | zero =>
    intro i nn ff c x9 x10 x11 hi hc hn hf
    subst hc
    refine fc_run oX11_rests (fun pc => pc == 52 || pc == 174) 400 ?_
    refine And.intro (fun h55 => ?_) (fun h55 => ?_)
    · rw [hn, hf, show i = 4 by omega]
      exact l_rrestsE1 hW hm
    · exact absurd (nI_le (a := 4) (b := i) (by omega) (by omega)) h55
  | succ j ih =>
    intro i nn ff c x9 x10 x11 hi hc hn hf
    subst hc
    exact l_rrests1 (by omega) hn hf (fun nn' ff' c' y9 y10 y11 h1 h2 h3 => ih (i + 1) _ _ _ _ _ _ (by omega) h3 h1 h2)
theorem l_rrests0 (hW : fc_Wd mr) {bo lo ga w : Int32} {x9 x10 x11 : Option Value} (hm : rs_may bo lo ga w = false) : fc_T E mX11_rests (d + 1) (0, 0) fc_sh 52 [some (.ref 252), some (.int bo), some (.int lo), some (.int ga), some (.int w), some (.int 0), some (.int 0), some (.int (-1)), some (.int 0), x9, x10, x11] [] mi ml mr (fc_is (some (.int (rs_a bo lo ga w))) (fc_u mi 252 0 (fc_b (rs_t bo lo ga w))) ml mr) := by
  refine fc_run oX11_rests (fun pc => pc == 174) 400 ?_
  refine And.intro (fun h55 => ?_) (fun h55 => ?_)
  · exact absurd h55 (by decide)
  · refine And.intro (fun h60 => ?_) (fun h60 => ?_)
    · exact l_rrestsE0 hW hm
    · exact absurd rfl h60
theorem c_rrests (hW : fc_Wd mr) (bo lo ga w : Int32) : fc_R E mX11_rests (d + 1) fc_sh [.ref 252, .int bo, .int lo, .int ga, .int w] mi ml mr (fc_is (some (.int (rs_a bo lo ga w))) (fc_u mi 252 0 (fc_b (rs_t bo lo ga w))) ml mr) := by
  refine fc_met rfl (Nat.le_of_ble_eq_true rfl) (fc_run oX11_rests (fun pc => pc == 52) 400 ?_)
  refine Exists.intro _ (And.intro (c_rwithin _ _ _) ?_)
  rintro _ _ _ _ ⟨rfl, rfl, rfl, rfl⟩
  refine And.intro (fun h7 => ?_) (fun h7 => ?_)
  · replace h7 := fc_b0.mp h7
    have hm : rs_may bo lo ga w = false := by
      unfold rs_may
      rw [h7]; rfl
    exact l_rrests0 hW hm
  · replace h7 := fc_b1.mp h7
    refine Exists.intro _ (And.intro (c_rwithin _ _ _) ?_)
    rintro _ _ _ _ ⟨rfl, rfl, rfl, rfl⟩
    refine And.intro (fun h17 => ?_) (fun h17 => ?_)
    · replace h17 := fc_b0.mp h17
      have hm : rs_may bo lo ga w = false := by
        unfold rs_may
        rw [h7, h17]; rfl
      exact l_rrests0 hW hm
    · replace h17 := fc_b1.mp h17
      refine Exists.intro _ (And.intro (c_rwithin _ _ _) ?_)
      rintro _ _ _ _ ⟨rfl, rfl, rfl, rfl⟩
      refine And.intro (fun h27 => ?_) (fun h27 => ?_)
      · replace h27 := fc_b0.mp h27
        have hm : rs_may bo lo ga w = false := by
          unfold rs_may
          rw [h7, h17, h27]; rfl
        exact l_rrests0 hW hm
      · replace h27 := fc_b1.mp h27
        refine And.intro (fun h33 => ?_) (fun h33 => ?_)
        · have hm : rs_may bo lo ga w = false := by
            unfold rs_may
            rw [h7, h17, h27, nd_f h33]; rfl
          exact l_rrests0 hW hm
        · have hm : rs_may bo lo ga w = true := by
            unfold rs_may
            rw [h7, h17, h27, nd_t h33]; rfl
          exact l_rrests hW hm 4 0 _ _ _ _ _ _ (by omega) rfl rfl rfl

theorem c_rthrown (hW : fc_Wd mr) : fc_R E mX11_thrown d fc_sh [.ref 252] mi ml mr (fc_is (some (.int (mi 252 0))) mi ml mr) := by
  refine fc_met rfl (Nat.le_of_ble_eq_true rfl) (fc_run oX11_thrown (fun _ => false) 400 ?_)
  refine And.intro rfl ?_
  exact ⟨rfl, rfl, rfl, rfl⟩

end M58
