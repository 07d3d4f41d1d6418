/-! ===== State's methods that write ===== -/
theorem fc_u_ur {α : Type} (f : Nat → Nat → α) (x i : Nat) (g : Nat → α) (v : α) : fc_u (fc_ur f x g) x i v = fc_ur f x (fun j => if j = i then v else g j) := by
  funext q
  unfold fc_u fc_ur
  by_cases h : q = x
  · simp [h]
  · simp [h]
theorem fc_u_nj {α : Type} (f : Nat → Nat → α) (a b : Nat) {j k : Nat} (v : α) (h : k ≠ j) : fc_u f a j v b k = f b k := by
  unfold fc_u
  by_cases e : b = a
  · simp [e, h]
  · simp [e]
theorem fc_u_at {α : Type} (f : Nat → Nat → α) (a j : Nat) (v : α) : fc_u f a j v a j = v := by simp [fc_u]
theorem fc_u_eq {α : Type} (f : Nat → Nat → α) (x i : Nat) (v : α) : fc_u f x i v = fc_ur f x (fun j => if j = i then v else f x j) := by
  funext q
  unfold fc_u fc_ur
  by_cases h : q = x
  · simp [h]
  · simp [h]
theorem fc_ur_ur {α : Type} (f : Nat → Nat → α) (x : Nat) (g h : Nat → α) : fc_ur (fc_ur f x g) x h = fc_ur f x h := by
  funext q
  unfold fc_ur
  by_cases e : q = x
  · simp [e]
  · simp [e]
theorem fc_ur_self {α : Type} (f : Nat → Nat → α) (x : Nat) : fc_ur f x (f x) = f := by
  funext q
  unfold fc_ur
  by_cases e : q = x
  · simp [e]
  · simp [e]
theorem fc_ur_cm {α : Type} (f : Nat → Nat → α) {x z : Nat} (g h : Nat → α) (n : x ≠ z) : fc_ur (fc_ur f x g) z h = fc_ur (fc_ur f z h) x g := by
  funext q
  unfold fc_ur
  by_cases e : q = x
  · simp [e, n]
  · by_cases e2 : q = z <;> simp [e, e2, Ne.symm n]
theorem fc_rowE {α : Type} {f : Nat → Nat → α} {x : Nat} {g h : Nat → α} (e : ∀ j, g j = h j) : fc_ur f x g = fc_ur f x h := by
  rw [show g = h from funext e]
/-- or over those below n of whom P is so -/
def sp_or (P : Nat → Bool) (f : Nat → Int32) : Nat → Int32
  | 0 => 0
  | n + 1 => if P n then sp_or P f n ||| f n else sp_or P f n
theorem sp_or_t {P : Nat → Bool} {f : Nat → Int32} {n : Nat} (h : P n = true) : sp_or P f n ||| f n = sp_or P f (n + 1) := by rw [sp_or, if_pos h]
theorem sp_or_f {P : Nat → Bool} {f : Nat → Int32} {n : Nat} (h : P n = false) : sp_or P f n = sp_or P f (n + 1) := by rw [sp_or, if_neg (by rw [h]; decide)]
theorem sp_or_congr {P P' : Nat → Bool} {f f' : Nat → Int32} : ∀ {n : Nat}, (∀ i, i < n → P i = P' i ∧ (P i = true → f i = f' i)) → sp_or P f n = sp_or P' f' n
  | 0, _ => rfl
  | n + 1, h => by
    have h1 := h n (by omega)
    rw [sp_or, sp_or, sp_or_congr (fun i hi => h i (by omega)), ← h1.1]
    by_cases hp : P n = true
    · rw [if_pos hp, if_pos hp, h1.2 hp]
    · rw [if_neg hp, if_neg hp]
section M16
variable {E : fc_E} {d : Nat} {mi : fc_Mi} {ml : fc_Ml} {mr : fc_Mr} {a b n m t : Nat}
theorem c_goTo (hS : fc_S mr a) (hL : fc_L mr b) (hab : a + 8 ≤ b) {p : Nat} (hp : p < 5) (k : Int32) : fc_R E mX7_goTo d fc_sh [.ref a, .ref b, .int (nI p), .int k] mi ml mr (fc_is none (fc_u (fc_u mi (a + 1) p k) (a + 2) p (if mi (b + 5) p = 2 then 2 else 1)) ml mr) := by
  refine fc_met rfl (Nat.le_of_ble_eq_true rfl) (fc_run oX7_goTo (fun _ => false) 400 ?_)
  refine And.intro (fc_S_0 hS) (Exists.intro _ (And.intro (fc_S_r2 hS) ?_))
  refine Exists.intro _ (Exists.intro _ (And.intro (fc_S_1 hS) (And.intro (by first | assumption | exact fc_ix_nI (by omega) (by omega) | exact fc_ix_nI (by assumption) (by omega)) ?_)))
  refine And.intro (fc_S_0 hS) (Exists.intro _ (And.intro (fc_S_r3 hS) ?_))
  refine And.intro (fc_L_0 hL) (Exists.intro _ (And.intro (fc_L_r4 hL) ?_))
  refine Exists.intro _ (Exists.intro _ (And.intro (fc_L_5 hL) (And.intro (by first | assumption | exact fc_ix_nI (by omega) (by omega) | exact fc_ix_nI (by assumption) (by omega)) ?_)))
  refine And.intro (fun h19 => ?_) (fun h19 => ?_)
  · rw [fc_u_off _ _ _ (by omega)] at h19
    refine Exists.intro _ (Exists.intro _ (And.intro (fc_S_2 hS) (And.intro (by first | assumption | exact fc_ix_nI (by omega) (by omega) | exact fc_ix_nI (by assumption) (by omega)) ?_)))
    exact ⟨rfl, by simp [h19], rfl, rfl⟩
  · rw [fc_u_off _ _ _ (by omega)] at h19
    refine Exists.intro _ (Exists.intro _ (And.intro (fc_S_2 hS) (And.intro (by first | assumption | exact fc_ix_nI (by omega) (by omega) | exact fc_ix_nI (by assumption) (by omega)) ?_)))
    exact ⟨rfl, by simp [h19], rfl, rfl⟩

def sp_cg (nt ne : Int32) (ho wk ac w : Nat → Int32) (m x k : Int32) : Bool := sp_has nt x && (sp_has ne k && (!decide (ho x.toNatClampNeg = k) && (sp_rd wk ac m (ho x.toNatClampNeg).toNatClampNeg && (sp_aw wk m k.toNatClampNeg && decide (w (ho x.toNatClampNeg).toNatClampNeg = w k.toNatClampNeg)))))
theorem c_canGive (hS : fc_S mr a) (hL : fc_L mr b) (hN : fc_LN mi b n m t) (hV : fc_SV mi a n m t) (x k : Int32) : fc_R E mX7_canGive (d + 2) fc_sh [.ref a, .ref b, .int x, .int k] mi ml mr (fc_is (some (.int (fc_b (sp_cg (mi b 13) (mi b 12) (mi (a + 6)) (mi (b + 7)) (mi (a + 2)) (mi (a + 1)) (mi a 1) x k)))) mi ml mr) := by
  obtain ⟨hN1, hN2, hN3, hN4, hN5, hN6⟩ := hN
  refine fc_met rfl (Nat.le_of_ble_eq_true rfl) (fc_run oX7_canGive (fun _ => false) 400 ?_)
  refine And.intro (fc_L_0 hL) (Exists.intro _ (And.intro (c_hasThing hL _) ?_))
  rintro _ _ _ _ ⟨rfl, rfl, rfl, rfl⟩
  refine And.intro (fun h5 => ?_) (fun h5 => ?_)
  · replace h5 := fc_b0.mp h5
    refine And.intro (by first | exact Or.inl rfl | exact Or.inr rfl | exact fc_bb _ | assumption) ?_
    exact ⟨by simp [sp_cg, fc_b, h5], rfl, rfl, rfl⟩
  · replace h5 := fc_b1.mp h5
    rw [hN5] at h5
    obtain ⟨q, hq, rfl⟩ := sp_hasN (by omega) h5
    rw [← hN5] at h5
    obtain ⟨jj, hjj, hw⟩ := hV.2.1 q hq
    have hcl := fc_cl (k := 6) (show q < 6 by omega) (by omega)
    have hcj := fc_cl (k := 5) (show jj < 5 by omega) (by omega)
    refine And.intro (fc_L_0 hL) (Exists.intro _ (And.intro (c_hasPerson hL _) ?_))
    rintro _ _ _ _ ⟨rfl, rfl, rfl, rfl⟩
    refine And.intro (fun h13 => ?_) (fun h13 => ?_)
    · replace h13 := fc_b0.mp h13
      refine And.intro (by first | exact Or.inl rfl | exact Or.inr rfl | exact fc_bb _ | assumption) ?_
      exact ⟨by simp [sp_cg, fc_b, h5, hcl, hw, hcj, h13], rfl, rfl, rfl⟩
    · replace h13 := fc_b1.mp h13
      rw [hN1] at h13
      obtain ⟨p, hp, rfl⟩ := sp_hasN (by omega) h13
      rw [← hN1] at h13
      have hcp := fc_cl (k := 5) (show p < 5 by omega) (by omega)
      refine And.intro (fc_S_0 hS) (Exists.intro _ (And.intro (fc_S_r7 hS) ?_))
      refine Exists.intro _ (Exists.intro _ (And.intro (fc_S_6 hS) (And.intro (by first | assumption | exact fc_ix_nI (by omega) (by omega) | exact fc_ix_nI (by assumption) (by omega)) ?_)))
      rw [hw]
      refine And.intro (fun h29 => ?_) (fun h29 => ?_)
      · refine And.intro (by first | exact Or.inl rfl | exact Or.inr rfl | exact fc_bb _ | assumption) ?_
        exact ⟨by simp [sp_cg, fc_b, h5, hcl, hw, hcj, h13, hcp, h29], rfl, rfl, rfl⟩
      · refine And.intro (fc_S_0 hS) (Exists.intro _ (And.intro (c_isReady hS hL (by omega)) ?_))
        rintro _ _ _ _ ⟨rfl, rfl, rfl, rfl⟩
        refine And.intro (fun h39 => ?_) (fun h39 => ?_)
        · replace h39 := fc_b0.mp h39
          refine And.intro (by first | exact Or.inl rfl | exact Or.inr rfl | exact fc_bb _ | assumption) ?_
          exact ⟨by simp [sp_cg, fc_b, h5, hcl, hw, hcj, h13, hcp, h29, h39], rfl, rfl, rfl⟩
        · replace h39 := fc_b1.mp h39
          refine And.intro (fc_S_0 hS) ?_
          refine And.intro (fc_L_0 hL) (Exists.intro _ (And.intro (c_isAwake hL (by omega) _) ?_))
          rintro _ _ _ _ ⟨rfl, rfl, rfl, rfl⟩
          refine And.intro (fun h51 => ?_) (fun h51 => ?_)
          · replace h51 := fc_b0.mp h51
            refine And.intro (by first | exact Or.inl rfl | exact Or.inr rfl | exact fc_bb _ | assumption) ?_
            exact ⟨by simp [sp_cg, fc_b, h5, hcl, hw, hcj, h13, hcp, h29, h39, h51], rfl, rfl, rfl⟩
          · replace h51 := fc_b1.mp h51
            refine And.intro (fc_S_0 hS) (Exists.intro _ (And.intro (fc_S_r2 hS) ?_))
            refine Exists.intro _ (Exists.intro _ (And.intro (fc_S_1 hS) (And.intro (by first | assumption | exact fc_ix_nI (by omega) (by omega) | exact fc_ix_nI (by assumption) (by omega)) ?_)))
            refine And.intro (fc_S_0 hS) (Exists.intro _ (And.intro (fc_S_r2 hS) ?_))
            refine Exists.intro _ (Exists.intro _ (And.intro (fc_S_1 hS) (And.intro (by first | assumption | exact fc_ix_nI (by omega) (by omega) | exact fc_ix_nI (by assumption) (by omega)) ?_)))
            refine And.intro (fun h67 => ?_) (fun h67 => ?_)
            · refine And.intro (by first | exact Or.inl rfl | exact Or.inr rfl | exact fc_bb _ | assumption) ?_
              exact ⟨by simp [sp_cg, fc_b, h5, hcl, hw, hcj, h13, hcp, h29, h39, h51, h67], rfl, rfl, rfl⟩
            · refine And.intro (by first | exact Or.inl rfl | exact Or.inr rfl | exact fc_bb _ | assumption) ?_
              exact ⟨by simp [sp_cg, fc_b, h5, hcl, hw, hcj, h13, hcp, h29, h39, h51, h67], rfl, rfl, rfl⟩

def sp_cv (ne : Int32) (wk ac w kd vo : Nat → Int32) (m x k : Int32) : Bool := sp_has ne x && (sp_has ne k && (!decide (x = k) && (sp_rd wk ac m x.toNatClampNeg && (sp_rd wk ac m k.toNatClampNeg && (decide (w x.toNatClampNeg = w k.toNatClampNeg) && (!decide (kd x.toNatClampNeg = 3) && (!decide (kd k.toNatClampNeg = 3) && !sp_in (vo x.toNatClampNeg) k)))))))
theorem c_canVow (hS : fc_S mr a) (hL : fc_L mr b) (hN : fc_LN mi b n m t) (x k : Int32) : fc_R E mX7_canVow (d + 2) fc_sh [.ref a, .ref b, .int x, .int k] mi ml mr (fc_is (some (.int (fc_b (sp_cv (mi b 12) (mi (b + 7)) (mi (a + 2)) (mi (a + 1)) (mi (b + 5)) (mi (a + 4)) (mi a 1) x k)))) mi ml mr) := by
  obtain ⟨hN1, hN2, hN3, hN4, hN5, hN6⟩ := hN
  refine fc_met rfl (Nat.le_of_ble_eq_true rfl) (fc_run oX7_canVow (fun _ => false) 400 ?_)
  refine And.intro (fc_L_0 hL) (Exists.intro _ (And.intro (c_hasPerson hL _) ?_))
  rintro _ _ _ _ ⟨rfl, rfl, rfl, rfl⟩
  refine And.intro (fun h5 => ?_) (fun h5 => ?_)
  · replace h5 := fc_b0.mp h5
    refine And.intro (by first | exact Or.inl rfl | exact Or.inr rfl | exact fc_bb _ | assumption) ?_
    exact ⟨by simp [sp_cv, fc_b, h5], rfl, rfl, rfl⟩
  · replace h5 := fc_b1.mp h5
    rw [hN1] at h5
    obtain ⟨q, hq, rfl⟩ := sp_hasN (by omega) h5
    rw [← hN1] at h5
    have hcl := fc_cl (k := 6) (show q < 6 by omega) (by omega)
    refine And.intro (fc_L_0 hL) (Exists.intro _ (And.intro (c_hasPerson hL _) ?_))
    rintro _ _ _ _ ⟨rfl, rfl, rfl, rfl⟩
    refine And.intro (fun h13 => ?_) (fun h13 => ?_)
    · replace h13 := fc_b0.mp h13
      refine And.intro (by first | exact Or.inl rfl | exact Or.inr rfl | exact fc_bb _ | assumption) ?_
      exact ⟨by simp [sp_cv, fc_b, h5, hcl, h13], rfl, rfl, rfl⟩
    · replace h13 := fc_b1.mp h13
      rw [hN1] at h13
      obtain ⟨p, hp, rfl⟩ := sp_hasN (by omega) h13
      rw [← hN1] at h13
      have hcp := fc_cl (k := 5) (show p < 5 by omega) (by omega)
      refine And.intro (fun h18 => ?_) (fun h18 => ?_)
      · refine And.intro (by first | exact Or.inl rfl | exact Or.inr rfl | exact fc_bb _ | assumption) ?_
        exact ⟨by simp [sp_cv, fc_b, h5, hcl, h13, hcp, h18], rfl, rfl, rfl⟩
      · refine And.intro (fc_S_0 hS) (Exists.intro _ (And.intro (c_isReady hS hL (by omega)) ?_))
        rintro _ _ _ _ ⟨rfl, rfl, rfl, rfl⟩
        refine And.intro (fun h27 => ?_) (fun h27 => ?_)
        · replace h27 := fc_b0.mp h27
          refine And.intro (by first | exact Or.inl rfl | exact Or.inr rfl | exact fc_bb _ | assumption) ?_
          exact ⟨by simp [sp_cv, fc_b, h5, hcl, h13, hcp, h18, h27], rfl, rfl, rfl⟩
        · replace h27 := fc_b1.mp h27
          refine And.intro (fc_S_0 hS) (Exists.intro _ (And.intro (c_isReady hS hL (by omega)) ?_))
          rintro _ _ _ _ ⟨rfl, rfl, rfl, rfl⟩
          refine And.intro (fun h36 => ?_) (fun h36 => ?_)
          · replace h36 := fc_b0.mp h36
            refine And.intro (by first | exact Or.inl rfl | exact Or.inr rfl | exact fc_bb _ | assumption) ?_
            exact ⟨by simp [sp_cv, fc_b, h5, hcl, h13, hcp, h18, h27, h36], rfl, rfl, rfl⟩
          · replace h36 := fc_b1.mp h36
            refine And.intro (fc_S_0 hS) (Exists.intro _ (And.intro (fc_S_r2 hS) ?_))
            refine Exists.intro _ (Exists.intro _ (And.intro (fc_S_1 hS) (And.intro (by first | assumption | exact fc_ix_nI (by omega) (by omega) | exact fc_ix_nI (by assumption) (by omega)) ?_)))
            refine And.intro (fc_S_0 hS) (Exists.intro _ (And.intro (fc_S_r2 hS) ?_))
            refine Exists.intro _ (Exists.intro _ (And.intro (fc_S_1 hS) (And.intro (by first | assumption | exact fc_ix_nI (by omega) (by omega) | exact fc_ix_nI (by assumption) (by omega)) ?_)))
            refine And.intro (fun h51 => ?_) (fun h51 => ?_)
            · refine And.intro (fc_L_0 hL) (Exists.intro _ (And.intro (fc_L_r4 hL) ?_))
              refine Exists.intro _ (Exists.intro _ (And.intro (fc_L_5 hL) (And.intro (by first | assumption | exact fc_ix_nI (by omega) (by omega) | exact fc_ix_nI (by assumption) (by omega)) ?_)))
              refine And.intro (fun h61 => ?_) (fun h61 => ?_)
              · refine And.intro (by first | exact Or.inl rfl | exact Or.inr rfl | exact fc_bb _ | assumption) ?_
                exact ⟨by simp [sp_cv, fc_b, h5, hcl, h13, hcp, h18, h27, h36, h51, h61], rfl, rfl, rfl⟩
              · refine And.intro (fc_L_0 hL) (Exists.intro _ (And.intro (fc_L_r4 hL) ?_))
                refine Exists.intro _ (Exists.intro _ (And.intro (fc_L_5 hL) (And.intro (by first | assumption | exact fc_ix_nI (by omega) (by omega) | exact fc_ix_nI (by assumption) (by omega)) ?_)))
                refine And.intro (fun h71 => ?_) (fun h71 => ?_)
                · refine And.intro (by first | exact Or.inl rfl | exact Or.inr rfl | exact fc_bb _ | assumption) ?_
                  exact ⟨by simp [sp_cv, fc_b, h5, hcl, h13, hcp, h18, h27, h36, h51, h61, h71], rfl, rfl, rfl⟩
                · refine And.intro (fc_S_0 hS) (Exists.intro _ (And.intro (fc_S_r5 hS) ?_))
                  refine Exists.intro _ (Exists.intro _ (And.intro (fc_S_4 hS) (And.intro (by first | assumption | exact fc_ix_nI (by omega) (by omega) | exact fc_ix_nI (by assumption) (by omega)) ?_)))
                  refine Exists.intro _ (And.intro (c_isIn _ _) ?_)
                  rintro _ _ _ _ ⟨rfl, rfl, rfl, rfl⟩
                  refine And.intro (fun h84 => ?_) (fun h84 => ?_)
                  · replace h84 := fc_b0.mp h84
                    refine And.intro (by first | exact Or.inl rfl | exact Or.inr rfl | exact fc_bb _ | assumption) ?_
                    exact ⟨by simp [sp_cv, fc_b, h5, hcl, h13, hcp, h18, h27, h36, h51, h61, h71, h84], rfl, rfl, rfl⟩
                  · replace h84 := fc_b1.mp h84
                    refine And.intro (by first | exact Or.inl rfl | exact Or.inr rfl | exact fc_bb _ | assumption) ?_
                    exact ⟨by simp [sp_cv, fc_b, h5, hcl, h13, hcp, h18, h27, h36, h51, h61, h71, h84], rfl, rfl, rfl⟩
            · refine And.intro (by first | exact Or.inl rfl | exact Or.inr rfl | exact fc_bb _ | assumption) ?_
              exact ⟨by simp [sp_cv, fc_b, h5, hcl, h13, hcp, h18, h27, h36, h51], rfl, rfl, rfl⟩

theorem l_fill {q N : Nat} (hq : fc_sh[q]? = some (20, N)) (hN : N ≤ 1000) (x : Int32) : ∀ (j i : Nat) (c : Int32) (mm : fc_Mi), i + j = N → c = nI i → mm = fc_ur mi q (fun j => if j < i then x else mi q j) → fc_T E mJ7_fill_53178 d (0, 0) fc_sh 5 [some (.ref q), some (.int x), some (.int c), some (.int (Int32.ofNat N))] [] mm ml mr (fc_is none (fc_ur mi q (fun j => if j < N then x else mi q j)) ml mr) := by
  intro j
  induction j with
  | zero =>
    intro i c mm hi hc hm
    subst hc
    refine fc_run oJ7_fill_53178 (fun pc => pc == 5) 400 ?_
    refine And.intro (fun h7 => ?_) (fun h7 => ?_)
    · exact ⟨rfl, by rw [hm, show i = N by omega], rfl, rfl⟩
    · exact absurd (by rw [show Int32.ofNat N = nI N from rfl]; exact nI_le (by omega) (by omega)) h7
  | succ j ih =>
    intro i c mm hi hc hm
    subst hc
    refine fc_run oJ7_fill_53178 (fun pc => pc == 5) 400 ?_
    refine And.intro (fun h7 => ?_) (fun h7 => ?_)
    · exact absurd h7 (by rw [show Int32.ofNat N = nI N from rfl]; exact nI_ge (by omega) (by omega))
    · refine Exists.intro _ (Exists.intro _ (And.intro hq (And.intro (by first | assumption | exact fc_ix_nI (by omega) (by omega) | exact fc_ix_nI (by assumption) (by omega)) ?_)))
      exact ih (i + 1) _ _ (by omega) (fc_inc i) (by rw [hm, fc_u_ur]; exact fc_rowE (fun j => by by_cases h1 : j = i <;> by_cases h2 : j < i <;> simp [h1, h2] <;> omega))

theorem c_fill {q N : Nat} (hq : fc_sh[q]? = some (20, N)) (hN : N ≤ 1000) (x : Int32) : fc_R E mJ7_fill_53178 d fc_sh [.ref q, .int x] mi ml mr (fc_is none (fc_ur mi q (fun j => if j < N then x else mi q j)) ml mr) := by
  refine fc_met rfl (Nat.le_of_ble_eq_true rfl) (fc_run oJ7_fill_53178 (fun pc => pc == 5) 400 ?_)
  refine Exists.intro _ (Exists.intro _ (And.intro hq (And.intro (by decide) ?_)))
  exact l_fill (mi := mi) hq hN x N 0 _ _ (by omega) rfl (by simp [fc_ur_self])

end M16
