/-! ===== State's methods that don't ask the law ===== -/
/-- a land's numbers: persons n, places m, things t -/
def fc_LN (mi : fc_Mi) (b n m t : Nat) : Prop := mi b 12 = nI n ∧ n ≤ 5 ∧ mi b 10 = nI m ∧ m ≤ 7 ∧ mi b 13 = nI t ∧ t ≤ 6
/-- all are at places, things are with persons -/
def fc_SV (mi : fc_Mi) (a n m t : Nat) : Prop := (∀ p, p < n → ∃ j, j < m ∧ mi (a + 1) p = nI j) ∧ (∀ q, q < t → ∃ p, p < n ∧ mi (a + 6) q = nI p) ∧ (∀ q, q < t → ∃ p, p < n ∧ mi (a + 7) q = nI p)
section M14
variable {E : fc_E} {d : Nat} {mi : fc_Mi} {ml : fc_Ml} {mr : fc_Mr} {a b n m t : Nat}
theorem l_bitsAt (hS : fc_S mr a) (hL : fc_L mr b) (k : Int32) (hN : mi b 12 = nI n) (h5 : n ≤ 5) : ∀ (j i : Nat) (c acc : Int32), i + j = n → c = nI i → acc = sp_set (fun p => decide (mi (a + 1) p = k)) i → fc_T E mX7_bitsAt d (0, 0) fc_sh 5 [some (.ref a), some (.ref b), some (.int k), some (.int acc), some (.int c)] [] mi ml mr (fc_is (some (.int (sp_set (fun p => decide (mi (a + 1) p = k)) n))) mi ml mr) := by
  intro j
  induction j with
  | zero =>
    intro i c acc hi hc hacc
    subst hc
    refine fc_run oX7_bitsAt (fun pc => pc == 5) 400 ?_
    refine And.intro (fc_L_0 hL) ?_
    refine And.intro (fun h11 => ?_) (fun h11 => ?_)
    · exact ⟨by rw [hacc, show i = n by omega], rfl, rfl, rfl⟩
    · exact absurd (by rw [hN]; exact nI_le (by omega) (by omega)) h11
  | succ j ih =>
    intro i c acc hi hc hacc
    subst hc
    refine fc_run oX7_bitsAt (fun pc => pc == 5) 400 ?_
    refine And.intro (fc_L_0 hL) ?_
    refine And.intro (fun h11 => ?_) (fun h11 => ?_)
    · exact absurd h11 (by rw [hN]; exact nI_ge (by omega) (by omega))
    · refine And.intro (fc_S_0 hS) (Exists.intro _ (And.intro (fc_S_r2 hS) ?_))
      refine Exists.intro _ (Exists.intro _ (And.intro (fc_S_1 hS) (And.intro (by first | assumption | exact fc_ix_nI (by omega) (by omega) | exact fc_ix_nI (by assumption) (by omega)) ?_)))
      refine And.intro (fun h22 => ?_) (fun h22 => ?_)
      · exact ih (i + 1) _ _ (by omega) (fc_inc i) (by first | (rw [hacc]; exact sp_set_t (by simp [*])) | (rw [hacc]; exact sp_set_f (by simp [*])))
      · exact ih (i + 1) _ _ (by omega) (fc_inc i) (by first | (rw [hacc]; exact sp_set_t (by simp [*])) | (rw [hacc]; exact sp_set_f (by simp [*])))

theorem c_bitsAt (hS : fc_S mr a) (hL : fc_L mr b) (k : Int32) (hN : mi b 12 = nI n) (h5 : n ≤ 5) : fc_R E mX7_bitsAt d fc_sh [.ref a, .ref b, .int k] mi ml mr (fc_is (some (.int (sp_set (fun p => decide (mi (a + 1) p = k)) n))) mi ml mr) := by
  refine fc_met rfl (Nat.le_of_ble_eq_true rfl) (fc_run oX7_bitsAt (fun pc => pc == 5) 400 ?_)
  exact l_bitsAt hS hL k hN h5 n 0 _ _ (by omega) rfl rfl

theorem l_awakeBits (hL : fc_L mr b) (k : Int32) (hN : mi b 12 = nI n) (h5 : n ≤ 5) : ∀ (j i : Nat) (c acc : Int32), i + j = n → c = nI i → acc = sp_set (sp_aw (mi (b + 7)) k) i → fc_T E mX0_awakeBits (d + 1) (0, 0) fc_sh 4 [some (.ref b), some (.int k), some (.int acc), some (.int c)] [] mi ml mr (fc_is (some (.int (sp_set (sp_aw (mi (b + 7)) k) n))) mi ml mr) := by
  intro j
  induction j with
  | zero =>
    intro i c acc hi hc hacc
    subst hc
    refine fc_run oX0_awakeBits (fun pc => pc == 4) 400 ?_
    refine And.intro (fc_L_0 hL) ?_
    refine And.intro (fun h9 => ?_) (fun h9 => ?_)
    · exact ⟨by rw [hacc, show i = n by omega], rfl, rfl, rfl⟩
    · exact absurd (by rw [hN]; exact nI_le (by omega) (by omega)) h9
  | succ j ih =>
    intro i c acc hi hc hacc
    subst hc
    refine fc_run oX0_awakeBits (fun pc => pc == 4) 400 ?_
    refine And.intro (fc_L_0 hL) ?_
    refine And.intro (fun h9 => ?_) (fun h9 => ?_)
    · exact absurd h9 (by rw [hN]; exact nI_ge (by omega) (by omega))
    · refine And.intro (fc_L_0 hL) (Exists.intro _ (And.intro (c_isAwake hL (by omega) _) ?_))
      rintro _ _ _ _ ⟨rfl, rfl, rfl, rfl⟩
      refine And.intro (fun h18 => ?_) (fun h18 => ?_)
      · replace h18 := fc_b0.mp h18
        exact ih (i + 1) _ _ (by omega) (fc_inc i) (by first | (rw [hacc]; exact sp_set_t (by simp [*])) | (rw [hacc]; exact sp_set_f (by simp [*])))
      · replace h18 := fc_b1.mp h18
        exact ih (i + 1) _ _ (by omega) (fc_inc i) (by first | (rw [hacc]; exact sp_set_t (by simp [*])) | (rw [hacc]; exact sp_set_f (by simp [*])))

theorem c_awakeBits (hL : fc_L mr b) (k : Int32) (hN : mi b 12 = nI n) (h5 : n ≤ 5) : fc_R E mX0_awakeBits (d + 1) fc_sh [.ref b, .int k] mi ml mr (fc_is (some (.int (sp_set (sp_aw (mi (b + 7)) k) n))) mi ml mr) := by
  refine fc_met rfl (Nat.le_of_ble_eq_true rfl) (fc_run oX0_awakeBits (fun pc => pc == 4) 400 ?_)
  exact l_awakeBits hL k hN h5 n 0 _ _ (by omega) rfl rfl

theorem l_stray (hS : fc_S mr a) (hL : fc_L mr b) (hN : mi b 13 = nI t) (h5 : t ≤ 6) : ∀ (j i : Nat) (c acc : Int32), i + j = t → c = nI i → acc = sp_set (fun q => !decide (mi (a + 6) q = mi (a + 7) q)) i → fc_T E mX7_strayThings d (0, 0) fc_sh 4 [some (.ref a), some (.ref b), some (.int acc), some (.int c)] [] mi ml mr (fc_is (some (.int (sp_set (fun q => !decide (mi (a + 6) q = mi (a + 7) q)) t))) mi ml mr) := by
  intro j
  induction j with
  | zero =>
    intro i c acc hi hc hacc
    subst hc
    refine fc_run oX7_strayThings (fun pc => pc == 4) 400 ?_
    refine And.intro (fc_L_0 hL) ?_
    refine And.intro (fun h9 => ?_) (fun h9 => ?_)
    · exact ⟨by rw [hacc, show i = t by omega], rfl, rfl, rfl⟩
    · exact absurd (by rw [hN]; exact nI_le (by omega) (by omega)) h9
  | succ j ih =>
    intro i c acc hi hc hacc
    subst hc
    refine fc_run oX7_strayThings (fun pc => pc == 4) 400 ?_
    refine And.intro (fc_L_0 hL) ?_
    refine And.intro (fun h9 => ?_) (fun h9 => ?_)
    · exact absurd h9 (by rw [hN]; exact nI_ge (by omega) (by omega))
    · refine And.intro (fc_S_0 hS) (Exists.intro _ (And.intro (fc_S_r7 hS) ?_))
      refine Exists.intro _ (Exists.intro _ (And.intro (fc_S_6 hS) (And.intro (by first | assumption | exact fc_ix_nI (by omega) (by omega) | exact fc_ix_nI (by assumption) (by omega)) ?_)))
      refine And.intro (fc_S_0 hS) (Exists.intro _ (And.intro (fc_S_r8 hS) ?_))
      refine Exists.intro _ (Exists.intro _ (And.intro (fc_S_7 hS) (And.intro (by first | assumption | exact fc_ix_nI (by omega) (by omega) | exact fc_ix_nI (by assumption) (by omega)) ?_)))
      refine And.intro (fun h24 => ?_) (fun h24 => ?_)
      · exact ih (i + 1) _ _ (by omega) (fc_inc i) (by first | (rw [hacc]; exact sp_set_t (by simp [*])) | (rw [hacc]; exact sp_set_f (by simp [*])))
      · exact ih (i + 1) _ _ (by omega) (fc_inc i) (by first | (rw [hacc]; exact sp_set_t (by simp [*])) | (rw [hacc]; exact sp_set_f (by simp [*])))

theorem c_stray (hS : fc_S mr a) (hL : fc_L mr b) (hN : mi b 13 = nI t) (h5 : t ≤ 6) : fc_R E mX7_strayThings d fc_sh [.ref a, .ref b] mi ml mr (fc_is (some (.int (sp_set (fun q => !decide (mi (a + 6) q = mi (a + 7) q)) t))) mi ml mr) := by
  refine fc_met rfl (Nat.le_of_ble_eq_true rfl) (fc_run oX7_strayThings (fun pc => pc == 4) 400 ?_)
  exact l_stray hS hL hN h5 t 0 _ _ (by omega) rfl rfl

/-- how many bits, as the library reckons it -/
def sp_bc (x : Int32) : Int32 :=
  let a := x - ((x.toUInt32 >>> ((1 : Int32).toUInt32 &&& Int32.toUInt32 31)).toInt32 &&& 1431655765)
  let b := (a &&& 858993459) + ((a.toUInt32 >>> ((2 : Int32).toUInt32 &&& Int32.toUInt32 31)).toInt32 &&& 858993459)
  let c := (b + (b.toUInt32 >>> ((4 : Int32).toUInt32 &&& Int32.toUInt32 31)).toInt32) &&& 252645135
  let e := c + (c.toUInt32 >>> ((8 : Int32).toUInt32 &&& Int32.toUInt32 31)).toInt32
  let f := e + (e.toUInt32 >>> ((16 : Int32).toUInt32 &&& Int32.toUInt32 31)).toInt32
  f &&& 63
theorem c_bitCount (x : Int32) : fc_R E mJ6_bitCount_0f7a4 d fc_sh [.int x] mi ml mr (fc_is (some (.int (sp_bc x))) mi ml mr) := by
  refine fc_met rfl (Nat.le_of_ble_eq_true rfl) (fc_run oJ6_bitCount_0f7a4 (fun _ => false) 400 ?_)
  first | exact ⟨rfl, rfl, rfl, rfl⟩ | skip

theorem l_newsOfAll (hS : fc_S mr a) (hL : fc_L mr b) (hN : mi b 12 = nI n) (h5 : n ≤ 5) : ∀ (j i : Nat) (c acc : Int32), i + j = n → c = nI i → acc = sp_sum (fun p => sp_bc (mi (a + 3) p)) i → fc_T E mX7_newsOfAll (d + 1) (0, 0) fc_sh 4 [some (.ref a), some (.ref b), some (.int acc), some (.int c)] [] mi ml mr (fc_is (some (.int (sp_sum (fun p => sp_bc (mi (a + 3) p)) n))) mi ml mr) := by
  intro j
  induction j with
  | zero =>
    intro i c acc hi hc hacc
    subst hc
    refine fc_run oX7_newsOfAll (fun pc => pc == 4) 400 ?_
    refine And.intro (fc_L_0 hL) ?_
    refine And.intro (fun h9 => ?_) (fun h9 => ?_)
    · exact ⟨by rw [hacc, show i = n by omega], rfl, rfl, rfl⟩
    · exact absurd (by rw [hN]; exact nI_le (by omega) (by omega)) h9
  | succ j ih =>
    intro i c acc hi hc hacc
    subst hc
    refine fc_run oX7_newsOfAll (fun pc => pc == 4) 400 ?_
    refine And.intro (fc_L_0 hL) ?_
    refine And.intro (fun h9 => ?_) (fun h9 => ?_)
    · exact absurd h9 (by rw [hN]; exact nI_ge (by omega) (by omega))
    · refine And.intro (fc_S_0 hS) (Exists.intro _ (And.intro (fc_S_r4 hS) ?_))
      refine Exists.intro _ (Exists.intro _ (And.intro (fc_S_3 hS) (And.intro (by first | assumption | exact fc_ix_nI (by omega) (by omega) | exact fc_ix_nI (by assumption) (by omega)) ?_)))
      refine Exists.intro _ (And.intro (c_bitCount _) ?_)
      rintro _ _ _ _ ⟨rfl, rfl, rfl, rfl⟩
      exact ih (i + 1) _ _ (by omega) (fc_inc i) (by rw [hacc]; rfl)

theorem c_newsOfAll (hS : fc_S mr a) (hL : fc_L mr b) (hN : mi b 12 = nI n) (h5 : n ≤ 5) : fc_R E mX7_newsOfAll (d + 1) fc_sh [.ref a, .ref b] mi ml mr (fc_is (some (.int (sp_sum (fun p => sp_bc (mi (a + 3) p)) n))) mi ml mr) := by
  refine fc_met rfl (Nat.le_of_ble_eq_true rfl) (fc_run oX7_newsOfAll (fun pc => pc == 4) 400 ?_)
  exact l_newsOfAll hS hL hN h5 n 0 _ _ (by omega) rfl rfl

theorem c_isReady (hS : fc_S mr a) (hL : fc_L mr b) {p : Nat} (hp : p < 5) : fc_R E mX7_isReady (d + 1) fc_sh [.ref a, .ref b, .int (nI p)] mi ml mr (fc_is (some (.int (fc_b (sp_rd (mi (b + 7)) (mi (a + 2)) (mi a 1) p)))) mi ml mr) := by
  refine fc_met rfl (Nat.le_of_ble_eq_true rfl) (fc_run oX7_isReady (fun _ => false) 400 ?_)
  refine And.intro (fc_S_0 hS) ?_
  refine And.intro (fc_L_0 hL) (Exists.intro _ (And.intro (c_isAwake hL (by omega) _) ?_))
  rintro _ _ _ _ ⟨rfl, rfl, rfl, rfl⟩
  refine And.intro (fun h9 => ?_) (fun h9 => ?_)
  · replace h9 := fc_b0.mp h9
    refine And.intro (by first | exact Or.inl rfl | exact Or.inr rfl | exact fc_bb _ | assumption) ?_
    exact ⟨by simp [sp_rd, fc_b, *], rfl, rfl, rfl⟩
  · replace h9 := fc_b1.mp h9
    refine And.intro (fc_S_0 hS) (Exists.intro _ (And.intro (fc_S_r3 hS) ?_))
    refine Exists.intro _ (Exists.intro _ (And.intro (fc_S_2 hS) (And.intro (by first | assumption | exact fc_ix_nI (by omega) (by omega) | exact fc_ix_nI (by assumption) (by omega)) ?_)))
    refine And.intro (fun h18 => ?_) (fun h18 => ?_)
    · refine And.intro (by first | exact Or.inl rfl | exact Or.inr rfl | exact fc_bb _ | assumption) ?_
      exact ⟨by simp [sp_rd, fc_b, *], rfl, rfl, rfl⟩
    · refine And.intro (by first | exact Or.inl rfl | exact Or.inr rfl | exact fc_bb _ | assumption) ?_
      exact ⟨by simp [sp_rd, fc_b, *], rfl, rfl, rfl⟩

def sp_mo (wk ac kd : Nat → Int32) (m : Int32) (p : Nat) (x : Int32) : Int32 :=
  if x = 0 then x else if x < 1000 then
    (if (if 0 < wk p - m then wk p - m else 0) < ac p then ac p else (if 0 < wk p - m then wk p - m else 0)) + (if kd p = 2 then 2 * x else x) else x
theorem c_minutesOver (hS : fc_S mr a) (hL : fc_L mr b) {p : Nat} (hp : p < 5) (x : Int32) : fc_R E mX7_minutesOver (d + 1) fc_sh [.ref a, .ref b, .int (nI p), .int x] mi ml mr (fc_is (some (.int (sp_mo (mi (b + 7)) (mi (a + 2)) (mi (b + 5)) (mi a 1) p x))) mi ml mr) := by
  refine fc_met rfl (Nat.le_of_ble_eq_true rfl) (fc_run oX7_minutesOver (fun _ => false) 400 ?_)
  refine And.intro (fun h1 => ?_) (fun h1 => ?_)
  · exact ⟨by simp [sp_mo, h1], rfl, rfl, rfl⟩
  · refine And.intro (fun h8 => ?_) (fun h8 => ?_)
    · refine And.intro (fc_S_0 hS) ?_
      refine And.intro (fc_L_0 hL) (Exists.intro _ (And.intro (c_sleepOf hL (by omega) _) ?_))
      rintro _ _ _ _ ⟨rfl, rfl, rfl, rfl⟩
      refine And.intro (fc_S_0 hS) (Exists.intro _ (And.intro (fc_S_r3 hS) ?_))
      refine Exists.intro _ (Exists.intro _ (And.intro (fc_S_2 hS) (And.intro (by first | assumption | exact fc_ix_nI (by omega) (by omega) | exact fc_ix_nI (by assumption) (by omega)) ?_)))
      refine And.intro (fc_L_0 hL) (Exists.intro _ (And.intro (fc_L_r4 hL) ?_))
      refine Exists.intro _ (Exists.intro _ (And.intro (fc_L_5 hL) (And.intro (by first | assumption | exact fc_ix_nI (by omega) (by omega) | exact fc_ix_nI (by assumption) (by omega)) ?_)))
      refine And.intro (fun h42 => ?_) (fun h42 => ?_)
      · exact ⟨by simp [sp_mo, h1, h8, h42], rfl, rfl, rfl⟩
      · exact ⟨by simp [sp_mo, h1, h8, h42], rfl, rfl, rfl⟩
    · exact ⟨by simp [sp_mo, h1, h8], rfl, rfl, rfl⟩

def sp_cw (ne np : Int32) (wk ac w pt : Nat → Int32) (m x k : Int32) : Bool := sp_has ne x && (sp_has np k && (sp_rd wk ac m x.toNatClampNeg && sp_in (pt (w x.toNatClampNeg).toNatClampNeg) k))
theorem fc_cl {p k : Nat} (h : p < k) (hk : k ≤ 1000) : (nI p).toNatClampNeg = p := nI_clamp (by omega)
theorem c_canWalk (hS : fc_S mr a) (hL : fc_L mr b) (hN : fc_LN mi b n m t) (hV : fc_SV mi a n m t) (x k : Int32) : fc_R E mX7_canWalk (d + 2) fc_sh [.ref a, .ref b, .int x, .int k] mi ml mr (fc_is (some (.int (fc_b (sp_cw (mi b 12) (mi b 10) (mi (b + 7)) (mi (a + 2)) (mi (a + 1)) (mi (b + 4)) (mi a 1) x k)))) mi ml mr) := by
  obtain ⟨hN1, hN2, hN3, hN4, hN5, hN6⟩ := hN
  refine fc_met rfl (Nat.le_of_ble_eq_true rfl) (fc_run oX7_canWalk (fun _ => false) 400 ?_)
  refine And.intro (fc_L_0 hL) (Exists.intro _ (And.intro (c_hasPerson hL _) ?_))
  rintro _ _ _ _ ⟨rfl, rfl, rfl, rfl⟩
  refine And.intro (fun h5 => ?_) (fun h5 => ?_)
  · replace h5 := fc_b0.mp h5
    refine And.intro (by first | exact Or.inl rfl | exact Or.inr rfl | exact fc_bb _ | assumption) ?_
    exact ⟨by simp [sp_cw, fc_b, h5], rfl, rfl, rfl⟩
  · replace h5 := fc_b1.mp h5
    rw [hN1] at h5
    obtain ⟨p, hp, rfl⟩ := sp_hasN (by omega) h5
    rw [← hN1] at h5
    obtain ⟨jj, hjj, hw⟩ := hV.1 p hp
    have hcl := fc_cl (k := 5) (show p < 5 by omega) (by omega)
    have hcj := fc_cl (k := 7) (show jj < 7 by omega) (by omega)
    refine And.intro (fc_L_0 hL) (Exists.intro _ (And.intro (c_hasPlace hL _) ?_))
    rintro _ _ _ _ ⟨rfl, rfl, rfl, rfl⟩
    refine And.intro (fun h13 => ?_) (fun h13 => ?_)
    · replace h13 := fc_b0.mp h13
      refine And.intro (by first | exact Or.inl rfl | exact Or.inr rfl | exact fc_bb _ | assumption) ?_
      exact ⟨by simp [sp_cw, fc_b, h5, hcl, hw, hcj, h13], rfl, rfl, rfl⟩
    · replace h13 := fc_b1.mp h13
      refine And.intro (fc_S_0 hS) (Exists.intro _ (And.intro (c_isReady hS hL (by omega)) ?_))
      rintro _ _ _ _ ⟨rfl, rfl, rfl, rfl⟩
      refine And.intro (fun h22 => ?_) (fun h22 => ?_)
      · replace h22 := fc_b0.mp h22
        refine And.intro (by first | exact Or.inl rfl | exact Or.inr rfl | exact fc_bb _ | assumption) ?_
        exact ⟨by simp [sp_cw, fc_b, h5, hcl, hw, hcj, h13, h22], rfl, rfl, rfl⟩
      · replace h22 := fc_b1.mp h22
        refine And.intro (fc_L_0 hL) (Exists.intro _ (And.intro (fc_L_r3 hL) ?_))
        refine And.intro (fc_S_0 hS) (Exists.intro _ (And.intro (fc_S_r2 hS) ?_))
        refine Exists.intro _ (Exists.intro _ (And.intro (fc_S_1 hS) (And.intro (by first | assumption | exact fc_ix_nI (by omega) (by omega) | exact fc_ix_nI (by assumption) (by omega)) ?_)))
        refine Exists.intro _ (Exists.intro _ (And.intro (fc_L_4 hL) (And.intro (by rw [hw]; exact fc_ix_nI (show jj < 7 by omega) (by omega)) ?_)))
        refine Exists.intro _ (And.intro (c_isIn _ _) ?_)
        rintro _ _ _ _ ⟨rfl, rfl, rfl, rfl⟩
        refine And.intro (fun h40 => ?_) (fun h40 => ?_)
        · replace h40 := fc_b0.mp h40
          refine And.intro (by first | exact Or.inl rfl | exact Or.inr rfl | exact fc_bb _ | assumption) ?_
          exact ⟨by simp [sp_cw, fc_b, h5, hcl, hw, hcj, h13, h22, h40], rfl, rfl, rfl⟩
        · replace h40 := fc_b1.mp h40
          refine And.intro (by first | exact Or.inl rfl | exact Or.inr rfl | exact fc_bb _ | assumption) ?_
          exact ⟨by simp [sp_cw, fc_b, h5, hcl, hw, hcj, h13, h22, h40], rfl, rfl, rfl⟩

end M14
