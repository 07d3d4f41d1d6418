/-! ===== how the places lie ===== -/
section M21
variable {E : fc_E} {d : Nat} {mi : fc_Mi} {ml : fc_Ml} {mr : fc_Mr} {a b n m t : Nat}
def sp_nb (pt : Nat → Int32) (m : Nat) (x : Int32) : Int32 := sp_or (fun p => sp_in x (nI p)) pt m
def sp_sp (pt : Nat → Int32) (m : Nat) (shut x : Int32) : Nat → Int32
  | 0 => x
  | i + 1 => sp_sp pt m shut x i ||| (sp_nb pt m (sp_sp pt m shut x i) &&& (shut ^^^ (-1)))
/-- the answer at the first of whom P is so -/
def sp_ff (P R : Nat → Bool) : Nat → Nat → Bool
  | 0, _ => false
  | j + 1, i => if P i then R i else sp_ff P R j (i + 1)
def sp_one (p : Nat) : Int32 := (1 : Int32) <<< (nI p &&& 31)
theorem l_neighbours (hL : fc_L mr b) (x : Int32) (hM : mi b 10 = nI m) (h7 : m ≤ 7) : ∀ (j i : Nat) (c acc : Int32), i + j = m → c = nI i → acc = sp_or (fun p => sp_in x (nI p)) (mi (b + 4)) i → fc_T E mX9_neighbours (d + 1) (0, 0) fc_sh 4 [some (.ref b), some (.int x), some (.int acc), some (.int c)] [] mi ml mr (fc_is (some (.int (sp_nb (mi (b + 4)) m x))) mi ml mr) := by
  intro j
  induction j with
  | zero =>
    intro i c acc hi hc hacc
    subst hc
    refine fc_run oX9_neighbours (fun pc => pc == 4) 400 ?_
    refine And.intro (fc_L_0 hL) ?_
    refine And.intro (fun h9 => ?_) (fun h9 => ?_)
    · exact ⟨by rw [hacc, show i = m by omega]; rfl, rfl, rfl, rfl⟩
    · exact absurd (by rw [hM]; exact nI_le (by omega) (by omega)) h9
  | succ j ih =>
    intro i c acc hi hc hacc
    subst hc
    refine fc_run oX9_neighbours (fun pc => pc == 4) 400 ?_
    refine And.intro (fc_L_0 hL) ?_
    refine And.intro (fun h9 => ?_) (fun h9 => ?_)
    · exact absurd h9 (by rw [hM]; exact nI_ge (by omega) (by omega))
    · refine Exists.intro _ (And.intro (c_isIn _ _) ?_)
      rintro _ _ _ _ ⟨rfl, rfl, rfl, rfl⟩
      refine And.intro (fun h17 => ?_) (fun h17 => ?_)
      · replace h17 := fc_b0.mp h17
        exact ih (i + 1) _ _ (by omega) (fc_inc i) (by first | (rw [hacc]; exact sp_or_t (P := fun p => sp_in x (nI p)) h17) | (rw [hacc]; exact sp_or_f (P := fun p => sp_in x (nI p)) h17))
      · replace h17 := fc_b1.mp h17
        refine And.intro (fc_L_0 hL) (Exists.intro _ (And.intro (fc_L_r3 hL) ?_))
        refine Exists.intro _ (Exists.intro _ (And.intro (fc_L_4 hL) (And.intro (by first | assumption | exact fc_ix_nI (by omega) (by omega) | exact fc_ix_nI (by assumption) (by omega)) ?_)))
        exact ih (i + 1) _ _ (by omega) (fc_inc i) (by first | (rw [hacc]; exact sp_or_t (P := fun p => sp_in x (nI p)) h17) | (rw [hacc]; exact sp_or_f (P := fun p => sp_in x (nI p)) h17))

theorem c_neighbours (hL : fc_L mr b) (x : Int32) (hM : mi b 10 = nI m) (h7 : m ≤ 7) : fc_R E mX9_neighbours (d + 1) fc_sh [.ref b, .int x] mi ml mr (fc_is (some (.int (sp_nb (mi (b + 4)) m x))) mi ml mr) := by
  refine fc_met rfl (Nat.le_of_ble_eq_true rfl) (fc_run oX9_neighbours (fun pc => pc == 4) 400 ?_)
  exact l_neighbours hL x hM h7 m 0 _ _ (by omega) rfl rfl

theorem l_spread (hL : fc_L mr b) (x : Nat) (z : Int32) (hM : mi b 10 = nI m) (h7 : m ≤ 7) : ∀ (j i : Nat) (c acc : Int32), i + j = m → c = nI i → acc = sp_sp (mi (b + 4)) m z (sp_one x) i → fc_T E mX9_spread (d + 2) (0, 0) fc_sh 8 [some (.ref 6), some (.ref b), some (.int (nI x)), some (.int z), some (.int acc), some (.int c)] [] mi ml mr (fc_is (some (.int (sp_sp (mi (b + 4)) m z (sp_one x) m))) mi ml mr) := by
  intro j
  induction j with
  | zero =>
    intro i c acc hi hc hacc
    subst hc
    refine fc_run oX9_spread (fun pc => pc == 8) 400 ?_
    refine And.intro (fc_L_0 hL) ?_
    refine And.intro (fun h14 => ?_) (fun h14 => ?_)
    · exact ⟨by rw [hacc, show i = m by omega], rfl, rfl, rfl⟩
    · exact absurd (by rw [hM]; exact nI_le (by omega) (by omega)) h14
  | succ j ih =>
    intro i c acc hi hc hacc
    subst hc
    refine fc_run oX9_spread (fun pc => pc == 8) 400 ?_
    refine And.intro (fc_L_0 hL) ?_
    refine And.intro (fun h14 => ?_) (fun h14 => ?_)
    · exact absurd h14 (by rw [hM]; exact nI_ge (by omega) (by omega))
    · refine Exists.intro _ (And.intro (c_neighbours hL _ hM h7) ?_)
      rintro _ _ _ _ ⟨rfl, rfl, rfl, rfl⟩
      exact ih (i + 1) _ _ (by omega) (fc_inc i) (by rw [hacc]; rfl)

theorem c_spread (hL : fc_L mr b) (x : Nat) (z : Int32) (hM : mi b 10 = nI m) (h7 : m ≤ 7) : fc_R E mX9_spread (d + 2) fc_sh [.ref 6, .ref b, .int (nI x), .int z] mi ml mr (fc_is (some (.int (sp_sp (mi (b + 4)) m z (sp_one x) m))) mi ml mr) := by
  refine fc_met rfl (Nat.le_of_ble_eq_true rfl) (fc_run oX9_spread (fun pc => pc == 8) 400 ?_)
  exact l_spread hL x z hM h7 m 0 _ _ (by omega) rfl rfl

def sp_ot (pt : Nat → Int32) (m x : Nat) : Int32 := sp_sp pt m 0 (sp_one x) m &&& (sp_one x ^^^ (-1))
def sp_cut (pt : Nat → Int32) (m x : Nat) : Nat → Nat → Bool := sp_ff (fun q => sp_in (sp_ot pt m x) (nI q)) (fun q => !decide (sp_sp pt m (sp_one x) (sp_one q) m = sp_ot pt m x))
theorem l_isCut (hL : fc_L mr b) (x : Nat) (hM : mi b 10 = nI m) (h7 : m ≤ 7) : ∀ (j i : Nat) (c : Int32), i + j = m → c = nI i → fc_T E mX9_isCut (d + 3) (0, 0) fc_sh 17 [some (.ref 6), some (.ref b), some (.int (nI x)), some (.int (sp_ot (mi (b + 4)) m x)), some (.int c)] [] mi ml mr (fc_is (some (.int (fc_b (sp_cut (mi (b + 4)) m x j i)))) mi ml mr) := by
  intro j
  induction j with
  | zero =>
    intro i c hi hc
    subst hc
    refine fc_run oX9_isCut (fun pc => pc == 17) 400 ?_
    refine And.intro (fc_L_0 hL) ?_
    refine And.intro (fun h23 => ?_) (fun h23 => ?_)
    · refine And.intro (by first | exact Or.inl rfl | exact Or.inr rfl | exact fc_bb _ | assumption) ?_
      exact ⟨rfl, rfl, rfl, rfl⟩
    · exact absurd (by rw [hM]; exact nI_le (by omega) (by omega)) h23
  | succ j ih =>
    intro i c hi hc
    subst hc
    refine fc_run oX9_isCut (fun pc => pc == 17) 400 ?_
    refine And.intro (fc_L_0 hL) ?_
    refine And.intro (fun h23 => ?_) (fun h23 => ?_)
    · exact absurd h23 (by rw [hM]; exact nI_ge (by omega) (by omega))
    · refine Exists.intro _ (And.intro (c_isIn _ _) ?_)
      rintro _ _ _ _ ⟨rfl, rfl, rfl, rfl⟩
      refine And.intro (fun h32 => ?_) (fun h32 => ?_)
      · replace h32 := fc_b0.mp h32
        have e : sp_cut (mi (b + 4)) m x (j + 1) i = sp_cut (mi (b + 4)) m x j (i + 1) := by simp [sp_cut, sp_ff, h32]
        rw [e]
        exact ih (i + 1) _ (by omega) (fc_inc i)
      · replace h32 := fc_b1.mp h32
        refine And.intro rfl (Exists.intro _ (And.intro (c_spread hL _ _ hM h7) ?_))
        rintro _ _ _ _ ⟨rfl, rfl, rfl, rfl⟩
        refine And.intro (fun h46 => ?_) (fun h46 => ?_)
        · refine And.intro (by first | exact Or.inl rfl | exact Or.inr rfl | exact fc_bb _ | assumption) ?_
          refine ⟨?_, rfl, rfl, rfl⟩
          replace h46 := h46
          simp only [sp_cut, sp_ff, h32, if_true]
          first | (rw [decide_eq_true (show sp_sp (mi (b + 4)) m (sp_one x) (sp_one i) m = sp_ot (mi (b + 4)) m x from h46)]; rfl) | (rw [decide_eq_false (show ¬ sp_sp (mi (b + 4)) m (sp_one x) (sp_one i) m = sp_ot (mi (b + 4)) m x from h46)]; rfl)
        · refine And.intro (by first | exact Or.inl rfl | exact Or.inr rfl | exact fc_bb _ | assumption) ?_
          refine ⟨?_, rfl, rfl, rfl⟩
          replace h46 := h46
          simp only [sp_cut, sp_ff, h32, if_true]
          first | (rw [decide_eq_true (show sp_sp (mi (b + 4)) m (sp_one x) (sp_one i) m = sp_ot (mi (b + 4)) m x from h46)]; rfl) | (rw [decide_eq_false (show ¬ sp_sp (mi (b + 4)) m (sp_one x) (sp_one i) m = sp_ot (mi (b + 4)) m x from h46)]; rfl)
theorem c_isCut (hL : fc_L mr b) (x : Nat) (hM : mi b 10 = nI m) (h7 : m ≤ 7) : fc_R E mX9_isCut (d + 3) fc_sh [.ref 6, .ref b, .int (nI x)] mi ml mr (fc_is (some (.int (fc_b (sp_cut (mi (b + 4)) m x m 0)))) mi ml mr) := by
  refine fc_met rfl (Nat.le_of_ble_eq_true rfl) (fc_run oX9_isCut (fun pc => pc == 17) 400 ?_)
  refine And.intro rfl (Exists.intro _ (And.intro (c_spread hL _ _ hM h7) ?_))
  rintro _ _ _ _ ⟨rfl, rfl, rfl, rfl⟩
  exact l_isCut hL x hM h7 m 0 _ (by omega) rfl

/-- the farthest within reach -/
def sp_fr (f : Nat → Int32) : Nat → Int32
  | 0 => 0
  | i + 1 => if f i < 1000 then (if sp_fr f i < f i then f i else sp_fr f i) else sp_fr f i
theorem fc_W7 (hW : fc_Wd mr) {x : Nat} (hx : x < 7) : mr 7 x = some (8 + x) := by
  match x, hx with
  | 0, _ => exact hW 7 0 8 rfl
  | 1, _ => exact hW 7 1 9 rfl
  | 2, _ => exact hW 7 2 10 rfl
  | 3, _ => exact hW 7 3 11 rfl
  | 4, _ => exact hW 7 4 12 rfl
  | 5, _ => exact hW 7 5 13 rfl
  | 6, _ => exact hW 7 6 14 rfl
theorem fc_sh7 {x : Nat} (hx : x < 7) : fc_sh[8 + x]? = some (20, 7) := by
  match x, hx with
  | 0, _ => rfl
  | 1, _ => rfl
  | 2, _ => rfl
  | 3, _ => rfl
  | 4, _ => rfl
  | 5, _ => rfl
  | 6, _ => rfl
theorem l_farthest (hW : fc_Wd mr) (hL : fc_L mr b) {x : Nat} (hx : x < 7) (hM : mi b 10 = nI m) (h7 : m ≤ 7) : ∀ (j i : Nat) (c acc : Int32), i + j = m → c = nI i → acc = sp_fr (mi (8 + x)) i → fc_T E mX9_farthestFrom d (0, 0) fc_sh 5 [some (.ref 6), some (.ref b), some (.int (nI x)), some (.int acc), some (.int c)] [] mi ml mr (fc_is (some (.int (sp_fr (mi (8 + x)) m))) mi ml mr) := by
  intro j
  induction j with
  | zero =>
    intro i c acc hi hc hacc
    subst hc
    refine fc_run oX9_farthestFrom (fun pc => pc == 5) 400 ?_
    refine And.intro (fc_L_0 hL) ?_
    refine And.intro (fun h11 => ?_) (fun h11 => ?_)
    · exact ⟨by rw [hacc, show i = m by omega], rfl, rfl, rfl⟩
    · exact absurd (by rw [hM]; exact nI_le (by omega) (by omega)) h11
  | succ j ih =>
    intro i c acc hi hc hacc
    subst hc
    refine fc_run oX9_farthestFrom (fun pc => pc == 5) 400 ?_
    refine And.intro (fc_L_0 hL) ?_
    refine And.intro (fun h11 => ?_) (fun h11 => ?_)
    · exact absurd h11 (by rw [hM]; exact nI_ge (by omega) (by omega))
    · refine And.intro rfl (Exists.intro _ (And.intro (hW 6 0 7 rfl) ?_))
      refine Exists.intro _ (Exists.intro _ (Exists.intro _ (Exists.intro _ (And.intro rfl (And.intro (by decide) (And.intro (fc_ix_nI (p := x) (by omega) (by omega)) (And.intro (fc_W7 hW hx) ?_)))))))
      refine Exists.intro _ (Exists.intro _ (And.intro (fc_sh7 hx) (And.intro (fc_ix_nI (p := i) (by omega) (by omega)) ?_)))
      refine And.intro (fun h26 => ?_) (fun h26 => ?_)
      · replace h26 := Int32.not_lt.mpr h26
        exact ih (i + 1) _ _ (by omega) (fc_inc i) (by rw [hacc]; simp [sp_fr, h26, Int32.not_le])
      · replace h26 := Int32.not_le.mp h26
        refine And.intro rfl (Exists.intro _ (And.intro (hW 6 0 7 rfl) ?_))
        refine Exists.intro _ (Exists.intro _ (Exists.intro _ (Exists.intro _ (And.intro rfl (And.intro (by decide) (And.intro (fc_ix_nI (p := x) (by omega) (by omega)) (And.intro (fc_W7 hW hx) ?_)))))))
        refine Exists.intro _ (Exists.intro _ (And.intro (fc_sh7 hx) (And.intro (fc_ix_nI (p := i) (by omega) (by omega)) ?_)))
        exact ih (i + 1) _ _ (by omega) (fc_inc i) (by rw [hacc]; simp [sp_fr, h26, Int32.not_le])

theorem c_farthest (hW : fc_Wd mr) (hL : fc_L mr b) {x : Nat} (hx : x < 7) (hM : mi b 10 = nI m) (h7 : m ≤ 7) : fc_R E mX9_farthestFrom d fc_sh [.ref 6, .ref b, .int (nI x)] mi ml mr (fc_is (some (.int (sp_fr (mi (8 + x)) m))) mi ml mr) := by
  refine fc_met rfl (Nat.le_of_ble_eq_true rfl) (fc_run oX9_farthestFrom (fun pc => pc == 5) 400 ?_)
  exact l_farthest hW hL hx hM h7 m 0 _ _ (by omega) rfl rfl

end M21
