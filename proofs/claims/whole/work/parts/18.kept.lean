/-! ===== begin, copy, what is kept ===== -/
section M18
variable {E : fc_E} {d : Nat} {mi : fc_Mi} {ml : fc_Ml} {mr : fc_Mr} {a b n m t : Nat}
/-- f, but g below i -/
def sp_to (f g : Nat → Int32) (i : Nat) : Nat → Int32 := fun p => if p < i then g p else f p
theorem sp_to_0 (f g : Nat → Int32) : sp_to f g 0 = f := by funext p; simp [sp_to]
theorem sp_to_s (f g : Nat → Int32) (i : Nat) : (fun j => if j = i then g i else sp_to f g i j) = sp_to f g (i + 1) := by
  funext j
  unfold sp_to
  by_cases h1 : j = i
  · subst h1; simp
  · simp [h1, show (j < i + 1) ↔ (j < i) by omega]
theorem sp_to_cpy (f g : Nat → Int32) (k : Nat) : va_cpy g f 0 0 k = sp_to f g k := by
  funext j
  unfold va_cpy sp_to
  simp
/-- the State at a as it begins: persons below i, things below k -/
def sp_bg (mi : fc_Mi) (a b i k : Nat) : fc_Mi :=
  fc_ur (fc_ur (fc_ur (fc_ur (fc_ur (fc_ur (fc_ur (fc_u (fc_u mi a 0 0) a 1 0) (a + 1) (sp_to (mi (a + 1)) (mi (b + 6)) i)) (a + 2) (sp_to (mi (a + 2)) (fun _ => 0) i)) (a + 3) (sp_to (mi (a + 3)) (fun p => (1 : Int32) <<< (nI p &&& 31)) i)) (a + 4) (sp_to (mi (a + 4)) (fun _ => 0) i)) (a + 5) (sp_to (mi (a + 5)) (fun _ => 0) i)) (a + 6) (sp_to (mi (a + 6)) (mi (b + 9)) k)) (a + 7) (sp_to (mi (a + 7)) (mi (b + 9)) k)
theorem fc_u_cm {f : fc_Mi} {x z i : Nat} {g : Nat → Int32} {v : Int32} (h : x ≠ z) : fc_u (fc_ur f x g) z i v = fc_ur (fc_u f z i v) x g := by
  funext q
  unfold fc_u fc_ur
  by_cases e : q = z
  · subst e; simp [Ne.symm h]
  · by_cases e2 : q = x <;> simp [e, e2, h]
theorem sp_bg_row (mi : fc_Mi) (a b i k : Nat) {x : Nat} (h : x < a ∨ a + 7 < x) : sp_bg mi a b i k x = mi x := by
  unfold sp_bg
  rw [fc_ur_off _ _ (by omega), fc_ur_off _ _ (by omega), fc_ur_off _ _ (by omega), fc_ur_off _ _ (by omega), fc_ur_off _ _ (by omega), fc_ur_off _ _ (by omega), fc_ur_off _ _ (by omega), fc_u_off _ _ _ (by omega), fc_u_off _ _ _ (by omega)]
theorem l_begin2 (hS : fc_S mr a) (hL : fc_L mr b) (hab : a + 8 ≤ b) : ∀ (j i : Nat) (c : Int32) (mm : fc_Mi), i + j = 6 → c = nI i → mm = sp_bg mi a b 5 i → fc_T E mX7_begin d (0, 0) fc_sh 67 [some (.ref a), some (.ref b), some (.int c)] [] mm ml mr (fc_is none (sp_bg mi a b 5 6) ml mr) := by
  intro j
  induction j with
  | zero =>
    intro i c mm hi hc hm
    subst hc
    have hr : ∀ mx : fc_Mi, (∀ x, x < a ∨ a + 7 < x → mx x = mi x) → mx (b + 9) = mi (b + 9) := fun mx h => h _ (by omega)
    have hg : mm (b + 9) = mi (b + 9) := by rw [hm]; exact sp_bg_row _ _ _ _ _ (by omega)
    refine fc_run oX7_begin (fun pc => pc == 67) 400 ?_
    refine And.intro (fun h70 => ?_) (fun h70 => ?_)
    · exact ⟨rfl, by rw [hm, show i = 6 by omega], rfl, rfl⟩
    · exact absurd (by rw [show i = 6 by omega]; decide) h70
  | succ j ih =>
    intro i c mm hi hc hm
    subst hc
    have hr : ∀ mx : fc_Mi, (∀ x, x < a ∨ a + 7 < x → mx x = mi x) → mx (b + 9) = mi (b + 9) := fun mx h => h _ (by omega)
    have hg : mm (b + 9) = mi (b + 9) := by rw [hm]; exact sp_bg_row _ _ _ _ _ (by omega)
    refine fc_run oX7_begin (fun pc => pc == 67) 400 ?_
    refine And.intro (fun h70 => ?_) (fun h70 => ?_)
    · exact absurd h70 (nI_ge (b := 6) (by omega) (by omega))
    · refine And.intro (fc_S_0 hS) (Exists.intro _ (And.intro (fc_S_r7 hS) ?_))
      refine And.intro (fc_L_0 hL) (Exists.intro _ (And.intro (fc_L_r8 hL) ?_))
      refine Exists.intro _ (Exists.intro _ (And.intro (fc_L_9 hL) (And.intro (by first | assumption | exact fc_ix_nI (by omega) (by omega) | exact fc_ix_nI (by assumption) (by omega)) ?_)))
      rw [hg]
      refine Exists.intro _ (Exists.intro _ (And.intro (fc_S_6 hS) (And.intro (by first | assumption | exact fc_ix_nI (by omega) (by omega) | exact fc_ix_nI (by assumption) (by omega)) ?_)))
      refine And.intro (fc_S_0 hS) (Exists.intro _ (And.intro (fc_S_r8 hS) ?_))
      refine And.intro (fc_L_0 hL) (Exists.intro _ (And.intro (fc_L_r8 hL) ?_))
      refine Exists.intro _ (Exists.intro _ (And.intro (fc_L_9 hL) (And.intro (by first | assumption | exact fc_ix_nI (by omega) (by omega) | exact fc_ix_nI (by assumption) (by omega)) ?_)))
      rw [fc_u_off (b := b + 9) _ _ _ (by omega), hg]
      refine Exists.intro _ (Exists.intro _ (And.intro (fc_S_7 hS) (And.intro (by first | assumption | exact fc_ix_nI (by omega) (by omega) | exact fc_ix_nI (by assumption) (by omega)) ?_)))
      exact ih (i + 1) _ _ (by omega) (fc_inc i) (by
              rw [hm]
              unfold sp_bg
              rw [fc_u_cm (x := a + 7) (z := a + 6) (by omega), fc_u_ur, fc_u_ur]
              rw [sp_to_s (mi (a + 6)) (mi (b + 9)), sp_to_s (mi (a + 7)) (mi (b + 9))])

theorem l_begin1 (hS : fc_S mr a) (hL : fc_L mr b) (hab : a + 8 ≤ b) : ∀ (j i : Nat) (c : Int32) (mm : fc_Mi), i + j = 5 → c = nI i → mm = sp_bg mi a b i 0 → fc_T E mX7_begin d (0, 0) fc_sh 12 [some (.ref a), some (.ref b), some (.int c)] [] mm ml mr (fc_is none (sp_bg mi a b 5 6) ml mr) := by
  intro j
  induction j with
  | zero =>
    intro i c mm hi hc hm
    subst hc
    have hg : mm (b + 6) = mi (b + 6) := by rw [hm]; exact sp_bg_row _ _ _ _ _ (by omega)
    refine fc_run oX7_begin (fun pc => pc == 12 || pc == 67) 400 ?_
    refine And.intro (fun h14 => ?_) (fun h14 => ?_)
    · exact l_begin2 hS hL hab 6 0 _ _ (by omega) rfl (by rw [hm, show i = 5 by omega])
    · exact absurd (by rw [show i = 5 by omega]; decide) h14
  | succ j ih =>
    intro i c mm hi hc hm
    subst hc
    have hg : mm (b + 6) = mi (b + 6) := by rw [hm]; exact sp_bg_row _ _ _ _ _ (by omega)
    refine fc_run oX7_begin (fun pc => pc == 12 || pc == 67) 400 ?_
    refine And.intro (fun h14 => ?_) (fun h14 => ?_)
    · exact absurd h14 (nI_ge (b := 5) (by omega) (by omega))
    · refine And.intro (fc_S_0 hS) (Exists.intro _ (And.intro (fc_S_r2 hS) ?_))
      refine And.intro (fc_L_0 hL) (Exists.intro _ (And.intro (fc_L_r5 hL) ?_))
      refine Exists.intro _ (Exists.intro _ (And.intro (fc_L_6 hL) (And.intro (by first | assumption | exact fc_ix_nI (by omega) (by omega) | exact fc_ix_nI (by assumption) (by omega)) ?_)))
      rw [hg]
      refine Exists.intro _ (Exists.intro _ (And.intro (fc_S_1 hS) (And.intro (by first | assumption | exact fc_ix_nI (by omega) (by omega) | exact fc_ix_nI (by assumption) (by omega)) ?_)))
      refine And.intro (fc_S_0 hS) (Exists.intro _ (And.intro (fc_S_r3 hS) ?_))
      refine Exists.intro _ (Exists.intro _ (And.intro (fc_S_2 hS) (And.intro (by first | assumption | exact fc_ix_nI (by omega) (by omega) | exact fc_ix_nI (by assumption) (by omega)) ?_)))
      refine And.intro (fc_S_0 hS) (Exists.intro _ (And.intro (fc_S_r4 hS) ?_))
      refine Exists.intro _ (Exists.intro _ (And.intro (fc_S_3 hS) (And.intro (by first | assumption | exact fc_ix_nI (by omega) (by omega) | exact fc_ix_nI (by assumption) (by omega)) ?_)))
      refine And.intro (fc_S_0 hS) (Exists.intro _ (And.intro (fc_S_r5 hS) ?_))
      refine Exists.intro _ (Exists.intro _ (And.intro (fc_S_4 hS) (And.intro (by first | assumption | exact fc_ix_nI (by omega) (by omega) | exact fc_ix_nI (by assumption) (by omega)) ?_)))
      refine And.intro (fc_S_0 hS) (Exists.intro _ (And.intro (fc_S_r6 hS) ?_))
      refine Exists.intro _ (Exists.intro _ (And.intro (fc_S_5 hS) (And.intro (by first | assumption | exact fc_ix_nI (by omega) (by omega) | exact fc_ix_nI (by assumption) (by omega)) ?_)))
      exact ih (i + 1) _ _ (by omega) (fc_inc i) (by
              rw [hm]
              unfold sp_bg
              rw [fc_u_cm (x := a + 7) (z := a + 1) (by omega), fc_u_cm (x := a + 6) (z := a + 1) (by omega), fc_u_cm (x := a + 5) (z := a + 1) (by omega), fc_u_cm (x := a + 4) (z := a + 1) (by omega), fc_u_cm (x := a + 3) (z := a + 1) (by omega), fc_u_cm (x := a + 2) (z := a + 1) (by omega), fc_u_ur]
              rw [fc_u_cm (x := a + 7) (z := a + 2) (by omega), fc_u_cm (x := a + 6) (z := a + 2) (by omega), fc_u_cm (x := a + 5) (z := a + 2) (by omega), fc_u_cm (x := a + 4) (z := a + 2) (by omega), fc_u_cm (x := a + 3) (z := a + 2) (by omega), fc_u_ur]
              rw [fc_u_cm (x := a + 7) (z := a + 3) (by omega), fc_u_cm (x := a + 6) (z := a + 3) (by omega), fc_u_cm (x := a + 5) (z := a + 3) (by omega), fc_u_cm (x := a + 4) (z := a + 3) (by omega), fc_u_ur]
              rw [fc_u_cm (x := a + 7) (z := a + 4) (by omega), fc_u_cm (x := a + 6) (z := a + 4) (by omega), fc_u_cm (x := a + 5) (z := a + 4) (by omega), fc_u_ur]
              rw [fc_u_cm (x := a + 7) (z := a + 5) (by omega), fc_u_cm (x := a + 6) (z := a + 5) (by omega), fc_u_ur]
              rw [sp_to_s (mi (a + 1)) (mi (b + 6)), sp_to_s (mi (a + 2)) (fun _ => 0), sp_to_s (mi (a + 3)) (fun p => (1 : Int32) <<< (nI p &&& 31)), sp_to_s (mi (a + 4)) (fun _ => 0), sp_to_s (mi (a + 5)) (fun _ => 0)])

theorem c_begin (hS : fc_S mr a) (hL : fc_L mr b) (hab : a + 8 ≤ b) : fc_R E mX7_begin d fc_sh [.ref a, .ref b] mi ml mr (fc_is none (sp_bg mi a b 5 6) ml mr) := by
  refine fc_met rfl (Nat.le_of_ble_eq_true rfl) (fc_run oX7_begin (fun pc => pc == 12) 400 ?_)
  refine And.intro (fc_S_0 hS) ?_
  refine And.intro (fc_S_0 hS) ?_
  refine l_begin1 (mi := mi) hS hL hab 5 0 _ _ (by omega) rfl ?_
  unfold sp_bg
  simp only [sp_to_0]
  have e : ∀ (f : fc_Mi) (x : Nat), f x = mi x → fc_ur f x (mi x) = f := fun f x h => by rw [← h]; exact fc_ur_self _ _
  have e0 : ∀ x, x ≠ a → (fc_u (fc_u mi a 0 0) a 1 0) x = mi x := fun x h => by rw [fc_u_off _ _ _ h, fc_u_off _ _ _ h]
  rw [e _ (a + 1) (e0 _ (by omega)), e _ (a + 2) (e0 _ (by omega)), e _ (a + 3) (e0 _ (by omega)), e _ (a + 4) (e0 _ (by omega)), e _ (a + 5) (e0 _ (by omega)), e _ (a + 6) (e0 _ (by omega)), e _ (a + 7) (e0 _ (by omega))]

/-- the State at a as the one at c is -/
def sp_cp (mi : fc_Mi) (a c : Nat) : fc_Mi :=
  fc_ur (fc_ur (fc_ur (fc_ur (fc_ur (fc_ur (fc_ur (fc_u (fc_u mi a 0 (mi c 0)) a 1 (mi c 1)) (a + 1) (sp_to (mi (a + 1)) (mi (c + 1)) 5)) (a + 2) (sp_to (mi (a + 2)) (mi (c + 2)) 5)) (a + 3) (sp_to (mi (a + 3)) (mi (c + 3)) 5)) (a + 4) (sp_to (mi (a + 4)) (mi (c + 4)) 5)) (a + 5) (sp_to (mi (a + 5)) (mi (c + 5)) 5)) (a + 6) (sp_to (mi (a + 6)) (mi (c + 6)) 6)) (a + 7) (sp_to (mi (a + 7)) (mi (c + 7)) 6)
theorem c_copy {c : Nat} (hS : fc_S mr a) (hC : fc_S mr c) (hac : a + 8 ≤ c ∨ c + 8 ≤ a) : fc_R E mX7_copy d fc_sh [.ref a, .ref c] mi ml mr (fc_is none (sp_cp mi a c) ml mr) := by
  refine fc_met rfl (Nat.le_of_ble_eq_true rfl) (fc_run oX7_copy (fun _ => false) 400 ?_)
  refine And.intro (fc_S_0 hC) ?_
  refine And.intro (fc_S_0 hS) ?_
  refine And.intro (fc_S_0 hC) ?_
  refine And.intro (fc_S_0 hS) ?_
  refine And.intro (fc_S_0 hC) (Exists.intro _ (And.intro (fc_S_r2 hC) ?_))
  refine And.intro (fc_S_0 hS) (Exists.intro _ (And.intro (fc_S_r2 hS) ?_))
  refine Exists.intro _ (Exists.intro _ (And.intro (fc_S_1 hC) (And.intro (fc_S_1 hS) (And.intro (by decide) ?_))))
  refine And.intro (fc_S_0 hC) (Exists.intro _ (And.intro (fc_S_r3 hC) ?_))
  refine And.intro (fc_S_0 hS) (Exists.intro _ (And.intro (fc_S_r3 hS) ?_))
  refine Exists.intro _ (Exists.intro _ (And.intro (fc_S_2 hC) (And.intro (fc_S_2 hS) (And.intro (by decide) ?_))))
  refine And.intro (fc_S_0 hC) (Exists.intro _ (And.intro (fc_S_r4 hC) ?_))
  refine And.intro (fc_S_0 hS) (Exists.intro _ (And.intro (fc_S_r4 hS) ?_))
  refine Exists.intro _ (Exists.intro _ (And.intro (fc_S_3 hC) (And.intro (fc_S_3 hS) (And.intro (by decide) ?_))))
  refine And.intro (fc_S_0 hC) (Exists.intro _ (And.intro (fc_S_r5 hC) ?_))
  refine And.intro (fc_S_0 hS) (Exists.intro _ (And.intro (fc_S_r5 hS) ?_))
  refine Exists.intro _ (Exists.intro _ (And.intro (fc_S_4 hC) (And.intro (fc_S_4 hS) (And.intro (by decide) ?_))))
  refine And.intro (fc_S_0 hC) (Exists.intro _ (And.intro (fc_S_r6 hC) ?_))
  refine And.intro (fc_S_0 hS) (Exists.intro _ (And.intro (fc_S_r6 hS) ?_))
  refine Exists.intro _ (Exists.intro _ (And.intro (fc_S_5 hC) (And.intro (fc_S_5 hS) (And.intro (by decide) ?_))))
  refine And.intro (fc_S_0 hC) (Exists.intro _ (And.intro (fc_S_r7 hC) ?_))
  refine And.intro (fc_S_0 hS) (Exists.intro _ (And.intro (fc_S_r7 hS) ?_))
  refine Exists.intro _ (Exists.intro _ (And.intro (fc_S_6 hC) (And.intro (fc_S_6 hS) (And.intro (by decide) ?_))))
  refine And.intro (fc_S_0 hC) (Exists.intro _ (And.intro (fc_S_r8 hC) ?_))
  refine And.intro (fc_S_0 hS) (Exists.intro _ (And.intro (fc_S_r8 hS) ?_))
  refine Exists.intro _ (Exists.intro _ (And.intro (fc_S_7 hC) (And.intro (fc_S_7 hS) (And.intro (by decide) ?_))))
  refine ⟨rfl, ?_, rfl, rfl⟩
  unfold sp_cp
  have u1 : ∀ (f : fc_Mi) (j : Nat) (v : Int32) (x : Nat), x ≠ a → fc_u f a j v x = f x := fun f j v x h => fc_u_off f j v h
  have u2 : ∀ (f : fc_Mi) (r x : Nat) (g : Nat → Int32), x ≠ r → fc_ur f r g x = f x := fun f r x g h => fc_ur_off f g h
  have k0 : Int32.toNatClampNeg 0 = 0 := rfl
  have k5 : Int32.toNatClampNeg 5 = 5 := rfl
  have k6 : Int32.toNatClampNeg 6 = 6 := rfl
  simp only [k0, k5, k6, sp_to_cpy]
  have w1 : ∀ (f : fc_Mi) (v : Int32), fc_u f a 0 v c 1 = f c 1 := fun f v => fc_u_nj f a c v (by decide)
  rw [w1]
  rw [u1 _ _ _ (c + 1) (by omega), u1 _ _ _ (c + 1) (by omega), u1 _ _ _ (a + 1) (by omega), u1 _ _ _ (a + 1) (by omega)]
  rw [u2 _ _ (c + 2) _ (by omega), u1 _ _ _ (c + 2) (by omega), u1 _ _ _ (c + 2) (by omega), u2 _ _ (a + 2) _ (by omega), u1 _ _ _ (a + 2) (by omega), u1 _ _ _ (a + 2) (by omega)]
  rw [u2 _ _ (c + 3) _ (by omega), u2 _ _ (c + 3) _ (by omega), u1 _ _ _ (c + 3) (by omega), u1 _ _ _ (c + 3) (by omega), u2 _ _ (a + 3) _ (by omega), u2 _ _ (a + 3) _ (by omega), u1 _ _ _ (a + 3) (by omega), u1 _ _ _ (a + 3) (by omega)]
  rw [u2 _ _ (c + 4) _ (by omega), u2 _ _ (c + 4) _ (by omega), u2 _ _ (c + 4) _ (by omega), u1 _ _ _ (c + 4) (by omega), u1 _ _ _ (c + 4) (by omega), u2 _ _ (a + 4) _ (by omega), u2 _ _ (a + 4) _ (by omega), u2 _ _ (a + 4) _ (by omega), u1 _ _ _ (a + 4) (by omega), u1 _ _ _ (a + 4) (by omega)]
  rw [u2 _ _ (c + 5) _ (by omega), u2 _ _ (c + 5) _ (by omega), u2 _ _ (c + 5) _ (by omega), u2 _ _ (c + 5) _ (by omega), u1 _ _ _ (c + 5) (by omega), u1 _ _ _ (c + 5) (by omega), u2 _ _ (a + 5) _ (by omega), u2 _ _ (a + 5) _ (by omega), u2 _ _ (a + 5) _ (by omega), u2 _ _ (a + 5) _ (by omega), u1 _ _ _ (a + 5) (by omega), u1 _ _ _ (a + 5) (by omega)]
  rw [u2 _ _ (c + 6) _ (by omega), u2 _ _ (c + 6) _ (by omega), u2 _ _ (c + 6) _ (by omega), u2 _ _ (c + 6) _ (by omega), u2 _ _ (c + 6) _ (by omega), u1 _ _ _ (c + 6) (by omega), u1 _ _ _ (c + 6) (by omega), u2 _ _ (a + 6) _ (by omega), u2 _ _ (a + 6) _ (by omega), u2 _ _ (a + 6) _ (by omega), u2 _ _ (a + 6) _ (by omega), u2 _ _ (a + 6) _ (by omega), u1 _ _ _ (a + 6) (by omega), u1 _ _ _ (a + 6) (by omega)]
  rw [u2 _ _ (c + 7) _ (by omega), u2 _ _ (c + 7) _ (by omega), u2 _ _ (c + 7) _ (by omega), u2 _ _ (c + 7) _ (by omega), u2 _ _ (c + 7) _ (by omega), u2 _ _ (c + 7) _ (by omega), u1 _ _ _ (c + 7) (by omega), u1 _ _ _ (c + 7) (by omega), u2 _ _ (a + 7) _ (by omega), u2 _ _ (a + 7) _ (by omega), u2 _ _ (a + 7) _ (by omega), u2 _ _ (a + 7) _ (by omega), u2 _ _ (a + 7) _ (by omega), u2 _ _ (a + 7) _ (by omega), u1 _ _ _ (a + 7) (by omega), u1 _ _ _ (a + 7) (by omega)]

end M18
