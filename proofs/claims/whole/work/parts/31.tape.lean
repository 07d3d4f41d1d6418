/-! ===== the tape ===== -/
section M31
variable {E : fc_E} {d : Nat} {mi : fc_Mi} {ml : fc_Ml} {mr : fc_Mr} {n : Nat}
theorem fc_u_u {α : Type} (f : Nat → Nat → α) (a j : Nat) (x z : α) : fc_u (fc_u f a j x) a j z = fc_u f a j z := by
  funext q
  unfold fc_u
  by_cases e : q = a
  · simp only [e, if_true]
    funext k
    by_cases e2 : k = j <;> simp [e2]
  · simp [e]
theorem fc_u_uc {α : Type} (f : Nat → Nat → α) (a : Nat) {j k : Nat} (x z : α) (h : j ≠ k) : fc_u (fc_u f a j x) a k z = fc_u (fc_u f a k z) a j x := by
  funext q
  unfold fc_u
  by_cases e : q = a
  · simp only [e, if_true]
    funext i
    by_cases e2 : i = k
    · subst e2; simp [Ne.symm h]
    · by_cases e3 : i = j <;> simp [e2, e3, h]
  · simp [e]
theorem fc_u_self {α : Type} (f : Nat → Nat → α) (a j : Nat) : fc_u f a j (f a j) = f := by
  funext q
  unfold fc_u
  by_cases e : q = a
  · subst e
    funext k
    by_cases e2 : k = j <;> simp [e2]
  · simp [e]
/-- on from e while P, at most j -/
def sp_skf (P : Nat → Bool) : Nat → Nat → Nat
  | 0, e => e
  | j + 1, e => if P e then sp_skf P j (e + 1) else e
theorem sp_skf_le {P : Nat → Bool} : ∀ (j e : Nat), e ≤ sp_skf P j e ∧ sp_skf P j e ≤ e + j
  | 0, e => ⟨Nat.le_refl _, Nat.le_refl _⟩
  | j + 1, e => by
    unfold sp_skf
    split
    · have := sp_skf_le (P := P) j (e + 1)
      omega
    · omega
def sp_bl (x : Int32) : Bool := decide (x = 10) || decide (x = 32)
/-- the tape: n signs -/
def fc_Tp (mi : fc_Mi) (n : Nat) : Prop := mi 1 1 = nI n ∧ n ≤ 1000
theorem c_tclear (hW : fc_Wd mr) : fc_R E mX8_clear d fc_sh [.ref 1] mi ml mr (fc_is none (fc_u mi 1 1 0) ml mr) := by
  refine fc_met rfl (Nat.le_of_ble_eq_true rfl) (fc_run oX8_clear (fun _ => false) 400 ?_)
  refine And.intro rfl ?_
  first | exact ⟨rfl, rfl, rfl, rfl⟩ | skip

theorem c_fail (hW : fc_Wd mr) (x : Int32) : fc_R E mX8_fail d fc_sh [.ref 1, .int x] mi ml mr (fc_is (some (.int (fc_b false))) (fc_u mi 1 7 (x + 16 * mi 1 2)) ml mr) := by
  refine fc_met rfl (Nat.le_of_ble_eq_true rfl) (fc_run oX8_fail (fun _ => false) 400 ?_)
  refine And.intro rfl ?_
  refine And.intro rfl ?_
  refine And.intro (by first | exact Or.inl rfl | exact Or.inr rfl | exact fc_bb _ | assumption) ?_
  first | exact ⟨rfl, rfl, rfl, rfl⟩ | skip

def sp_shf (i : Nat) : Int32 := Int32.ofInt (56 - 8 * (i : Int))
theorem sp_shf_s : ∀ i, i < 8 → sp_shf i + Int32.ofInt (-8) = sp_shf (i + 1) := by decide
theorem sp_shf_n : ∀ i, i < 8 → ¬ sp_shf i < 0 := by decide
/-- the i-th byte of a long, the highest first -/
def sp_byt (x : Int64) (i : Nat) : Int32 := (x.toUInt64 >>> ((sp_shf i).toInt64.toUInt64 &&& Int64.toUInt64 63)).toInt64.toInt32 &&& 255
def sp_oks (c : Int32) : Bool := decide (c = 10) || sp_from 32 c 126
/-- length and signs with i bytes of x more -/
def sp_put (x : Int64) (s : Nat × (Nat → Int32)) : Nat → Nat × (Nat → Int32)
  | 0 => s
  | i + 1 => if sp_oks (sp_byt x i) && decide ((sp_put x s i).1 < 1000) then ((sp_put x s i).1 + 1, fun k => if k = (sp_put x s i).1 then sp_byt x i else (sp_put x s i).2 k) else sp_put x s i
theorem sp_put_le (x : Int64) (s : Nat × (Nat → Int32)) (h : s.1 ≤ 1000) : ∀ i, (sp_put x s i).1 ≤ 1000
  | 0 => h
  | i + 1 => by
    have ih := sp_put_le x s h i
    unfold sp_put
    split
    · next e => simp only [Bool.and_eq_true, decide_eq_true_eq] at e; show (sp_put x s i).1 + 1 ≤ 1000; omega
    · exact ih
theorem sp_narc (c : Int32) : vp_nar .char ((c &&& 255).toUInt32 % 65536).toInt32 = c &&& 255 := by
  rw [sc_c2]
  have := sc_nar c
  unfold vp_nar
  rw [this]
theorem sp_put_mem (x : Int64) (i T : Nat) (V : Nat → Int32) : fc_u (fc_u (fc_u (fc_ur mi 2 V) 1 1 (nI T)) 2 T (vp_nar .char (((x.toUInt64 >>> ((sp_shf i).toInt64.toUInt64 &&& Int64.toUInt64 63)).toInt64.toInt32 &&& 255).toUInt32 % 65536).toInt32)) 1 1 (nI (T + 1)) = fc_u (fc_ur mi 2 (fun k => if k = T then sp_byt x i else V k)) 1 1 (nI (T + 1)) := by
  rw [sp_narc]
  funext q
  by_cases e : q = 1
  · subst e
    funext k
    unfold fc_u fc_ur
    by_cases e2 : k = 1 <;> simp [e2]
  · by_cases e2 : q = 2
    · subst e2
      unfold fc_u fc_ur
      simp
      rfl
    · unfold fc_u fc_ur
      simp [e, e2]
theorem l_put (hW : fc_Wd mr) (hT : fc_Tp mi n) (x : Int64) : ∀ (j i : Nat) (c : Int32) (x4 : Option Value) (mm : fc_Mi), i + j = 8 → c = sp_shf i → mm = fc_u (fc_ur mi 2 (sp_put x (n, mi 2) i).2) 1 1 (nI (sp_put x (n, mi 2) i).1) → fc_T E mX8_put (d + 1) (0, 0) fc_sh 3 [some (.ref 1), some (.long x), none, some (.int c), x4] [] mm ml mr (fc_is none (fc_u (fc_ur mi 2 (sp_put x (n, mi 2) 8).2) 1 1 (nI (sp_put x (n, mi 2) 8).1)) ml mr) := by
  intro j
  induction j with
  | zero =>
    intro i c x4 mm hi hc hm
    subst hc
    have hle : (sp_put x (n, mi 2) i).1 ≤ 1000 := sp_put_le x (n, mi 2) hT.2 i
    rcases hs : sp_put x (n, mi 2) i with ⟨T, V⟩
    rw [hs] at hm hle
    replace hm : mm = fc_u (fc_ur mi 2 V) 1 1 (nI T) := hm
    replace hle : T ≤ 1000 := hle
    have h11 : mm 1 1 = nI T := by rw [hm, fc_u_at]
    refine fc_run oX8_put (fun pc => pc == 3) 400 ?_
    refine And.intro (fun h4 => ?_) (fun h4 => ?_)
    · exact ⟨rfl, by rw [hm, show (8 : Nat) = i by omega, hs], rfl, rfl⟩
    · exact absurd (by rw [show i = 8 by omega]; decide) h4
  | succ j ih =>
    intro i c x4 mm hi hc hm
    subst hc
    have hle : (sp_put x (n, mi 2) i).1 ≤ 1000 := sp_put_le x (n, mi 2) hT.2 i
    rcases hs : sp_put x (n, mi 2) i with ⟨T, V⟩
    rw [hs] at hm hle
    replace hm : mm = fc_u (fc_ur mi 2 V) 1 1 (nI T) := hm
    replace hle : T ≤ 1000 := hle
    have h11 : mm 1 1 = nI T := by rw [hm, fc_u_at]
    refine fc_run oX8_put (fun pc => pc == 3) 400 ?_
    refine And.intro (fun h4 => ?_) (fun h4 => ?_)
    · exact absurd h4 (sp_shf_n i (by omega))
    · refine And.intro (fun h21 => ?_) (fun h21 => ?_)
      · refine And.intro rfl ?_
        rw [h11]
        refine And.intro (fun h43 => ?_) (fun h43 => ?_)
        · have ok : sp_oks (sp_byt x i) = true := by
            unfold sp_oks
            rw [decide_eq_true (show sp_byt x i = 10 from h21)]; rfl
          have hT9 : ¬ T < 1000 := fun q => absurd h43 (nI_ge (b := 1000) q (by omega))
          have e : sp_put x (n, mi 2) (i + 1) = (T, V) := by
            rw [sp_put, hs]
            simp [ok, hT9]
          exact ih (i + 1) _ _ _ (by omega) (sp_shf_s i (by omega)) (by rw [e, hm])
        · have hT9 : T < 1000 := by
            rcases Nat.lt_or_ge T 1000 with q | q
            · exact q
            · exact absurd (nI_le (a := 1000) q (by omega)) h43
          refine And.intro rfl (Exists.intro _ (And.intro (hW 1 0 2 rfl) ?_))
          refine And.intro rfl ?_
          rw [h11]
          refine Exists.intro _ (Exists.intro _ (And.intro rfl (And.intro (fc_ix_nI (p := T) (by omega) (by omega)) ?_)))
          refine And.intro rfl ?_
          rw [fc_u_off (b := 1) _ _ _ (by decide), h11]
          refine And.intro rfl ?_
          have ok : sp_oks (sp_byt x i) = true := by
            unfold sp_oks
            rw [decide_eq_true (show sp_byt x i = 10 from h21)]; rfl
          have e : sp_put x (n, mi 2) (i + 1) = (T + 1, fun k => if k = T then sp_byt x i else V k) := by
            rw [sp_put, hs]
            simp [ok, hT9]
          exact ih (i + 1) _ _ _ (by omega) (sp_shf_s i (by omega)) (by rw [e, hm, show nI T + 1 = nI (T + 1) from nI_1 T]; exact sp_put_mem x i T V)
      · refine Exists.intro _ (And.intro (c_isFrom _ _ _) ?_)
        rintro _ _ _ _ ⟨rfl, rfl, rfl, rfl⟩
        refine And.intro (fun h33 => ?_) (fun h33 => ?_)
        · replace h33 := fc_b0.mp h33
          have e : sp_put x (n, mi 2) (i + 1) = (T, V) := by
            rw [sp_put, hs]
            simp [sp_oks, show sp_from 32 (sp_byt x i) 126 = false from h33, show ¬ sp_byt x i = 10 from h21]
          exact ih (i + 1) _ _ _ (by omega) (sp_shf_s i (by omega)) (by rw [e, hm])
        · replace h33 := fc_b1.mp h33
          refine And.intro rfl ?_
          rw [h11]
          refine And.intro (fun h43 => ?_) (fun h43 => ?_)
          · have ok : sp_oks (sp_byt x i) = true := by
              unfold sp_oks
              rw [show sp_from 32 (sp_byt x i) 126 = true from h33]; simp
            have hT9 : ¬ T < 1000 := fun q => absurd h43 (nI_ge (b := 1000) q (by omega))
            have e : sp_put x (n, mi 2) (i + 1) = (T, V) := by
              rw [sp_put, hs]
              simp [ok, hT9]
            exact ih (i + 1) _ _ _ (by omega) (sp_shf_s i (by omega)) (by rw [e, hm])
          · have hT9 : T < 1000 := by
              rcases Nat.lt_or_ge T 1000 with q | q
              · exact q
              · exact absurd (nI_le (a := 1000) q (by omega)) h43
            refine And.intro rfl (Exists.intro _ (And.intro (hW 1 0 2 rfl) ?_))
            refine And.intro rfl ?_
            rw [h11]
            refine Exists.intro _ (Exists.intro _ (And.intro rfl (And.intro (fc_ix_nI (p := T) (by omega) (by omega)) ?_)))
            refine And.intro rfl ?_
            rw [fc_u_off (b := 1) _ _ _ (by decide), h11]
            refine And.intro rfl ?_
            have ok : sp_oks (sp_byt x i) = true := by
              unfold sp_oks
              rw [show sp_from 32 (sp_byt x i) 126 = true from h33]; simp
            have e : sp_put x (n, mi 2) (i + 1) = (T + 1, fun k => if k = T then sp_byt x i else V k) := by
              rw [sp_put, hs]
              simp [ok, hT9]
            exact ih (i + 1) _ _ _ (by omega) (sp_shf_s i (by omega)) (by rw [e, hm, show nI T + 1 = nI (T + 1) from nI_1 T]; exact sp_put_mem x i T V)

theorem c_put (hW : fc_Wd mr) (hT : fc_Tp mi n) (x : Int64) : fc_R E mX8_put (d + 1) fc_sh [.ref 1, .long x] mi ml mr (fc_is none (fc_u (fc_ur mi 2 (sp_put x (n, mi 2) 8).2) 1 1 (nI (sp_put x (n, mi 2) 8).1)) ml mr) := by
  refine fc_met rfl (Nat.le_of_ble_eq_true rfl) (fc_run oX8_put (fun pc => pc == 3) 400 ?_)
  exact l_put hW hT x 8 0 _ _ _ (by omega) rfl (by rw [show sp_put x (n, mi 2) 0 = (n, mi 2) from rfl]; show mi = fc_u (fc_ur mi 2 (mi 2)) 1 1 (nI n); rw [fc_ur_self, ← hT.1, fc_u_self])

/-- the first place from i on, j of them, that holds w -/
def sp_fi (f : Nat → Int64) (w : Int64) : Nat → Nat → Int32
  | 0, _ => -1
  | j + 1, i => if f i = w then nI i else sp_fi f w j (i + 1)
theorem lg_cmp0 {x z : Int64} : lg_cmp x z = 0 ↔ x = z := by
  unfold lg_cmp
  constructor
  · intro h
    split at h
    · exact absurd h (by decide)
    · split at h
      · assumption
      · exact absurd h (by decide)
  · rintro rfl
    simp
theorem l_indexOf {r N k : Nat} (hr : fc_sh[r]? = some (21, N)) (hk : k ≤ N) (hN : N ≤ 1000) (w : Int64) : ∀ (j i : Nat) (c : Int32), i + j = k → c = nI i → fc_T E mX0_indexOf d (0, 0) fc_sh 3 [some (.ref r), some (.int (nI k)), some (.long w), none, some (.int c)] [] mi ml mr (fc_is (some (.int (sp_fi (ml r) w j i))) mi ml mr) := by
  intro j
  induction j with
  | zero =>
    intro i c hi hc
    subst hc
    refine fc_run oX0_indexOf (fun pc => pc == 3) 400 ?_
    refine And.intro (fun h6 => ?_) (fun h6 => ?_)
    · exact ⟨rfl, rfl, rfl, rfl⟩
    · exact absurd (nI_le (by omega) (by omega)) h6
  | succ j ih =>
    intro i c hi hc
    subst hc
    refine fc_run oX0_indexOf (fun pc => pc == 3) 400 ?_
    refine And.intro (fun h6 => ?_) (fun h6 => ?_)
    · exact absurd h6 (nI_ge (by omega) (by omega))
    · refine Exists.intro _ (Exists.intro _ (And.intro hr (And.intro (by decide) ?_)))
      refine And.intro (fun h13 => ?_) (fun h13 => ?_)
      · exact absurd h13 (nI_ge (show i < N by omega) (by omega))
      · refine Exists.intro _ (Exists.intro _ (And.intro hr (And.intro (fc_ix_nI (p := i) (by omega) (by omega)) ?_)))
        refine And.intro (fun h22 => ?_) (fun h22 => ?_)
        · replace h22 := lg_cmp0.mp h22
          exact ⟨by rw [sp_fi, if_pos h22], rfl, rfl, rfl⟩
        · replace h22 : ¬ ml r i = w := fun q => h22 (lg_cmp0.mpr q)
          rw [sp_fi, if_neg h22]
          exact ih (i + 1) _ (by omega) (fc_inc i)

theorem c_indexOf {r N k : Nat} (hr : fc_sh[r]? = some (21, N)) (hk : k ≤ N) (hN : N ≤ 1000) (w : Int64) : fc_R E mX0_indexOf d fc_sh [.ref r, .int (nI k), .long w] mi ml mr (fc_is (some (.int (sp_fi (ml r) w k 0))) mi ml mr) := by
  refine fc_met rfl (Nat.le_of_ble_eq_true rfl) (fc_run oX0_indexOf (fun pc => pc == 3) 400 ?_)
  exact l_indexOf hr hk hN w k 0 _ (by omega) rfl

theorem c_known {r N k : Nat} (hW : fc_Wd mr) (hr : fc_sh[r]? = some (21, N)) (hk : k ≤ N) (hN : N ≤ 1000) : fc_R E mX8_known (d + 1) fc_sh [.ref 1, .ref r, .int (nI k)] mi ml mr (if mi 1 4 = 4 then (if sp_fi (ml r) (ml 1 6) k 0 = -1 then fc_is (some (.int (-1))) (fc_u mi 1 7 (2 + 16 * mi 1 2)) ml mr else fc_is (some (.int (sp_fi (ml r) (ml 1 6) k 0))) mi ml mr) else fc_is (some (.int (-1))) (fc_u mi 1 7 (1 + 16 * mi 1 2)) ml mr) := by
  refine fc_met rfl (Nat.le_of_ble_eq_true rfl) (fc_run oX8_known (fun _ => false) 400 ?_)
  refine And.intro rfl ?_
  refine And.intro (fun h5 => ?_) (fun h5 => ?_)
  · refine And.intro rfl ?_
    refine Exists.intro _ (And.intro (c_indexOf hr hk hN _) ?_)
    rintro _ _ _ _ ⟨rfl, rfl, rfl, rfl⟩
    refine And.intro (fun h28 => ?_) (fun h28 => ?_)
    · refine And.intro rfl (Exists.intro _ (And.intro (c_fail hW _) ?_))
      rintro _ _ _ _ ⟨rfl, rfl, rfl, rfl⟩
      rw [if_pos h5, if_pos h28]
      exact ⟨by rw [h28], rfl, rfl, rfl⟩
    · rw [if_pos h5, if_neg h28]
      exact ⟨rfl, rfl, rfl, rfl⟩
  · refine And.intro rfl (Exists.intro _ (And.intro (c_fail hW _) ?_))
    rintro _ _ _ _ ⟨rfl, rfl, rfl, rfl⟩
    rw [if_neg h5]
    exact ⟨rfl, rfl, rfl, rfl⟩

def q_told (mi : fc_Mi) (ml : fc_Ml) (b m n t : Nat) (w : Int64) : Bool := !decide (sp_fi (ml (b + 1)) w m 0 = -1) || (!decide (sp_fi (ml (b + 2)) w n 0 = -1) || !decide (sp_fi (ml (b + 3)) w t 0 = -1))
theorem c_isTold {b m t : Nat} (hL : fc_L mr b) (hN : fc_LN mi b n m t) (w : Int64) : fc_R E mX0_isTold (d + 1) fc_sh [.ref b, .long w] mi ml mr (fc_is (some (.int (fc_b (q_told mi ml b m n t w)))) mi ml mr) := by
  obtain ⟨hN1, hN2, hN3, hN4, hN5, hN6⟩ := id hN
  refine fc_met rfl (Nat.le_of_ble_eq_true rfl) (fc_run oX0_isTold (fun _ => false) 400 ?_)
  refine And.intro (fc_L_0 hL) (Exists.intro _ (And.intro (fc_L_r0 hL) ?_))
  refine And.intro (fc_L_0 hL) ?_
  rw [hN3]
  refine Exists.intro _ (And.intro (c_indexOf (fc_L_1 hL) hN4 (by omega) _) ?_)
  rintro _ _ _ _ ⟨rfl, rfl, rfl, rfl⟩
  refine And.intro (fun h13 => ?_) (fun h13 => ?_)
  · refine And.intro (fc_L_0 hL) (Exists.intro _ (And.intro (fc_L_r1 hL) ?_))
    refine And.intro (fc_L_0 hL) ?_
    rw [hN1]
    refine Exists.intro _ (And.intro (c_indexOf (fc_L_2 hL) hN2 (by omega) _) ?_)
    rintro _ _ _ _ ⟨rfl, rfl, rfl, rfl⟩
    refine And.intro (fun h29 => ?_) (fun h29 => ?_)
    · refine And.intro (fc_L_0 hL) (Exists.intro _ (And.intro (fc_L_r2 hL) ?_))
      refine And.intro (fc_L_0 hL) ?_
      rw [hN5]
      refine Exists.intro _ (And.intro (c_indexOf (fc_L_3 hL) hN6 (by omega) _) ?_)
      rintro _ _ _ _ ⟨rfl, rfl, rfl, rfl⟩
      refine And.intro (fun h45 => ?_) (fun h45 => ?_)
      · refine And.intro (by first | exact Or.inl rfl | exact Or.inr rfl | exact fc_bb _ | assumption) ?_
        exact ⟨by simp [q_told, fc_b, h13, h29, h45], rfl, rfl, rfl⟩
      · refine And.intro (by first | exact Or.inl rfl | exact Or.inr rfl | exact fc_bb _ | assumption) ?_
        exact ⟨by simp [q_told, fc_b, h13, h29, h45], rfl, rfl, rfl⟩
    · refine And.intro (by first | exact Or.inl rfl | exact Or.inr rfl | exact fc_bb _ | assumption) ?_
      exact ⟨by simp [q_told, fc_b, h13, h29], rfl, rfl, rfl⟩
  · refine And.intro (by first | exact Or.inl rfl | exact Or.inr rfl | exact fc_bb _ | assumption) ?_
    exact ⟨by simp [q_told, fc_b, h13], rfl, rfl, rfl⟩

end M31
