/-! ===== what is seen, what is kept ===== -/
/-- a Seen at z, its rows behind it -/
def fc_Zs (mr : fc_Mr) (z : Nat) : Prop := fc_sh[z]? = some (6, 0) ∧ fc_sh[z + 1]? = some (20, 8) ∧ fc_sh[z + 2]? = some (20, 8) ∧ fc_sh[z + 3]? = some (22, 8) ∧ mr z 0 = some (z + 1) ∧ mr z 1 = some (z + 2) ∧ mr z 2 = some (z + 3)
theorem fc_Z_0 {mr : fc_Mr} {z : Nat} (h : fc_Zs mr z) : fc_sh[z]? = some (6, 0) := h.1
theorem fc_Z_1 {mr : fc_Mr} {z : Nat} (h : fc_Zs mr z) : fc_sh[z + 1]? = some (20, 8) := h.2.1
theorem fc_Z_2 {mr : fc_Mr} {z : Nat} (h : fc_Zs mr z) : fc_sh[z + 2]? = some (20, 8) := h.2.2.1
theorem fc_Z_3 {mr : fc_Mr} {z : Nat} (h : fc_Zs mr z) : fc_sh[z + 3]? = some (22, 8) := h.2.2.2.1
theorem fc_Z_r0 {mr : fc_Mr} {z : Nat} (h : fc_Zs mr z) : mr z 0 = some (z + 1) := h.2.2.2.2.1
theorem fc_Z_r1 {mr : fc_Mr} {z : Nat} (h : fc_Zs mr z) : mr z 1 = some (z + 2) := h.2.2.2.2.2.1
theorem fc_Z_r2 {mr : fc_Mr} {z : Nat} (h : fc_Zs mr z) : mr z 2 = some (z + 3) := h.2.2.2.2.2.2
theorem fc_Z_at214 {mr : fc_Mr} (h : fc_Wd mr) : fc_Zs mr 214 := ⟨rfl, rfl, rfl, rfl, h 214 0 215 rfl, h 214 1 216 rfl, h 214 2 217 rfl⟩
theorem fc_Z_at174 {mr : fc_Mr} (h : fc_Wd mr) : fc_Zs mr 174 := ⟨rfl, rfl, rfl, rfl, h 174 0 175 rfl, h 174 1 176 rfl, h 174 2 177 rfl⟩
theorem fc_Z_at186 {mr : fc_Mr} (h : fc_Wd mr) : fc_Zs mr 186 := ⟨rfl, rfl, rfl, rfl, h 186 0 187 rfl, h 186 1 188 rfl, h 186 2 189 rfl⟩
theorem fc_Z_at198 {mr : fc_Mr} (h : fc_Wd mr) : fc_Zs mr 198 := ⟨rfl, rfl, rfl, rfl, h 198 0 199 rfl, h 198 1 200 rfl, h 198 2 201 rfl⟩
theorem fc_Z_at210 {mr : fc_Mr} (h : fc_Wd mr) : fc_Zs mr 210 := ⟨rfl, rfl, rfl, rfl, h 210 0 211 rfl, h 210 1 212 rfl, h 210 2 213 rfl⟩
section M28
variable {E : fc_E} {d : Nat} {mi : fc_Mi} {ml : fc_Ml} {mr : fc_Mr} {a b n m t : Nat}
theorem fc_W34 {mr : fc_Mr} (h : fc_Wd mr) {k : Nat} (hk : k < 16) : mr 34 k = some (38 + 8 * k) := by
  match k, hk with
  | 0, _ => exact h 34 0 38 rfl
  | 1, _ => exact h 34 1 46 rfl
  | 2, _ => exact h 34 2 54 rfl
  | 3, _ => exact h 34 3 62 rfl
  | 4, _ => exact h 34 4 70 rfl
  | 5, _ => exact h 34 5 78 rfl
  | 6, _ => exact h 34 6 86 rfl
  | 7, _ => exact h 34 7 94 rfl
  | 8, _ => exact h 34 8 102 rfl
  | 9, _ => exact h 34 9 110 rfl
  | 10, _ => exact h 34 10 118 rfl
  | 11, _ => exact h 34 11 126 rfl
  | 12, _ => exact h 34 12 134 rfl
  | 13, _ => exact h 34 13 142 rfl
  | 14, _ => exact h 34 14 150 rfl
  | 15, _ => exact h 34 15 158 rfl
  | k + 16, hk => exact absurd hk (by omega)

theorem fc_S34 {mr : fc_Mr} (h : fc_Wd mr) {k : Nat} (hk : k < 16) : fc_S mr (38 + 8 * k) := by
  match k, hk with
  | 0, _ => exact fc_S_at38 h
  | 1, _ => exact fc_S_at46 h
  | 2, _ => exact fc_S_at54 h
  | 3, _ => exact fc_S_at62 h
  | 4, _ => exact fc_S_at70 h
  | 5, _ => exact fc_S_at78 h
  | 6, _ => exact fc_S_at86 h
  | 7, _ => exact fc_S_at94 h
  | 8, _ => exact fc_S_at102 h
  | 9, _ => exact fc_S_at110 h
  | 10, _ => exact fc_S_at118 h
  | 11, _ => exact fc_S_at126 h
  | 12, _ => exact fc_S_at134 h
  | 13, _ => exact fc_S_at142 h
  | 14, _ => exact fc_S_at150 h
  | 15, _ => exact fc_S_at158 h
  | k + 16, hk => exact absurd hk (by omega)

theorem fc_W35 {mr : fc_Mr} (h : fc_Wd mr) {k : Nat} (hk : k < 4) : mr 35 k = some (166 + 12 * k) := by
  match k, hk with
  | 0, _ => exact h 35 0 166 rfl
  | 1, _ => exact h 35 1 178 rfl
  | 2, _ => exact h 35 2 190 rfl
  | 3, _ => exact h 35 3 202 rfl

theorem fc_S35 {mr : fc_Mr} (h : fc_Wd mr) {k : Nat} (hk : k < 4) : fc_S mr (166 + 12 * k) := by
  match k, hk with
  | 0, _ => exact fc_S_at166 h
  | 1, _ => exact fc_S_at178 h
  | 2, _ => exact fc_S_at190 h
  | 3, _ => exact fc_S_at202 h

theorem fc_W36 {mr : fc_Mr} (h : fc_Wd mr) {k : Nat} (hk : k < 4) : mr 36 k = some (174 + 12 * k) := by
  match k, hk with
  | 0, _ => exact h 36 0 174 rfl
  | 1, _ => exact h 36 1 186 rfl
  | 2, _ => exact h 36 2 198 rfl
  | 3, _ => exact h 36 3 210 rfl

theorem fc_Z36 {mr : fc_Mr} (h : fc_Wd mr) {k : Nat} (hk : k < 4) : fc_Zs mr (174 + 12 * k) := by
  match k, hk with
  | 0, _ => exact fc_Z_at174 h
  | 1, _ => exact fc_Z_at186 h
  | 2, _ => exact fc_Z_at198 h
  | 3, _ => exact fc_Z_at210 h

theorem sp_cp_off (mi : fc_Mi) (a c : Nat) {x : Nat} (h : x < a ∨ a + 7 < x) : sp_cp mi a c x = mi x := by
  unfold sp_cp
  rw [fc_ur_off _ _ (by omega), fc_ur_off _ _ (by omega), fc_ur_off _ _ (by omega), fc_ur_off _ _ (by omega), fc_ur_off _ _ (by omega), fc_ur_off _ _ (by omega), fc_ur_off _ _ (by omega), fc_u_off _ _ _ (by omega), fc_u_off _ _ _ (by omega)]
theorem fc_md {k : Nat} (hk : k < 2 ^ 30) : nI k - nI k / 16 * 16 = nI (k % 16) := pk_rem (a := k) (d := 16) (by omega) (by omega) (by omega)
/-- the memory behind keep -/
def sp_kp (mi : fc_Mi) (sl kp : Nat) : fc_Mi := fc_u (fc_u (sp_cp mi (38 + 8 * sl) 17) 33 4 (nI ((sl + 1) % 16))) 33 5 (nI (if kp = 16 then 16 else kp + 1))
theorem c_keep (hW : fc_Wd mr) {sl kp : Nat} (hsl : mi 33 4 = nI sl) (h16 : sl < 16) (hkp : mi 33 5 = nI kp) (hk2 : kp ≤ 16) : fc_R E mX4_keep (d + 1) fc_sh [.ref 33, .ref 17] mi ml mr (fc_is none (sp_kp mi sl kp) ml mr) := by
  refine fc_met rfl (Nat.le_of_ble_eq_true rfl) (fc_run oX4_keep (fun _ => false) 400 ?_)
  refine And.intro rfl (Exists.intro _ (And.intro (hW 33 0 34 rfl) ?_))
  refine And.intro rfl ?_
  rw [hsl]
  refine Exists.intro _ (Exists.intro _ (Exists.intro _ (Exists.intro _ (And.intro rfl (And.intro (by decide) (And.intro (fc_ix_nI h16 (by omega)) (And.intro (fc_W34 hW h16) ?_)))))))
  refine And.intro (fc_S_0 (fc_S34 hW h16)) (Exists.intro _ (And.intro (c_copy (fc_S34 hW h16) (fc_S_at17 hW) (Or.inr (by omega))) ?_))
  rintro _ _ _ _ ⟨rfl, rfl, rfl, rfl⟩
  refine And.intro rfl ?_
  rw [sp_cp_off _ _ _ (Or.inl (by omega)), hsl]
  refine And.intro (by decide) ?_
  refine And.intro rfl ?_
  refine And.intro rfl ?_
  rw [fc_u_nj _ _ _ _ (show (5 : Nat) ≠ 4 by decide), sp_cp_off _ _ _ (Or.inl (by omega)), hkp]
  refine And.intro rfl ?_
  refine ⟨rfl, ?_, rfl, rfl⟩
  unfold sp_kp
  rw [show nI sl + 1 = nI (sl + 1) from nI_1 sl, show nI kp + 1 = nI (kp + 1) from nI_1 kp, fc_md (by omega)]
  congr 1
  by_cases e : kp = 16
  · subst e
    rfl
  · rw [if_neg e, if_neg (show ¬ (16 : Int32) < nI (kp + 1) from fun q => absurd ((nI_ltI (a := 16) (b := kp + 1) (by omega) (by omega)).mp q) (by omega))]

/-- the memory behind bringBack -/
def sp_bb (mi : fc_Mi) (sl kp : Nat) : fc_Mi := sp_cp (fc_u (fc_u mi 33 5 (nI (kp - 1))) 33 4 (nI ((sl + 15) % 16))) 17 (38 + 8 * ((sl + 15) % 16))
theorem c_bringBack (hW : fc_Wd mr) {sl kp : Nat} (hsl : mi 33 4 = nI sl) (h16 : sl < 16) (hkp : mi 33 5 = nI kp) (hk2 : kp ≤ 16) : fc_R E mX4_bringBack (d + 1) fc_sh [.ref 33, .ref 17] mi ml mr (if kp = 0 then fc_is (some (.int 0)) mi ml mr else fc_is (some (.int 1)) (sp_bb mi sl kp) ml mr) := by
  have hm16 : (sl + 15) % 16 < 16 := Nat.mod_lt _ (by omega)
  refine fc_met rfl (Nat.le_of_ble_eq_true rfl) (fc_run oX4_bringBack (fun _ => false) 400 ?_)
  refine And.intro rfl ?_
  refine And.intro (fun h4 => ?_) (fun h4 => ?_)
  · have hk0 : kp = 0 := by
      rw [hkp] at h4
      exact (nI_eq (b := 0) (by omega) (by omega)).mp h4
    refine And.intro (by first | exact Or.inl rfl | exact Or.inr rfl | exact fc_bb _ | assumption) ?_
    rw [if_pos hk0]
    exact ⟨rfl, rfl, rfl, rfl⟩
  · have hk0 : ¬ kp = 0 := by
      rw [hkp] at h4
      exact fun q => h4 ((nI_eq (b := 0) (by omega) (by omega)).mpr q)
    refine And.intro rfl ?_
    rw [hkp]
    refine And.intro rfl ?_
    refine And.intro rfl ?_
    rw [fc_u_nj _ _ _ _ (show (4 : Nat) ≠ 5 by decide), hsl]
    refine And.intro (by decide) ?_
    refine And.intro rfl ?_
    refine And.intro rfl (Exists.intro _ (And.intro (hW 33 0 34 rfl) ?_))
    refine And.intro rfl ?_
    rw [fc_u_at, show nI sl + 16 - 1 = nI (sl + 15) from by rw [show nI sl + 16 = nI (sl + 16) from nI_add sl 16]; exact nI_pred (sl + 15), fc_md (by omega)]
    refine Exists.intro _ (Exists.intro _ (Exists.intro _ (Exists.intro _ (And.intro rfl (And.intro (by decide) (And.intro (fc_ix_nI hm16 (by omega)) (And.intro (fc_W34 hW hm16) ?_)))))))
    refine And.intro (fc_S_0 (fc_S_at17 hW)) (Exists.intro _ (And.intro (c_copy (fc_S_at17 hW) (fc_S34 hW hm16) (Or.inl (by omega))) ?_))
    rintro _ _ _ _ ⟨rfl, rfl, rfl, rfl⟩
    refine And.intro (by first | exact Or.inl rfl | exact Or.inr rfl | exact fc_bb _ | assumption) ?_
    rw [if_neg hk0]
    refine ⟨rfl, ?_, rfl, rfl⟩
    unfold sp_bb
    rw [show nI kp - 1 = nI (kp - 1) from fc_pm (by omega)]

/-- the Seen at z as that at y, sightings below i -/
def sp_sc (mi : fc_Mi) (z y i : Nat) : fc_Mi := fc_ur (fc_ur (fc_ur (fc_u mi z 3 (mi y 3)) (z + 1) (sp_to (mi (z + 1)) (mi (y + 1)) i)) (z + 2) (sp_to (mi (z + 2)) (mi (y + 2)) i)) (z + 3) (sp_to (mi (z + 3)) (fun k => vp_nar .boolean (mi (y + 3) k)) i)
theorem sp_sc_off (mi : fc_Mi) (z y i : Nat) {x : Nat} (h : x < z ∨ z + 3 < x) : sp_sc mi z y i x = mi x := by
  unfold sp_sc
  rw [fc_ur_off _ _ (by omega), fc_ur_off _ _ (by omega), fc_ur_off _ _ (by omega), fc_u_off _ _ _ (by omega)]
theorem l_scopy {z y : Nat} (hZ : fc_Zs mr z) (hY : fc_Zs mr y) (hzy : z + 4 ≤ y ∨ y + 4 ≤ z) : ∀ (j i : Nat) (c : Int32) (mm : fc_Mi), i + j = 8 → c = nI i → mm = sp_sc mi z y i → fc_T E mX6_copy d (0, 0) fc_sh 10 [some (.ref z), some (.ref y), some (.int c)] [] mm ml mr (fc_is none (sp_sc mi z y 8) ml mr) := by
  intro j
  induction j with
  | zero =>
    intro i c mm hi hc hm
    subst hc
    have g1 : mm (y + 1) = mi (y + 1) := by rw [hm]; exact sp_sc_off _ _ _ _ (by omega)
    have g2 : mm (y + 2) = mi (y + 2) := by rw [hm]; exact sp_sc_off _ _ _ _ (by omega)
    have g3 : mm (y + 3) = mi (y + 3) := by rw [hm]; exact sp_sc_off _ _ _ _ (by omega)
    refine fc_run oX6_copy (fun pc => pc == 10) 400 ?_
    refine And.intro (fun h13 => ?_) (fun h13 => ?_)
    · exact ⟨rfl, by rw [hm, show i = 8 by omega], rfl, rfl⟩
    · exact absurd (by rw [show i = 8 by omega]; decide) h13
  | succ j ih =>
    intro i c mm hi hc hm
    subst hc
    have g1 : mm (y + 1) = mi (y + 1) := by rw [hm]; exact sp_sc_off _ _ _ _ (by omega)
    have g2 : mm (y + 2) = mi (y + 2) := by rw [hm]; exact sp_sc_off _ _ _ _ (by omega)
    have g3 : mm (y + 3) = mi (y + 3) := by rw [hm]; exact sp_sc_off _ _ _ _ (by omega)
    refine fc_run oX6_copy (fun pc => pc == 10) 400 ?_
    refine And.intro (fun h13 => ?_) (fun h13 => ?_)
    · exact absurd h13 (nI_ge (b := 8) (by omega) (by omega))
    · refine And.intro (fc_Z_0 hZ) (Exists.intro _ (And.intro (fc_Z_r0 hZ) ?_))
      refine And.intro (fc_Z_0 hY) (Exists.intro _ (And.intro (fc_Z_r0 hY) ?_))
      refine Exists.intro _ (Exists.intro _ (And.intro (fc_Z_1 hY) (And.intro (by first | assumption | exact fc_ix_nI (by omega) (by omega) | exact fc_ix_nI (by assumption) (by omega)) ?_)))
      rw [g1]
      refine Exists.intro _ (Exists.intro _ (And.intro (fc_Z_1 hZ) (And.intro (by first | assumption | exact fc_ix_nI (by omega) (by omega) | exact fc_ix_nI (by assumption) (by omega)) ?_)))
      refine And.intro (fc_Z_0 hZ) (Exists.intro _ (And.intro (fc_Z_r1 hZ) ?_))
      refine And.intro (fc_Z_0 hY) (Exists.intro _ (And.intro (fc_Z_r1 hY) ?_))
      refine Exists.intro _ (Exists.intro _ (And.intro (fc_Z_2 hY) (And.intro (by first | assumption | exact fc_ix_nI (by omega) (by omega) | exact fc_ix_nI (by assumption) (by omega)) ?_)))
      rw [fc_u_off (b := y + 2) _ _ _ (by omega), g2]
      refine Exists.intro _ (Exists.intro _ (And.intro (fc_Z_2 hZ) (And.intro (by first | assumption | exact fc_ix_nI (by omega) (by omega) | exact fc_ix_nI (by assumption) (by omega)) ?_)))
      refine And.intro (fc_Z_0 hZ) (Exists.intro _ (And.intro (fc_Z_r2 hZ) ?_))
      refine And.intro (fc_Z_0 hY) (Exists.intro _ (And.intro (fc_Z_r2 hY) ?_))
      refine Exists.intro _ (Exists.intro _ (And.intro (fc_Z_3 hY) (And.intro (by first | assumption | exact fc_ix_nI (by omega) (by omega) | exact fc_ix_nI (by assumption) (by omega)) ?_)))
      rw [fc_u_off (b := y + 3) _ _ _ (by omega), fc_u_off (b := y + 3) _ _ _ (by omega), g3]
      refine Exists.intro _ (Exists.intro _ (And.intro (fc_Z_3 hZ) (And.intro (by first | assumption | exact fc_ix_nI (by omega) (by omega) | exact fc_ix_nI (by assumption) (by omega)) ?_)))
      exact ih (i + 1) _ _ (by omega) (fc_inc i) (by
              rw [hm]
              unfold sp_sc
              rw [fc_u_cm (x := z + 3) (z := z + 1) (by omega), fc_u_cm (x := z + 2) (z := z + 1) (by omega), fc_u_ur]
              rw [fc_u_cm (x := z + 3) (z := z + 2) (by omega), fc_u_ur, fc_u_ur]
              rw [sp_to_s (mi (z + 1)) (mi (y + 1)), sp_to_s (mi (z + 2)) (mi (y + 2)), sp_to_s (mi (z + 3)) (fun k => vp_nar .boolean (mi (y + 3) k))])

theorem c_scopy {z y : Nat} (hZ : fc_Zs mr z) (hY : fc_Zs mr y) (hzy : z + 4 ≤ y ∨ y + 4 ≤ z) : fc_R E mX6_copy d fc_sh [.ref z, .ref y] mi ml mr (fc_is none (sp_sc mi z y 8) ml mr) := by
  refine fc_met rfl (Nat.le_of_ble_eq_true rfl) (fc_run oX6_copy (fun pc => pc == 10) 400 ?_)
  refine And.intro (fc_Z_0 hY) ?_
  refine And.intro (fc_Z_0 hZ) ?_
  refine l_scopy (mi := mi) hZ hY hzy 8 0 _ _ (by omega) rfl ?_
  unfold sp_sc
  simp only [sp_to_0]
  have e : ∀ (f : fc_Mi) (x : Nat), f x = mi x → fc_ur f x (mi x) = f := fun f x h => by rw [← h]; exact fc_ur_self _ _
  have e0 : ∀ x, x ≠ z → (fc_u mi z 3 (mi y 3)) x = mi x := fun x h => fc_u_off _ _ _ h
  rw [e _ (z + 1) (e0 _ (by omega)), e _ (z + 2) (e0 _ (by omega)), e _ (z + 3) (e0 _ (by omega))]

/-- the memory behind lay -/
def sp_ly (mi : fc_Mi) (k : Nat) : fc_Mi := fc_u (sp_sc (sp_cp mi (166 + 12 * k) 17) (174 + 12 * k) 214 8) 37 k 1
theorem c_lay (hW : fc_Wd mr) {k : Nat} (hk : k < 4) : fc_R E mX4_lay (d + 1) fc_sh [.ref 33, .int (nI k), .ref 17, .ref 214] mi ml mr (fc_is none (sp_ly mi k) ml mr) := by
  refine fc_met rfl (Nat.le_of_ble_eq_true rfl) (fc_run oX4_lay (fun _ => false) 400 ?_)
  refine And.intro rfl (Exists.intro _ (And.intro (hW 33 1 35 rfl) ?_))
  refine Exists.intro _ (Exists.intro _ (Exists.intro _ (Exists.intro _ (And.intro rfl (And.intro (by decide) (And.intro (fc_ix_nI hk (by omega)) (And.intro (fc_W35 hW hk) ?_)))))))
  refine And.intro (fc_S_0 (fc_S35 hW hk)) (Exists.intro _ (And.intro (c_copy (fc_S35 hW hk) (fc_S_at17 hW) (Or.inr (by omega))) ?_))
  rintro _ _ _ _ ⟨rfl, rfl, rfl, rfl⟩
  refine And.intro rfl (Exists.intro _ (And.intro (hW 33 2 36 rfl) ?_))
  refine Exists.intro _ (Exists.intro _ (Exists.intro _ (Exists.intro _ (And.intro rfl (And.intro (by decide) (And.intro (fc_ix_nI hk (by omega)) (And.intro (fc_W36 hW hk) ?_)))))))
  refine And.intro (fc_Z_0 (fc_Z36 hW hk)) (Exists.intro _ (And.intro (c_scopy (fc_Z36 hW hk) (fc_Z_at214 hW) (Or.inl (by omega))) ?_))
  rintro _ _ _ _ ⟨rfl, rfl, rfl, rfl⟩
  refine And.intro rfl (Exists.intro _ (And.intro (hW 33 3 37 rfl) ?_))
  refine Exists.intro _ (Exists.intro _ (And.intro rfl (And.intro (fc_ix_nI hk (by omega)) ?_)))
  exact ⟨rfl, rfl, rfl, rfl⟩

/-- the memory behind goBack -/
def sp_gb (mi : fc_Mi) (k : Nat) : fc_Mi := fc_u (sp_sc (sp_cp mi 17 (166 + 12 * k)) 214 (174 + 12 * k) 8) 33 5 0
theorem c_goBack (hW : fc_Wd mr) {k : Nat} (hk : k < 4) : fc_R E mX4_goBack (d + 1) fc_sh [.ref 33, .int (nI k), .ref 17, .ref 214] mi ml mr (if mi 37 k = 0 then fc_is (some (.int 0)) mi ml mr else fc_is (some (.int 1)) (sp_gb mi k) ml mr) := by
  refine fc_met rfl (Nat.le_of_ble_eq_true rfl) (fc_run oX4_goBack (fun _ => false) 400 ?_)
  refine And.intro rfl (Exists.intro _ (And.intro (hW 33 3 37 rfl) ?_))
  refine Exists.intro _ (Exists.intro _ (And.intro rfl (And.intro (fc_ix_nI hk (by omega)) ?_)))
  refine And.intro (fun h6 => ?_) (fun h6 => ?_)
  · refine And.intro (by first | exact Or.inl rfl | exact Or.inr rfl | exact fc_bb _ | assumption) ?_
    rw [if_pos h6]
    exact ⟨rfl, rfl, rfl, rfl⟩
  · refine And.intro rfl (Exists.intro _ (And.intro (hW 33 1 35 rfl) ?_))
    refine Exists.intro _ (Exists.intro _ (Exists.intro _ (Exists.intro _ (And.intro rfl (And.intro (by decide) (And.intro (fc_ix_nI hk (by omega)) (And.intro (fc_W35 hW hk) ?_)))))))
    refine And.intro (fc_S_0 (fc_S_at17 hW)) (Exists.intro _ (And.intro (c_copy (fc_S_at17 hW) (fc_S35 hW hk) (Or.inl (by omega))) ?_))
    rintro _ _ _ _ ⟨rfl, rfl, rfl, rfl⟩
    refine And.intro rfl (Exists.intro _ (And.intro (hW 33 2 36 rfl) ?_))
    refine Exists.intro _ (Exists.intro _ (Exists.intro _ (Exists.intro _ (And.intro rfl (And.intro (by decide) (And.intro (fc_ix_nI hk (by omega)) (And.intro (fc_W36 hW hk) ?_)))))))
    refine And.intro (fc_Z_0 (fc_Z_at214 hW)) (Exists.intro _ (And.intro (c_scopy (fc_Z_at214 hW) (fc_Z36 hW hk) (Or.inr (by omega))) ?_))
    rintro _ _ _ _ ⟨rfl, rfl, rfl, rfl⟩
    refine And.intro rfl ?_
    refine And.intro (by first | exact Or.inl rfl | exact Or.inr rfl | exact fc_bb _ | assumption) ?_
    rw [if_neg h6]
    exact ⟨rfl, rfl, rfl, rfl⟩

def sp_fg (mi : fc_Mi) (i : Nat) : fc_Mi := fc_ur (fc_u mi 33 5 0) 37 (sp_to (mi 37) (fun _ => vp_nar .boolean 0) i)
theorem l_forget (hW : fc_Wd mr) : ∀ (j i : Nat) (c : Int32) (mm : fc_Mi), i + j = 4 → c = nI i → mm = sp_fg mi i → fc_T E mX4_forget d (0, 0) fc_sh 7 [some (.ref 33), some (.int c)] [] mm ml mr (fc_is none (sp_fg mi 4) ml mr) := by
  intro j
  induction j with
  | zero =>
    intro i c mm hi hc hm
    subst hc
    refine fc_run oX4_forget (fun pc => pc == 7) 400 ?_
    refine And.intro (fun h9 => ?_) (fun h9 => ?_)
    · exact ⟨rfl, by rw [hm, show i = 4 by omega], rfl, rfl⟩
    · exact absurd (by rw [show i = 4 by omega]; decide) h9
  | succ j ih =>
    intro i c mm hi hc hm
    subst hc
    refine fc_run oX4_forget (fun pc => pc == 7) 400 ?_
    refine And.intro (fun h9 => ?_) (fun h9 => ?_)
    · exact absurd h9 (nI_ge (b := 4) (by omega) (by omega))
    · refine And.intro rfl (Exists.intro _ (And.intro (hW 33 3 37 rfl) ?_))
      refine Exists.intro _ (Exists.intro _ (And.intro rfl (And.intro (by first | assumption | exact fc_ix_nI (by omega) (by omega) | exact fc_ix_nI (by assumption) (by omega)) ?_)))
      exact ih (i + 1) _ _ (by omega) (fc_inc i) (by rw [hm]; unfold sp_fg; rw [fc_u_ur, sp_to_s (mi 37) (fun _ => vp_nar .boolean 0)])

theorem c_forget (hW : fc_Wd mr) : fc_R E mX4_forget d fc_sh [.ref 33] mi ml mr (fc_is none (sp_fg mi 4) ml mr) := by
  refine fc_met rfl (Nat.le_of_ble_eq_true rfl) (fc_run oX4_forget (fun pc => pc == 7) 400 ?_)
  refine And.intro rfl ?_
  exact l_forget (mi := mi) hW 4 0 _ _ (by omega) rfl (by unfold sp_fg; rw [sp_to_0, show mi 37 = (fc_u mi 33 5 0) 37 from (fc_u_off _ _ _ (by decide)).symm, fc_ur_self])

def sp_ad (mi : fc_Mi) (k : Nat) (x mn cn : Int32) : fc_Mi := fc_u (fc_u (fc_u (fc_u mi 215 k x) 216 k mn) 217 k (vp_nar .boolean cn)) 214 3 (nI (k + 1))
theorem c_add (hW : fc_Wd mr) {k : Nat} (hk : mi 214 3 = nI k) (hk8 : k ≤ 8) (x mn cn : Int32) : fc_R E mX6_add d fc_sh [.ref 214, .int x, .int mn, .int cn] mi ml mr (if k = 8 then fc_is (some (.int 0)) mi ml mr else fc_is (some (.int 1)) (sp_ad mi k x mn cn) ml mr) := by
  refine fc_met rfl (Nat.le_of_ble_eq_true rfl) (fc_run oX6_add (fun _ => false) 400 ?_)
  refine And.intro (fc_Z_0 (fc_Z_at214 hW)) ?_
  refine And.intro (fun h6 => ?_) (fun h6 => ?_)
  · have hkk : ¬ k = 8 := by
      rw [hk] at h6
      have := (nI_ltI (b := 8) (by omega) (by omega)).mp h6
      omega
    refine And.intro (fc_Z_0 (fc_Z_at214 hW)) (Exists.intro _ (And.intro (fc_Z_r0 (fc_Z_at214 hW)) ?_))
    refine And.intro (fc_Z_0 (fc_Z_at214 hW)) ?_
    rw [hk]
    refine Exists.intro _ (Exists.intro _ (And.intro (fc_Z_1 (fc_Z_at214 hW)) (And.intro (fc_ix_nI (p := k) (by omega) (by omega)) ?_)))
    refine And.intro (fc_Z_0 (fc_Z_at214 hW)) (Exists.intro _ (And.intro (fc_Z_r1 (fc_Z_at214 hW)) ?_))
    refine And.intro (fc_Z_0 (fc_Z_at214 hW)) ?_
    rw [fc_u_off (b := 214) _ _ _ (by decide), hk]
    refine Exists.intro _ (Exists.intro _ (And.intro (fc_Z_2 (fc_Z_at214 hW)) (And.intro (fc_ix_nI (p := k) (by omega) (by omega)) ?_)))
    refine And.intro (fc_Z_0 (fc_Z_at214 hW)) (Exists.intro _ (And.intro (fc_Z_r2 (fc_Z_at214 hW)) ?_))
    refine And.intro (fc_Z_0 (fc_Z_at214 hW)) ?_
    rw [fc_u_off (b := 214) _ _ _ (by decide), fc_u_off (b := 214) _ _ _ (by decide), hk]
    refine Exists.intro _ (Exists.intro _ (And.intro (fc_Z_3 (fc_Z_at214 hW)) (And.intro (fc_ix_nI (p := k) (by omega) (by omega)) ?_)))
    refine And.intro (fc_Z_0 (fc_Z_at214 hW)) ?_
    rw [fc_u_off (b := 214) _ _ _ (by decide), fc_u_off (b := 214) _ _ _ (by decide), fc_u_off (b := 214) _ _ _ (by decide), hk]
    refine And.intro (fc_Z_0 (fc_Z_at214 hW)) ?_
    refine And.intro (by first | exact Or.inl rfl | exact Or.inr rfl | exact fc_bb _ | assumption) ?_
    rw [if_neg hkk]
    exact ⟨rfl, by rw [nI_1 k]; rfl, rfl, rfl⟩
  · have hkk : k = 8 := by
      rw [hk] at h6
      rcases Nat.lt_or_ge k 8 with q | q
      · exact absurd ((nI_ltI (b := 8) (by omega) (by omega)).mpr q) h6
      · omega
    refine And.intro (by first | exact Or.inl rfl | exact Or.inr rfl | exact fc_bb _ | assumption) ?_
    rw [if_pos hkk]
    exact ⟨rfl, rfl, rfl, rfl⟩

end M28
