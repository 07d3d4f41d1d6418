/-! ===== the reference: as always; a morning begins ===== -/
section M88
variable {E : fc_E} {d : Nat} {mi : fc_Mi} {ml : fc_Ml} {mr : fc_Mr} {a n m t sm : Nat} {x : Int32} {L : fc_Mi}
theorem l_rsaa (hW : fc_Wd mr) (hx : x = nI a) (ha : a ≤ 50) : ∀ (j i : Nat) (c : Int32) (M : fc_Mi), i + j = 50 → c = nI i → (∀ y, y ≠ 258 → M y = mi y) → (∀ k, (k < a ∨ a + 50 ≤ k) → M 258 k = mi 258 k) → (∀ k, k < i → M 258 (a + k) = 0) → fc_T E mX11_standsAsAlways d (0, 0) fc_sh 2 [some (.ref 252), some (.int x), some (.int c)] [] M ml mr (fun v mi' ml' mr' => v = none ∧ ml = ml' ∧ mr = mr' ∧ (∀ y, y ≠ 258 → mi' y = mi y) ∧ (∀ k, (k < a ∨ a + 50 ≤ k) → mi' 258 k = mi 258 k) ∧ mi' 258 (a + 4) = 30 ∧ mi' 258 (a + 5) = -1 ∧ ∀ k, k < 50 → k ≠ 4 → k ≠ 5 → mi' 258 (a + k) = 0) := by
  intro j
  induction j with
  | zero =>
    intro i c M hi hc h1 h2 h3
    subst hc
    refine fc_run oX11_standsAsAlways (fun pc => pc == 2) 400 ?_
    refine And.intro (fun h5 => ?_) (fun h5 => ?_)
    · refine And.intro rfl (Exists.intro _ (And.intro (hW 252 10 258 rfl) ?_))
      refine Exists.intro _ (Exists.intro _ (And.intro rfl (And.intro (fc_ixn (fc_na hx (fc_nl 4)) (by omega) (by decide)) ?_)))
      refine And.intro rfl (Exists.intro _ (And.intro (hW 252 10 258 rfl) ?_))
      refine Exists.intro _ (Exists.intro _ (And.intro rfl (And.intro (fc_ixn (fc_na hx (fc_nl 5)) (by omega) (by decide)) ?_)))
      refine ⟨rfl, rfl, rfl, fun y q => ?_, fun k q => ?_, ?_, ?_, fun k q1 q2 q3 => ?_⟩
      · rw [fc_u_off _ _ _ q, fc_u_off _ _ _ q]; exact h1 y q
      · rw [fc_u_nj _ _ _ _ (by omega), fc_u_nj _ _ _ _ (by omega)]; exact h2 k q
      · rw [fc_u_nj _ _ _ _ (by omega)]; exact fc_u_at _ _ _ _
      · exact fc_u_at _ _ _ _
      · rw [fc_u_nj _ _ _ _ (by omega), fc_u_nj _ _ _ _ (by omega)]; exact h3 k (by omega)
    · exact absurd (nI_le (a := 50) (b := i) (by omega) (by omega)) h5
  | succ j ih =>
    intro i c M hi hc h1 h2 h3
    subst hc
    refine fc_run oX11_standsAsAlways (fun pc => pc == 2) 400 ?_
    refine And.intro (fun h5 => ?_) (fun h5 => ?_)
    · exact absurd h5 (nI_ge (a := i) (b := 50) (by omega) (by omega))
    · refine And.intro rfl (Exists.intro _ (And.intro (hW 252 10 258 rfl) ?_))
      refine Exists.intro _ (Exists.intro _ (And.intro rfl (And.intro (fc_ixn (fc_na hx rfl) (by omega) (by decide)) ?_)))
      refine ih (i + 1) _ _ (by omega) (fc_inc i) (fun y q => ?_) (fun k q => ?_) (fun k q => ?_)
      · rw [fc_u_off _ _ _ q]; exact h1 y q
      · rw [fc_u_nj _ _ _ _ (by omega)]; exact h2 k q
      · by_cases e : k = i
        · rw [e]; exact fc_u_at _ _ _ _
        · rw [fc_u_nj _ _ _ _ (by omega)]; exact h3 k (by omega)

theorem c_rsaa (hW : fc_Wd mr) (hx : x = nI a) (ha : a ≤ 50) : fc_R E mX11_standsAsAlways d fc_sh [.ref 252, .int x] mi ml mr (fun v mi' ml' mr' => v = none ∧ ml = ml' ∧ mr = mr' ∧ (∀ y, y ≠ 258 → mi' y = mi y) ∧ (∀ k, (k < a ∨ a + 50 ≤ k) → mi' 258 k = mi 258 k) ∧ mi' 258 (a + 4) = 30 ∧ mi' 258 (a + 5) = -1 ∧ ∀ k, k < 50 → k ≠ 4 → k ≠ 5 → mi' 258 (a + k) = 0) := by
  refine fc_met rfl (Nat.le_of_ble_eq_true rfl) (fc_run oX11_standsAsAlways (fun pc => pc == 2) 400 ?_)
  exact l_rsaa hW hx ha 50 0 _ _ (by omega) rfl (fun _ _ => rfl) (fun _ _ => rfl) (fun k q => absurd q (Nat.not_lt_zero k))

/-- a morning has begun -/
def rbg (n t : Nat) (L mi mi' : fc_Mi) : Prop := as_ag n t (as_beg L) (rv (mi' 268) 0) ∧ mi' 268 39 = 0 ∧ mi' 265 0 = 0 ∧ mi' 252 25 = 0 ∧ (∀ j, j < 4 → mi' 269 j = 0) ∧ (∀ x, x ≠ 252 → x ≠ 265 → x ≠ 266 → x ≠ 267 → x ≠ 268 → x ≠ 269 → x ≠ 270 → mi' x = mi x) ∧ ∀ k, k ≠ 25 → mi' 252 k = mi 252 k
theorem l_rbegins (hW : fc_Wd mr) : ∀ (j i : Nat) (c : Int32) (M : fc_Mi), i + j = 4 → c = nI i → as_ag n t (as_beg L) (rv (M 268) 0) → M 268 39 = 0 → M 265 0 = 0 → M 252 25 = 0 → (∀ j, j < i → M 269 j = 0) → (∀ x, x ≠ 252 → x ≠ 265 → x ≠ 266 → x ≠ 267 → x ≠ 268 → x ≠ 269 → x ≠ 270 → M x = mi x) → (∀ k, k ≠ 25 → M 252 k = mi 252 k) → fc_T E mX11_begins d (0, 0) fc_sh 27 [some (.ref 252), some (.int c)] [] M ml mr (fun v mi' ml' mr' => v = none ∧ ml = ml' ∧ mr = mr' ∧ rbg n t L mi mi') := by
  intro j
  induction j with
  | zero =>
    intro i c M hi hc h1 h2 h3 h4 h5 h6 h7
    subst hc
    refine fc_run oX11_begins (fun pc => pc == 27) 400 ?_
    refine And.intro (fun h29 => ?_) (fun h29 => ?_)
    · exact ⟨rfl, rfl, rfl, h1, h2, h3, h4, fun j q => h5 j (by omega), h6, h7⟩
    · exact absurd (nI_le (a := 4) (b := i) (by omega) (by omega)) h29
  | succ j ih =>
    intro i c M hi hc h1 h2 h3 h4 h5 h6 h7
    subst hc
    refine fc_run oX11_begins (fun pc => pc == 27) 400 ?_
    refine And.intro (fun h29 => ?_) (fun h29 => ?_)
    · exact absurd h29 (nI_ge (a := i) (b := 4) (by omega) (by omega))
    · refine And.intro rfl (Exists.intro _ (And.intro (hW 252 26 269 rfl) ?_))
      refine Exists.intro _ (Exists.intro _ (And.intro rfl (And.intro (fc_ixn rfl (by omega) (by decide)) ?_)))
      refine ih (i + 1) _ _ (by omega) (fc_inc i) h1 h2 h3 h4 (fun k q => ?_) (fun x q1 q2 q3 q4 q5 q6 q7 => ?_) h7
      · by_cases e : k = i
        · rw [e]; exact (fc_u_at _ _ _ _).trans (by decide)
        · rw [fc_u_nj _ _ _ _ e]; exact h5 k (by omega)
      · rw [fc_u_off _ _ _ q6]; exact h6 x q1 q2 q3 q4 q5 q6 q7

theorem c_rbegins (hW : fc_Wd mr) (hZ : rz mi n m t sm L) : fc_R E mX11_begins (d + 2) fc_sh [.ref 252] mi ml mr (fun v mi' ml' mr' => v = none ∧ ml = ml' ∧ mr = mr' ∧ rbg n t L mi mi') := by
  refine fc_met rfl (Nat.le_of_ble_eq_true rfl) (fc_run oX11_begins (fun pc => pc == 27) 400 ?_)
  refine And.intro rfl (Exists.intro _ (And.intro (c_rstarts hW hZ (B := 0) rfl (by omega)) ?_))
  rintro _ m1 _ _ ⟨rfl, g1, g2, rfl, rfl⟩
  refine And.intro rfl (Exists.intro _ (And.intro (hW 252 24 268 rfl) ?_))
  refine Exists.intro _ (Exists.intro _ (And.intro rfl (And.intro (fc_ixn (fc_nl 39) (by omega) (by decide)) ?_)))
  refine And.intro rfl (Exists.intro _ (And.intro (hW 252 21 265 rfl) ?_))
  refine Exists.intro _ (Exists.intro _ (And.intro rfl (And.intro (fc_ixn (fc_nl 0) (by omega) (by decide)) ?_)))
  refine And.intro rfl ?_
  have hLo := hZ.2.1
  refine l_rbegins hW 4 0 _ _ (by omega) rfl ?_ rfl rfl rfl (fun j q => absurd q (Nat.not_lt_zero j)) (fun x q1 q2 q3 q4 q5 q6 q7 => ?_) (fun k q => ?_)
  · refine g1.tr ?_
    obtain ⟨hn5, -, ht6, -⟩ := hLo
    have e : ∀ j, j ≠ 39 → (fc_u (fc_u (fc_u m1 268 39 0) 265 0 0) 252 25 0) 268 j = m1 268 j := fun j q => by
      rw [fc_u_off _ _ _ (by decide), fc_u_off _ _ _ (by decide), fc_u_nj _ _ _ _ q]
    refine ⟨⟨(e (0 + 0) (by omega)).symm, (e (0 + 1) (by omega)).symm⟩, fun p hp => ⟨(e (0 + 2 + p) (by omega)).symm, (e (0 + 7 + p) (by omega)).symm, (e (0 + 34 + p) (by omega)).symm, (e (0 + 24 + p) (by omega)).symm, (e (0 + 29 + p) (by omega)).symm⟩, fun q hq => ⟨(e (0 + 12 + q) (by omega)).symm, (e (0 + 18 + q) (by omega)).symm⟩⟩
  · rw [fc_u_off _ _ _ q1, fc_u_off _ _ _ q2, fc_u_off _ _ _ q5]; exact g2.1 x q3 q4 q5 q7
  · rw [fc_u_nj _ _ _ _ q]; exact congrFun (g2.1 252 (by decide) (by decide) (by decide) (by decide)) k

end M88
