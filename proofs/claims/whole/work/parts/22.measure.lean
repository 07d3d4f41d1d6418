/-! ===== the distances ===== -/
section M22
variable {E : fc_E} {d : Nat} {mi : fc_Mi} {ml : fc_Ml} {mr : fc_Mr} {a b n m t : Nat}
/-- edge, been, and the row of distances, steps below i done -/
def sp_me (pt : Nat → Int32) (m x : Nat) (r0 : Nat → Int32) : Nat → Int32 × Int32 × (Nat → Int32)
  | 0 => (sp_one x, 0, fun j => if j < 7 then 1000 else r0 j)
  | i + 1 => (sp_nb pt m (sp_me pt m x r0 i).1 &&& (((sp_me pt m x r0 i).2.1 ||| (sp_me pt m x r0 i).1) ^^^ (-1)), (sp_me pt m x r0 i).2.1 ||| (sp_me pt m x r0 i).1, fun p => if decide (p < m) && sp_in (sp_me pt m x r0 i).1 (nI p) then nI i else (sp_me pt m x r0 i).2.2 p)
theorem l_mf2 (hW : fc_Wd mr) (hL : fc_L mr b) (hb : 100 ≤ b) {x : Nat} (hx : x < 7) (hM : mi b 10 = nI m) (hm7 : m ≤ 7) {s : Nat} {e bn : Int32} {r : Nat → Int32} {Q : fc_Q} (K : ∀ (e' c' : Int32) (x6 : Option Value) (mm' : fc_Mi), e' = sp_nb (mi (b + 4)) m e &&& (bn ^^^ (-1)) → c' = nI (s + 1) → mm' = fc_ur mi (8 + x) (fun p => if decide (p < m) && sp_in e (nI p) then nI s else r p) → fc_T E mX9_measureFrom (d + 2) (0, 0) fc_sh 22 [some (.ref 6), some (.ref b), some (.int (nI x)), some (.int e'), some (.int bn), some (.int c'), x6] [] mm' ml mr Q) : ∀ (j i : Nat) (c : Int32) (mm : fc_Mi), i + j = m → c = nI i → mm = fc_ur mi (8 + x) (fun p => if decide (p < i) && sp_in e (nI p) then nI s else r p) → fc_T E mX9_measureFrom (d + 2) (0, 0) fc_sh 40 [some (.ref 6), some (.ref b), some (.int (nI x)), some (.int e), some (.int bn), some (.int (nI s)), some (.int c)] [] mm ml mr (Q) := by
  intro j
  induction j with
  | zero =>
    intro i c mm hi hc hm
    subst hc
    have hMm : mm b 10 = nI m := by rw [hm, fc_ur_off _ _ (by omega)]; exact hM
    have hpt : mm (b + 4) = mi (b + 4) := by rw [hm, fc_ur_off _ _ (by omega)]
    refine fc_run oX9_measureFrom (fun pc => pc == 40 || pc == 22) 400 ?_
    refine And.intro (fc_L_0 hL) ?_
    refine And.intro (fun h46 => ?_) (fun h46 => ?_)
    · refine Exists.intro _ (And.intro (c_neighbours hL _ hMm hm7) ?_)
      rintro _ _ _ _ ⟨rfl, rfl, rfl, rfl⟩
      rw [hpt]
      exact K _ _ _ _ rfl (fc_inc s) (by rw [hm, show i = m by omega])
    · exact absurd (by rw [hMm]; exact nI_le (by omega) (by omega)) h46
  | succ j ih =>
    intro i c mm hi hc hm
    subst hc
    have hMm : mm b 10 = nI m := by rw [hm, fc_ur_off _ _ (by omega)]; exact hM
    have hpt : mm (b + 4) = mi (b + 4) := by rw [hm, fc_ur_off _ _ (by omega)]
    refine fc_run oX9_measureFrom (fun pc => pc == 40 || pc == 22) 400 ?_
    refine And.intro (fc_L_0 hL) ?_
    refine And.intro (fun h46 => ?_) (fun h46 => ?_)
    · exact absurd h46 (by rw [hMm]; exact nI_ge (by omega) (by omega))
    · refine Exists.intro _ (And.intro (c_isIn _ _) ?_)
      rintro _ _ _ _ ⟨rfl, rfl, rfl, rfl⟩
      refine And.intro (fun h55 => ?_) (fun h55 => ?_)
      · replace h55 := fc_b0.mp h55
        exact ih (i + 1) _ _ (by omega) (fc_inc i) (by
                rw [hm]
                refine fc_rowE (fun j => ?_)
                by_cases h1 : j = i
                · subst h1; simp [h55]
                · simp [h1, show (j < i + 1) ↔ (j < i) by omega])
      · replace h55 := fc_b1.mp h55
        refine And.intro rfl (Exists.intro _ (And.intro (hW 6 0 7 rfl) ?_))
        refine Exists.intro _ (Exists.intro _ (Exists.intro _ (Exists.intro _ (And.intro rfl (And.intro (by decide) (And.intro (fc_ix_nI (p := x) (by omega) (by omega)) (And.intro (fc_W7 hW hx) ?_)))))))
        refine Exists.intro _ (Exists.intro _ (And.intro (fc_sh7 hx) (And.intro (fc_ix_nI (p := i) (by omega) (by omega)) ?_)))
        exact ih (i + 1) _ _ (by omega) (fc_inc i) (by
                rw [hm, fc_u_ur]
                refine fc_rowE (fun j => ?_)
                by_cases h1 : j = i
                · subst h1; simp [h55]
                · simp [h1, show (j < i + 1) ↔ (j < i) by omega])

theorem l_mf1 (hW : fc_Wd mr) (hL : fc_L mr b) (hb : 100 ≤ b) {x : Nat} (hx : x < 7) (hM : mi b 10 = nI m) (hm7 : m ≤ 7) : ∀ (j i : Nat) (e bn c : Int32) (x6 : Option Value) (mm : fc_Mi), i + j = m → c = nI i → e = (sp_me (mi (b + 4)) m x (mi (8 + x)) i).1 → bn = (sp_me (mi (b + 4)) m x (mi (8 + x)) i).2.1 → mm = fc_ur mi (8 + x) (sp_me (mi (b + 4)) m x (mi (8 + x)) i).2.2 → fc_T E mX9_measureFrom (d + 2) (0, 0) fc_sh 22 [some (.ref 6), some (.ref b), some (.int (nI x)), some (.int e), some (.int bn), some (.int c), x6] [] mm ml mr (fc_is none (fc_ur mi (8 + x) (sp_me (mi (b + 4)) m x (mi (8 + x)) m).2.2) ml mr) := by
  intro j
  induction j with
  | zero =>
    intro i e bn c x6 mm hi hc he hbn hm
    subst hc
    have hMm : mm b 10 = nI m := by rw [hm, fc_ur_off _ _ (by omega)]; exact hM
    refine fc_run oX9_measureFrom (fun pc => pc == 22 || pc == 40) 400 ?_
    refine And.intro (fc_L_0 hL) ?_
    refine And.intro (fun h28 => ?_) (fun h28 => ?_)
    · exact ⟨rfl, by rw [hm, show i = m by omega], rfl, rfl⟩
    · exact absurd (by rw [hMm]; exact nI_le (by omega) (by omega)) h28
  | succ j ih =>
    intro i e bn c x6 mm hi hc he hbn hm
    subst hc
    have hMm : mm b 10 = nI m := by rw [hm, fc_ur_off _ _ (by omega)]; exact hM
    refine fc_run oX9_measureFrom (fun pc => pc == 22 || pc == 40) 400 ?_
    refine And.intro (fc_L_0 hL) ?_
    refine And.intro (fun h28 => ?_) (fun h28 => ?_)
    · exact absurd h28 (by rw [hMm]; exact nI_ge (by omega) (by omega))
    · exact l_mf2 (r := (sp_me (mi (b + 4)) m x (mi (8 + x)) i).2.2) hW hL hb hx hM hm7 (fun e' c' x6 mm' he' hc' hm' => ih (i + 1) _ _ _ _ _ (by omega) hc' (by rw [he', he, hbn]; rfl) (by rw [he, hbn]; rfl) (by rw [hm', he]; rfl)) m 0 _ _ (by omega) rfl (by rw [hm]; exact fc_rowE (fun p => by simp))

theorem c_measureFrom (hW : fc_Wd mr) (hL : fc_L mr b) (hb : 100 ≤ b) {x : Nat} (hx : x < 7) (hM : mi b 10 = nI m) (hm7 : m ≤ 7) : fc_R E mX9_measureFrom (d + 2) fc_sh [.ref 6, .ref b, .int (nI x)] mi ml mr (fc_is none (fc_ur mi (8 + x) (sp_me (mi (b + 4)) m x (mi (8 + x)) m).2.2) ml mr) := by
  refine fc_met rfl (Nat.le_of_ble_eq_true rfl) (fc_run oX9_measureFrom (fun pc => pc == 22) 400 ?_)
  refine And.intro rfl (Exists.intro _ (And.intro (hW 6 0 7 rfl) ?_))
  refine Exists.intro _ (Exists.intro _ (Exists.intro _ (Exists.intro _ (And.intro rfl (And.intro (by decide) (And.intro (fc_ix_nI (p := x) (by omega) (by omega)) (And.intro (fc_W7 hW hx) ?_)))))))
  refine Exists.intro _ (And.intro (c_fill (fc_sh7 hx) (by omega) _) ?_)
  rintro _ _ _ _ ⟨rfl, rfl, rfl, rfl⟩
  exact l_mf1 hW hL hb hx hM hm7 m 0 _ _ _ _ _ (by omega) rfl rfl rfl rfl

/-- the memory with the distances from the places below i -/
def sp_mm (mi : fc_Mi) (b m : Nat) : Nat → fc_Mi
  | 0 => mi
  | i + 1 => fc_ur (sp_mm mi b m i) (8 + i) (sp_me (mi (b + 4)) m i (mi (8 + i)) m).2.2
theorem sp_mm_off {mi : fc_Mi} {b m : Nat} : ∀ (i : Nat) {q : Nat}, q < 8 ∨ 8 + i ≤ q → sp_mm mi b m i q = mi q
  | 0, _, _ => rfl
  | i + 1, q, h => by
    unfold sp_mm
    rw [fc_ur_off _ _ (by omega), sp_mm_off i (by omega)]
theorem sp_mm_at {mi : fc_Mi} {b m : Nat} : ∀ (i : Nat) {x : Nat}, x < i → sp_mm mi b m i (8 + x) = (sp_me (mi (b + 4)) m x (mi (8 + x)) m).2.2
  | 0, _, h => by omega
  | i + 1, x, h => by
    unfold sp_mm
    by_cases hx : x = i
    · subst hx; rw [fc_ur_row]
    · rw [fc_ur_off _ _ (by omega), sp_mm_at i (by omega)]
theorem l_measure (hW : fc_Wd mr) (hL : fc_L mr b) (hb : 100 ≤ b) (hM : mi b 10 = nI m) (hm7 : m ≤ 7) : ∀ (j i : Nat) (c : Int32) (mm : fc_Mi), i + j = m → c = nI i → mm = sp_mm mi b m i → fc_T E mX9_measure (d + 3) (0, 0) fc_sh 2 [some (.ref 6), some (.ref b), some (.int c)] [] mm ml mr (fc_is none (sp_mm mi b m m) ml mr) := by
  intro j
  induction j with
  | zero =>
    intro i c mm hi hc hm
    subst hc
    have hMm : mm b 10 = nI m := by rw [hm, sp_mm_off _ (by omega)]; exact hM
    have hpt : mm (b + 4) = mi (b + 4) := by rw [hm, sp_mm_off _ (by omega)]
    have h8 : mm (8 + i) = mi (8 + i) := by rw [hm, sp_mm_off _ (by omega)]
    refine fc_run oX9_measure (fun pc => pc == 2) 400 ?_
    refine And.intro (fc_L_0 hL) ?_
    refine And.intro (fun h7 => ?_) (fun h7 => ?_)
    · exact ⟨rfl, by rw [hm, show i = m by omega], rfl, rfl⟩
    · exact absurd (by rw [hMm]; exact nI_le (by omega) (by omega)) h7
  | succ j ih =>
    intro i c mm hi hc hm
    subst hc
    have hMm : mm b 10 = nI m := by rw [hm, sp_mm_off _ (by omega)]; exact hM
    have hpt : mm (b + 4) = mi (b + 4) := by rw [hm, sp_mm_off _ (by omega)]
    have h8 : mm (8 + i) = mi (8 + i) := by rw [hm, sp_mm_off _ (by omega)]
    refine fc_run oX9_measure (fun pc => pc == 2) 400 ?_
    refine And.intro (fc_L_0 hL) ?_
    refine And.intro (fun h7 => ?_) (fun h7 => ?_)
    · exact absurd h7 (by rw [hMm]; exact nI_ge (by omega) (by omega))
    · refine And.intro rfl (Exists.intro _ (And.intro (c_measureFrom hW hL hb (by omega) hMm hm7) ?_))
      rintro _ _ _ _ ⟨rfl, rfl, rfl, rfl⟩
      exact ih (i + 1) _ _ (by omega) (fc_inc i) (by rw [hpt, h8, hm]; rfl)

theorem c_measure (hW : fc_Wd mr) (hL : fc_L mr b) (hb : 100 ≤ b) (hM : mi b 10 = nI m) (hm7 : m ≤ 7) : fc_R E mX9_measure (d + 3) fc_sh [.ref 6, .ref b] mi ml mr (fc_is none (sp_mm mi b m m) ml mr) := by
  refine fc_met rfl (Nat.le_of_ble_eq_true rfl) (fc_run oX9_measure (fun pc => pc == 2) 400 ?_)
  exact l_measure hW hL hb hM hm7 m 0 _ _ (by omega) rfl rfl

end M22
