/-! ===== names told, in both ===== -/
/-- the number of a name told: places from 0 on, persons from 20, things from 40 -/
def nk3 (u v w : Int32) : Int32 := if u = -1 then (if v = -1 then (if w = -1 then -1 else 40 + w) else 20 + v) else u
def nk (A : fc_Ab) (a : Int64) : Int32 := nk3 (sp_fi (A.2.2 1) a (A.1 0) 0) (sp_fi (A.2.2 2) a (A.1 2) 0) (sp_fi (A.2.2 3) a (A.1 3) 0)
def nmr (A : fc_Ab) (nm : Nat → Int64) (of : Nat → Int32) (K : Nat) : Prop := (∀ a b, wpr a b → na nm of b K 0 = nk A a) ∧ ∀ k, k < K → ∃ z, z < 100 ∧ of k = nI z
theorem nI_ne1 {z : Nat} (h : z < 1000) : ¬ nI z = -1 := fun e => absurd (show nI z < 0 by rw [e]; decide) (nI_pos (by omega))
theorem na_s {nm : Nat → Int64} {of : Nat → Int32} {v : Int64} : ∀ (j k : Nat), (∀ i, k ≤ i → i < k + j → ¬ of i = -1) → na nm of v (j + 1) k = if na nm of v j k = -1 then (if nm (k + j) = v then of (k + j) else -1) else na nm of v j k
  | 0, k, _ => by rw [na, na, if_pos rfl]; rfl
  | j + 1, k, h => by
    rw [na, na_s j (k + 1) (fun i h1 h2 => h i (by omega) (by omega)), na, show k + 1 + j = k + (j + 1) by omega]
    by_cases e : nm k = v
    · rw [if_pos e, if_pos e, if_neg (h k (by omega) (by omega))]
    · rw [if_neg e, if_neg e]
theorem fi_s {g : Nat → Int64} {v : Int64} : ∀ (j k : Nat), k + j < 1000 → sp_fi g v (j + 1) k = if sp_fi g v j k = -1 then (if g (k + j) = v then nI (k + j) else -1) else sp_fi g v j k
  | 0, k, _ => by rw [sp_fi, sp_fi, if_pos rfl]; rfl
  | j + 1, k, h => by
    rw [sp_fi, fi_s j (k + 1) (by omega), sp_fi, show k + 1 + j = k + (j + 1) by omega]
    by_cases e : g k = v
    · rw [if_pos e, if_pos e, if_neg (nI_ne1 (by omega))]
    · rw [if_neg e, if_neg e]
/-- no name is told twice: so says one as the other -/
theorem nk_tl {A : fc_Ab} (hB : fc_AB A) (a : Int64) : (nk A a = -1 ↔ ps_tl A a = false) ∧ (¬ nk A a = -1 → ∃ z, z < 100 ∧ nk A a = nI z) := by
  unfold nk nk3 ps_tl q_tl
  have r : ∀ (g : Nat → Int64) (k : Nat), k ≤ 7 → ¬ sp_fi g a k 0 = -1 → ∃ z, z < 7 ∧ sp_fi g a k 0 = nI z := fun g k hk h => by
    obtain ⟨z, -, h2, h3, -⟩ := sp_fi_r k 0 h
    exact ⟨z, by omega, h3⟩
  obtain ⟨b0, b1, b2, b3, -⟩ := hB
  by_cases h1 : sp_fi (A.2.2 1) a (A.1 0) 0 = -1
  · rw [if_pos h1]
    by_cases h2 : sp_fi (A.2.2 2) a (A.1 2) 0 = -1
    · rw [if_pos h2]
      by_cases h3 : sp_fi (A.2.2 3) a (A.1 3) 0 = -1
      · rw [if_pos h3]
        refine ⟨⟨fun _ => ?_, fun _ => rfl⟩, fun q => absurd rfl q⟩
        simp [h1, h2, h3]
      · obtain ⟨z, hz, e⟩ := r _ _ (by omega) h3
        rw [if_neg h3, e, show (40 : Int32) = nI 40 from rfl, nI_add]
        refine ⟨⟨fun q => absurd q (nI_ne1 (by omega)), fun q => ?_⟩, fun _ => ⟨40 + z, by omega, rfl⟩⟩
        have h3' : ¬ nI z = -1 := nI_ne1 (by omega)
        simp [h1, h2, h3, e, h3'] at q
    · obtain ⟨z, hz, e⟩ := r _ _ (by omega) h2
      rw [if_neg h2, e, show (20 : Int32) = nI 20 from rfl, nI_add]
      refine ⟨⟨fun q => absurd q (nI_ne1 (by omega)), fun q => ?_⟩, fun _ => ⟨20 + z, by omega, rfl⟩⟩
      have h3' : ¬ nI z = -1 := nI_ne1 (by omega)
      simp [h1, h2, e, h3'] at q
  · obtain ⟨z, hz, e⟩ := r _ _ (by omega) h1
    rw [if_neg h1, e]
    refine ⟨⟨fun q => absurd q (nI_ne1 (by omega)), fun q => ?_⟩, fun _ => ⟨z, by omega, rfl⟩⟩
    have h3' : ¬ nI z = -1 := nI_ne1 (by omega)
    simp [h1, e, h3'] at q
theorem nmr_add1 {A : fc_Ab} {nm : Nat → Int64} {of : Nat → Int32} {K : Nat} {a0 b0 : Int64} (hB : fc_AB A) (h : nmr A nm of K) (hp : wpr a0 b0) (hno : nk A a0 = -1) {nm' : Nat → Int64} {of' : Nat → Int32} (h1 : ∀ k, k < K → nm' k = nm k ∧ of' k = of k) (h2 : nm' K = b0) (h3 : of' K = nI (0 + (A.1 0))) {a' : fc_Mi} : nmr (fc_an A.1 0 ((A.1 0) + 1), a', fc_u A.2.2 1 (A.1 0) a0) nm' of' (K + 1) := by
  obtain ⟨b_0, b_1, b_2, b_3, -⟩ := id hB
  have hof : ∀ k, k < K → ∃ z, z < 100 ∧ of' k = nI z := fun k hk => by rw [(h1 k hk).2]; exact h.2 k hk
  have cgn : ∀ (v : Int64) (j k : Nat), k + j ≤ K → na nm' of' v j k = na nm of v j k := by
    intro v j
    induction j with
    | zero => intro k _; rfl
    | succ j ih => intro k hk; rw [na, na, (h1 k (by omega)).1, (h1 k (by omega)).2, ih (k + 1) (by omega)]
  refine ⟨fun a b hab => ?_, fun k hk => ?_⟩
  · rw [na_s K 0 (fun i _ hi => by obtain ⟨z, hz, e⟩ := hof i (by omega); rw [e]; exact nI_ne1 (by omega)), cgn b K 0 (by omega), h.1 a b hab, Nat.zero_add, h2, h3]
    have hx := wpr_eq hab hp
    -- the row that has grown
    have hg : sp_fi ((fc_u A.2.2 1 (A.1 0) a0) 1) a ((A.1 0) + 1) 0 = if sp_fi (A.2.2 1) a (A.1 0) 0 = -1 then (if a0 = a then nI (A.1 0) else -1) else sp_fi (A.2.2 1) a (A.1 0) 0 := by
      rw [fi_s (A.1 0) 0 (by omega), Nat.zero_add, fc_u_at]
      rw [sp_fi_cg (f := (fc_u A.2.2 1 (A.1 0) a0) 1) (g := A.2.2 1) (A.1 0) 0 (fun k _ hk => by rw [fc_u_nj _ _ _ _ (by omega)])]
    have hN : nk (fc_an A.1 0 ((A.1 0) + 1), a', fc_u A.2.2 1 (A.1 0) a0) a = nk3 (sp_fi ((fc_u A.2.2 1 (A.1 0) a0) 1) a ((fc_an A.1 0 ((A.1 0) + 1)) 0) 0) (sp_fi ((fc_u A.2.2 1 (A.1 0) a0) 2) a ((fc_an A.1 0 ((A.1 0) + 1)) 2) 0) (sp_fi ((fc_u A.2.2 1 (A.1 0) a0) 3) a ((fc_an A.1 0 ((A.1 0) + 1)) 3) 0) := rfl
    rw [hN]
    rw [fc_an_at]
    rw [fc_an_ne _ _ (show 2 ≠ 0 by decide), fc_u_off _ _ _ (show 2 ≠ 1 by decide)]
    rw [fc_an_ne _ _ (show 3 ≠ 0 by decide), fc_u_off _ _ _ (show 3 ≠ 1 by decide)]
    rw [hg]
    unfold nk nk3 at hno
    unfold nk
    by_cases e : a = a0
    · have eb : b = b0 := hx.mp e
      subst e
      have z1 : sp_fi (A.2.2 1) a (A.1 0) 0 = -1 := by
        by_cases q : sp_fi (A.2.2 1) a (A.1 0) 0 = -1
        · exact q
        · rw [if_neg q] at hno; exact hno
      rw [if_pos z1] at hno
      have z2 : sp_fi (A.2.2 2) a (A.1 2) 0 = -1 := by
        by_cases q : sp_fi (A.2.2 2) a (A.1 2) 0 = -1
        · exact q
        · exfalso
          obtain ⟨z, -, hz, ez, -⟩ := sp_fi_r _ _ q
          rw [if_neg q, ez, show (20 : Int32) = nI 20 from rfl, nI_add] at hno
          exact nI_ne1 (by omega) hno
      rw [if_pos z2] at hno
      have z3 : sp_fi (A.2.2 3) a (A.1 3) 0 = -1 := by
        by_cases q : sp_fi (A.2.2 3) a (A.1 3) 0 = -1
        · exact q
        · exfalso
          obtain ⟨z, -, hz, ez, -⟩ := sp_fi_r _ _ q
          rw [if_neg q, ez, show (40 : Int32) = nI 40 from rfl, nI_add] at hno
          exact nI_ne1 (by omega) hno
      rw [eb]
      unfold nk3
      simp only [z1, z2, z3, if_true]
      rw [if_neg (nI_ne1 (show (A.1 0) < 1000 by omega))]
      rw [Nat.zero_add]
    · have eb : ¬ b0 = b := fun q => e (hx.mpr q.symm)
      have e' : ¬ a0 = a := fun q => e q.symm
      rw [if_neg eb, if_neg e']
      have s : ∀ y : Int32, (if y = -1 then -1 else y) = y := fun y => by
        by_cases q : y = -1
        · rw [if_pos q, q]
        · rw [if_neg q]
      rw [s, s]
  · by_cases e : k = K
    · subst e; exact ⟨0 + (A.1 0), by omega, h3⟩
    · exact hof k (by omega)
theorem nmr_add2 {A : fc_Ab} {nm : Nat → Int64} {of : Nat → Int32} {K : Nat} {a0 b0 : Int64} (hB : fc_AB A) (h : nmr A nm of K) (hp : wpr a0 b0) (hno : nk A a0 = -1) {nm' : Nat → Int64} {of' : Nat → Int32} (h1 : ∀ k, k < K → nm' k = nm k ∧ of' k = of k) (h2 : nm' K = b0) (h3 : of' K = nI (20 + (A.1 2))) {a' : fc_Mi} : nmr (fc_an A.1 2 ((A.1 2) + 1), a', fc_u A.2.2 2 (A.1 2) a0) nm' of' (K + 1) := by
  obtain ⟨b_0, b_1, b_2, b_3, -⟩ := id hB
  have hof : ∀ k, k < K → ∃ z, z < 100 ∧ of' k = nI z := fun k hk => by rw [(h1 k hk).2]; exact h.2 k hk
  have cgn : ∀ (v : Int64) (j k : Nat), k + j ≤ K → na nm' of' v j k = na nm of v j k := by
    intro v j
    induction j with
    | zero => intro k _; rfl
    | succ j ih => intro k hk; rw [na, na, (h1 k (by omega)).1, (h1 k (by omega)).2, ih (k + 1) (by omega)]
  refine ⟨fun a b hab => ?_, fun k hk => ?_⟩
  · rw [na_s K 0 (fun i _ hi => by obtain ⟨z, hz, e⟩ := hof i (by omega); rw [e]; exact nI_ne1 (by omega)), cgn b K 0 (by omega), h.1 a b hab, Nat.zero_add, h2, h3]
    have hx := wpr_eq hab hp
    -- the row that has grown
    have hg : sp_fi ((fc_u A.2.2 2 (A.1 2) a0) 2) a ((A.1 2) + 1) 0 = if sp_fi (A.2.2 2) a (A.1 2) 0 = -1 then (if a0 = a then nI (A.1 2) else -1) else sp_fi (A.2.2 2) a (A.1 2) 0 := by
      rw [fi_s (A.1 2) 0 (by omega), Nat.zero_add, fc_u_at]
      rw [sp_fi_cg (f := (fc_u A.2.2 2 (A.1 2) a0) 2) (g := A.2.2 2) (A.1 2) 0 (fun k _ hk => by rw [fc_u_nj _ _ _ _ (by omega)])]
    have hN : nk (fc_an A.1 2 ((A.1 2) + 1), a', fc_u A.2.2 2 (A.1 2) a0) a = nk3 (sp_fi ((fc_u A.2.2 2 (A.1 2) a0) 1) a ((fc_an A.1 2 ((A.1 2) + 1)) 0) 0) (sp_fi ((fc_u A.2.2 2 (A.1 2) a0) 2) a ((fc_an A.1 2 ((A.1 2) + 1)) 2) 0) (sp_fi ((fc_u A.2.2 2 (A.1 2) a0) 3) a ((fc_an A.1 2 ((A.1 2) + 1)) 3) 0) := rfl
    rw [hN]
    rw [fc_an_at]
    rw [fc_an_ne _ _ (show 0 ≠ 2 by decide), fc_u_off _ _ _ (show 1 ≠ 2 by decide)]
    rw [fc_an_ne _ _ (show 3 ≠ 2 by decide), fc_u_off _ _ _ (show 3 ≠ 2 by decide)]
    rw [hg]
    unfold nk nk3 at hno
    unfold nk
    by_cases e : a = a0
    · have eb : b = b0 := hx.mp e
      subst e
      have z1 : sp_fi (A.2.2 1) a (A.1 0) 0 = -1 := by
        by_cases q : sp_fi (A.2.2 1) a (A.1 0) 0 = -1
        · exact q
        · rw [if_neg q] at hno; exact hno
      rw [if_pos z1] at hno
      have z2 : sp_fi (A.2.2 2) a (A.1 2) 0 = -1 := by
        by_cases q : sp_fi (A.2.2 2) a (A.1 2) 0 = -1
        · exact q
        · exfalso
          obtain ⟨z, -, hz, ez, -⟩ := sp_fi_r _ _ q
          rw [if_neg q, ez, show (20 : Int32) = nI 20 from rfl, nI_add] at hno
          exact nI_ne1 (by omega) hno
      rw [if_pos z2] at hno
      have z3 : sp_fi (A.2.2 3) a (A.1 3) 0 = -1 := by
        by_cases q : sp_fi (A.2.2 3) a (A.1 3) 0 = -1
        · exact q
        · exfalso
          obtain ⟨z, -, hz, ez, -⟩ := sp_fi_r _ _ q
          rw [if_neg q, ez, show (40 : Int32) = nI 40 from rfl, nI_add] at hno
          exact nI_ne1 (by omega) hno
      rw [eb]
      unfold nk3
      simp only [z1, z2, z3, if_true]
      rw [if_neg (nI_ne1 (show (A.1 2) < 1000 by omega))]
      rw [show (20 : Int32) = nI 20 from rfl, nI_add]
    · have eb : ¬ b0 = b := fun q => e (hx.mpr q.symm)
      have e' : ¬ a0 = a := fun q => e q.symm
      rw [if_neg eb, if_neg e']
      have s : ∀ y : Int32, (if y = -1 then -1 else y) = y := fun y => by
        by_cases q : y = -1
        · rw [if_pos q, q]
        · rw [if_neg q]
      rw [s, s]
  · by_cases e : k = K
    · subst e; exact ⟨20 + (A.1 2), by omega, h3⟩
    · exact hof k (by omega)
theorem nmr_add3 {A : fc_Ab} {nm : Nat → Int64} {of : Nat → Int32} {K : Nat} {a0 b0 : Int64} (hB : fc_AB A) (h : nmr A nm of K) (hp : wpr a0 b0) (hno : nk A a0 = -1) {nm' : Nat → Int64} {of' : Nat → Int32} (h1 : ∀ k, k < K → nm' k = nm k ∧ of' k = of k) (h2 : nm' K = b0) (h3 : of' K = nI (40 + (A.1 3))) {a' : fc_Mi} : nmr (fc_an A.1 3 ((A.1 3) + 1), a', fc_u A.2.2 3 (A.1 3) a0) nm' of' (K + 1) := by
  obtain ⟨b_0, b_1, b_2, b_3, -⟩ := id hB
  have hof : ∀ k, k < K → ∃ z, z < 100 ∧ of' k = nI z := fun k hk => by rw [(h1 k hk).2]; exact h.2 k hk
  have cgn : ∀ (v : Int64) (j k : Nat), k + j ≤ K → na nm' of' v j k = na nm of v j k := by
    intro v j
    induction j with
    | zero => intro k _; rfl
    | succ j ih => intro k hk; rw [na, na, (h1 k (by omega)).1, (h1 k (by omega)).2, ih (k + 1) (by omega)]
  refine ⟨fun a b hab => ?_, fun k hk => ?_⟩
  · rw [na_s K 0 (fun i _ hi => by obtain ⟨z, hz, e⟩ := hof i (by omega); rw [e]; exact nI_ne1 (by omega)), cgn b K 0 (by omega), h.1 a b hab, Nat.zero_add, h2, h3]
    have hx := wpr_eq hab hp
    -- the row that has grown
    have hg : sp_fi ((fc_u A.2.2 3 (A.1 3) a0) 3) a ((A.1 3) + 1) 0 = if sp_fi (A.2.2 3) a (A.1 3) 0 = -1 then (if a0 = a then nI (A.1 3) else -1) else sp_fi (A.2.2 3) a (A.1 3) 0 := by
      rw [fi_s (A.1 3) 0 (by omega), Nat.zero_add, fc_u_at]
      rw [sp_fi_cg (f := (fc_u A.2.2 3 (A.1 3) a0) 3) (g := A.2.2 3) (A.1 3) 0 (fun k _ hk => by rw [fc_u_nj _ _ _ _ (by omega)])]
    have hN : nk (fc_an A.1 3 ((A.1 3) + 1), a', fc_u A.2.2 3 (A.1 3) a0) a = nk3 (sp_fi ((fc_u A.2.2 3 (A.1 3) a0) 1) a ((fc_an A.1 3 ((A.1 3) + 1)) 0) 0) (sp_fi ((fc_u A.2.2 3 (A.1 3) a0) 2) a ((fc_an A.1 3 ((A.1 3) + 1)) 2) 0) (sp_fi ((fc_u A.2.2 3 (A.1 3) a0) 3) a ((fc_an A.1 3 ((A.1 3) + 1)) 3) 0) := rfl
    rw [hN]
    rw [fc_an_at]
    rw [fc_an_ne _ _ (show 0 ≠ 3 by decide), fc_u_off _ _ _ (show 1 ≠ 3 by decide)]
    rw [fc_an_ne _ _ (show 2 ≠ 3 by decide), fc_u_off _ _ _ (show 2 ≠ 3 by decide)]
    rw [hg]
    unfold nk nk3 at hno
    unfold nk
    by_cases e : a = a0
    · have eb : b = b0 := hx.mp e
      subst e
      have z1 : sp_fi (A.2.2 1) a (A.1 0) 0 = -1 := by
        by_cases q : sp_fi (A.2.2 1) a (A.1 0) 0 = -1
        · exact q
        · rw [if_neg q] at hno; exact hno
      rw [if_pos z1] at hno
      have z2 : sp_fi (A.2.2 2) a (A.1 2) 0 = -1 := by
        by_cases q : sp_fi (A.2.2 2) a (A.1 2) 0 = -1
        · exact q
        · exfalso
          obtain ⟨z, -, hz, ez, -⟩ := sp_fi_r _ _ q
          rw [if_neg q, ez, show (20 : Int32) = nI 20 from rfl, nI_add] at hno
          exact nI_ne1 (by omega) hno
      rw [if_pos z2] at hno
      have z3 : sp_fi (A.2.2 3) a (A.1 3) 0 = -1 := by
        by_cases q : sp_fi (A.2.2 3) a (A.1 3) 0 = -1
        · exact q
        · exfalso
          obtain ⟨z, -, hz, ez, -⟩ := sp_fi_r _ _ q
          rw [if_neg q, ez, show (40 : Int32) = nI 40 from rfl, nI_add] at hno
          exact nI_ne1 (by omega) hno
      rw [eb]
      unfold nk3
      simp only [z1, z2, z3, if_true]
      rw [if_neg (nI_ne1 (show (A.1 3) < 1000 by omega))]
      rw [show (40 : Int32) = nI 40 from rfl, nI_add]
    · have eb : ¬ b0 = b := fun q => e (hx.mpr q.symm)
      have e' : ¬ a0 = a := fun q => e q.symm
      rw [if_neg eb, if_neg e']
      have s : ∀ y : Int32, (if y = -1 then -1 else y) = y := fun y => by
        by_cases q : y = -1
        · rw [if_pos q, q]
        · rw [if_neg q]
      rw [s, s]
  · by_cases e : k = K
    · subst e; exact ⟨40 + (A.1 3), by omega, h3⟩
    · exact hof k (by omega)
