/-! ===== a name told, taken ===== -/
section M72
variable {mi : fc_Mi} {ml : fc_Ml} {n N i : Nat} {s : Nat → Int32} {A : fc_Ab}
def fiA (A : fc_Ab) (x : Nat) (a : Int64) : Int32 := sp_fi (A.2.2 x) a (A.1 (if x = 1 then 0 else x)) 0
def tdp (s : Nat → Int32) (n : Nat) (A : fc_Ab) (x : Nat) (i : Nat) (f but : Int32) : Nat × Int32 := if f = 0 then (if tK s n i = 4 then (if fiA A x (tW s n i) = -1 then (i, tF s n 2 i) else if sp_in but (fiA A x (tW s n i)) = true then (i, tF s n 3 i) else (i + 1, 0)) else (i, tF s n 1 i)) else (i, f)
def tdv (s : Nat → Int32) (n : Nat) (A : fc_Ab) (x : Nat) (i : Nat) (f but : Int32) : Int32 := if f = 0 ∧ tK s n i = 4 ∧ ¬ fiA A x (tW s n i) = -1 ∧ sp_in but (fiA A x (tW s n i)) = false then fiA A x (tW s n i) else 0
theorem td1 {f : Int32} {nm : Nat → Int64} {of : Nat → Int32} {K : Nat} (hS : rst s n N i f mi ml) (hB : fc_AB A) (h : nmr A nm of K) (but : Int32) : p_td s n (na nm of (rw_ s n (tS s n i)) K 0 - 0) but (i, f) = tdp s n A 1 i f but ∧ (if f = 0 ∧ tK s n i = 4 ∧ sp_from 0 (na nm of (rw_ s n (tS s n i)) K 0 - 0) 6 = true ∧ sp_in but (na nm of (rw_ s n (tS s n i)) K 0 - 0) = false then (na nm of (rw_ s n (tS s n i)) K 0 - 0) else 0) = tdv s n A 1 i f but := by
  unfold p_td tdp tdv
  dsimp only
  by_cases h0 : f = 0
  · by_cases h4 : tK s n i = 4
    · rw [h.1 _ _ (hS.name h4)]
      have hk := nk_of1 hB (tW s n i)
      rw [show sp_fi (A.2.2 1) (tW s n i) (A.1 0) 0 = fiA A 1 (tW s n i) from rfl] at hk
      by_cases q : fiA A 1 (tW s n i) = -1
      · have hf : ¬ sp_from 0 (nk A (tW s n i) - 0) 6 = true := fun z => (hk.1.mp z) q
        rw [if_pos h0, if_pos h4, if_neg hf, if_pos h0, if_pos h4, if_pos q, if_neg (fun z => hf z.2.2.1), if_neg (fun z => z.2.2.1 q)]
        exact ⟨rfl, rfl⟩
      · have hz := hk.2 q
        rw [hz] at hk ⊢
        have hf := hk.1.mpr q
        rw [if_pos h0, if_pos h4, if_pos hf, if_pos h0, if_pos h4, if_neg q]
        refine ⟨rfl, ?_⟩
        by_cases g : sp_in but (fiA A 1 (tW s n i)) = false
        · rw [if_pos ⟨h0, h4, hf, g⟩, if_pos ⟨h0, h4, q, g⟩]
        · rw [if_neg (fun z => g z.2.2.2), if_neg (fun z => g z.2.2.2)]
    · rw [if_pos h0, if_neg h4, if_pos h0, if_neg h4, if_neg (fun z => h4 z.2.1), if_neg (fun z => h4 z.2.1)]
      exact ⟨rfl, rfl⟩
  · rw [if_neg h0, if_neg h0, if_neg (fun z => h0 z.1), if_neg (fun z => h0 z.1)]
    exact ⟨rfl, rfl⟩
theorem td2 {f : Int32} {nm : Nat → Int64} {of : Nat → Int32} {K : Nat} (hS : rst s n N i f mi ml) (hB : fc_AB A) (hD : nd A) (h : nmr A nm of K) (but : Int32) : p_td s n (na nm of (rw_ s n (tS s n i)) K 0 - 20) but (i, f) = tdp s n A 2 i f but ∧ (if f = 0 ∧ tK s n i = 4 ∧ sp_from 0 (na nm of (rw_ s n (tS s n i)) K 0 - 20) 6 = true ∧ sp_in but (na nm of (rw_ s n (tS s n i)) K 0 - 20) = false then (na nm of (rw_ s n (tS s n i)) K 0 - 20) else 0) = tdv s n A 2 i f but := by
  unfold p_td tdp tdv
  dsimp only
  by_cases h0 : f = 0
  · by_cases h4 : tK s n i = 4
    · rw [h.1 _ _ (hS.name h4)]
      have hk := nk_of2 hB hD (tW s n i)
      rw [show sp_fi (A.2.2 2) (tW s n i) (A.1 2) 0 = fiA A 2 (tW s n i) from rfl] at hk
      by_cases q : fiA A 2 (tW s n i) = -1
      · have hf : ¬ sp_from 0 (nk A (tW s n i) - 20) 6 = true := fun z => (hk.1.mp z) q
        rw [if_pos h0, if_pos h4, if_neg hf, if_pos h0, if_pos h4, if_pos q, if_neg (fun z => hf z.2.2.1), if_neg (fun z => z.2.2.1 q)]
        exact ⟨rfl, rfl⟩
      · have hz := hk.2 q
        rw [hz] at hk ⊢
        have hf := hk.1.mpr q
        rw [if_pos h0, if_pos h4, if_pos hf, if_pos h0, if_pos h4, if_neg q]
        refine ⟨rfl, ?_⟩
        by_cases g : sp_in but (fiA A 2 (tW s n i)) = false
        · rw [if_pos ⟨h0, h4, hf, g⟩, if_pos ⟨h0, h4, q, g⟩]
        · rw [if_neg (fun z => g z.2.2.2), if_neg (fun z => g z.2.2.2)]
    · rw [if_pos h0, if_neg h4, if_pos h0, if_neg h4, if_neg (fun z => h4 z.2.1), if_neg (fun z => h4 z.2.1)]
      exact ⟨rfl, rfl⟩
  · rw [if_neg h0, if_neg h0, if_neg (fun z => h0 z.1), if_neg (fun z => h0 z.1)]
    exact ⟨rfl, rfl⟩
theorem td3 {f : Int32} {nm : Nat → Int64} {of : Nat → Int32} {K : Nat} (hS : rst s n N i f mi ml) (hB : fc_AB A) (hD : nd A) (h : nmr A nm of K) (but : Int32) : p_td s n (na nm of (rw_ s n (tS s n i)) K 0 - 40) but (i, f) = tdp s n A 3 i f but ∧ (if f = 0 ∧ tK s n i = 4 ∧ sp_from 0 (na nm of (rw_ s n (tS s n i)) K 0 - 40) 6 = true ∧ sp_in but (na nm of (rw_ s n (tS s n i)) K 0 - 40) = false then (na nm of (rw_ s n (tS s n i)) K 0 - 40) else 0) = tdv s n A 3 i f but := by
  unfold p_td tdp tdv
  dsimp only
  by_cases h0 : f = 0
  · by_cases h4 : tK s n i = 4
    · rw [h.1 _ _ (hS.name h4)]
      have hk := nk_of3 hB hD (tW s n i)
      rw [show sp_fi (A.2.2 3) (tW s n i) (A.1 3) 0 = fiA A 3 (tW s n i) from rfl] at hk
      by_cases q : fiA A 3 (tW s n i) = -1
      · have hf : ¬ sp_from 0 (nk A (tW s n i) - 40) 6 = true := fun z => (hk.1.mp z) q
        rw [if_pos h0, if_pos h4, if_neg hf, if_pos h0, if_pos h4, if_pos q, if_neg (fun z => hf z.2.2.1), if_neg (fun z => z.2.2.1 q)]
        exact ⟨rfl, rfl⟩
      · have hz := hk.2 q
        rw [hz] at hk ⊢
        have hf := hk.1.mpr q
        rw [if_pos h0, if_pos h4, if_pos hf, if_pos h0, if_pos h4, if_neg q]
        refine ⟨rfl, ?_⟩
        by_cases g : sp_in but (fiA A 3 (tW s n i)) = false
        · rw [if_pos ⟨h0, h4, hf, g⟩, if_pos ⟨h0, h4, q, g⟩]
        · rw [if_neg (fun z => g z.2.2.2), if_neg (fun z => g z.2.2.2)]
    · rw [if_pos h0, if_neg h4, if_pos h0, if_neg h4, if_neg (fun z => h4 z.2.1), if_neg (fun z => h4 z.2.1)]
      exact ⟨rfl, rfl⟩
  · rw [if_neg h0, if_neg h0, if_neg (fun z => h0 z.1), if_neg (fun z => h0 z.1)]
    exact ⟨rfl, rfl⟩
theorem tdv_k {f but : Int32} (hB : fc_AB A) : ∃ z, z < 7 ∧ tdv s n A 1 i f but = nI z := by
  unfold tdv
  split
  · rename_i h
    exact fi_k hB.1 h.2.2.1
  · exact ⟨0, by omega, rfl⟩
theorem tdp_ok {x : Nat} {f but : Int32} (hn : n ≤ 1000) (h : fok f) : fok (tdp s n A x i f but).2 := by
  rw [tdp]; split
  · split
    · split
      · exact tF_ok (c := 2) (by omega) hn i
      · split
        · exact tF_ok (c := 3) (by omega) hn i
        · exact ⟨0, by omega, rfl⟩
    · exact tF_ok (c := 1) (by omega) hn i
  · exact h
/-- either a fault, or the name is told and taken -/
theorem tdp_c {x : Nat} {but : Int32} (hn : n ≤ 1000) : ((tdp s n A x i 0 but).2 = 0 ∧ (tdp s n A x i 0 but).1 = i + 1 ∧ tK s n i = 4 ∧ ¬ fiA A x (tW s n i) = -1 ∧ sp_in but (fiA A x (tW s n i)) = false ∧ tdv s n A x i 0 but = fiA A x (tW s n i)) ∨ (¬ (tdp s n A x i 0 but).2 = 0 ∧ (tdp s n A x i 0 but).1 = i ∧ tdv s n A x i 0 but = 0 ∧ ((¬ tK s n i = 4 ∧ (tdp s n A x i 0 but).2 = tF s n 1 i) ∨ (tK s n i = 4 ∧ fiA A x (tW s n i) = -1 ∧ (tdp s n A x i 0 but).2 = tF s n 2 i) ∨ (tK s n i = 4 ∧ ¬ fiA A x (tW s n i) = -1 ∧ sp_in but (fiA A x (tW s n i)) = true ∧ (tdp s n A x i 0 but).2 = tF s n 3 i))) := by
  unfold tdp tdv
  rw [if_pos rfl]
  by_cases h4 : tK s n i = 4
  · rw [if_pos h4]
    by_cases q : fiA A x (tW s n i) = -1
    · rw [if_pos q, if_neg (fun z => z.2.2.1 q)]
      exact .inr ⟨tF_ne (c := 2) (by omega) (by omega) hn i, rfl, rfl, .inr (.inl ⟨h4, q, rfl⟩)⟩
    · rw [if_neg q]
      by_cases g : sp_in but (fiA A x (tW s n i)) = true
      · rw [if_pos g, if_neg (fun z => by rw [z.2.2.2] at g; cases g)]
        exact .inr ⟨tF_ne (c := 3) (by omega) (by omega) hn i, rfl, rfl, .inr (.inr ⟨h4, q, g, rfl⟩)⟩
      · have g' : sp_in but (fiA A x (tW s n i)) = false := by cases e : sp_in but (fiA A x (tW s n i)) with
          | true => exact absurd e g
          | false => rfl
        rw [if_neg g, if_pos ⟨rfl, h4, q, g'⟩]
        exact .inl ⟨rfl, rfl, h4, q, g', rfl⟩
  · rw [if_neg h4, if_neg (fun z => h4 z.2.1)]
    exact .inr ⟨tF_ne (c := 1) (by omega) (by omega) hn i, rfl, rfl, .inl ⟨h4, rfl⟩⟩
theorem tdp_f {x : Nat} {f but : Int32} (h : ¬ f = 0) : tdp s n A x i f but = (i, f) ∧ tdv s n A x i f but = 0 := by
  unfold tdp tdv
  rw [if_neg h, if_neg (fun z => h z.1)]
  exact ⟨rfl, rfl⟩
end M72
