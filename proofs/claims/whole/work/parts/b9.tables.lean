/-! ===== classes and arrays: what the tables say at the start ===== -/
section N9
variable {s : State} {args : Array Value}
theorem fc_k9 (hts : ∀ w ∈ fc_G, w.before args s = true) : ∀ c : Nat, ∃ p : ClassId × (Nat → Nat), ∀ q : vw_C, vwCl[c]? = some q → u_Kn s q.1 q.2.1 q.2.2 p.1 p.2 := by
  have key : ∀ {ci : Nat} {r : vw_C}, fc_nok ci r → ∃ p : ClassId × (Nat → Nat), ∀ q : vw_C, vwCl[ci]? = some q → u_Kn s q.1 q.2.1 q.2.2 p.1 p.2 := by
    intro ci r hr
    obtain ⟨cC, iS, h⟩ := u_known hts (fc_cls hr.1).1 (hts _ hr.2.2.1)
    refine ⟨(cC, iS), fun q hq => ?_⟩
    have e : r = q := Option.some.inj (hr.1.symm.trans hq)
    subst e
    exact h
  intro c
  match c with
  | 0 => exact key nkX0
  | 1 => exact key nkX1
  | 2 => exact key nkX2
  | 3 => exact key nkX3
  | 4 => exact key nkX4
  | 5 => exact key nkX5
  | 6 => exact key nkX6
  | 7 => exact key nkX7
  | 8 => exact key nkX8
  | 9 => exact key nkX9
  | 10 => exact key nkX10
  | 11 => exact key nkX11
  | c + 12 => exact ⟨(0, fun _ => 0), fun q hq => by simp [vwCl] at hq⟩
theorem fc_a9 {ty : FieldType} (hts : ∀ w ∈ fc_G, w.before args s = true) (hw : Cond.arrayClass ty ∈ fc_G) : ∃ cA : ClassId, ArrOfT s cA ty ∧ s.vm.findClass ("[" ++ ty.toString) = some cA := by
  obtain ⟨cA, kA, comp, h1, h2, h3⟩ := Cond.arrayClass_spec (hts _ hw)
  exact ⟨cA, fun n z => ⟨fun k h => (by cases h), kA, h2, comp, h3⟩, h1⟩
theorem fc_o9 {C : String} (h : va_AO C s) : ∃ cA : ClassId, ArrOfT s cA (.object C) ∧ va_RA s cA (.object C) := by
  obtain ⟨comp, cA, kA, h1, h2, h3, h4, h5⟩ := Cond.arrayOver_spec h
  exact ⟨cA, fun n z => ⟨fun k h => (by cases h), kA, h3, comp, h4⟩, kA, comp, h3, h4, h1, h5⟩
theorem fc_K9 (hts : ∀ w ∈ fc_G, w.before args s = true) (hA : fc_AO s) : ∃ (D : va_G) (tA : Nat → ClassId), va_K D vwCl (fc_tys tA) s := by
  obtain ⟨f, hf⟩ := Classical.axiomOfChoice (fc_k9 hts)
  obtain ⟨a0, g0, r0⟩ := fc_a9 (ty := .int) hts (fc_G_of 205 (by decide +kernel) rfl)
  obtain ⟨a1, g1, r1⟩ := fc_a9 (ty := .long) hts (fc_G_of 356 (by decide +kernel) rfl)
  obtain ⟨a2, g2, r2⟩ := fc_a9 (ty := .boolean) hts (fc_G_of 310 (by decide +kernel) rfl)
  obtain ⟨a3, g3, r3⟩ := fc_a9 (ty := .char) hts (fc_G_of 179 (by decide +kernel) rfl)
  obtain ⟨a4, g4, r4⟩ := fc_o9 hA.1
  obtain ⟨a5, g5, r5⟩ := fc_o9 hA.2.1
  obtain ⟨comp, a6, k6, q1, -, q3, q4, q5⟩ := arrayOverA_spec hA.2.2.1
  have g6 : ArrOfT s a6 (.array .int) := fun n z => ⟨fun k h => (by cases h), k6, q3, comp, q4⟩
  refine ⟨(fun c => (f c).1, fun c => (f c).2), fun k => match k with | 0 => a0 | 1 => a1 | 2 => a2 | 3 => a3 | 4 => a4 | 5 => a5 | _ => a6, fun c q hq => hf c q hq, fun k q hq => ?_⟩
  match k, hq with
  | 0, hq => cases hq; exact ⟨g0, r0⟩
  | 1, hq => cases hq; exact ⟨g1, r1⟩
  | 2, hq => cases hq; exact ⟨g2, r2⟩
  | 3, hq => cases hq; exact ⟨g3, r3⟩
  | 4, hq => cases hq; exact ⟨g4, r4⟩
  | 5, hq => cases hq; exact ⟨g5, r5⟩
  | 6, hq => cases hq; exact ⟨g6, q5⟩
  | k + 7, hq => simp [fc_tys] at hq
end N9
