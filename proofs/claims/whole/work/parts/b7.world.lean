/-! ===== the world as the law begins ===== -/
theorem sh_ok1 : (sX10 ([] ++ [(10, 0)]) ++ [(11, 0)]).length = 253 := fc_ln (lX10 rfl)
theorem sh_ok : sX11 (sX10 ([] ++ [(10, 0)]) ++ [(11, 0)]) = fc_sh0 := by decide +kernel
theorem sh_ok2 : fc_sh0 ++ [(21, 1)] = fc_sh := by decide +kernel
def mr0 : fc_Mr := kX11 (kX10 1 0 (fun _ _ => none))
def ml0 : fc_Ml := wX11 (fun _ _ => 0)
def mi0 : fc_Mi := iX10 1 0 (fun _ _ => 0)
theorem Wd0a : fc_fx.all (fun q => decide (mr0 q.1 q.2.1 = some q.2.2)) = true := by decide +kernel
theorem Wd0 : fc_Wd mr0 := by
  intro x k r h
  unfold fc_fr at h
  rw [Option.map_eq_some_iff] at h
  obtain ⟨q, h1, h2⟩ := h
  have hm := List.mem_of_find?_eq_some h1
  have hp := List.find?_some h1
  simp only [Bool.and_eq_true] at hp
  have e1 := Nat.eq_of_beq_eq_true hp.1
  have e2 := Nat.eq_of_beq_eq_true hp.2
  have h3 := List.all_eq_true.mp Wd0a q hm
  simp only [decide_eq_true_eq] at h3
  rw [e1, e2, h2] at h3
  exact h3
theorem f0_0 : fc_f0 0 (fun _ _ => 0) (fun _ _ => 0) (fun _ _ => none) := fun k _ => ⟨rfl, rfl, rfl⟩
theorem f0_1 : fc_f0 252 mi0 (fun _ _ => 0) (kX10 1 0 (fun _ _ => none)) := fX10 (n := 1) (q := 0) (fc_f0.s f0_0) (by decide)
