/-! ===== the law: both are made ===== -/
theorem dL_0 : decode cL_law 0 = .ok (.new 8, 3) := by decide +kernel
theorem dL_3 : decode cL_law 3 = .ok (.dup, 1) := by decide +kernel
theorem dL_4 : decode cL_law 4 = .ok (.invokespecial 15, 3) := by decide +kernel
theorem dL_7 : decode cL_law 7 = .ok (.astore_n 1, 1) := by decide +kernel
theorem dL_8 : decode cL_law 8 = .ok (.new 16, 3) := by decide +kernel
theorem dL_11 : decode cL_law 11 = .ok (.dup, 1) := by decide +kernel
theorem dL_12 : decode cL_law 12 = .ok (.invokespecial 18, 3) := by decide +kernel
theorem dL_15 : decode cL_law 15 = .ok (.astore_n 2, 1) := by decide +kernel
theorem dL_16 : decode cL_law 16 = .ok (.iconst 1, 1) := by decide +kernel
theorem dL_17 : decode cL_law 17 = .ok (.newarray .long, 2) := by decide +kernel
theorem dL_19 : decode cL_law 19 = .ok (.astore_n 3, 1) := by decide +kernel
theorem dL_20 : decode cL_law 20 = .ok (.iconst 0, 1) := by decide +kernel
theorem dL_21 : decode cL_law 21 = .ok (.istore 4, 2) := by decide +kernel
theorem f0_X {a m1 : fc_Mi} (h1 : saa0 mi0 m1) (h2 : rbg 0 0 (fun _ _ => 0) m1 a) : fc_f0 272 a ml0 mr0 := by
  have h := fX11 (fc_f0.s f0_1)
  intro k hk
  obtain ⟨g1, g2, g3⟩ := h k hk
  refine ⟨?_, g2, g3⟩
  rw [h2.2.2.2.2.2.1 k (by omega) (by omega) (by omega) (by omega) (by omega) (by omega) (by omega), h1.1 k (by omega)]
  exact g1
theorem l_lawA {E : fc_E} {d : Nat} {tot : Nat × Nat} {shF : fc_Sh} {Q : fc_Q} (h1 : 273 ≤ tot.1) (h2 : 18371 ≤ tot.2)
    (K : ∀ a m1, saa0 mi0 m1 → rbg 0 0 (fun _ _ => 0) m1 a → fc_TN E mL_law (d + 4) tot shF true (273, 18371) fc_sh 20 [some (.float 5), some (.ref 0), some (.ref 252), some (.ref 272), none, none, none] [] a ml0 mr0 Q) :
    fc_TN E mL_law (d + 4) tot shF true (0, 0) [] 0 [some (.float 5), none, none, none, none, none, none] [] (fun _ _ => 0) (fun _ _ => 0) (fun _ _ => none) Q := by
  refine nw_new (x := 0) (cs' := (1, 12)) dL_0 nkX10 (fc_G_of 131 (by decide +kernel) rfl) rfl f0_0 rfl (by dsimp only; omega) (by dsimp only; omega) ?_
  refine fc_n_dup dL_3 rfl ?_
  refine nw_ctor (z := mX10_init) (x := 1) (cs' := (252, 5108)) dL_4 (n_X10 (n := 1) (q := 0) rfl rfl (fc_f0.s f0_0)) kX10_i.1 rfl rfl kX10_i.2 (fc_G_of 133 (by decide +kernel) rfl) (Nat.le_of_ble_eq_true rfl) rfl (by dsimp only; omega) (by dsimp only; omega) (lX10 rfl) rfl (by decide) ?_
  rintro _ _ _ _ ⟨rfl, rfl, rfl, rfl⟩
  refine fc_n_astore_n (i := 1) dL_7 rfl (by decide) ?_
  refine nw_new (x := 252) (cs' := (253, 5138)) dL_8 nkX11 (fc_G_of 1289 (by decide +kernel) rfl) (lX10 rfl) f0_1 rfl (by dsimp only; omega) (by dsimp only; omega) ?_
  refine fc_n_dup dL_11 rfl ?_
  refine nw_ctor (z := mX11_init) (x := 253) (cs' := (272, 18370)) dL_12 (n_X11 (fc_sn (lX10 rfl)) sh_ok1 (fc_f0.s f0_1) sh_ok Wd0) kX11_i.1 rfl rfl kX11_i.2 (fc_G_of 1290 (by decide +kernel) rfl) (Nat.le_of_ble_eq_true rfl) rfl (by dsimp only; omega) (by dsimp only; omega) (by decide +kernel) sh_ok1 (by decide) ?_
  rintro _ a _ _ ⟨rfl, rfl, rfl, m1, g1, g2⟩
  refine fc_n_astore_n (i := 2) dL_15 rfl (by decide) ?_
  refine fc_n_iconst (v := 1) dL_16 rfl ?_
  refine nw_L (N := 1) (x := 272) (cs' := (273, 18371)) dL_17 rfl (by decide) (by decide +kernel) (f0_X g1 g2) rfl (by dsimp only; omega) (by dsimp only; omega) ?_
  rw [sh_ok2]
  refine fc_n_astore_n (i := 3) dL_19 rfl (by decide) ?_
  exact K a m1 g1 g2
