/-! ===== at the beginning both are side by side ===== -/
theorem mi0_z {x : Nat} (h1 : x ≠ 218) (h2 : x ≠ 231) : mi0 x = fun _ => 0 := by
  show fc_u (fc_u (fun _ _ => (0 : Int32)) 218 14 30) 231 14 30 x = _
  rw [fc_u_off _ _ _ h2, fc_u_off _ _ _ h1]
theorem mi0_218 {j : Nat} (h : j ≠ 14) : mi0 218 j = 0 := by
  show fc_u (fc_u (fun _ _ => (0 : Int32)) 218 14 30) 231 14 30 218 j = _
  rw [fc_u_off _ _ _ (by decide), fc_u_nj _ _ _ _ h]
theorem mi0_sm : mi0 218 14 = nI 30 := by decide +kernel
theorem mr0_a : mr0 0 7 = some 218 ∧ mr0 0 8 = some 231 ∧ mr0 0 9 = some 244 ∧ mr0 0 10 = some 248 ∧ mr0 6 1 = some 15 ∧ mr0 6 2 = some 16 := by decide +kernel
theorem ml0_k : ∀ w, w < 25 → ml0 257 w = kwv w := by decide +kernel
theorem Sim0 {a m1 : fc_Mi} (h1 : saa0 mi0 m1) (h2 : rbg 0 0 (fun _ _ => 0) m1 a) : Sim a ml0 mr0 := by
  obtain ⟨s1, s2, s3, s4, s5⟩ := h1
  obtain ⟨r1, r2, r3, r4, r5, r6, r7⟩ := h2
  obtain ⟨q7, q8, q9, q10, q61, q62⟩ := mr0_a
  have aC : ∀ x, x < 252 → a x = mi0 x := fun x hx => (r6 x (by omega) (by omega) (by omega) (by omega) (by omega) (by omega) (by omega)).trans (s1 x (by omega))
  have aZ : ∀ x, x < 252 → x ≠ 218 → x ≠ 231 → ∀ j, a x j = 0 := fun x hx h h' j => congrFun ((aC x hx).trans (mi0_z h h')) j
  have z218 : ∀ j, j ≠ 14 → a 218 j = 0 := fun j hj => (congrFun (aC 218 (by decide)) j).trans (mi0_218 hj)
  have a258 : a 258 = m1 258 := r6 258 (by decide) (by decide) (by decide) (by decide) (by decide) (by decide) (by decide)
  have z258 : ∀ k, k < 50 → k ≠ 4 → k ≠ 5 → a 258 k = 0 := fun k hk h4 h5 => by
    rw [a258]
    have h := s5 k hk h4 h5
    rwa [Nat.zero_add] at h
  have a252 : ∀ k, k ≠ 25 → a 252 k = 0 := fun k hk => by
    rw [r7 k hk, s1 252 (by decide)]
    exact congrFun (f0_1 252 (Nat.le_refl _)).1 k
  have hok : as_ok 0 0 0 30 (cv a 17) := ⟨fun p hp => absurd hp (Nat.not_lt_zero _), fun q hq => absurd hq (Nat.not_lt_zero _), 0, by decide, aZ 17 (by decide) (by decide) (by decide) 1⟩
  have hlok : as_lok 0 0 0 30 (cl a 218) := ⟨by decide, by decide, by decide, by decide, by decide, fun p hp => absurd hp (Nat.not_lt_zero _), fun q hq => absurd hq (Nat.not_lt_zero _)⟩
  have a37 : ∀ j, a 37 j = 0 := aZ 37 (by decide) (by decide) (by decide)
  have n37 : ∀ j, ¬ a 37 j = 1 := fun j e => absurd (e.symm.trans (a37 j)) (by decide)
  refine ⟨218, 231, 244, 248, 0, 0, 0, 30, 0, 0, 0, 0, 0, 0, 0, ⟨?_, ?_, ?_, ?_, ?_, ?_, ?_, ?_, ?_⟩, ⟨?_, ?_, ?_, ?_, ?_, ?_, ?_, ?_, ?_⟩⟩
  · exact ⟨Wd0, q7, fc_L_at218 Wd0, by decide, ⟨z218 12 (by decide), by decide, z218 10 (by decide), by decide, z218 13 (by decide), by decide⟩, ⟨fun p hp => absurd hp (Nat.not_lt_zero _), fun p hp => absurd hp (Nat.not_lt_zero _), fun p hp => absurd hp (Nat.not_lt_zero _)⟩, q9, ⟨rfl, rfl, rfl, rfl, Wd0 244 0 245 rfl, Wd0 244 1 246 rfl, Wd0 244 2 247 rfl⟩, by decide⟩
  · exact ⟨q8, q10, Or.inl ⟨rfl, rfl⟩, Or.inl ⟨rfl, rfl⟩, Or.inl ⟨q61, q62⟩⟩
  · exact ⟨⟨(congrFun (aC 218 (by decide)) 14).trans mi0_sm, hlok, hok⟩, z218 11 (by decide), ⟨aZ 228 (by decide) (by decide) (by decide) 2, by decide, Or.inl rfl⟩, fun k hk => absurd hk (Nat.not_lt_zero _), fun x y hx => absurd hx (Nat.not_lt_zero _), fun p _ _ => ⟨aZ 21 (by decide) (by decide) (by decide) p, aZ 22 (by decide) (by decide) (by decide) p⟩⟩
  · exact ⟨⟨aZ 1 (by decide) (by decide) (by decide) 1, by decide⟩, fun j hj => absurd hj (Nat.not_lt_zero _)⟩
  · exact ⟨⟨Nat.zero_le _, Nat.zero_le _, Nat.zero_le _, Nat.zero_le _, Nat.zero_le _, Nat.zero_le _, Nat.zero_le _⟩, fun w => ⟨Or.inl rfl, Or.inl rfl⟩⟩
  · exact ⟨aZ 244 (by decide) (by decide) (by decide) 3, by decide⟩
  · exact ⟨aZ 214 (by decide) (by decide) (by decide) 3, by decide, fun i hi => absurd hi (Nat.not_lt_zero _), fun i hi => absurd hi (Nat.not_lt_zero _)⟩
  · exact ⟨⟨aZ 33 (by decide) (by decide) (by decide) 4, by decide, aZ 33 (by decide) (by decide) (by decide) 5, by decide⟩, fun u hu => absurd hu (Nat.not_lt_zero _)⟩
  · exact fun j hj => ⟨Or.inl (a37 j), fun e => absurd e (n37 j)⟩
  · refine ⟨⟨z258 0 (by decide) (by decide) (by decide), z258 2 (by decide) (by decide) (by decide), z258 3 (by decide) (by decide) (by decide), ?_⟩, by decide, hlok, hok, ⟨fun k hk => absurd hk (Nat.not_lt_zero _), fun k hk => absurd hk (Nat.not_lt_zero _), fun k hk => absurd hk (Nat.not_lt_zero _)⟩, ⟨?_, ?_⟩, fun k hk => absurd hk (Nat.not_lt_zero _), fun k hk => absurd hk (Nat.not_lt_zero _)⟩
    · rw [a258]; exact s3
    · exact (aZ 17 (by decide) (by decide) (by decide) 0).trans r1.1.1
    · exact (aZ 17 (by decide) (by decide) (by decide) 1).trans r1.1.2
  · exact z258 1 (by decide) (by decide) (by decide)
  · exact Or.inl ⟨by rw [a258]; exact s4, fun _ _ _ _ => rfl⟩
  · exact ⟨⟨a252 2 (by decide), by decide⟩, fun j hj => absurd hj (Nat.not_lt_zero _), ml0_k⟩
  · exact ⟨a252 18 (by decide), fun _ _ _ => rfl, fun k hk => absurd hk (Nat.not_lt_zero _)⟩
  · exact ⟨r3, by decide, fun i hi => absurd hi (Nat.not_lt_zero _)⟩
  · exact ⟨r2, fun s hs => absurd hs (Nat.not_lt_zero _)⟩
  · exact ⟨r4, fun u hu => absurd hu (Nat.not_lt_zero _)⟩
  · exact fun j hj => ⟨(r5 j hj).trans (a37 j).symm, fun e => absurd e (n37 j)⟩
