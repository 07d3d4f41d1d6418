section TRY
variable {E : fc_E} {d : Nat} {mi : fc_Mi} {ml : fc_Ml} {mr : fc_Mr}
theorem tt_isAwake {b : Nat} (hL : fc_L mr b) (x m : Int32) (hx : vp_in x 5) : fc_R E mX0_isAwake d fc_sh [.ref b, .int x, .int m] mi ml mr (fc_is (some (.int (if mi (b + 7) x.toNatClampNeg ≤ m then 1 else 0))) mi ml mr) := by
  obtain ⟨s0, s1, s2, s3, s4, s5, s6, s7, s8, s9, s10, s11, s12, r0, r1, r2, r3, r4, r5, r6, r7, r8, r9, r10, r11⟩ := hL
  refine fc_met rfl (by decide) (fc_run oX0_isAwake (fun _ => false) 50 ?_)
  refine And.intro s0 (Exists.intro _ (And.intro r6 (Exists.intro _ (And.intro s7 (And.intro hx ?_)))))
  refine And.intro (fun h => ?_) (fun h => ?_)
  · refine And.intro (Or.inl rfl) ?_
    trace_state
    sorry
  · sorry
theorem tt_bits {a b : Nat} (hS : fc_S mr a) (hL : fc_L mr b) (k : Int32) : fc_R E mX7_bitsAt d fc_sh [.ref a, .ref b, .int k] mi ml mr (fc_is (some (.int 3)) mi ml mr) := by
  obtain ⟨s0, s1, s2, s3, s4, s5, s6, s7, s8, s9, s10, s11, s12, r0, r1, r2, r3, r4, r5, r6, r7, r8, r9, r10, r11⟩ := hL
  obtain ⟨t0, t1, t2, t3, t4, t5, t6, t7, u1, u2, u3, u4, u5, u6, u7⟩ := hS
  refine fc_met rfl (by decide) (fc_run oX7_bitsAt (fun pc => pc == 5) 50 ?_)
  conv => whnf
  trace_state
  sorry
end TRY
