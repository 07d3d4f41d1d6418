/-! ===== rests of the class: it returns, or it throws; the law catches ===== -/
theorem dR_0 : decode cX10_rests 0 = .ok (.iconst 0, 1) := by decide +kernel
theorem dR_1 : decode cX10_rests 1 = .ok (.iload_n 1, 1) := by decide +kernel
theorem dR_2 : decode cX10_rests 2 = .ok (.bipush 9, 2) := by decide +kernel
theorem dR_4 : decode cX10_rests 4 = .ok (.invokestatic 281, 3) := by decide +kernel
theorem dR_7 : decode cX10_rests 7 = .ok (.ifCond .eq 23, 3) := by decide +kernel
theorem dR_10 : decode cX10_rests 10 = .ok (.iconst 0, 1) := by decide +kernel
theorem dR_11 : decode cX10_rests 11 = .ok (.iload_n 2, 1) := by decide +kernel
theorem dR_12 : decode cX10_rests 12 = .ok (.bipush 9, 2) := by decide +kernel
theorem dR_14 : decode cX10_rests 14 = .ok (.invokestatic 281, 3) := by decide +kernel
theorem dR_17 : decode cX10_rests 17 = .ok (.ifCond .eq 13, 3) := by decide +kernel
theorem dR_20 : decode cX10_rests 20 = .ok (.iconst 0, 1) := by decide +kernel
theorem dR_21 : decode cX10_rests 21 = .ok (.iload_n 3, 1) := by decide +kernel
theorem dR_22 : decode cX10_rests 22 = .ok (.bipush 9, 2) := by decide +kernel
theorem dR_24 : decode cX10_rests 24 = .ok (.invokestatic 281, 3) := by decide +kernel
theorem dR_27 : decode cX10_rests 27 = .ok (.ifCond .ne 14, 3) := by decide +kernel
theorem dR_30 : decode cX10_rests 30 = .ok (.new 307, 3) := by decide +kernel
theorem dR_33 : decode cX10_rests 33 = .ok (.dup, 1) := by decide +kernel
theorem dR_34 : decode cX10_rests 34 = .ok (.ldc_w 309, 3) := by decide +kernel
theorem dR_37 : decode cX10_rests 37 = .ok (.invokespecial 311, 3) := by decide +kernel
theorem dR_40 : decode cX10_rests 40 = .ok (.athrow, 1) := by decide +kernel
theorem dR_41 : decode cX10_rests 41 = .ok (.iconst 0, 1) := by decide +kernel
theorem dR_42 : decode cX10_rests 42 = .ok (.istore 5, 2) := by decide +kernel
theorem dR_44 : decode cX10_rests 44 = .ok (.iconst 0, 1) := by decide +kernel
theorem dR_45 : decode cX10_rests 45 = .ok (.istore 6, 2) := by decide +kernel
theorem dR_47 : decode cX10_rests 47 = .ok (.iload 6, 2) := by decide +kernel
theorem dR_49 : decode cX10_rests 49 = .ok (.iconst 4, 1) := by decide +kernel
theorem dR_50 : decode cX10_rests 50 = .ok (.if_icmp .ge 33, 3) := by decide +kernel
theorem dR_53 : decode cX10_rests 53 = .ok (.iload_n 1, 1) := by decide +kernel
theorem dR_54 : decode cX10_rests 54 = .ok (.iload_n 2, 1) := by decide +kernel
theorem dR_55 : decode cX10_rests 55 = .ok (.iload_n 3, 1) := by decide +kernel
theorem dR_56 : decode cX10_rests 56 = .ok (.iload 6, 2) := by decide +kernel
theorem dR_58 : decode cX10_rests 58 = .ok (.invokestatic 314, 3) := by decide +kernel
theorem dR_61 : decode cX10_rests 61 = .ok (.ifCond .eq 16, 3) := by decide +kernel
theorem dR_64 : decode cX10_rests 64 = .ok (.iload 5, 2) := by decide +kernel
theorem dR_66 : decode cX10_rests 66 = .ok (.iload 4, 2) := by decide +kernel
theorem dR_68 : decode cX10_rests 68 = .ok (.if_icmp .ne 6, 3) := by decide +kernel
theorem dR_71 : decode cX10_rests 71 = .ok (.iload 6, 2) := by decide +kernel
theorem dR_73 : decode cX10_rests 73 = .ok (.ireturn, 1) := by decide +kernel
theorem dR_74 : decode cX10_rests 74 = .ok (.iinc 5 1, 3) := by decide +kernel
theorem dR_77 : decode cX10_rests 77 = .ok (.iinc 6 1, 3) := by decide +kernel
theorem dR_80 : decode cX10_rests 80 = .ok (.goto (-33), 3) := by decide +kernel
theorem dR_83 : decode cX10_rests 83 = .ok (.iload 4, 2) := by decide +kernel
theorem dR_85 : decode cX10_rests 85 = .ok (.iconst (-1), 1) := by decide +kernel
theorem dR_86 : decode cX10_rests 86 = .ok (.if_icmp .eq 14, 3) := by decide +kernel
theorem dR_89 : decode cX10_rests 89 = .ok (.new 307, 3) := by decide +kernel
theorem dR_92 : decode cX10_rests 92 = .ok (.dup, 1) := by decide +kernel
theorem dR_93 : decode cX10_rests 93 = .ok (.ldc_w 318, 3) := by decide +kernel
theorem dR_96 : decode cX10_rests 96 = .ok (.invokespecial 311, 3) := by decide +kernel
theorem dR_99 : decode cX10_rests 99 = .ok (.athrow, 1) := by decide +kernel
theorem dR_100 : decode cX10_rests 100 = .ok (.iload 5, 2) := by decide +kernel
theorem dR_102 : decode cX10_rests 102 = .ok (.ireturn, 1) := by decide +kernel
theorem dS_0 : decode cL_rests 0 = .ok (.aload 5, 2) := by decide +kernel
theorem dS_2 : decode cL_rests 2 = .ok (.iconst 0, 1) := by decide +kernel
theorem dS_3 : decode cL_rests 3 = .ok (.aload_n 0, 1) := by decide +kernel
theorem dS_4 : decode cL_rests 4 = .ok (.iload_n 1, 1) := by decide +kernel
theorem dS_5 : decode cL_rests 5 = .ok (.iload_n 2, 1) := by decide +kernel
theorem dS_6 : decode cL_rests 6 = .ok (.iload_n 3, 1) := by decide +kernel
theorem dS_7 : decode cL_rests 7 = .ok (.iload 4, 2) := by decide +kernel
theorem dS_9 : decode cL_rests 9 = .ok (.invokevirtual 7, 3) := by decide +kernel
theorem dS_12 : decode cL_rests 12 = .ok (.i2l, 1) := by decide +kernel
theorem dS_13 : decode cL_rests 13 = .ok (.lastore, 1) := by decide +kernel
theorem dS_14 : decode cL_rests 14 = .ok (.goto 7, 3) := by decide +kernel
theorem dS_17 : decode cL_rests 17 = .ok (.astore 6, 2) := by decide +kernel
theorem dS_19 : decode cL_rests 19 = .ok (.iconst 1, 1) := by decide +kernel
theorem dS_20 : decode cL_rests 20 = .ok (.ireturn, 1) := by decide +kernel
theorem dS_21 : decode cL_rests 21 = .ok (.iconst 0, 1) := by decide +kernel
theorem dS_22 : decode cL_rests 22 = .ok (.ireturn, 1) := by decide +kernel
def rsn1 (a : Bool) : Int32 := if a then 0 + 1 else 0
def rsn2 (a b : Bool) : Int32 := if b then rsn1 a + 1 else rsn1 a
def rsn3 (a b c : Bool) : Int32 := if c then rsn2 a b + 1 else rsn2 a b
def rsF (a b c d : Bool) (w : Int32) : Int32 := if d ∧ rsn3 a b c = w then nI 3 else if c ∧ rsn2 a b = w then nI 2 else if b ∧ rsn1 a = w then nI 1 else if a ∧ (0 : Int32) = w then nI 0 else -1
theorem rs_h0 : ∀ a b c d : Bool, a = true → rsF a b c d 0 = nI 0 ∧ ¬ (0 : Int32) < 0 := by decide +kernel
theorem rs_h1 : ∀ a b c d : Bool, b = true → rsF a b c d (rsn1 a) = nI 1 ∧ ¬ rsn1 a < 0 := by decide +kernel
theorem rs_h2 : ∀ a b c d : Bool, c = true → rsF a b c d (rsn2 a b) = nI 2 ∧ ¬ rsn2 a b < 0 := by decide +kernel
theorem rs_h3 : ∀ a b c d : Bool, d = true → rsF a b c d (rsn3 a b c) = nI 3 ∧ ¬ rsn3 a b c < 0 := by decide +kernel
theorem rs_hit {R : Nat → Bool} {i : Nat} (hi : i < 4) (hR : R i = true) : rs_f R (rs_n R i) 4 = nI i ∧ ¬ rs_n R i < 0 := by
  match i, hi, hR with
  | 0, _, hR => exact rs_h0 (R 0) (R 1) (R 2) (R 3) hR
  | 1, _, hR => exact rs_h1 (R 0) (R 1) (R 2) (R 3) hR
  | 2, _, hR => exact rs_h2 (R 0) (R 1) (R 2) (R 3) hR
  | 3, _, hR => exact rs_h3 (R 0) (R 1) (R 2) (R 3) hR
  | i + 4, h, _ => exact absurd h (by omega)
theorem rs_no {R : Nat → Bool} {w : Int32} (h : ∀ k, k < 4 → ¬ (R k = true ∧ rs_n R k = w)) : rs_f R w 4 = -1 := by
  show (if R 3 = true ∧ rs_n R 3 = w then nI 3 else if R 2 = true ∧ rs_n R 2 = w then nI 2 else if R 1 = true ∧ rs_n R 1 = w then nI 1 else if R 0 = true ∧ rs_n R 0 = w then nI 0 else -1) = -1
  rw [if_neg (h 3 (by omega)), if_neg (h 2 (by omega)), if_neg (h 1 (by omega)), if_neg (h 0 (by omega))]
theorem rs_m1 {w : Int32} (h1 : w < 0) (h2 : ¬ w < -1) : w = -1 := by
  rw [Int32.lt_iff_toInt_lt] at h1 h2
  have e0 : (0 : Int32).toInt = 0 := by decide
  have e1 : (-1 : Int32).toInt = -1 := by decide
  rw [e0] at h1
  rw [e1] at h2
  apply Int32.toInt_inj.mp
  rw [e1]; omega
theorem rs_i4 {i : Nat} (h : i < 4) : ¬ (4 : Int32) ≤ nI i := by
  rcases (by omega : i = 0 ∨ i = 1 ∨ i = 2 ∨ i = 3) with rfl | rfl | rfl | rfl <;> decide
section MF
variable {E : fc_E} {d : Nat} {mi : fc_Mi} {ml : fc_Ml} {mr : fc_Mr} {bo lo ga w : Int32} {X : fc_Px} {Q : fc_Q}
theorem rs_t30 (h : rs_may bo lo ga w = false) : rs_t bo lo ga w = true := by unfold rs_t; rw [h]; rfl
theorem rs_tn (hw : ¬ w = -1) (h : ∀ k, k < 4 → ¬ (sp_rst bo lo ga (nI k) = true ∧ rs_n (fun k => sp_rst bo lo ga (nI k)) k = w)) : rs_t bo lo ga w = true := by
  by_cases h0 : w < 0
  · by_cases h1 : w < -1
    · refine rs_t30 ?_
      unfold rs_may
      rw [decide_eq_true h1]
      cases sp_from 0 bo 9 <;> cases sp_from 0 lo 9 <;> cases sp_from 0 ga 9 <;> rfl
    · exact absurd (rs_m1 h0 h1) hw
  · unfold rs_t
    rw [rs_no (R := fun k => sp_rst bo lo ga (nI k)) h, decide_eq_false h0, show decide ((-1 : Int32) < 0) = true from rfl]
    cases rs_may bo lo ga w <;> rfl
theorem rs_may1 (hb : sp_from 0 bo 9 = true) (hl : sp_from 0 lo 9 = true) (hg : sp_from 0 ga 9 = true) (hw : ¬ w < -1) : rs_may bo lo ga w = true := by
  unfold rs_may; rw [hb, hl, hg, decide_eq_false hw]; rfl
theorem rs_fin1 (hb : sp_from 0 bo 9 = true) (hl : sp_from 0 lo 9 = true) (hg : sp_from 0 ga 9 = true) (hw : w = -1) : rs_t bo lo ga w = false ∧ rs_a bo lo ga w = rs_n (fun k => sp_rst bo lo ga (nI k)) 4 := by
  subst hw
  have h1 : rs_t bo lo ga (-1) = false := by
    unfold rs_t
    rw [rs_may1 hb hl hg (by decide), show decide ((-1 : Int32) < 0) = true from rfl]; rfl
  refine ⟨h1, ?_⟩
  unfold rs_a
  rw [h1, if_neg (by decide), if_pos (by decide)]
theorem rs_fin2 (hb : sp_from 0 bo 9 = true) (hl : sp_from 0 lo 9 = true) (hg : sp_from 0 ga 9 = true) {i : Nat} (hi : i < 4) (hR : sp_rst bo lo ga (nI i) = true) (hw : rs_n (fun k => sp_rst bo lo ga (nI k)) i = w) : rs_t bo lo ga w = false ∧ rs_a bo lo ga w = nI i := by
  obtain ⟨g1, g2⟩ := rs_hit (R := fun k => sp_rst bo lo ga (nI k)) hi hR
  rw [hw] at g1 g2
  have g3 : ¬ w < -1 := fun h => g2 (by
    rw [Int32.lt_iff_toInt_lt] at h ⊢
    have e0 : (0 : Int32).toInt = 0 := by decide
    have e1 : (-1 : Int32).toInt = -1 := by decide
    rw [e1] at h; rw [e0]; omega)
  have h1 : rs_t bo lo ga w = false := by
    unfold rs_t
    rw [rs_may1 hb hl hg g3, g1, decide_eq_false (nI_pos (n := i) (by omega))]
    cases decide (w < 0) <;> rfl
  refine ⟨h1, ?_⟩
  unfold rs_a
  rw [h1, if_neg (by decide), if_neg g2, g1]
theorem l_rsL (hb : sp_from 0 bo 9 = true) (hlo : sp_from 0 lo 9 = true) (hg : sp_from 0 ga 9 = true)
    (K30 : rs_t bo lo ga w = true → ∀ (x5 x6 : Option Value) (pc : Nat), (pc = 30 ∨ pc = 89) → fc_TP E mX10_rests (d + 2) X (0, 0) fc_sh pc [some (.ref 0), some (.int bo), some (.int lo), some (.int ga), some (.int w), x5, x6] [] mi ml mr Q) (KR : rs_t bo lo ga w = false → Q (some (.int (rs_a bo lo ga w))) mi ml mr) :
    ∀ (j i : Nat), i + j = 4 → (∀ k, k < i → ¬ (sp_rst bo lo ga (nI k) = true ∧ rs_n (fun k => sp_rst bo lo ga (nI k)) k = w)) → fc_TP E mX10_rests (d + 2) X (0, 0) fc_sh 47 [some (.ref 0), some (.int bo), some (.int lo), some (.int ga), some (.int w), some (.int (rs_n (fun k => sp_rst bo lo ga (nI k)) i)), some (.int (nI i))] [] mi ml mr Q := by
  intro j
  induction j with
  | zero =>
    intro i hi hno
    obtain rfl : i = 4 := by omega
    refine fc_p_iload dR_47 rfl ?_
    refine fc_p_iconst (v := 4) dR_49 rfl ?_
    refine fc_p_icmp_ge (tgt := 83) dR_50 rfl (fun _ => ?_) (fun h => absurd (show (4 : Int32) ≤ nI 4 by decide) h)
    refine fc_p_iload dR_83 rfl ?_
    refine fc_p_iconst (v := -1) dR_85 rfl ?_
    refine fc_p_icmp_eq (tgt := 100) dR_86 rfl (fun h => ?_) (fun h => ?_)
    · refine fc_p_iload dR_100 rfl ?_
      obtain ⟨g1, g2⟩ := rs_fin1 hb hlo hg h
      refine fc_p_ret (v := some (.int (rs_n (fun k => sp_rst bo lo ga (nI k)) 4))) ⟨dR_102, Or.inl rfl⟩ ?_
      have g3 := KR g1
      rw [g2] at g3
      exact g3
    · exact K30 (rs_tn h hno) _ _ 89 (Or.inr rfl)
  | succ j ih =>
    intro i hi hno
    have hi4 : i < 4 := by omega
    refine fc_p_iload dR_47 rfl ?_
    refine fc_p_iconst (v := 4) dR_49 rfl ?_
    refine fc_p_icmp_ge (tgt := 83) dR_50 rfl (fun h => absurd h (rs_i4 hi4)) (fun _ => ?_)
    refine fc_p_iload_n (i := 1) dR_53 rfl rfl ?_
    refine fc_p_iload_n (i := 2) dR_54 rfl rfl ?_
    refine fc_p_iload_n (i := 3) dR_55 rfl rfl ?_
    refine fc_p_iload dR_56 rfl ?_
    refine fc_p_callS (z := mX10_isRest) (n := 4) (st := []) (As := [.int bo, .int lo, .int ga, .int (nI i)]) dR_58 (c_isRest (d := d) bo lo ga (nI i)) kX10_isRest.1 rfl (kX10_isRest.2.2 rfl) (fc_G_of 1269 (by decide +kernel) rfl) (by decide) ?_
    rintro _ _ _ _ ⟨rfl, rfl, rfl, rfl⟩
    show fc_TP E mX10_rests (d + 2) X (0, 0) fc_sh 61 [some (.ref 0), some (.int bo), some (.int lo), some (.int ga), some (.int w), some (.int (rs_n (fun k => sp_rst bo lo ga (nI k)) i)), some (.int (nI i))] [.int (fc_b (sp_rst bo lo ga (nI i)))] mi ml mr Q
    refine fc_p_if_eq (tgt := 77) dR_61 rfl (fun h => ?_) (fun h => ?_)
    · have hR : sp_rst bo lo ga (nI i) = false := fc_b0.mp h
      have hn : (rs_n (fun k => sp_rst bo lo ga (nI k)) (i + 1)) = (rs_n (fun k => sp_rst bo lo ga (nI k)) i) := by rw [rs_n, if_neg (by rw [hR]; decide)]
      have hno' : ∀ k, k < i + 1 → ¬ (sp_rst bo lo ga (nI k) = true ∧ rs_n (fun k => sp_rst bo lo ga (nI k)) k = w) := by
        intro k hk
        rcases Nat.lt_succ_iff_lt_or_eq.mp hk with h1 | rfl
        · exact hno k h1
        · intro q; rw [hR] at q; cases q.1
      refine fc_p_iinc (v := nI (i + 1)) dR_77 rfl (fc_inc i) (by decide) ?_
      refine fc_p_goto (tgt := 47) dR_80 rfl ?_
      have h2 := ih (i + 1) (by omega) hno'
      rw [hn] at h2
      exact h2
    · have hR : sp_rst bo lo ga (nI i) = true := fc_b1.mp h
      refine fc_p_iload dR_64 rfl ?_
      refine fc_p_iload dR_66 rfl ?_
      refine fc_p_icmp_ne (tgt := 74) dR_68 rfl (fun hw => ?_) (fun hw => ?_)
      · have hn : (rs_n (fun k => sp_rst bo lo ga (nI k)) (i + 1)) = (rs_n (fun k => sp_rst bo lo ga (nI k)) i) + 1 := by rw [rs_n, if_pos hR]
        have hno' : ∀ k, k < i + 1 → ¬ (sp_rst bo lo ga (nI k) = true ∧ rs_n (fun k => sp_rst bo lo ga (nI k)) k = w) := by
          intro k hk
          rcases Nat.lt_succ_iff_lt_or_eq.mp hk with h1 | rfl
          · exact hno k h1
          · intro q; exact hw q.2
        refine fc_p_iinc (v := (rs_n (fun k => sp_rst bo lo ga (nI k)) i) + 1) dR_74 rfl rfl (by decide) ?_
        refine fc_p_iinc (v := nI (i + 1)) dR_77 rfl (fc_inc i) (by decide) ?_
        refine fc_p_goto (tgt := 47) dR_80 rfl ?_
        have h2 := ih (i + 1) (by omega) hno'
        rw [hn] at h2
        exact h2
      · obtain ⟨g1, g2⟩ := rs_fin2 hb hlo hg hi4 hR hw
        refine fc_p_iload dR_71 rfl ?_
        refine fc_p_ret (v := some (.int (nI i))) ⟨dR_73, Or.inl rfl⟩ ?_
        have g3 := KR g1
        rw [g2] at g3
        exact g3
theorem l_rs (K30 : rs_t bo lo ga w = true → ∀ (x5 x6 : Option Value) (pc : Nat), (pc = 30 ∨ pc = 89) → fc_TP E mX10_rests (d + 2) X (0, 0) fc_sh pc [some (.ref 0), some (.int bo), some (.int lo), some (.int ga), some (.int w), x5, x6] [] mi ml mr Q) (KR : rs_t bo lo ga w = false → Q (some (.int (rs_a bo lo ga w))) mi ml mr) : fc_TP E mX10_rests (d + 2) X (0, 0) fc_sh 0 (fc_l1 7 [.ref 0, .int bo, .int lo, .int ga, .int w]) [] mi ml mr Q := by
  show fc_TP E mX10_rests (d + 2) X (0, 0) fc_sh 0 [some (.ref 0), some (.int bo), some (.int lo), some (.int ga), some (.int w), none, none] [] mi ml mr Q
  refine fc_p_iconst (v := 0) dR_0 rfl ?_
  refine fc_p_iload_n (i := 1) dR_1 rfl rfl ?_
  refine fc_p_bipush (v := 9) dR_2 rfl ?_
  refine fc_p_callS (z := mX10_isFrom) (n := 3) (st := []) (As := [.int 0, .int bo, .int 9]) dR_4 (c_isFrom (d := d + 1) 0 bo 9) kX10_isFrom.1 rfl (kX10_isFrom.2.2 rfl) (fc_G_of 1110 (by decide +kernel) rfl) (by decide) ?_
  rintro _ _ _ _ ⟨rfl, rfl, rfl, rfl⟩
  show fc_TP E mX10_rests (d + 2) X (0, 0) fc_sh 7 [some (.ref 0), some (.int bo), some (.int lo), some (.int ga), some (.int w), none, none] [.int (fc_b (sp_from 0 bo 9))] mi ml mr Q
  refine fc_p_if_eq (tgt := 30) dR_7 rfl (fun h => K30 (rs_t30 (by unfold rs_may; rw [fc_b0.mp h]; rfl)) _ _ 30 (Or.inl rfl)) (fun h1 => ?_)
  replace h1 := fc_b1.mp h1
  refine fc_p_iconst (v := 0) dR_10 rfl ?_
  refine fc_p_iload_n (i := 2) dR_11 rfl rfl ?_
  refine fc_p_bipush (v := 9) dR_12 rfl ?_
  refine fc_p_callS (z := mX10_isFrom) (n := 3) (st := []) (As := [.int 0, .int lo, .int 9]) dR_14 (c_isFrom (d := d + 1) 0 lo 9) kX10_isFrom.1 rfl (kX10_isFrom.2.2 rfl) (fc_G_of 1110 (by decide +kernel) rfl) (by decide) ?_
  rintro _ _ _ _ ⟨rfl, rfl, rfl, rfl⟩
  show fc_TP E mX10_rests (d + 2) X (0, 0) fc_sh 17 [some (.ref 0), some (.int bo), some (.int lo), some (.int ga), some (.int w), none, none] [.int (fc_b (sp_from 0 lo 9))] mi ml mr Q
  refine fc_p_if_eq (tgt := 30) dR_17 rfl (fun h => K30 (rs_t30 (by unfold rs_may; rw [h1, fc_b0.mp h]; rfl)) _ _ 30 (Or.inl rfl)) (fun h2 => ?_)
  replace h2 := fc_b1.mp h2
  refine fc_p_iconst (v := 0) dR_20 rfl ?_
  refine fc_p_iload_n (i := 3) dR_21 rfl rfl ?_
  refine fc_p_bipush (v := 9) dR_22 rfl ?_
  refine fc_p_callS (z := mX10_isFrom) (n := 3) (st := []) (As := [.int 0, .int ga, .int 9]) dR_24 (c_isFrom (d := d + 1) 0 ga 9) kX10_isFrom.1 rfl (kX10_isFrom.2.2 rfl) (fc_G_of 1110 (by decide +kernel) rfl) (by decide) ?_
  rintro _ _ _ _ ⟨rfl, rfl, rfl, rfl⟩
  show fc_TP E mX10_rests (d + 2) X (0, 0) fc_sh 27 [some (.ref 0), some (.int bo), some (.int lo), some (.int ga), some (.int w), none, none] [.int (fc_b (sp_from 0 ga 9))] mi ml mr Q
  refine fc_p_if_ne (tgt := 41) dR_27 rfl (fun h3 => ?_) (fun h => K30 (rs_t30 (by unfold rs_may; rw [h1, h2, fc_b0.mp h]; rfl)) _ _ 30 (Or.inl rfl))
  replace h3 := fc_b1.mp h3
  refine fc_p_iconst (v := 0) dR_41 rfl ?_
  refine fc_p_istore dR_42 (by decide) ?_
  refine fc_p_iconst (v := 0) dR_44 rfl ?_
  refine fc_p_istore dR_45 (by decide) ?_
  exact l_rsL h1 h2 h3 K30 KR 4 0 (by omega) (fun k hk => absurd hk (by omega))
/-- where it throws -/
def rsXp (E : fc_E) (mi : fc_Mi) (ml : fc_Ml) (mr : fc_Mr) (t : Bool) : fc_Px := fun p e s m args below meth c R Qf => t = true → ∀ (H : Heap) (locs : List Loc) (ls : Array Slot) (pc : Nat), (pc = 30 ∨ pc = 89) → va_P E.2.1 vwCl (fc_ws E fc_sh mi ml mr) H → va_S (fc_A E) s.heap H locs → ls.size = 7 → W p E.1 e R s m args below meth c H locs 0 0 Qf (F0 m pc ls [])
def rsXC (E : fc_E) (mi : fc_Mi) (ml : fc_Ml) (mr : fc_Mr) (t : Bool) : String → State → State → Prop := fun C st u => C = "java/util/NoSuchElementException" ∧ t = true ∧ va_P E.2.1 vwCl (fc_ws E fc_sh mi ml mr) u.heap ∧ va_F (fc_A E) st u
def rsQ (mi : fc_Mi) (ml : fc_Ml) (mr : fc_Mr) (t : Bool) (a : Int32) : fc_Q := fun v x y z => t = false ∧ v = some (.int a) ∧ x = mi ∧ y = ml ∧ z = mr
theorem fx_inT : ∀ w ∈ fx_A.filter goodWord, w ∈ lw_tbl := by decide +kernel
theorem fx_otT : ∀ w ∈ Cond.classLink "FirstChimney" 307 fx_N :: Cond.initialized fx_N :: fx_A, vx_ot w = true := by decide +kernel
theorem fx_ngT : ∀ w ∈ fx_A.filter (fun w => !goodWord w), w ∈ fc_X3 := by decide +kernel
theorem fx_atT {s : State} {args : Array Value} (hts : ∀ w ∈ fc_G, w.before args s = true) (hx : fc_Xw s) : ∀ w ∈ fx_A, w.before args s = true :=
  vx_hat (B := fc_X3) (fun w hw => hts w (List.mem_filter.mpr ⟨fx_inT w hw, (List.mem_filter.mp hw).2⟩)) fx_ngT (fun w hw => va_tabs (u := s) (fc_Xwc w hw).1 rfl (hx w hw))
theorem c_rests (hl : E.1.stackTraces = false) (bo lo ga w : Int32) : vx_Met E.1 yX10_rests (fc_w mX10_rests) (fc_rmN (d + 6) 1 6) (va_Pc (([.ref 0, .int bo, .int lo, .int ga, .int w] : List Value).map (fc_v E)) (fun U => va_P E.2.1 vwCl (fc_ws E fc_sh mi ml mr) U.heap ∧ fc_K E U)) (fc_Qc E fc_sh (rsQ mi ml mr (rs_t bo lo ga w) (rs_a bo lo ga w))) (rsXC E mi ml mr (rs_t bo lo ga w)) 1 6 (fc_A E) := by
  refine vx_ofW (cc := cX10_rests) (maxL := 7) (ret := some .int) (by decide) rfl ?_
  intro p e s m args below meth c s₁ B hml htab hv
  obtain ⟨rfl, hP, hK⟩ := hv
  have hts0 := atoms_spec (ws := fc_w mX10_rests) B.pre
  have hts : ∀ w ∈ fc_G, w.before _ s = true := fun w hw => hts0 w (List.mem_cons_of_mem _ hw)
  have hown : s.vm.findClass "FirstChimney" = some m.cls := findClass_of_methodNamed B.named
  have hlocks := B.notSynchronized
  obtain ⟨k1, k2, k3, k4, k5, k6, k7⟩ := id hK
  have hl0 := lv_entry (([.ref 0, .int bo, .int lo, .int ga, .int w] : List Value).map (fc_v E)) (n := 7) (Nat.le_of_ble_eq_true rfl)
  rw [lg_entry_eq]
  refine l_rs (d := d + 4) (X := rsXp E mi ml mr (rs_t bo lo ga w)) (Q := rsQ mi ml mr (rs_t bo lo ga w) (rs_a bo lo ga w)) (fun ht x5 x6 pc hpc p e s m args below meth c R Qf hC hR hX hret H locs ls hP hS hl => hX ht H locs ls pc hpc hP hS hl.1) (fun ht => ⟨ht, rfl, rfl, rfl, rfl⟩)
    p e s m _ below meth c (fc_rmN (d + 6) 1 6) _ ⟨B.exec, B.bytes, B.returns, hlocks, hown, hml, hts, hK⟩ ⟨Nat.le_refl _, Nat.le_refl _, Nat.zero_le _, Nat.zero_le _⟩ ?_ ?_ s.heap [] _ hP va_S.rf
    ⟨hl0.1, hl0.2.1, fun i v hi => hl0.2.2 (i, fc_v E v) (by simpa using fc_l0_args E [.ref 0, .int bo, .int lo, .int ga, .int w] 0 i v (fc_l1_get hi))⟩
  · intro ht H locs ls pc hpc hP1 hS1 hls
    have hx : ∀ t : State, s.vm.Alike t.vm → H.size ≤ t.heap.size → (∀ q : Nat, q < H.size → t.heap[q]? = H[q]?) → rsXC E mi ml mr (rs_t bo lo ga w) "java/util/NoSuchElementException" s t := fun t _ h1 h2 =>
      ⟨rfl, ht, hP1.kept (fun k q hk => h2 q.1 ((hP1 k q hk).lt)), Nat.le_trans hS1.1 h1, fun q hq hA => by rw [h2 q (Nat.lt_of_lt_of_le hq hS1.1)]; exact hS1.2.1 q hq hA⟩
    rcases hpc with rfl | rfl
    · refine fx_make (text := "no such kindling") (ik := 307) (is := 309) (sa := E.2.2.2.2.1 3) (A := fc_A E) B.exec B.bytes hl hown (hts _ (fc_G_of 1204 (by decide +kernel) rfl)) (hts _ (fc_G_of 130 (by decide +kernel) rfl)) (k4 3 _ rfl) (fx_atT hts k7.2.2.2.2) fx_otT k7.2.2.1 k7.2.2.2.1 hS1 (hls.trans hml.symm) dR_30 dR_33 dR_34 dR_37
        (by show 5 < d + 6 + 1; omega) (by show 0 + (13 * (2 + 1) + 43) ≤ 64 * (d + 6 + 1); omega) (Nat.le_refl _) (Nat.le_refl _) ?_
      intro q ce H1 h1 h2 h3 h4 h5
      refine vx_athrow B.exec B.bytes dR_40 ?_
      exact vx_out (E := fx_N) (fun x hx => (htab x hx).elim) hlocks h3 h4 h5 (fun t ht hal => hx t hal (by rw [ht]; exact h1) (fun q hq => by rw [ht]; exact h2 q hq)) hS1.2.2 (Nat.le_refl _) (Nat.le_refl _)
    · refine fx_make (text := "no such rest") (ik := 307) (is := 318) (sa := E.2.2.2.2.1 4) (A := fc_A E) B.exec B.bytes hl hown (hts _ (fc_G_of 1204 (by decide +kernel) rfl)) (hts _ (fc_G_of 130 (by decide +kernel) rfl)) (k4 4 _ rfl) (fx_atT hts k7.2.2.2.2) fx_otT k7.2.2.1 k7.2.2.2.1 hS1 (hls.trans hml.symm) dR_89 dR_92 dR_93 dR_96
        (by show 5 < d + 6 + 1; omega) (by show 0 + (13 * (2 + 1) + 43) ≤ 64 * (d + 6 + 1); omega) (Nat.le_refl _) (Nat.le_refl _) ?_
      intro q ce H1 h1 h2 h3 h4 h5
      refine vx_athrow B.exec B.bytes dR_99 ?_
      exact vx_out (E := fx_N) (fun x hx => (htab x hx).elim) hlocks h3 h4 h5 (fun t ht hal => hx t hal (by rw [ht]; exact h1) (fun q hq => by rw [ht]; exact h2 q hq)) hS1.2.2 (Nat.le_refl _) (Nat.le_refl _)
  · intro v mi' ml' mr' H locs ls pc hq hP1 hS1 hrt
    have hq2 := hq
    obtain ⟨h1, rfl, rfl, rfl, rfl⟩ := hq
    refine vx_ret ?_
    refine W.widen (k := 1) (n := 6) (by decide) (by decide) ?_
    exact W.iret (v := rs_a bo lo ga w) B.exec B.bytes B.returns (fun t ht _ => ⟨⟨_, _, _, _, hq2, rfl, by rw [ht]; exact hP1⟩, hS1.F ht⟩) hS1.2.2 hrt.1 hlocks
end MF
def mL_rests : fc_M := (yL_rests, cL_rests, 7, some .int)
def lL_rests : List fc_I := [(12, .i2l, 1, 0, 0, 0, .null), (13, .lastore, 1, 0, 0, 0, .null), (14, .goto 7, 3, 21, 0, 0, .null), (17, .astore 6, 2, 0, 0, 0, .null), (19, .iconst 1, 1, 0, 0, 0, .int 1), (20, .ireturn, 1, 0, 0, 0, .null), (21, .iconst 0, 1, 0, 0, 0, .int 0), (22, .ireturn, 1, 0, 0, 0, .null)]
theorem oL_rests : fc_code mL_rests lL_rests = true := by decide +kernel
def wL_rests : List Cond := .codeWith yL_rests cL_rests 7 (some .int) [(0, 14, 17, 13)] :: fc_G
theorem fr_ofWH {l : Launch} {y : MethodName} {ws ws' : List Cond} {rm : Room} {Pc : Array Value → State → Prop} {Qc : Array Value → State → Outcome → State → Prop} {mc ms : Nat} {free : Addr → Prop} {cc : ByteArray} {maxL : Nat} {ret : Option FieldType} {hh : List (Nat × Nat × Nat × Nat)}
    (hy : plainName y.cls = true) (hw : ws = Cond.codeWith y cc maxL ret hh :: ws')
    (body : ∀ p e s m args below meth c s₁, BodyLoose p l y (headSpec ws rm) cc maxL ret e s m args below meth c s₁ → c.maxLocals = maxL → Pc args s →
      W p l e (headSpec ws rm).room s m args below meth c s.heap [] 0 0 (MQ below Qc args s mc ms free) (entryFrame m args maxL)) : Met l y ws rm Pc Qc mc ms free := by
  refine MetFree.of_bodyS (code := cc) (maxLocals := maxL) (ret := ret) hy ?_ ?_
  · intro args s m h hn
    obtain ⟨m9, meth, c, hn9, h1, h2, h3, h4, -, h5, h6, -⟩ := Cond.codeWith_spec (atoms_spec (ws := ws) h _ (by rw [hw]; exact List.mem_cons_self))
    cases hn.symm.trans hn9
    exact ⟨meth, c, h1, h2, h3, h4, h5, h6⟩
  · intro p e s m args below meth c s₁ B hml hP _
    have hh0 : s₁.heap = s.heap := by rw [B.state]; rfl
    obtain ⟨t, a1, o, b1, b2, b3⟩ := body p e s m args below meth c s₁ B hml hP s₁ hh0 (Stand.of_body B)
    exact ⟨t, o, a1, b1, b2, ⟨b3.1, b3.2⟩⟩
section MG
variable {E : fc_E} {d : Nat} {mi : fc_Mi} {ml : fc_Ml} {mr : fc_Mr} {bo lo ga w : Int32}
/-- what the law's rests leaves -/
def rlQ (mi : fc_Mi) (ml : fc_Ml) (mr : fc_Mr) (t : Bool) (a : Int32) : fc_Q := fun v x y z => v = some (.int (fc_b t)) ∧ x = mi ∧ z = mr ∧ y = if t then ml else fc_u ml 272 0 a.toInt64
theorem l_rwN {a : Int32} {Q : fc_Q} (KQ : Q (some (.int 0)) mi (fc_u ml 272 0 a.toInt64) mr) : fc_T E mL_rests d (1, 6) fc_sh 12 [some (.ref 0), some (.int bo), some (.int lo), some (.int ga), some (.int w), some (.ref 272), none] [.int a, .int 0, .ref 272] mi ml mr Q := by
  refine fc_run oL_rests (fun _ => false) 20 ?_
  refine Exists.intro 1 (Exists.intro 0 (And.intro rfl (And.intro (show fc_ix 0 1 0 from fc_ix_nI (p := 0) (by decide) (by decide)) ?_)))
  exact KQ
def rlX (E : fc_E) (mi : fc_Mi) (ml : fc_Ml) (mr : fc_Mr) (bo lo ga w : Int32) : fc_Px := fun p e s m args below meth c R Qf => ∀ (H : Heap) (locs : List Loc) (ls : Array Slot), va_P E.2.1 vwCl (fc_ws E fc_sh mi ml mr) H → va_S (fc_A E) s.heap H locs → fc_lv E ls 7 [some (.ref 0), some (.int bo), some (.int lo), some (.int ga), some (.int w), some (.ref 272), none] → W p E.1 e R s m args below meth c H locs 0 0 Qf (F0 m 9 ls (([.int w, .int ga, .int lo, .int bo, .ref 0, .int 0, .ref 272] : List Value).map (fc_v E)))
theorem l_rlA {Q : fc_Q} : fc_TP E mL_rests d (rlX E mi ml mr bo lo ga w) (0, 0) fc_sh 0 (fc_l1 7 [.ref 0, .int bo, .int lo, .int ga, .int w, .ref 272]) [] mi ml mr Q := by
  show fc_TP E mL_rests d (rlX E mi ml mr bo lo ga w) (0, 0) fc_sh 0 [some (.ref 0), some (.int bo), some (.int lo), some (.int ga), some (.int w), some (.ref 272), none] [] mi ml mr Q
  refine fc_p_aload dS_0 rfl ?_
  refine fc_p_iconst (v := 0) dS_2 rfl ?_
  refine fc_p_aload_n (i := 0) dS_3 rfl rfl ?_
  refine fc_p_iload_n (i := 1) dS_4 rfl rfl ?_
  refine fc_p_iload_n (i := 2) dS_5 rfl rfl ?_
  refine fc_p_iload_n (i := 3) dS_6 rfl rfl ?_
  refine fc_p_iload dS_7 rfl ?_
  intro p e s m args below meth c R Qf hC hR hX hret H locs ls hP hS hl
  exact hX H locs ls hP hS hl
theorem k_rests (hl : E.1.stackTraces = false) (bo lo ga w : Int32) : Met E.1 yL_rests wL_rests (fc_rmN (d + 7) 1 6) (va_Pc (([.ref 0, .int bo, .int lo, .int ga, .int w, .ref 272] : List Value).map (fc_v E)) (fun U => va_P E.2.1 vwCl (fc_ws E fc_sh mi ml mr) U.heap ∧ fc_K E U)) (fc_Qc E fc_sh (rlQ mi ml mr (rs_t bo lo ga w) (rs_a bo lo ga w))) 1 6 (fc_A E) := by
  refine fr_ofWH (cc := cL_rests) (maxL := 7) (ret := some .int) (hh := [(0, 14, 17, 13)]) (by decide) rfl ?_
  intro p e s m args below meth c s₁ B hml hv
  obtain ⟨rfl, hP, hK⟩ := hv
  have hts0 := atoms_spec (ws := wL_rests) B.pre
  have hts : ∀ w ∈ fc_G, w.before _ s = true := fun w hw => hts0 w (List.mem_cons_of_mem _ hw)
  have hown : s.vm.findClass "FirstChimneyLaw" = some m.cls := findClass_of_methodNamed B.named
  have hlocks := B.notSynchronized
  have htab := vx_table (x := yL_rests) B (hts0 _ List.mem_cons_self)
  have hl0 := lv_entry (([.ref 0, .int bo, .int lo, .int ga, .int w, .ref 272] : List Value).map (fc_v E)) (n := 7) (Nat.le_of_ble_eq_true rfl)
  have hC : fc_C E mL_rests p s m _ meth c := ⟨B.exec, B.bytes, B.returns, hlocks, hown, hml, hts, hK⟩
  rw [lg_entry_eq]
  refine l_rlA (d := d + 7) (mi := mi) (ml := ml) (mr := mr) (bo := bo) (lo := lo) (ga := ga) (w := w) (Q := fun _ _ _ _ => False) p e s m _ below meth c (fc_rmN (d + 7) 1 6) _ hC ⟨Nat.le_refl _, Nat.le_refl _, Nat.zero_le _, Nat.zero_le _⟩ ?_ (fun v a b c H locs ls pc hq => hq.elim) s.heap [] _ hP va_S.rf
    ⟨hl0.1, hl0.2.1, fun i v hi => hl0.2.2 (i, fc_v E v) (by simpa using fc_l0_args E [.ref 0, .int bo, .int lo, .int ga, .int w, .ref 272] 0 i v (fc_l1_get hi))⟩
  intro H locs ls hP1 hS1 hls
  obtain ⟨⟨hz1, hz2, hz3, hz4⟩, hzi, -⟩ := kX10_rests
  have hw := fc_ws_get (E := E) (mi := mi) (ml := ml) (mr := mr) (sh := fc_sh) (k := 0) (c := (10, 0)) rfl
  rw [fc_cell_obj (by decide)] at hw
  have hrun := vx_runV (p := p) (e := e) (below := below) (meth := meth) (locs := locs) (cells := 0) (slots := 0) (R := fc_rmN (d + 7) 1 6) (H := H) (g := F0 m 9 ls (([.int w, .int ga, .int lo, .int bo, .ref 0, .int 0, .ref 272] : List Value).map (fc_v E))) (rest := ([.int 0, .ref 272] : List Value).map (fc_v E)) (As := ([.int bo, .int lo, .int ga, .int w] : List Value).map (fc_v E)) (b := E.2.2.2.1 + 0) (C := "FirstChimney") (S := ⟨B.exec, B.bytes, hml, hown, hts⟩) (c_rests (d := d) (mi := mi) (ml := ml) (mr := mr) hl bo lo ga w)
    ⟨callB_of 4 hts (fc_w_good hz1) rfl rfl rfl (hts _ hz2) (hts _ (fc_G_of 1200 (by decide +kernel) rfl)) hz3 ⟨Nat.le_refl _, by show 8 + (7 + 11) + 64 * (d + 6 + 1) ≤ 64 * (d + 7 + 1); omega⟩, hts _ (hzi rfl).1, hts _ (hzi rfl).2⟩
    ⟨fc_blind, va_recv hK.1 hP1 rfl hw, fc_pre (As := [.ref 0, .int bo, .int lo, .int ga, .int w]) hK hP1 hS1⟩ rfl rfl hls.1 rfl (lv_room (by rw [fc_sum]; decide)) dS_9 ⟨Nat.le_refl _, Nat.le_refl _⟩
  have fin : ∀ (v : Int32) (ml' : fc_Ml) (H : Heap) (locs : List Loc), rlQ mi ml mr (rs_t bo lo ga w) (rs_a bo lo ga w) (some (.int v)) mi ml' mr → va_P E.2.1 vwCl (fc_ws E fc_sh mi ml' mr) H → va_S (fc_A E) s.heap H locs → ∀ t : State, t.heap = H → fc_Qc E fc_sh (rlQ mi ml mr (rs_t bo lo ga w) (rs_a bo lo ga w)) (([.ref 0, .int bo, .int lo, .int ga, .int w, .ref 272] : List Value).map (fc_v E)).toArray s (.returned (some (.int v))) t :=
    fun v ml' H locs hq hP hS t ht => ⟨⟨some (.int v), mi, ml', mr, hq, rfl, by rw [ht]; exact hP⟩, hS.F ht⟩
  intro T hT X
  rcases hrun T hT X with ⟨v, st₀, t, T', L, h0, X', hL, e1, e2, hq, stp⟩ | ⟨q, st₀, t, T', L, Ex, ce, h0, X', hL, e1, e2, hq, hce, hcv, hcl, stp⟩
  · obtain ⟨⟨v', a, b, c', ⟨g1, rfl, rfl, rfl, rfl⟩, hv, hp⟩, hz, hk⟩ := hq
    cases hv
    rw [h0] at hz hk
    have hS2 : va_S (fc_A E) s.heap T'.heap (locs ++ L) := ⟨Nat.le_trans hS1.1 (by rw [e1]; exact hz), fun q h1 h2 => by rw [e1, hk q (Nat.lt_of_lt_of_le h1 hS1.1) h2]; exact hS1.2.1 q h1 h2, fun q hq => by
      rcases List.mem_append.mp hq with h | h
      · exact hS1.2.2 q h
      · exact hL q h⟩
    have hN := l_rwN (E := E) (d := d + 7) (mi := a) (ml := b) (mr := c') (bo := bo) (lo := lo) (ga := ga) (w := w) (a := rs_a bo lo ga w) (Q := rlQ a b c' (rs_t bo lo ga w) (rs_a bo lo ga w)) ⟨by rw [g1]; rfl, rfl, rfl, by rw [g1]; rfl⟩
      p e s m _ below meth c (fc_rmN (d + 7) 1 6) (MQ below (fc_Qc E fc_sh (rlQ a b c' (rs_t bo lo ga w) (rs_a bo lo ga w))) (([.ref 0, .int bo, .int lo, .int ga, .int w, .ref 272] : List Value).map (fc_v E)).toArray s 1 6 (fc_A E)) hC ⟨Nat.le_refl _, Nat.le_refl _, Nat.le_refl _, Nat.le_refl _⟩ ?_ T'.heap (locs ++ L) ls (by rw [e1]; exact hp) hS2 hls T' rfl X'
    · obtain ⟨t2, a1, b1⟩ := hN
      exact ⟨t2, stp t2 a1, b1⟩
    · intro v x y z H2 locs2 ls2 pc hq2 hP2 hS2 hrt
      have hq3 := hq2
      obtain ⟨rfl, rfl, rfl, rfl⟩ := hq2
      exact W.iret (v := fc_b (rs_t bo lo ga w)) B.exec B.bytes B.returns (fun t ht _ => fin _ _ H2 locs2 hq3 hP2 hS2 t ht) hS2.2.2 hrt.1 hlocks
  · obtain ⟨rfl, g1, hp, hz, hk⟩ := hq
    rw [h0] at hz hk
    have hS2 : va_S (fc_A E) s.heap T'.heap (locs ++ L) := ⟨Nat.le_trans hS1.1 (by rw [e1]; exact hz), fun q h1 h2 => by rw [e1, hk q (Nat.lt_of_lt_of_le h1 hS1.1) h2]; exact hS1.2.1 q h1 h2, fun q hq => by
      rcases List.mem_append.mp hq with h | h
      · exact hS1.2.2 q h
      · exact hL q h⟩
    have hq3 : rlQ mi ml mr (rs_t bo lo ga w) (rs_a bo lo ga w) (some (.int 1)) mi ml mr := ⟨by rw [g1]; rfl, rfl, rfl, by rw [g1]; rfl⟩
    have kk : W p E.1 e (fc_rmN (d + 7) 1 6) s m (([.ref 0, .int bo, .int lo, .int ga, .int w, .ref 272] : List Value).map (fc_v E)).toArray below meth c T'.heap (locs ++ L) 1 6 (MQ below (fc_Qc E fc_sh (rlQ mi ml mr (rs_t bo lo ga w) (rs_a bo lo ga w))) (([.ref 0, .int bo, .int lo, .int ga, .int w, .ref 272] : List Value).map (fc_v E)).toArray s 1 6 (fc_A E)) (F0 m 17 ls [.ref q]) := by
      refine lv_astore B.exec B.bytes dS_17 hls.has (by decide) rfl (fun ls' hl' => ?_)
      refine lv_iconst (v := 1) B.exec B.bytes dS_19 rfl ?_
      exact W.iret (v := 1) B.exec B.bytes B.returns (fun t ht _ => fin 1 ml T'.heap (locs ++ L) hq3 (by rw [e1]; exact hp) hS2 t ht) hS2.2.2 dS_20 hlocks
    have hcast : (Cond.castable "java/util/NoSuchElementException" "java/util/NoSuchElementException").before (([.ref 0, .int bo, .int lo, .int ga, .int w, .ref 272] : List Value).map (fc_v E)).toArray s = true := va_tabs (u := s) rfl rfl (hK.2.2.2.2.2.2.2.2.2.2 (.castable "java/util/NoSuchElementException" "java/util/NoSuchElementException") (by decide +kernel))
    have hcat := vx_catch (p := p) (l := E.1) (e := e) (R := fc_rmN (d + 7) 1 6) (below := below) (meth := meth) (locs := locs ++ L) (cells := 1) (slots := 6) (own := "FirstChimneyLaw") (name := "java/util/NoSuchElementException") (E := "java/util/NoSuchElementException") (pc := 9) (ls := ls) (rest := ([.int 0, .ref 272] : List Value).map (fc_v E)) (H := T'.heap) hown [] ⟨0, 14, 17, 13⟩ [] htab (fun z hz => nomatch hz) (by decide) (by decide) (hts _ (fc_G_of 1199 (by decide +kernel) rfl)) hcast (by rw [e1]; exact hce) hcv hcl kk T' rfl X'
    obtain ⟨t2, a1, b1⟩ := hcat
    exact ⟨t2, stp.trans a1, b1⟩
end MG
