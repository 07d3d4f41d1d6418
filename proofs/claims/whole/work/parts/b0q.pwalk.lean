/-! ===== its walk, as one proposition ===== -/
set_option maxHeartbeats 4000000 in
theorem fc_pstep_ok {E : fc_E} {y : fc_M} {d : Nat} {X : fc_Px} {cs : Nat × Nat} {sh : fc_Sh} {go : fc_Go} {jmp : Nat → fc_Go} {Q : fc_Q} {x : fc_I} {lv : List (Option Value)} {st : List Value} {mi : fc_Mi} {ml : fc_Ml} {mr : fc_Mr} (hx : fc_okb y x = true)
    (hgo : ∀ lv st mi ml mr, go lv st mi ml mr → fc_TP E y d X cs sh (x.1 + x.2.2.1) lv st mi ml mr Q) (hj : ∀ t lv st mi ml mr, jmp t lv st mi ml mr → fc_TP E y d X cs sh t lv st mi ml mr Q) (h : fc_step E y d sh go jmp Q x lv st mi ml mr) : fc_TP E y d X cs sh x.1 lv st mi ml mr Q := by
  obtain ⟨pc, i, len, a, b, ps, v⟩ := x
  simp only [fc_okb, Bool.and_eq_true, decide_eq_true_eq] at hx
  obtain ⟨hd, hl⟩ := hx
  dsimp only at hd hgo ⊢
  cases i with
  | iconst n =>
    simp only [fc_okl, Bool.and_eq_true, beq_iff_eq, decide_eq_true_eq] at hl
    obtain ⟨rfl, rfl⟩ := hl
    dsimp only [fc_step] at h
    exact fc_p_iconst hd rfl (hgo _ _ _ _ _ h)
  | bipush n =>
    simp only [fc_okl, Bool.and_eq_true, beq_iff_eq, decide_eq_true_eq] at hl
    obtain ⟨rfl, rfl⟩ := hl
    dsimp only [fc_step] at h
    exact fc_p_bipush hd rfl (hgo _ _ _ _ _ h)
  | sipush n =>
    simp only [fc_okl, Bool.and_eq_true, beq_iff_eq, decide_eq_true_eq] at hl
    obtain ⟨rfl, rfl⟩ := hl
    dsimp only [fc_step] at h
    exact fc_p_sipush hd rfl (hgo _ _ _ _ _ h)
  | lconst n =>
    simp only [fc_okl, Bool.and_eq_true, beq_iff_eq, decide_eq_true_eq] at hl
    obtain ⟨rfl, rfl⟩ := hl
    dsimp only [fc_step] at h
    exact fc_p_lconst hd rfl (hgo _ _ _ _ _ h)
  | ldc n =>
    simp only [fc_okl, Bool.and_eq_true, beq_iff_eq] at hl
    obtain ⟨rfl, hl⟩ := hl
    dsimp only [fc_step] at h
    unfold fc_okc at hl
    split at hl
    · simp only [fc_at, Bool.and_eq_true, decide_eq_true_eq] at hl
      exact fc_p_ldc hd (fc_G_of _ hl.1 hl.2) (hgo _ _ _ _ _ h)
    · split at hl
      · next q hq =>
        simp only [Bool.and_eq_true, decide_eq_true_eq] at hl
        obtain ⟨q1, q2, q3⟩ := q
        obtain ⟨rfl, rfl⟩ := hl
        exact fc_p_ldcS hd hq (hgo _ _ _ _ _ h)
      · cases hl
    · cases hl
  | ldc_w n =>
    simp only [fc_okl, Bool.and_eq_true, beq_iff_eq] at hl
    obtain ⟨rfl, hl⟩ := hl
    dsimp only [fc_step] at h
    split at h
    · simp only [fc_okc, fc_at, Bool.and_eq_true, decide_eq_true_eq] at hl
      exact fc_p_ldcw hd (fc_G_of _ hl.1 hl.2) (hgo _ _ _ _ _ h)
    · exact h.elim
  | ldc2_w n =>
    simp only [fc_okl, Bool.and_eq_true, beq_iff_eq] at hl
    obtain ⟨rfl, hl⟩ := hl
    dsimp only [fc_step] at h
    unfold fc_okd at hl
    split at hl
    · simp only [fc_at, Bool.and_eq_true, decide_eq_true_eq] at hl
      exact fc_p_ldc2 hd (fc_G_of _ hl.1 hl.2) (hgo _ _ _ _ _ h)
    · cases hl
  | iload k =>
    have hl : len = 2 := by simpa [fc_okl] using hl
    subst hl
    dsimp only [fc_step] at h
    split at h
    · next hx => exact fc_p_iload hd hx (hgo _ _ _ _ _ h)
    · exact h.elim
  | iload_n k =>
    have hl : len = 1 := by simpa [fc_okl] using hl
    subst hl
    dsimp only [fc_step] at h
    split at h
    · next hx => exact fc_p_iload_n hd rfl hx (hgo _ _ _ _ _ h)
    · exact h.elim
  | lload k =>
    have hl : len = 2 := by simpa [fc_okl] using hl
    subst hl
    dsimp only [fc_step] at h
    split at h
    · next hx => exact fc_p_lload hd hx (hgo _ _ _ _ _ h)
    · exact h.elim
  | lload_n k =>
    have hl : len = 1 := by simpa [fc_okl] using hl
    subst hl
    dsimp only [fc_step] at h
    split at h
    · next hx => exact fc_p_lload_n hd rfl hx (hgo _ _ _ _ _ h)
    · exact h.elim
  | aload k =>
    have hl : len = 2 := by simpa [fc_okl] using hl
    subst hl
    dsimp only [fc_step] at h
    split at h
    · next hx => exact fc_p_aload hd hx (hgo _ _ _ _ _ h)
    · exact h.elim
  | aload_n k =>
    have hl : len = 1 := by simpa [fc_okl] using hl
    subst hl
    dsimp only [fc_step] at h
    split at h
    · next hx => exact fc_p_aload_n hd rfl hx (hgo _ _ _ _ _ h)
    · next hx => exact fc_p_sload_n hd rfl hx (hgo _ _ _ _ _ h)
    · next hx => exact fc_p_bload_n hd rfl hx (hgo _ _ _ _ _ h)
    · exact h.elim
  | istore k =>
    simp only [fc_okl, Bool.and_eq_true, beq_iff_eq, decide_eq_true_eq] at hl
    obtain ⟨rfl, hl⟩ := hl
    dsimp only [fc_step] at h
    split at h
    · exact fc_p_istore hd hl (hgo _ _ _ _ _ h)
    · exact h.elim
  | istore_n k =>
    simp only [fc_okl, Bool.and_eq_true, beq_iff_eq, decide_eq_true_eq] at hl
    obtain ⟨rfl, hl⟩ := hl
    dsimp only [fc_step] at h
    split at h
    · exact fc_p_istore_n hd rfl hl (hgo _ _ _ _ _ h)
    · exact h.elim
  | lstore k =>
    simp only [fc_okl, Bool.and_eq_true, beq_iff_eq, decide_eq_true_eq] at hl
    obtain ⟨rfl, hl⟩ := hl
    dsimp only [fc_step] at h
    split at h
    · exact fc_p_lstore hd hl (hgo _ _ _ _ _ h)
    · exact h.elim
  | lstore_n k =>
    simp only [fc_okl, Bool.and_eq_true, beq_iff_eq, decide_eq_true_eq] at hl
    obtain ⟨rfl, hl⟩ := hl
    dsimp only [fc_step] at h
    split at h
    · exact fc_p_lstore_n hd rfl hl (hgo _ _ _ _ _ h)
    · exact h.elim
  | astore k =>
    simp only [fc_okl, Bool.and_eq_true, beq_iff_eq, decide_eq_true_eq] at hl
    obtain ⟨rfl, hl⟩ := hl
    dsimp only [fc_step] at h
    split at h
    · exact fc_p_astore hd hl (hgo _ _ _ _ _ h)
    · exact h.elim
  | astore_n k =>
    simp only [fc_okl, Bool.and_eq_true, beq_iff_eq, decide_eq_true_eq] at hl
    obtain ⟨rfl, hl⟩ := hl
    dsimp only [fc_step] at h
    split at h
    · exact fc_p_astore_n hd rfl hl (hgo _ _ _ _ _ h)
    · exact h.elim
  | iinc k n =>
    simp only [fc_okl, Bool.and_eq_true, beq_iff_eq, decide_eq_true_eq] at hl
    obtain ⟨rfl, hl⟩ := hl
    dsimp only [fc_step] at h
    split at h
    · next hx => exact fc_p_iinc hd hx rfl hl (hgo _ _ _ _ _ h)
    · exact h.elim
  | iadd =>
    have hl : len = 1 := by simpa [fc_okl] using hl
    subst hl
    dsimp only [fc_step] at h
    split at h
    · exact fc_p_iadd hd (hgo _ _ _ _ _ h)
    · exact h.elim
  | isub =>
    have hl : len = 1 := by simpa [fc_okl] using hl
    subst hl
    dsimp only [fc_step] at h
    split at h
    · exact fc_p_isub hd (hgo _ _ _ _ _ h)
    · exact h.elim
  | imul =>
    have hl : len = 1 := by simpa [fc_okl] using hl
    subst hl
    dsimp only [fc_step] at h
    split at h
    · exact fc_p_imul hd (hgo _ _ _ _ _ h)
    · exact h.elim
  | iand =>
    have hl : len = 1 := by simpa [fc_okl] using hl
    subst hl
    dsimp only [fc_step] at h
    split at h
    · exact fc_p_iand hd (hgo _ _ _ _ _ h)
    · exact h.elim
  | ior =>
    have hl : len = 1 := by simpa [fc_okl] using hl
    subst hl
    dsimp only [fc_step] at h
    split at h
    · exact fc_p_ior hd (hgo _ _ _ _ _ h)
    · exact h.elim
  | ixor =>
    have hl : len = 1 := by simpa [fc_okl] using hl
    subst hl
    dsimp only [fc_step] at h
    split at h
    · exact fc_p_ixor hd (hgo _ _ _ _ _ h)
    · exact h.elim
  | ishl =>
    have hl : len = 1 := by simpa [fc_okl] using hl
    subst hl
    dsimp only [fc_step] at h
    split at h
    · exact fc_p_ishl hd (hgo _ _ _ _ _ h)
    · exact h.elim
  | ishr =>
    have hl : len = 1 := by simpa [fc_okl] using hl
    subst hl
    dsimp only [fc_step] at h
    split at h
    · exact fc_p_ishr hd (hgo _ _ _ _ _ h)
    · exact h.elim
  | iushr =>
    have hl : len = 1 := by simpa [fc_okl] using hl
    subst hl
    dsimp only [fc_step] at h
    split at h
    · exact fc_p_iushr hd (hgo _ _ _ _ _ h)
    · exact h.elim
  | idiv =>
    have hl : len = 1 := by simpa [fc_okl] using hl
    subst hl
    dsimp only [fc_step] at h
    split at h
    · exact fc_p_idiv hd h.1 (hgo _ _ _ _ _ h.2)
    · exact h.elim
  | irem =>
    have hl : len = 1 := by simpa [fc_okl] using hl
    subst hl
    dsimp only [fc_step] at h
    split at h
    · exact fc_p_irem hd h.1 (hgo _ _ _ _ _ h.2)
    · exact h.elim
  | ladd =>
    have hl : len = 1 := by simpa [fc_okl] using hl
    subst hl
    dsimp only [fc_step] at h
    split at h
    · exact fc_p_ladd hd (hgo _ _ _ _ _ h)
    · exact h.elim
  | lsub =>
    have hl : len = 1 := by simpa [fc_okl] using hl
    subst hl
    dsimp only [fc_step] at h
    split at h
    · exact fc_p_lsub hd (hgo _ _ _ _ _ h)
    · exact h.elim
  | lmul =>
    have hl : len = 1 := by simpa [fc_okl] using hl
    subst hl
    dsimp only [fc_step] at h
    split at h
    · exact fc_p_lmul hd (hgo _ _ _ _ _ h)
    · exact h.elim
  | land =>
    have hl : len = 1 := by simpa [fc_okl] using hl
    subst hl
    dsimp only [fc_step] at h
    split at h
    · exact fc_p_land hd (hgo _ _ _ _ _ h)
    · exact h.elim
  | lor =>
    have hl : len = 1 := by simpa [fc_okl] using hl
    subst hl
    dsimp only [fc_step] at h
    split at h
    · exact fc_p_lor hd (hgo _ _ _ _ _ h)
    · exact h.elim
  | ldiv =>
    have hl : len = 1 := by simpa [fc_okl] using hl
    subst hl
    dsimp only [fc_step] at h
    split at h
    · exact fc_p_ldiv hd h.1 (hgo _ _ _ _ _ h.2)
    · exact h.elim
  | lrem =>
    have hl : len = 1 := by simpa [fc_okl] using hl
    subst hl
    dsimp only [fc_step] at h
    split at h
    · exact fc_p_lrem hd h.1 (hgo _ _ _ _ _ h.2)
    · exact h.elim
  | ineg =>
    have hl : len = 1 := by simpa [fc_okl] using hl
    subst hl
    dsimp only [fc_step] at h
    split at h
    · exact fc_p_ineg hd (hgo _ _ _ _ _ h)
    · exact h.elim
  | i2l =>
    have hl : len = 1 := by simpa [fc_okl] using hl
    subst hl
    dsimp only [fc_step] at h
    split at h
    · exact fc_p_i2l hd (hgo _ _ _ _ _ h)
    · exact h.elim
  | l2i =>
    have hl : len = 1 := by simpa [fc_okl] using hl
    subst hl
    dsimp only [fc_step] at h
    split at h
    · exact fc_p_l2i hd (hgo _ _ _ _ _ h)
    · exact h.elim
  | i2b =>
    have hl : len = 1 := by simpa [fc_okl] using hl
    subst hl
    dsimp only [fc_step] at h
    split at h
    · exact fc_p_i2b hd (hgo _ _ _ _ _ h)
    · exact h.elim
  | i2c =>
    have hl : len = 1 := by simpa [fc_okl] using hl
    subst hl
    dsimp only [fc_step] at h
    split at h
    · exact fc_p_i2c hd (hgo _ _ _ _ _ h)
    · exact h.elim
  | lushr =>
    have hl : len = 1 := by simpa [fc_okl] using hl
    subst hl
    dsimp only [fc_step] at h
    split at h
    · exact fc_p_lushr hd (hgo _ _ _ _ _ h)
    · exact h.elim
  | lshl =>
    have hl : len = 1 := by simpa [fc_okl] using hl
    subst hl
    dsimp only [fc_step] at h
    split at h
    · exact fc_p_lshl hd (hgo _ _ _ _ _ h)
    · exact h.elim
  | lshr =>
    have hl : len = 1 := by simpa [fc_okl] using hl
    subst hl
    dsimp only [fc_step] at h
    split at h
    · exact fc_p_lshr hd (hgo _ _ _ _ _ h)
    · exact h.elim
  | lcmp =>
    have hl : len = 1 := by simpa [fc_okl] using hl
    subst hl
    dsimp only [fc_step] at h
    split at h
    · exact fc_p_lcmp hd (hgo _ _ _ _ _ h)
    · exact h.elim
  | dup =>
    have hl : len = 1 := by simpa [fc_okl] using hl
    subst hl
    dsimp only [fc_step] at h
    split at h
    · exact fc_p_dup hd rfl (hgo _ _ _ _ _ h)
    · exact fc_p_dup hd rfl (hgo _ _ _ _ _ h)
    · exact h.elim
  | pop =>
    have hl : len = 1 := by simpa [fc_okl] using hl
    subst hl
    dsimp only [fc_step] at h
    split at h
    · exact fc_p_pop hd rfl (hgo _ _ _ _ _ h)
    · exact fc_p_pop hd rfl (hgo _ _ _ _ _ h)
    · exact h.elim
  | dup2 =>
    have hl : len = 1 := by simpa [fc_okl] using hl
    subst hl
    dsimp only [fc_step] at h
    split at h
    · exact fc_p_dup2 hd rfl rfl (hgo _ _ _ _ _ h)
    · exact h.elim
  | if_icmp c off =>
    simp only [fc_okl, Bool.and_eq_true, beq_iff_eq, fc_tg, decide_eq_true_eq] at hl
    obtain ⟨rfl, hl⟩ := hl
    dsimp only [fc_step] at h
    split at h
    · cases c with
      | eq => exact fc_p_icmp_eq hd hl (fun q => hj _ _ _ _ _ _ (h.1 q)) (fun q => hgo _ _ _ _ _ (h.2 q))
      | ne => exact fc_p_icmp_ne hd hl (fun q => hj _ _ _ _ _ _ (h.2 q)) (fun q => hgo _ _ _ _ _ (h.1 q))
      | lt => exact fc_p_icmp_lt hd hl (fun q => hj _ _ _ _ _ _ (h.1 q)) (fun q => hgo _ _ _ _ _ (h.2 q))
      | ge => exact fc_p_icmp_ge hd hl (fun q => hj _ _ _ _ _ _ (h.1 q)) (fun q => hgo _ _ _ _ _ (h.2 q))
      | gt => exact fc_p_icmp_gt hd hl (fun q => hj _ _ _ _ _ _ (h.1 q)) (fun q => hgo _ _ _ _ _ (h.2 q))
      | le => exact fc_p_icmp_le hd hl (fun q => hj _ _ _ _ _ _ (h.1 q)) (fun q => hgo _ _ _ _ _ (h.2 q))
    · exact h.elim
  | ifCond c off =>
    simp only [fc_okl, Bool.and_eq_true, beq_iff_eq, fc_tg, decide_eq_true_eq] at hl
    obtain ⟨rfl, hl⟩ := hl
    dsimp only [fc_step] at h
    split at h
    · cases c with
      | eq => exact fc_p_if_eq hd hl (fun q => hj _ _ _ _ _ _ (h.1 q)) (fun q => hgo _ _ _ _ _ (h.2 q))
      | ne => exact fc_p_if_ne hd hl (fun q => hj _ _ _ _ _ _ (h.2 q)) (fun q => hgo _ _ _ _ _ (h.1 q))
      | lt => exact fc_p_if_lt hd hl (fun q => hj _ _ _ _ _ _ (h.1 q)) (fun q => hgo _ _ _ _ _ (h.2 q))
      | ge => exact fc_p_if_ge hd hl (fun q => hj _ _ _ _ _ _ (h.1 q)) (fun q => hgo _ _ _ _ _ (h.2 q))
      | gt => exact fc_p_if_gt hd hl (fun q => hj _ _ _ _ _ _ (h.1 q)) (fun q => hgo _ _ _ _ _ (h.2 q))
      | le => exact fc_p_if_le hd hl (fun q => hj _ _ _ _ _ _ (h.1 q)) (fun q => hgo _ _ _ _ _ (h.2 q))
    · exact h.elim
  | goto off =>
    simp only [fc_okl, Bool.and_eq_true, beq_iff_eq, fc_tg, decide_eq_true_eq] at hl
    obtain ⟨rfl, hl⟩ := hl
    dsimp only [fc_step] at h
    exact fc_p_goto hd hl (hj _ _ _ _ _ _ h)
  | getfield n =>
    simp only [fc_okl, Bool.and_eq_true, beq_iff_eq] at hl
    obtain ⟨rfl, hl⟩ := hl
    dsimp only [fc_step] at h
    by_cases ha0 : a < 20
    · rw [if_pos ha0] at hl
      unfold fc_okf at hl
      split at hl
      · next r hr =>
        simp only [Bool.and_eq_true, decide_eq_true_eq, fc_at] at hl
        obtain ⟨hb, ha, hk, hw, hg⟩ := hl
        have hG := fc_G_of _ hw hg
        split at h
        · obtain ⟨hs, h⟩ := h
          split at h
          · next ht => exact fc_p_get hd hr ha hb hG ht hs rfl (hgo _ _ _ _ _ h)
          · next ht => exact fc_p_get hd hr ha hb hG ht hs rfl (hgo _ _ _ _ _ h)
          · next ht =>
            obtain ⟨z, hz, h⟩ := h
            exact fc_p_get hd hr ha hb hG ht hs (v := .ref z) (by simp [fc_fv, hz, va_rf, fc_v]) (hgo _ _ _ _ _ h)
          · next ht => exact fc_p_get hd hr ha hb hG ht hs rfl (hgo _ _ _ _ _ h)
          · exact h.elim
        · obtain ⟨hu, h⟩ := h
          split at h
          · omega
          · omega
          · exact h.elim
        · exact h.elim
      · cases hl
    · rw [if_neg ha0] at hl
      unfold fc_okt at hl
      split at hl
      · simp only [fc_at, Bool.and_eq_true, decide_eq_true_eq] at hl
        split at h
        · next q st =>
          obtain ⟨hs, h⟩ := h
          exact h.elim
        · obtain ⟨hu, h⟩ := h
          exact fc_p_gtv hu hd (fc_G_of _ hl.1 hl.2) (hgo _ _ _ _ _ h)
        · exact h.elim
      · simp only [fc_at, Bool.and_eq_true, decide_eq_true_eq] at hl
        split at h
        · next q st =>
          obtain ⟨hs, h⟩ := h
          exact h.elim
        · obtain ⟨hu, h⟩ := h
          exact fc_p_gtc hu hd (fc_G_of _ hl.1 hl.2) (hgo _ _ _ _ _ h)
        · exact h.elim
      · cases hl
  | getstatic n =>
    simp only [fc_okl, Bool.and_eq_true, beq_iff_eq] at hl
    obtain ⟨rfl, hl⟩ := hl
    dsimp only [fc_step] at h
    unfold fc_okst at hl
    split at hl
    · simp only [fc_at, Bool.and_eq_true, decide_eq_true_eq] at hl
      exact fc_p_gs0 hd (fc_G_of _ hl.1 hl.2) (hgo _ _ _ _ _ h)
    · simp only [fc_at, Bool.and_eq_true, decide_eq_true_eq] at hl
      exact fc_p_gs1 hd (fc_G_of _ hl.1 hl.2) (hgo _ _ _ _ _ h.1) (hgo _ _ _ _ _ h.2)
    · cases hl
  | putfield n =>
    simp only [fc_okl, Bool.and_eq_true, beq_iff_eq] at hl
    obtain ⟨rfl, hl, hf⟩ := hl
    dsimp only [fc_step] at h
    unfold fc_okf at hl
    unfold fc_fin at hf
    split at hl
    · next r hr =>
      rw [hr] at hf
      simp only [Bool.not_eq_true'] at hf
      simp only [Bool.and_eq_true, decide_eq_true_eq, fc_at] at hl
      obtain ⟨hb, ha, hk, hw, hg⟩ := hl
      have hG := fc_G_of _ hw hg
      have key : ∀ t, (fc_ft a)[b]? = some t → ∃ ty, parseFieldDescriptor (r.2.1 b).2.2.1 = some ty ∧ fc_fk (some ty) = some t := by
        intro t ht
        rw [ht] at hk
        cases hp : parseFieldDescriptor (r.2.1 b).2.2.1 with
        | none => rw [hp] at hk; cases hk
        | some ty => rw [hp] at hk; exact ⟨ty, rfl, hk.symm⟩
      split at h
      · obtain ⟨hs, h⟩ := h
        split at h
        · next ht =>
          obtain ⟨ty, h1, h2⟩ := key _ ht
          have : ty = .int := by cases ty <;> first | rfl | cases h2
          subst this
          exact fc_p_puti hd hr ha hb hG ht hs hf h1 (hgo _ _ _ _ _ h)
        · next ht =>
          obtain ⟨ty, h1, h2⟩ := key _ ht
          have : ty = .boolean := by cases ty <;> first | rfl | cases h2
          subst this
          exact fc_p_putz hd hr ha hb hG ht hs hf h1 h.1 (hgo _ _ _ _ _ h.2)
        · exact h.elim
      · obtain ⟨hs, h⟩ := h
        split at h
        · next ht =>
          obtain ⟨ty, h1, h2⟩ := key _ ht
          have : ty = .long := by cases ty <;> first | rfl | cases h2
          subst this
          exact fc_p_putl hd hr ha hb hG ht hs hf h1 (hgo _ _ _ _ _ h)
        · exact h.elim
      · obtain ⟨hs, h⟩ := h
        split at h
        · next ht =>
          obtain ⟨ty, h1, h2⟩ := key _ ht
          exact fc_p_putr hd hr ha hb hG ht hs hf h1 (by cases ty <;> first | rfl | cases h2) (hgo _ _ _ _ _ h)
        · exact h.elim
      · exact h.elim
    · cases hl
  | iaload =>
    have hl : len = 1 := by simpa [fc_okl] using hl
    subst hl
    dsimp only [fc_step] at h
    split at h
    · obtain ⟨n, k, h1, ⟨h2, rfl⟩, h⟩ := h
      exact fc_p_iald hd h1 h2 (hgo _ _ _ _ _ h)
    · obtain ⟨rfl, k, ⟨h2, rfl⟩, h⟩ := h
      exact fc_p_sald hd h2 (hgo _ _ _ _ _ h)
    · exact h.elim
  | baload =>
    have hl : len = 1 := by simpa [fc_okl] using hl
    subst hl
    dsimp only [fc_step] at h
    split at h
    · obtain ⟨n, k, h1, ⟨h2, rfl⟩, h⟩ := h
      exact fc_p_zald hd h1 h2 (hgo _ _ _ _ _ h)
    · obtain ⟨hq, k, ⟨h2, rfl⟩, h⟩ := h
      exact fc_p_tald hq hd h2 (hgo _ _ _ _ _ h)
    · exact h.elim
  | caload =>
    have hl : len = 1 := by simpa [fc_okl] using hl
    subst hl
    dsimp only [fc_step] at h
    split at h
    · obtain ⟨n, k, h1, ⟨h2, rfl⟩, h⟩ := h
      exact fc_p_cald hd h1 h2 (hgo _ _ _ _ _ h)
    · exact h.elim
  | laload =>
    have hl : len = 1 := by simpa [fc_okl] using hl
    subst hl
    dsimp only [fc_step] at h
    split at h
    · obtain ⟨n, k, h1, ⟨h2, rfl⟩, h⟩ := h
      exact fc_p_lald hd h1 h2 (hgo _ _ _ _ _ h)
    · exact h.elim
  | aaload =>
    have hl : len = 1 := by simpa [fc_okl] using hl
    subst hl
    dsimp only [fc_step] at h
    split at h
    · obtain ⟨t, n, k, r, h1, ht, ⟨h2, rfl⟩, h3, h⟩ := h
      rcases ht with rfl | rfl | rfl
      · exact fc_p_aald24 hd h1 h2 h3 (hgo _ _ _ _ _ h)
      · exact fc_p_aald25 hd h1 h2 h3 (hgo _ _ _ _ _ h)
      · exact fc_p_aald26 hd h1 h2 h3 (hgo _ _ _ _ _ h)
    · exact h.elim
  | iastore =>
    have hl : len = 1 := by simpa [fc_okl] using hl
    subst hl
    dsimp only [fc_step] at h
    split at h
    · obtain ⟨n, k, h1, ⟨h2, rfl⟩, h⟩ := h
      exact fc_p_iast hd h1 h2 (hgo _ _ _ _ _ h)
    · exact h.elim
  | castore =>
    have hl : len = 1 := by simpa [fc_okl] using hl
    subst hl
    dsimp only [fc_step] at h
    split at h
    · obtain ⟨n, k, h1, ⟨h2, rfl⟩, h⟩ := h
      exact fc_p_cast hd h1 h2 (hgo _ _ _ _ _ h)
    · exact h.elim
  | bastore =>
    have hl : len = 1 := by simpa [fc_okl] using hl
    subst hl
    dsimp only [fc_step] at h
    split at h
    · obtain ⟨n, k, h1, ⟨h2, rfl⟩, h⟩ := h
      exact fc_p_zast hd h1 h2 (hgo _ _ _ _ _ h)
    · exact h.elim
  | lastore =>
    have hl : len = 1 := by simpa [fc_okl] using hl
    subst hl
    dsimp only [fc_step] at h
    split at h
    · obtain ⟨n, k, h1, ⟨h2, rfl⟩, h⟩ := h
      exact fc_p_last hd h1 h2 (hgo _ _ _ _ _ h)
    · exact h.elim
  | arraylength =>
    have hl : len = 1 := by simpa [fc_okl] using hl
    subst hl
    dsimp only [fc_step] at h
    split at h
    · obtain ⟨t, n, h1, ht, h⟩ := h
      rcases ht with rfl | rfl
      · exact fc_p_alenI hd h1 (hgo _ _ _ _ _ h)
      · exact fc_p_alenL hd h1 (hgo _ _ _ _ _ h)
    · obtain ⟨rfl, h⟩ := h
      exact fc_p_slen hd (hgo _ _ _ _ _ h)
    · obtain ⟨hq, h⟩ := h
      exact fc_p_tlen hq hd (hgo _ _ _ _ _ h)
    · exact h.elim
  | ireturn =>
    have hl : len = 1 := by simpa [fc_okl] using hl
    subst hl
    dsimp only [fc_step] at h
    split at h
    · next x =>
      split at h
      · next hr => exact fc_p_ret (v := some (.int x)) ⟨hd, Or.inl hr⟩ h
      · next hr => exact fc_p_ret (v := some (.int x)) ⟨hd, Or.inr (Or.inl ⟨hr, h.1⟩)⟩ h.2
      · next hr => exact fc_p_ret (v := some (.int x)) ⟨hd, Or.inr (Or.inr (Or.inl ⟨hr, h.1⟩))⟩ h.2
      · next hr => exact fc_p_ret (v := some (.int x)) ⟨hd, Or.inr (Or.inr (Or.inr ⟨hr, h.1⟩))⟩ h.2
      · exact h.elim
    · exact h.elim
  | return_ =>
    have hl : len = 1 := by simpa [fc_okl] using hl
    subst hl
    dsimp only [fc_step] at h
    split at h
    · split at h
      · next hr => exact fc_p_ret (v := none) ⟨hd, hr⟩ h
      · exact h.elim
    · exact h.elim
  | tableswitch df lo hi offs =>
    simp only [fc_okl, Bool.and_eq_true, decide_eq_true_eq, List.all_eq_true] at hl
    dsimp only [fc_step] at h
    split at h
    · next x st =>
      by_cases hout : x.toInt < lo ∨ hi < x.toInt
      · exact fc_p_tableOut hd hout (by rw [Int.toNat_of_nonneg hl.1]) (hj _ _ _ _ _ _ (h.1 hout))
      · have hin : lo ≤ x.toInt ∧ x.toInt ≤ hi := by omega
        obtain ⟨h1, h2⟩ := h.2 hin
        have hk : (x.toInt - lo).toNat < offs.toList.length := by omega
        have ho : offs.toList[(x.toInt - lo).toNat]? = some offs.toList[(x.toInt - lo).toNat] := List.getElem?_eq_getElem hk
        have hm := hl.2 _ (List.mem_of_getElem? ho)
        refine fc_p_tableIn hd (by omega) (by omega) (off := offs.toList[(x.toInt - lo).toNat]) (by rw [← Array.getElem?_toList]; exact ho) (by rw [Int.toNat_of_nonneg hm]) (hj _ _ _ _ _ _ ?_)
        have go : ∀ (os : List Int) (k : Int) (n : Nat) (o : Int), os[n]? = some o → x.toInt = k + n → fc_ts pc x (fun t => jmp t lv st mi ml mr) k os → jmp ((pc : Int) + o).toNat lv st mi ml mr := by
          intro os
          induction os with
          | nil => intro k n o h; simp at h
          | cons o' os ih =>
            intro k n o h hx hs
            cases n with
            | zero =>
              simp at h
              subst h
              exact hs.1 (by rw [show k = x.toInt by omega]; exact (Int32.ofInt_toInt x).symm)
            | succ n => exact ih (k + 1) n o (by simpa using h) (by omega) hs.2
        exact go _ lo _ _ ho (by omega) h1
    · exact h.elim
  | lookupswitch df qs =>
    simp only [fc_okl, Bool.and_eq_true, decide_eq_true_eq] at hl
    obtain ⟨hs, hdn, hl⟩ := hl
    rw [List.all_eq_true] at hl
    dsimp only [fc_step] at h
    split at h
    · next x st =>
      have go : ∀ (os : List (Int × Int)), (∀ o ∈ os, 0 ≤ (pc : Int) + o.2) → fc_lsw pc x (fun t => jmp t lv st mi ml mr) df os → ∃ off : Int, Op.lookupswitch.offset os df x.toInt = off ∧ 0 ≤ (pc : Int) + off ∧ jmp ((pc : Int) + off).toNat lv st mi ml mr := by
        intro os
        induction os with
        | nil => intro _ h; exact ⟨df, rfl, hdn, h⟩
        | cons o os ih =>
          intro hm h
          obtain ⟨k, off⟩ := o
          by_cases hk : x.toInt = k
          · exact ⟨off, by rw [Op.lookupswitch.offset_cons, if_pos hk.symm], hm (k, off) List.mem_cons_self, h.1 hk⟩
          · obtain ⟨off2, g1, g2, g3⟩ := ih (fun o ho => hm o (List.mem_cons_of_mem _ ho)) (h.2 hk)
            exact ⟨off2, by rw [Op.lookupswitch.offset_cons, if_neg (fun q => hk q.symm)]; exact g1, g2, g3⟩
      obtain ⟨off, g1, g2, g3⟩ := go _ (fun o ho => by simpa using hl o ho) h
      exact fc_p_lookup hd hs g1 (by rw [Int.toNat_of_nonneg g2]) (hj _ _ _ _ _ _ g3)
    · exact h.elim
  | invokevirtual n =>
    simp only [fc_okl, Bool.and_eq_true, beq_iff_eq] at hl
    obtain ⟨rfl, hl⟩ := hl
    dsimp only [fc_step] at h
    unfold fc_okv at hl
    split at hl
    · next t ht =>
      rw [ht] at h
      simp only [Bool.and_eq_true, beq_iff_eq, fc_at, decide_eq_true_eq] at hl
      obtain ⟨⟨hw, hg⟩, hk, hn, hv⟩ := hl
      have hG := fc_G_of _ hw hg
      obtain ⟨hm, hm0, -⟩ := fc_mtab_ok t (List.mem_of_getElem? ht)
      obtain ⟨hi, hse⟩ := hm0 hk
      split at h
      · next _ _ _ t' d0 heq =>
        cases heq
        split at h
        · next _ _ ci q hq =>
          obtain ⟨hs, h⟩ := h
          dsimp only at hv
          split at hv
          · next r hr =>
            simp only [Bool.and_eq_true, decide_eq_true_eq] at hv
            unfold fc_call at h
            split at h
            · next hb =>
              simp only [Bool.and_eq_true, Nat.ble_eq] at hb
              obtain ⟨Q', hR', hk'⟩ := h
              obtain ⟨e1, e2⟩ := fc_argsV hb.2 (by omega) hq
              rw [e1] at hR'
              have := fc_p_callV (lv := lv) (Q := Q) (cs := cs) hd hR' hm (by rw [List.length_reverse, List.length_take]; omega) hi hse hG hr hv.1 hv.2 hs hb.1 (fun v mi' ml' mr' hq => hgo _ _ _ _ _ (hk' v mi' ml' mr' hq))
              rwa [e2] at this
            · exact h.elim
          · cases hv
        · next _ _ u hq =>
          obtain ⟨hs, h⟩ := h
          simp only [decide_eq_true_eq] at hv
          unfold fc_call at h
          split at h
          · next hb =>
            simp only [Bool.and_eq_true, Nat.ble_eq] at hb
            obtain ⟨Q', hR', hk'⟩ := h
            obtain ⟨e1, e2⟩ := fc_argsV hb.2 (by omega) hq
            rw [e1] at hR'
            have := fc_p_callT (lv := lv) (Q := Q) (cs := cs) hd hR' hm (by rw [List.length_reverse, List.length_take]; omega) hi hse hG hv hs hb.1 (fun v mi' ml' mr' hq => hgo _ _ _ _ _ (hk' v mi' ml' mr' hq))
            rwa [e2] at this
          · exact h.elim
        · exact h.elim
      · exact h.elim
    · cases hl
  | invokestatic n =>
    simp only [fc_okl, Bool.and_eq_true, beq_iff_eq] at hl
    obtain ⟨rfl, hl⟩ := hl
    dsimp only [fc_step] at h
    unfold fc_oks at hl
    split at hl
    · split at hl
      · next t ht =>
        have h : fc_sS E d sh a b go lv st mi ml mr := h
        unfold fc_sS at h
        rw [ht] at h
        simp only [Bool.and_eq_true, beq_iff_eq, fc_at, decide_eq_true_eq] at hl
        obtain ⟨⟨hw, hg⟩, hk, hn⟩ := hl
        obtain ⟨hm, -, hm1⟩ := fc_mtab_ok t (List.mem_of_getElem? ht)
        cases d with
        | zero => exact h.elim
        | succ d0 =>
          have h : fc_call E t.1 d0 sh b go lv st mi ml mr := h
          unfold fc_call at h
          split at h
          · next hb =>
            simp only [Bool.and_eq_true, Nat.ble_eq] at hb
            obtain ⟨Q', hR', hk'⟩ := h
            have := fc_p_callS (lv := lv) (Q := Q) (cs := cs) hd hR' hm (by rw [List.length_reverse, List.length_take]; omega) (hm1 hk) (fc_G_of _ hw hg) hb.1 (fun v mi' ml' mr' hq => hgo _ _ _ _ _ (hk' v mi' ml' mr' hq))
            rwa [List.reverse_reverse, List.take_append_drop] at this
          · exact h.elim
      · cases hl
    · split at hl
      · next t ht =>
        have h : fc_sS E d sh a b go lv st mi ml mr := h
        unfold fc_sS at h
        rw [ht] at h
        simp only [Bool.and_eq_true, beq_iff_eq, decide_eq_true_eq] at hl
        obtain ⟨hw, hk, hn⟩ := hl
        obtain ⟨hm, -, hm1⟩ := fc_mtab_ok t (List.mem_of_getElem? ht)
        cases d with
        | zero => exact h.elim
        | succ d0 =>
          have h : fc_call E t.1 d0 sh b go lv st mi ml mr := h
          unfold fc_call at h
          split at h
          · next hb =>
            simp only [Bool.and_eq_true, Nat.ble_eq] at hb
            obtain ⟨Q', hR', hk'⟩ := h
            have := fc_p_callN (lv := lv) (Q := Q) (cs := cs) hd hR' hm (by rw [List.length_reverse, List.length_take]; omega) (hm1 hk) hw hb.1 (fun v mi' ml' mr' hq => hgo _ _ _ _ _ (hk' v mi' ml' mr' hq))
            rwa [List.reverse_reverse, List.take_append_drop] at this
          · exact h.elim
      · cases hl
    · simp only [fc_at, Bool.and_eq_true, decide_eq_true_eq] at hl
      have h : fc_sX go lv st mi ml mr := h
      unfold fc_sX at h
      split at h
      · split at h
        · next hb => exact fc_p_max hd (fc_G_of _ hl.1 hl.2) fc_wmax1 fc_wmath fc_wmax2 (by simpa using hb) (hgo _ _ _ _ _ h)
        · exact h.elim
      · exact h.elim
    · simp only [fc_at, Bool.and_eq_true, decide_eq_true_eq] at hl
      have h : fc_sN go lv st mi ml mr := h
      unfold fc_sN at h
      split at h
      · split at h
        · next hb => exact fc_p_min hd (fc_G_of _ hl.1 hl.2) fc_wmin1 fc_wmath fc_wmin2 (by simpa using hb) (hgo _ _ _ _ _ h)
        · exact h.elim
      · exact h.elim
    · simp only [fc_at, Bool.and_eq_true, decide_eq_true_eq] at hl
      have h : fc_sC sh go lv st mi ml mr := h
      unfold fc_sC at h
      split at h
      · split at h
        · next hb =>
          obtain ⟨n0, n1, h0, h1, ⟨h2, h3, h4, h5, h6⟩, h⟩ := h
          exact fc_p_copy hd (fc_G_of _ hl.1 hl.2) fc_wcop1 fc_wcop2 fc_wsys h0 h1 h2 h3 h4 h5 h6 (by simpa using hb) (hgo _ _ _ _ _ h)
        · exact h.elim
      · exact h.elim
    · exact (show False from h).elim
    · cases hl
  | _ => exact h.elim
def fc_pwp (E : fc_E) (y : fc_M) (d : Nat) (X : fc_Px) (cs : Nat × Nat) (sh : fc_Sh) (C : List fc_I) (stop : Nat → Bool) (Q : fc_Q) : Nat → List fc_I → fc_Go
  | 0, _ => fun _ _ _ _ _ => False
  | _ + 1, [] => fun _ _ _ _ _ => False
  | n + 1, x :: L => fc_step E y d sh (fc_go stop (fun pc lv st mi ml mr => fc_TP E y d X cs sh pc lv st mi ml mr Q) (fc_pwp E y d X cs sh C stop Q n) L) (fun t => fc_go stop (fun pc lv st mi ml mr => fc_TP E y d X cs sh pc lv st mi ml mr Q) (fc_pwp E y d X cs sh C stop Q n) (fc_find C t)) Q x
theorem fc_pwp_ok {E : fc_E} {y : fc_M} {d : Nat} {X : fc_Px} {cs : Nat × Nat} {sh : fc_Sh} {C : List fc_I} {stop : Nat → Bool} {Q : fc_Q} (hC : fc_okL y C) : ∀ (n : Nat) (x : fc_I) (L : List fc_I) (lv : List (Option Value)) (st : List Value) (mi : fc_Mi) (ml : fc_Ml) (mr : fc_Mr), fc_okL y (x :: L) → fc_pwp E y d X cs sh C stop Q n (x :: L) lv st mi ml mr → fc_TP E y d X cs sh x.1 lv st mi ml mr Q := by
  intro n
  induction n with
  | zero => intro x L lv st mi ml mr _ h; exact h.elim
  | succ n ih =>
    intro x L lv st mi ml mr hL h
    have key : ∀ (L' : List fc_I) (t : Nat), fc_okL y L' → (∀ z L'', L' = z :: L'' → z.1 = t) → ∀ lv st mi ml mr, fc_go stop (fun pc lv st mi ml mr => fc_TP E y d X cs sh pc lv st mi ml mr Q) (fc_pwp E y d X cs sh C stop Q n) L' lv st mi ml mr → fc_TP E y d X cs sh t lv st mi ml mr Q := by
      intro L' t hL' ht lv st mi ml mr h
      cases L' with
      | nil => exact h.elim
      | cons z L'' =>
        have e := ht z L'' rfl
        subst e
        simp only [fc_go] at h
        split at h
        · exact h
        · exact ih z L'' lv st mi ml mr hL' h
    refine fc_pstep_ok (hL.2 x List.mem_cons_self) (key L _ hL.tail ?_) (fun t => key _ t (hC.find t) (fun z L'' hz => fc_find_pc hz)) h
    intro z L'' hz
    subst hz
    have := hL.1
    simp only [fc_chain, Bool.and_eq_true, decide_eq_true_eq] at this
    exact this.1.symm
/-- THE WALK: from a place of the code, through it, to its ends and to where it stops -/
theorem fc_prun {E : fc_E} {y : fc_M} {d : Nat} {X : fc_Px} {cs : Nat × Nat} {sh : fc_Sh} {C : List fc_I} {Q : fc_Q} {pc : Nat} {lv : List (Option Value)} {st : List Value} {mi : fc_Mi} {ml : fc_Ml} {mr : fc_Mr} (hC : fc_code y C = true) (stop : Nat → Bool) (n : Nat)
    (h : fc_pwp E y d X cs sh C stop Q n (fc_find C pc) lv st mi ml mr) : fc_TP E y d X cs sh pc lv st mi ml mr Q := by
  have hL : fc_okL y C := by
    simp only [fc_code, Bool.and_eq_true, List.all_eq_true] at hC
    exact hC
  cases hf : fc_find C pc with
  | nil =>
    rw [hf] at h
    cases n <;> exact h.elim
  | cons x L =>
    rw [hf] at h
    have e := fc_find_pc hf
    subst e
    exact fc_pwp_ok hL n x L lv st mi ml mr (by rw [← hf]; exact hL.find _) h
