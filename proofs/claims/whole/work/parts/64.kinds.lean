/-! ===== a token, as the class sees it and as the reference does ===== -/
/-- signs that a tape can hold -/
def okc (s : Nat → Int32) (n : Nat) : Prop := ∀ j, j < n → ∃ c, c < 127 ∧ s j = nI c
theorem sg_ix : ∀ c, c < 127 → (isg (nI c) = true ↔ ¬ sp_ix 1 (nI c) < 0) := by decide +kernel
section M64
variable {s : Nat → Int32} {n st : Nat}
theorem tk_le_in (h : st ≤ n) : ∀ j, j < tk_le s n st - st → tk_lt (s (st + j)) = true := fun j hj => sp_skf_in (P := fun k => tk_lt (s k)) (n - st) st (st + j) (by omega) (by unfold tk_le at hj; omega)
theorem tk_de_in (h : st ≤ n) : ∀ j, j < tk_de s n st - st → tk_dg (s (st + j)) = true := fun j hj => sp_skf_in (P := fun k => tk_dg (s k)) (n - st) st (st + j) (by omega) (by unfold tk_de at hj; omega)
theorem n10_n : ∀ {l : Nat}, l ≤ 4 → (∀ j, j < l → tk_dg (s (st + j)) = true) → ∃ a, a < 10 ^ l ∧ tk_nb s st l = nI a ∧ n10 s st l = lN a
  | 0, _, _ => ⟨0, by decide, rfl, rfl⟩
  | k + 1, h4, h => by
    obtain ⟨a, h1, h2, h3⟩ := n10_n (l := k) (by omega) (fun j hj => h j (by omega))
    obtain ⟨c, c1, c2, e⟩ := tk_dg_n (h k (by omega))
    refine ⟨10 * a + (c - 48), by rw [Nat.pow_succ]; omega, ?_, ?_⟩
    · rw [tk_nb, h2, e, show (48 : Int32) = nI 48 from rfl, pk_sub (by omega), show (10 : Int32) = nI 10 from rfl, pk_mul, nI_add, Nat.mul_comm]
    · rw [n10, if_pos (by omega), h3, e, nI_l (by omega), show (10 : Int64) = lN 10 from rfl, lN_mul, lN_add, show (48 : Int64) = lN 48 from rfl, lN_sub (by omega)]
      congr 1; omega
/-- every token, by its kind -/
def tkc (s : Nat → Int32) (n st : Nat) : Prop :=
  (n ≤ st ∧ rk s n st = 0 ∧ tk_kd s n st = 1) ∨
  (st < n ∧ rk s n st = 4 ∧ tk_kd s n st = 2) ∨
  (st < n ∧ rk s n st = 1 ∧ ∃ c, c < 21 ∧ tk_kd s n st = nI (128 + c) ∧ rw_ s n st = kwv c) ∨
  (st < n ∧ rk s n st = 1 ∧ tk_kd s n st = 4 ∧ (∀ c, c < 21 → ¬ rw_ s n st = kwv c) ∧ wpr (tk_wd s st (tk_en s n st - st)) (rw_ s n st) ∧ ((∃ c, c < 4 ∧ tk_cl 2 s n st (tk_en s n st) = nI c ∧ rw_ s n st = kwv (21 + c)) ∨ (tk_cl 2 s n st (tk_en s n st) = -1 ∧ ∀ c, c < 4 → ¬ rw_ s n st = kwv (21 + c)))) ∨
  (st < n ∧ rk s n st = 2 ∧ tk_kd s n st = 3 ∧ ∃ a, a < 10000 ∧ tk_nb s st (tk_en s n st - st) = nI a ∧ rw_ s n st = lN a) ∨
  (st < n ∧ rk s n st = 3 ∧ ∃ c, c < 127 ∧ tk_kd s n st = nI c ∧ isg (nI c) = true ∧ rw_ s n st = lN c)
theorem kwv_d : ∀ f, f < 4 → ∀ c, c < 21 → ¬ kwv (21 + f) = kwv c := by decide +kernel
theorem fc_tl0 : fc_tl.getD 0 0 / 8 = 21 := by decide
theorem fc_tl2 : fc_tl.getD 2 0 / 8 = 4 := by decide
theorem tkc_all (ho : okc s n) (hst : st ≤ n) : tkc s n st := by
  unfold tkc
  by_cases h0 : n ≤ st
  · exact Or.inl ⟨h0, by rw [rk, if_pos h0], by rw [tk_kd, if_pos h0]⟩
  have hlt : st < n := by omega
  refine Or.inr ?_
  cases hl : tk_lt (s st) with
  | true =>
    have hen : tk_en s n st = tk_le s n st := by rw [tk_en, if_neg h0, if_pos hl]
    by_cases h8 : 8 < tk_le s n st - st
    · exact Or.inl ⟨hlt, by rw [rk, if_neg h0, if_pos hl, if_pos h8], by rw [tk_kd, if_neg h0, if_pos hl, if_pos h8]⟩
    refine Or.inr ?_
    have hb := tk_le_b (s := s) hst
    have hin := tk_le_in (s := s) hst
    have hrk : rk s n st = 1 := by rw [rk, if_neg h0, if_pos hl, if_neg h8]
    have hrw : rw_ s n st = w37 s st (tk_le s n st - st) := by rw [rw_, if_pos hl]
    have hee : st + (tk_le s n st - st) = tk_le s n st := by omega
    have key : ∀ q c v, (kwl q c ≤ 8 ∧ v = lN (wn37 (kwc q c) (kwl q c)) ∧ (∀ j, j < 8 → (j < kwl q c → tk_lt (fc_ch q (8 * c + j)) = true) ∧ (¬ j < kwl q c → fc_ch q (8 * c + j) = 32))) → ((∀ j, j < 8 → fc_ch q (8 * c + j) = tk_sg s n st (tk_le s n st) j) ↔ rw_ s n st = v) := by
      intro q c v hk
      have := kw_m (s := s) (n := n) (st := st) (l := tk_le s n st - st) hk (by omega) (by omega) hin
      rw [hee] at this
      rw [hrw]; exact this
    rcases tk_ce_c (q := 0) (g := tk_sg s n st (tk_le s n st)) (fc_tl.getD 0 0 / 8) 0 with ⟨c, c1, c2, c3, c4⟩ | ⟨c1, c2⟩
    · rw [fc_tl0] at c2
      refine Or.inl ⟨hlt, hrk, c, by omega, ?_, (key 0 c _ (kw_0 c (by omega))).mp c3⟩
      have hcl : tk_cl 0 s n st (tk_le s n st) = nI c := c4
      rw [tk_kd, if_neg h0, if_pos hl, if_neg h8, hcl, if_neg (fun e => absurd (show nI c < 0 by rw [e]; decide) (nI_pos (by omega))), show (128 : Int32) = nI 128 from rfl, nI_add]
    · rw [fc_tl0] at c1
      have hcl : tk_cl 0 s n st (tk_le s n st) = -1 := c2
      refine Or.inr (Or.inl ⟨hlt, hrk, ?_, fun c hc e => c1 c (by omega) (by omega) ((key 0 c _ (kw_0 c hc)).mpr e), ?_, ?_⟩)
      · rw [tk_kd, if_neg h0, if_pos hl, if_neg h8, hcl, if_pos rfl]
      · rw [hen]
        exact ⟨ltn s st, tk_le s n st - st, by omega, ltn_lt hin, w32_n (by omega) hin, by rw [hrw]; exact w37_n (by omega) hin⟩
      · rw [hen]
        rcases tk_ce_c (q := 2) (g := tk_sg s n st (tk_le s n st)) (fc_tl.getD 2 0 / 8) 0 with ⟨c, d1, d2, d3, d4⟩ | ⟨d1, d2⟩
        · rw [fc_tl2] at d2
          exact Or.inl ⟨c, by omega, d4, (key 2 c _ (kw_2 c (by omega))).mp d3⟩
        · rw [fc_tl2] at d1
          exact Or.inr ⟨d2, fun c hc e => d1 c (by omega) (by omega) ((key 2 c _ (kw_2 c hc)).mpr e)⟩
  | false =>
    have nl : ¬ (false : Bool) = true := by decide
    cases hd : tk_dg (s st) with
    | true =>
      have hen : tk_en s n st = tk_de s n st := by rw [tk_en, if_neg h0, hl, if_neg nl, if_pos hd]
      by_cases h4 : 4 < tk_de s n st - st
      · exact Or.inl ⟨hlt, by rw [rk, if_neg h0, hl, if_neg nl, if_pos hd, if_pos h4], by rw [tk_kd, if_neg h0, hl, if_neg nl, if_pos hd, if_pos h4]⟩
      · refine Or.inr (Or.inr (Or.inr (Or.inl ⟨hlt, by rw [rk, if_neg h0, hl, if_neg nl, if_pos hd, if_neg h4], by rw [tk_kd, if_neg h0, hl, if_neg nl, if_pos hd, if_neg h4], ?_⟩)))
        obtain ⟨a, a1, a2, a3⟩ := n10_n (s := s) (st := st) (l := tk_de s n st - st) (by omega) (tk_de_in hst)
        have : (10 : Nat) ^ (tk_de s n st - st) ≤ 10 ^ 4 := Nat.pow_le_pow_right (by omega) (by omega)
        have e4 : (10 : Nat) ^ 4 = 10000 := by decide
        exact ⟨a, by omega, by rw [hen]; exact a2, by rw [rw_, hl, if_neg nl, if_pos hd]; exact a3⟩
    | false =>
      obtain ⟨c, c1, c2⟩ := ho st hlt
      by_cases hg : isg (nI c) = true
      · refine Or.inr (Or.inr (Or.inr (Or.inr ⟨hlt, by rw [rk, if_neg h0, hl, if_neg nl, hd, if_neg nl, c2, if_pos hg], c, c1, ?_, hg, ?_⟩)))
        · rw [tk_kd, if_neg h0, hl, if_neg nl, hd, if_neg nl, c2, if_neg ((sg_ix c c1).mp hg)]
        · rw [rw_, hl, if_neg nl, hd, if_neg nl, c2, nI_l (by omega)]
      · refine Or.inl ⟨hlt, by rw [rk, if_neg h0, hl, if_neg nl, hd, if_neg nl, c2, if_neg hg], ?_⟩
        have : sp_ix 1 (nI c) < 0 := by
          by_cases q : sp_ix 1 (nI c) < 0
          · exact q
          · exact absurd ((sg_ix c c1).mpr q) hg
        rw [tk_kd, if_neg h0, hl, if_neg nl, hd, if_neg nl, c2, if_pos this]
end M64
