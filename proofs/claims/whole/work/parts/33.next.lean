/-! ===== the next token ===== -/
section M33
variable {E : fc_E} {d : Nat} {mi : fc_Mi} {ml : fc_Ml} {mr : fc_Mr} {n : Nat}
theorem nI_subn {a b : Nat} (h : b ≤ a) : nI a - nI b = nI (a - b) := by
  have e : nI a = nI (a - b) + nI b := by rw [nI_add]; congr 1; omega
  rw [e, Int32.sub_eq_add_neg, Int32.add_assoc, Int32.add_right_neg, Int32.add_zero]
theorem fc_u_53 (f : fc_Mi) (a b x z : Int32) : fc_u (fc_u (fc_u (fc_u f 1 5 a) 1 3 x) 1 5 b) 1 3 z = fc_u (fc_u f 1 5 b) 1 3 z := by
  rw [fc_u_uc _ 1 _ _ (show (3 : Nat) ≠ 5 by decide), fc_u_u, fc_u_u]
theorem fc_u_ne {α : Type} (f : Nat → Nat → α) (a : Nat) {j k : Nat} (x : α) (h : k ≠ j) : fc_u f a j x a k = f a k := by unfold fc_u; rw [if_pos rfl, if_neg h]
/-- nothing but the tape's own cell has moved -/
def fc_tm (mi mi' : fc_Mi) (ml ml' : fc_Ml) : Prop := (∀ x, x ≠ 1 → mi' x = mi x) ∧ (∀ x, x ≠ 1 → ml' x = ml x) ∧ mi' 1 1 = mi 1 1 ∧ mi' 1 7 = mi 1 7
def fc_nx (mi : fc_Mi) (ml : fc_Ml) (mr : fc_Mr) (n st : Nat) : fc_Q := fun v mi' ml' mr' => v = none ∧ mr' = mr ∧ fc_tm mi mi' ml ml' ∧ fc_Tj mi' ml' n st
theorem t_rn (hW : fc_Wd mr) (hT : fc_Tp mi n) {st en : Nat} {x : Int32} (h2 : mi 1 2 = nI st) (he : st ≤ en) (hn : en ≤ 1000) : fc_T E mX8_readNumber (d + 1) (0, 0) fc_sh 72 [some (.ref 1)] [] (fc_u (fc_u mi 1 5 x) 1 3 (nI en)) ml mr (fc_is none (fc_u (fc_u (fc_u mi 1 5 x) 1 3 (nI en)) 1 4 (if 4 < en - st then 2 else 3)) ml mr) := by
  have m3 : (fc_u (fc_u mi 1 5 x) 1 3 (nI en)) 1 3 = nI en := fc_u_at _ _ _ _
  have m2 : (fc_u (fc_u mi 1 5 x) 1 3 (nI en)) 1 2 = nI st := by rw [fc_u_ne _ _ _ (by decide), fc_u_ne _ _ _ (by decide), h2]
  have es := nI_subn he
  refine fc_run oX8_readNumber (fun _ => false) 400 ?_
  refine And.intro rfl ?_
  rw [m3]
  refine And.intro rfl ?_
  rw [m2]
  refine And.intro (fun h83 => ?_) (fun h83 => ?_)
  · replace h83 : nI (en - st) ≤ nI 4 := by rw [← es]; exact h83
    replace h83 := (nI_leI (by omega) (by omega)).mp h83
    refine And.intro rfl ?_
    exact ⟨rfl, by rw [if_neg (by omega)], rfl, rfl⟩
  · replace h83 : ¬ nI (en - st) ≤ nI 4 := by rw [← es]; exact h83
    replace h83 : 4 < en - st := by
      rcases Nat.lt_or_ge 4 (en - st) with q | q
      · exact q
      · exact absurd (nI_le q (by omega)) h83
    refine And.intro rfl ?_
    exact ⟨rfl, by rw [if_pos h83], rfl, rfl⟩

theorem l_rn (hW : fc_Wd mr) (hT : fc_Tp mi n) {st : Nat} (h2 : mi 1 2 = nI st) : ∀ (j e : Nat) (mm : fc_Mi), e + j = n → st ≤ e → mm = fc_u (fc_u mi 1 5 (tk_nb (mi 2) st (e - st))) 1 3 (nI e) → fc_T E mX8_readNumber (d + 1) (0, 0) fc_sh 5 [some (.ref 1)] [] mm ml mr (fc_is none (fc_u (fc_u (fc_u mi 1 5 (tk_nb (mi 2) st (tk_de (mi 2) n e - st))) 1 3 (nI (tk_de (mi 2) n e))) 1 4 (if 4 < tk_de (mi 2) n e - st then 2 else 3)) ml mr) := by
  have hT2 := hT.2
  intro j
  induction j with
  | zero =>
    intro e mm hj hse hm
    have m3 : mm 1 3 = nI e := by rw [hm, fc_u_at]
    have m1 : mm 1 1 = nI n := by rw [hm, fc_u_ne _ _ _ (by decide), fc_u_ne _ _ _ (by decide), hT.1]
    have m5 : mm 1 5 = tk_nb (mi 2) st (e - st) := by rw [hm, fc_u_ne _ _ _ (by decide), fc_u_at]
    have mz : mm 2 = mi 2 := by rw [hm]; rfl
    refine fc_run oX8_readNumber (fun pc => pc == 5 || pc == 72) 400 ?_
    refine And.intro rfl ?_
    rw [m3]
    refine And.intro rfl ?_
    rw [m1]
    refine And.intro (fun h13 => ?_) (fun h13 => ?_)
    · rw [hm, tk_de_o (show n ≤ e by omega)]
      exact t_rn hW hT h2 hse (by omega)
    · exact absurd (nI_le (by omega) (by omega)) h13
  | succ j ih =>
    intro e mm hj hse hm
    have m3 : mm 1 3 = nI e := by rw [hm, fc_u_at]
    have m1 : mm 1 1 = nI n := by rw [hm, fc_u_ne _ _ _ (by decide), fc_u_ne _ _ _ (by decide), hT.1]
    have m5 : mm 1 5 = tk_nb (mi 2) st (e - st) := by rw [hm, fc_u_ne _ _ _ (by decide), fc_u_at]
    have mz : mm 2 = mi 2 := by rw [hm]; rfl
    refine fc_run oX8_readNumber (fun pc => pc == 5 || pc == 72) 400 ?_
    refine And.intro rfl ?_
    rw [m3]
    refine And.intro rfl ?_
    rw [m1]
    refine And.intro (fun h13 => ?_) (fun h13 => ?_)
    · exact absurd h13 (nI_ge (by omega) (by omega))
    · refine And.intro rfl (Exists.intro _ (And.intro (hW 1 0 2 rfl) ?_))
      refine And.intro rfl ?_
      rw [m3]
      refine Exists.intro _ (Exists.intro _ (And.intro rfl (And.intro (fc_ix_nI (p := e) (by omega) (by omega)) ?_)))
      rw [mz]
      refine Exists.intro _ (And.intro (c_isFrom _ _ _) ?_)
      rintro _ _ _ _ ⟨rfl, rfl, rfl, rfl⟩
      refine And.intro (fun h32 => ?_) (fun h32 => ?_)
      · replace h32 := fc_b0.mp h32
        rw [hm, tk_de_n h32]
        exact t_rn hW hT h2 hse (by omega)
      · replace h32 := fc_b1.mp h32
        refine And.intro rfl ?_
        rw [m5]
        refine And.intro rfl (Exists.intro _ (And.intro (hW 1 0 2 rfl) ?_))
        refine And.intro rfl ?_
        rw [m3]
        refine Exists.intro _ (Exists.intro _ (And.intro rfl (And.intro (fc_ix_nI (p := e) (by omega) (by omega)) ?_)))
        rw [mz]
        refine And.intro rfl ?_
        refine And.intro rfl ?_
        rw [fc_u_ne _ _ _ (by decide), m3]
        refine And.intro rfl ?_
        rw [tk_de_s (s := mi 2) (show e < n by omega) h32]
        exact ih (e + 1) _ (by omega) (by omega) (by
          rw [hm, fc_u_53, show e + 1 - st = (e - st) + 1 by omega, show nI e + 1 = nI (e + 1) from nI_1 e]
          show _ = fc_u (fc_u mi 1 5 (tk_nb (mi 2) st (e - st) * 10 + (mi 2 (st + (e - st)) - 48))) 1 3 (nI (e + 1))
          rw [show st + (e - st) = e by omega])

theorem c_readNumber (hW : fc_Wd mr) (hT : fc_Tp mi n) {st : Nat} (h2 : mi 1 2 = nI st) (h3 : mi 1 3 = nI st) (hst : st ≤ n) : fc_R E mX8_readNumber (d + 1) fc_sh [.ref 1] mi ml mr (fc_is none (fc_u (fc_u (fc_u mi 1 5 (tk_nb (mi 2) st (tk_de (mi 2) n st - st))) 1 3 (nI (tk_de (mi 2) n st))) 1 4 (if 4 < tk_de (mi 2) n st - st then 2 else 3)) ml mr) := by
  refine fc_met rfl (Nat.le_of_ble_eq_true rfl) (fc_run oX8_readNumber (fun pc => pc == 5) 400 ?_)
  refine And.intro rfl ?_
  exact l_rn hW hT h2 (n - st) st _ (by omega) (Nat.le_refl _) (by rw [Nat.sub_self]; show fc_u mi 1 5 0 = fc_u (fc_u mi 1 5 0) 1 3 (nI st); rw [← h3, ← fc_u_ne mi 1 (j := 5) (k := 3) 0 (by decide), fc_u_self])

theorem t_rw (hW : fc_Wd mr) (hT : fc_Tp mi n) {st en : Nat} (h2 : mi 1 2 = nI st) (he : st ≤ en) (hn : en ≤ 1000) : fc_T E mX8_readWord (d + 5) (0, 0) fc_sh 76 [some (.ref 1), none] [] (fc_u mi 1 3 (nI en)) ml mr (fc_is none (fc_u (fc_u mi 1 3 (nI en)) 1 4 (if 8 < en - st then 2 else if tk_cl 0 (mi 2) n st en = -1 then 4 else 128 + tk_cl 0 (mi 2) n st en)) ml mr) := by
  have m3 : (fc_u mi 1 3 (nI en)) 1 3 = nI en := fc_u_at _ _ _ _
  have m2 : (fc_u mi 1 3 (nI en)) 1 2 = nI st := by rw [fc_u_ne _ _ _ (by decide), h2]
  have es := nI_subn he
  have hT3 : fc_Tp (fc_u mi 1 3 (nI en)) n := ⟨by rw [fc_u_ne _ _ _ (by decide), hT.1], hT.2⟩
  have cc := fun (d : Nat) => c_cellIn (E := E) (d := d) (ml := ml) (mr := mr) (mi := fc_u mi 1 3 (nI en)) hW hT3 (u := 0) (by decide) m2 (by omega) m3 (by omega)
  rw [show (fc_u mi 1 3 (nI en)) 2 = mi 2 from rfl, show UInt32.toNat 0 = 0 from rfl] at cc
  refine fc_run oX8_readWord (fun _ => false) 400 ?_
  refine And.intro rfl ?_
  rw [m3]
  refine And.intro rfl ?_
  rw [m2]
  refine And.intro (fun h87 => ?_) (fun h87 => ?_)
  · replace h87 : nI (en - st) ≤ nI 8 := by rw [← es]; exact h87
    replace h87 := (nI_leI (by omega) (by omega)).mp h87
    refine And.intro rfl (Exists.intro _ (And.intro (cc d) ?_))
    rintro _ _ _ _ ⟨rfl, rfl, rfl, rfl⟩
    refine And.intro (fun h106 => ?_) (fun h106 => ?_)
    · refine And.intro rfl ?_
      exact ⟨rfl, by rw [if_neg (by omega), if_pos h106], rfl, rfl⟩
    · refine And.intro rfl ?_
      exact ⟨rfl, by rw [if_neg (by omega), if_neg h106], rfl, rfl⟩
  · replace h87 : ¬ nI (en - st) ≤ nI 8 := by rw [← es]; exact h87
    replace h87 : 8 < en - st := by
      rcases Nat.lt_or_ge 8 (en - st) with q | q
      · exact q
      · exact absurd (nI_le q (by omega)) h87
    refine And.intro rfl ?_
    exact ⟨rfl, by rw [if_pos h87], rfl, rfl⟩

theorem l_rw (hW : fc_Wd mr) (hT : fc_Tp mi n) {st : Nat} (h2 : mi 1 2 = nI st) : ∀ (j e : Nat) (mm : fc_Mi) (mlm : fc_Ml), e + j = n → st ≤ e → mm = fc_u mi 1 3 (nI e) → mlm = fc_u ml 1 6 (tk_wd (mi 2) st (e - st)) → fc_T E mX8_readWord (d + 5) (0, 0) fc_sh 5 [some (.ref 1), none] [] mm mlm mr (fc_is none (fc_u (fc_u mi 1 3 (nI (tk_le (mi 2) n e))) 1 4 (if 8 < tk_le (mi 2) n e - st then 2 else if tk_cl 0 (mi 2) n st (tk_le (mi 2) n e) = -1 then 4 else 128 + tk_cl 0 (mi 2) n st (tk_le (mi 2) n e))) (fc_u ml 1 6 (tk_wd (mi 2) st (tk_le (mi 2) n e - st))) mr) := by
  have hT2 := hT.2
  intro j
  induction j with
  | zero =>
    intro e mm mlm hj hse hm hml
    have m3 : mm 1 3 = nI e := by rw [hm, fc_u_at]
    have m1 : mm 1 1 = nI n := by rw [hm, fc_u_ne _ _ _ (by decide), hT.1]
    have m6 : mlm 1 6 = tk_wd (mi 2) st (e - st) := by rw [hml, fc_u_at]
    have mz : mm 2 = mi 2 := by rw [hm]; rfl
    refine fc_run oX8_readWord (fun pc => pc == 5 || pc == 76) 400 ?_
    refine And.intro rfl ?_
    rw [m3]
    refine And.intro rfl ?_
    rw [m1]
    refine And.intro (fun h13 => ?_) (fun h13 => ?_)
    · rw [hm, hml, tk_le_o (show n ≤ e by omega)]
      exact t_rw hW hT h2 hse (by omega)
    · exact absurd (nI_le (by omega) (by omega)) h13
  | succ j ih =>
    intro e mm mlm hj hse hm hml
    have m3 : mm 1 3 = nI e := by rw [hm, fc_u_at]
    have m1 : mm 1 1 = nI n := by rw [hm, fc_u_ne _ _ _ (by decide), hT.1]
    have m6 : mlm 1 6 = tk_wd (mi 2) st (e - st) := by rw [hml, fc_u_at]
    have mz : mm 2 = mi 2 := by rw [hm]; rfl
    refine fc_run oX8_readWord (fun pc => pc == 5 || pc == 76) 400 ?_
    refine And.intro rfl ?_
    rw [m3]
    refine And.intro rfl ?_
    rw [m1]
    refine And.intro (fun h13 => ?_) (fun h13 => ?_)
    · exact absurd h13 (nI_ge (by omega) (by omega))
    · refine And.intro rfl (Exists.intro _ (And.intro (hW 1 0 2 rfl) ?_))
      refine And.intro rfl ?_
      rw [m3]
      refine Exists.intro _ (Exists.intro _ (And.intro rfl (And.intro (fc_ix_nI (p := e) (by omega) (by omega)) ?_)))
      rw [mz]
      refine Exists.intro _ (And.intro (c_isFrom _ _ _) ?_)
      rintro _ _ _ _ ⟨rfl, rfl, rfl, rfl⟩
      refine And.intro (fun h32 => ?_) (fun h32 => ?_)
      · replace h32 := fc_b0.mp h32
        rw [hm, hml, tk_le_n h32]
        exact t_rw hW hT h2 hse (by omega)
      · replace h32 := fc_b1.mp h32
        refine And.intro rfl ?_
        rw [m6]
        refine And.intro rfl (Exists.intro _ (And.intro (hW 1 0 2 rfl) ?_))
        refine And.intro rfl ?_
        rw [m3]
        refine Exists.intro _ (Exists.intro _ (And.intro rfl (And.intro (fc_ix_nI (p := e) (by omega) (by omega)) ?_)))
        rw [mz]
        refine And.intro rfl ?_
        refine And.intro rfl ?_
        rw [m3]
        refine And.intro rfl ?_
        rw [tk_le_s (s := mi 2) (show e < n by omega) h32]
        exact ih (e + 1) _ _ (by omega) (by omega) (by rw [hm, fc_u_u, show nI e + 1 = nI (e + 1) from nI_1 e]) (by
          rw [hml, fc_u_u, show e + 1 - st = (e - st) + 1 by omega]
          show _ = fc_u ml 1 6 (tk_wd (mi 2) st (e - st) * 32 + (mi 2 (st + (e - st)) - 97 + 1).toInt64)
          rw [show st + (e - st) = e by omega])

theorem c_readWord (hW : fc_Wd mr) (hT : fc_Tp mi n) {st : Nat} (h2 : mi 1 2 = nI st) (h3 : mi 1 3 = nI st) (hst : st ≤ n) : fc_R E mX8_readWord (d + 5) fc_sh [.ref 1] mi ml mr (fc_is none (fc_u (fc_u mi 1 3 (nI (tk_le (mi 2) n st))) 1 4 (if 8 < tk_le (mi 2) n st - st then 2 else if tk_cl 0 (mi 2) n st (tk_le (mi 2) n st) = -1 then 4 else 128 + tk_cl 0 (mi 2) n st (tk_le (mi 2) n st))) (fc_u ml 1 6 (tk_wd (mi 2) st (tk_le (mi 2) n st - st))) mr) := by
  refine fc_met rfl (Nat.le_of_ble_eq_true rfl) (fc_run oX8_readWord (fun pc => pc == 5) 400 ?_)
  refine And.intro rfl ?_
  exact l_rw hW hT h2 (n - st) st _ _ (by omega) (Nat.le_refl _) (by rw [← h3, fc_u_self]) (by rw [Nat.sub_self]; rfl)

theorem t_nx (hW : fc_Wd mr) (hT : fc_Tp mi n) {mm : fc_Mi} {st : Nat} (hm : mm = fc_u mi 1 3 (nI st)) (hst : st ≤ n) : fc_T E mX8_next (d + 6) (0, 0) fc_sh 52 [some (.ref 1)] [] mm ml mr (fc_nx mi ml mr n st) := by
  have hT2 := hT.2
  have m3 : mm 1 3 = nI st := by rw [hm, fc_u_at]
  have m1 : mm 1 1 = nI n := by rw [hm, fc_u_ne _ _ _ (by decide), hT.1]
  have mz : mm 2 = mi 2 := by rw [hm]; rfl
  have hS2 : (fc_u mm 1 2 (nI st)) 1 2 = nI st := fc_u_at _ _ _ _
  have hS3 : (fc_u mm 1 2 (nI st)) 1 3 = nI st := by rw [fc_u_ne _ _ _ (by decide), m3]
  have hS1 : (fc_u mm 1 2 (nI st)) 1 1 = nI n := by rw [fc_u_ne _ _ _ (by decide), m1]
  have hSz : (fc_u mm 1 2 (nI st)) 2 = mi 2 := mz
  have hST : fc_Tp (fc_u mm 1 2 (nI st)) n := ⟨hS1, hT2⟩
  have hof : ∀ x, x ≠ 1 → mm x = mi x := fun x hx => by rw [hm, fc_u_off _ _ _ hx]
  have m7 : mm 1 7 = mi 1 7 := by rw [hm, fc_u_ne _ _ _ (by decide)]
  have m1' : mm 1 1 = mi 1 1 := by rw [m1, hT.1]
  refine fc_run oX8_next (fun _ => false) 400 ?_
  refine And.intro rfl ?_
  rw [m3]
  refine And.intro rfl ?_
  refine And.intro rfl ?_
  rw [hS2]
  refine And.intro rfl ?_
  rw [hS1]
  refine And.intro (fun h68 => ?_) (fun h68 => ?_)
  · have hlt : st < n := (nI_ltI (by omega) (by omega)).mp h68
    refine And.intro rfl (Exists.intro _ (And.intro (hW 1 0 2 rfl) ?_))
    refine And.intro rfl ?_
    rw [hS2]
    refine Exists.intro _ (Exists.intro _ (And.intro rfl (And.intro (fc_ix_nI (p := st) (by omega) (by omega)) ?_)))
    rw [hSz]
    refine Exists.intro _ (And.intro (c_isFrom _ _ _) ?_)
    rintro _ _ _ _ ⟨rfl, rfl, rfl, rfl⟩
    refine And.intro (fun h95 => ?_) (fun h95 => ?_)
    · replace h95 := fc_b0.mp h95
      replace h95 : tk_lt (mi 2 st) = false := h95
      refine And.intro rfl (Exists.intro _ (And.intro (hW 1 0 2 rfl) ?_))
      refine And.intro rfl ?_
      rw [hS2]
      refine Exists.intro _ (Exists.intro _ (And.intro rfl (And.intro (fc_ix_nI (p := st) (by omega) (by omega)) ?_)))
      rw [hSz]
      refine Exists.intro _ (And.intro (c_isFrom _ _ _) ?_)
      rintro _ _ _ _ ⟨rfl, rfl, rfl, rfl⟩
      refine And.intro (fun h121 => ?_) (fun h121 => ?_)
      · replace h121 := fc_b0.mp h121
        replace h121 : tk_dg (mi 2 st) = false := h121
        refine And.intro rfl (Exists.intro _ (And.intro (hW 1 0 2 rfl) ?_))
        refine And.intro rfl ?_
        rw [hS2]
        refine Exists.intro _ (Exists.intro _ (And.intro rfl (And.intro (fc_ix_nI (p := st) (by omega) (by omega)) ?_)))
        rw [hSz]
        refine And.intro (by decide) (Exists.intro _ (And.intro (c_ix (u := 1) (by decide) _) ?_))
        rintro _ _ _ _ ⟨rfl, rfl, rfl, rfl⟩
        refine And.intro (fun h146 => ?_) (fun h146 => ?_)
        · replace h146 : sp_ix 1 (mi 2 st) < 0 := h146
          refine And.intro rfl ?_
          refine And.intro rfl ?_
          refine And.intro rfl ?_
          refine ⟨rfl, rfl, ⟨fun x hx => ?_, fun x hx => ?_, ?_, ?_⟩, hst, ?_, ?_, ?_, ?_, ?_⟩
          · repeat rw [fc_u_off _ _ _ hx]
            exact hof x hx
          · first | rfl | rw [fc_u_off _ _ _ hx]
          · simp [fc_u, m1']
          · simp [fc_u, m7]
          · simp [fc_u]
          · show _ = nI (tk_en ((fc_u mm 1 2 (nI st)) 2) n st)
            rw [hSz, tk_en, if_neg (by omega), if_neg (by rw [h95]; decide), if_neg (by rw [h121]; decide)]; simp [fc_u, m3, nI_1]
          · show _ = tk_kd ((fc_u mm 1 2 (nI st)) 2) n st
            rw [hSz, tk_kd, if_neg (by omega), if_neg (by rw [h95]; decide), if_neg (by rw [h121]; decide), if_pos h146]; simp [fc_u]
          · intro _ _ q
            exact absurd (show tk_dg ((fc_u mm 1 2 (nI st)) 2 st) = true from q) (by rw [hSz, h121]; decide)
          · intro _ q
            exact absurd (show tk_lt ((fc_u mm 1 2 (nI st)) 2 st) = true from q) (by rw [hSz, h95]; decide)
        · replace h146 : ¬ sp_ix 1 (mi 2 st) < 0 := h146
          refine And.intro rfl (Exists.intro _ (And.intro (hW 1 0 2 rfl) ?_))
          refine And.intro rfl ?_
          rw [hS2]
          refine Exists.intro _ (Exists.intro _ (And.intro rfl (And.intro (fc_ix_nI (p := st) (by omega) (by omega)) ?_)))
          rw [hSz]
          refine And.intro rfl ?_
          refine And.intro rfl ?_
          refine And.intro rfl ?_
          refine ⟨rfl, rfl, ⟨fun x hx => ?_, fun x hx => ?_, ?_, ?_⟩, hst, ?_, ?_, ?_, ?_, ?_⟩
          · repeat rw [fc_u_off _ _ _ hx]
            exact hof x hx
          · first | rfl | rw [fc_u_off _ _ _ hx]
          · simp [fc_u, m1']
          · simp [fc_u, m7]
          · simp [fc_u]
          · show _ = nI (tk_en ((fc_u mm 1 2 (nI st)) 2) n st)
            rw [hSz, tk_en, if_neg (by omega), if_neg (by rw [h95]; decide), if_neg (by rw [h121]; decide)]; simp [fc_u, m3, nI_1]
          · show _ = tk_kd ((fc_u mm 1 2 (nI st)) 2) n st
            rw [hSz, tk_kd, if_neg (by omega), if_neg (by rw [h95]; decide), if_neg (by rw [h121]; decide), if_neg h146]; simp [fc_u]
          · intro _ _ q
            exact absurd (show tk_dg ((fc_u mm 1 2 (nI st)) 2 st) = true from q) (by rw [hSz, h121]; decide)
          · intro _ q
            exact absurd (show tk_lt ((fc_u mm 1 2 (nI st)) 2 st) = true from q) (by rw [hSz, h95]; decide)
      · replace h121 := fc_b1.mp h121
        replace h121 : tk_dg (mi 2 st) = true := h121
        refine And.intro rfl (Exists.intro _ (And.intro (show fc_R E mX8_readNumber (d + 5) fc_sh [.ref 1] (fc_u mm 1 2 (nI st)) ml mr _ from c_readNumber hW hST hS2 hS3 hst) ?_))
        rintro _ _ _ _ ⟨rfl, rfl, rfl, rfl⟩
        have e1 : tk_en (mi 2) n st = tk_de (mi 2) n st := by rw [tk_en, if_neg (by omega), if_neg (by rw [h95]; decide), if_pos h121]
        have e2 : tk_kd (mi 2) n st = (if 4 < tk_de (mi 2) n st - st then 2 else 3) := by rw [tk_kd, if_neg (by omega), if_neg (by rw [h95]; decide), if_pos h121]
        refine ⟨rfl, rfl, ⟨fun x hx => ?_, fun x hx => ?_, ?_, ?_⟩, hst, ?_, ?_, ?_, ?_, ?_⟩
        · repeat rw [fc_u_off _ _ _ hx]
          exact hof x hx
        · first | rfl | rw [fc_u_off _ _ _ hx]
        · simp [fc_u, m1']
        · simp [fc_u, m7]
        · simp [fc_u]
        · show _ = nI (tk_en ((fc_u mm 1 2 (nI st)) 2) n st)
          rw [hSz, e1]; simp [fc_u, hm]
        · show _ = tk_kd ((fc_u mm 1 2 (nI st)) 2) n st
          rw [hSz, e2]; simp [fc_u, hm]
        · intro _ _ _
          show _ = tk_nb ((fc_u mm 1 2 (nI st)) 2) st (tk_en ((fc_u mm 1 2 (nI st)) 2) n st - st)
          rw [hSz, e1]; simp [fc_u, hm]
        · intro _ q
          exact absurd (show tk_lt ((fc_u mm 1 2 (nI st)) 2 st) = true from q) (by rw [hSz, h95]; decide)
    · replace h95 := fc_b1.mp h95
      replace h95 : tk_lt (mi 2 st) = true := h95
      refine And.intro rfl (Exists.intro _ (And.intro (show fc_R E mX8_readWord (d + 5) fc_sh [.ref 1] (fc_u mm 1 2 (nI st)) ml mr _ from c_readWord hW hST hS2 hS3 hst) ?_))
      rintro _ _ _ _ ⟨rfl, rfl, rfl, rfl⟩
      have e1 : tk_en (mi 2) n st = tk_le (mi 2) n st := by rw [tk_en, if_neg (by omega), if_pos h95]
      have e2 : tk_kd (mi 2) n st = (if 8 < tk_le (mi 2) n st - st then 2 else if tk_cl 0 (mi 2) n st (tk_le (mi 2) n st) = -1 then 4 else 128 + tk_cl 0 (mi 2) n st (tk_le (mi 2) n st)) := by rw [tk_kd, if_neg (by omega), if_pos h95]
      refine ⟨rfl, rfl, ⟨fun x hx => ?_, fun x hx => ?_, ?_, ?_⟩, hst, ?_, ?_, ?_, ?_, ?_⟩
      · repeat rw [fc_u_off _ _ _ hx]
        exact hof x hx
      · first | rfl | rw [fc_u_off _ _ _ hx]
      · simp [fc_u, m1']
      · simp [fc_u, m7]
      · simp [fc_u]
      · show _ = nI (tk_en ((fc_u mm 1 2 (nI st)) 2) n st)
        rw [hSz, e1]; simp [fc_u, hm]
      · show _ = tk_kd ((fc_u mm 1 2 (nI st)) 2) n st
        rw [hSz, e2]; simp [fc_u, hm]
      · intro _ q
        exact absurd (show tk_lt ((fc_u mm 1 2 (nI st)) 2 st) = true from by rw [hSz]; exact h95) (by rw [show tk_lt ((fc_u mm 1 2 (nI st)) 2 st) = false from q]; decide)
      · intro _ _
        show _ = tk_wd ((fc_u mm 1 2 (nI st)) 2) st (tk_en ((fc_u mm 1 2 (nI st)) 2) n st - st)
        rw [hSz, e1]; simp [fc_u, hm]
  · have hge : n ≤ st := by
      rcases Nat.lt_or_ge st n with q | q
      · exact absurd (nI_lt q (by omega)) h68
      · exact q
    refine And.intro rfl ?_
    refine ⟨rfl, rfl, ⟨fun x hx => ?_, fun x hx => ?_, ?_, ?_⟩, hst, ?_, ?_, ?_, ?_, ?_⟩
    · repeat rw [fc_u_off _ _ _ hx]
      exact hof x hx
    · first | rfl | rw [fc_u_off _ _ _ hx]
    · simp [fc_u, m1']
    · simp [fc_u, m7]
    · simp [fc_u]
    · show _ = nI (tk_en ((fc_u mm 1 2 (nI st)) 2) n st)
      rw [hSz, tk_en, if_pos hge]; simp [fc_u, m3]
    · show _ = tk_kd ((fc_u mm 1 2 (nI st)) 2) n st
      rw [hSz, tk_kd, if_pos hge]; simp [fc_u]
    · intro q; omega
    · intro q; omega

theorem tk_sk_s {s : Nat → Int32} {n e : Nat} (h : e < n) (hl : sp_bl (s e) = true) : tk_sk s n e = tk_sk s n (e + 1) := by
  unfold tk_sk
  rw [show n - e = (n - (e + 1)) + 1 by omega, sp_skf, if_pos hl]
theorem tk_sk_n {s : Nat → Int32} {n e : Nat} (hl : sp_bl (s e) = false) : tk_sk s n e = e := by
  unfold tk_sk
  rcases h : n - e with _ | k
  · rfl
  · rw [sp_skf, if_neg (by rw [hl]; decide)]
theorem tk_sk_o {s : Nat → Int32} {n e : Nat} (hl : n ≤ e) : tk_sk s n e = e := by
  unfold tk_sk
  rw [show n - e = 0 by omega]; rfl
theorem l_nx (hW : fc_Wd mr) (hT : fc_Tp mi n) : ∀ (j e : Nat) (mm : fc_Mi), e + j = n → mm = fc_u mi 1 3 (nI e) → fc_T E mX8_next (d + 6) (0, 0) fc_sh 0 [some (.ref 1)] [] mm ml mr (fc_nx mi ml mr n (tk_sk (mi 2) n e)) := by
  have hT2 := hT.2
  intro j
  induction j with
  | zero =>
    intro e mm hj hm
    have m3 : mm 1 3 = nI e := by rw [hm, fc_u_at]
    have m1 : mm 1 1 = nI n := by rw [hm, fc_u_ne _ _ _ (by decide), hT.1]
    have mz : mm 2 = mi 2 := by rw [hm]; rfl
    refine fc_run oX8_next (fun pc => pc == 0 || pc == 52) 400 ?_
    refine And.intro rfl ?_
    rw [m3]
    refine And.intro rfl ?_
    rw [m1]
    refine And.intro (fun h8 => ?_) (fun h8 => ?_)
    · rw [tk_sk_o (show n ≤ e by omega)]
      exact t_nx hW hT hm (by omega)
    · exact absurd (nI_le (by omega) (by omega)) h8
  | succ j ih =>
    intro e mm hj hm
    have m3 : mm 1 3 = nI e := by rw [hm, fc_u_at]
    have m1 : mm 1 1 = nI n := by rw [hm, fc_u_ne _ _ _ (by decide), hT.1]
    have mz : mm 2 = mi 2 := by rw [hm]; rfl
    refine fc_run oX8_next (fun pc => pc == 0 || pc == 52) 400 ?_
    refine And.intro rfl ?_
    rw [m3]
    refine And.intro rfl ?_
    rw [m1]
    refine And.intro (fun h8 => ?_) (fun h8 => ?_)
    · exact absurd h8 (nI_ge (by omega) (by omega))
    · refine And.intro rfl (Exists.intro _ (And.intro (hW 1 0 2 rfl) ?_))
      refine And.intro rfl ?_
      rw [m3]
      refine Exists.intro _ (Exists.intro _ (And.intro rfl (And.intro (fc_ix_nI (p := e) (by omega) (by omega)) ?_)))
      rw [mz]
      refine And.intro (fun h22 => ?_) (fun h22 => ?_)
      · refine And.intro rfl ?_
        rw [m3]
        refine And.intro rfl ?_
        rw [tk_sk_s (s := mi 2) (show e < n by omega) (show sp_bl (mi 2 e) = true from by simp [sp_bl, h22])]
        exact ih (e + 1) _ (by omega) (by rw [hm, fc_u_u, show nI e + 1 = nI (e + 1) from nI_1 e])
      · refine And.intro rfl (Exists.intro _ (And.intro (hW 1 0 2 rfl) ?_))
        refine And.intro rfl ?_
        rw [m3]
        refine Exists.intro _ (Exists.intro _ (And.intro rfl (And.intro (fc_ix_nI (p := e) (by omega) (by omega)) ?_)))
        rw [mz]
        refine And.intro (fun h36 => ?_) (fun h36 => ?_)
        · refine And.intro rfl ?_
          rw [m3]
          refine And.intro rfl ?_
          rw [tk_sk_s (s := mi 2) (show e < n by omega) (show sp_bl (mi 2 e) = true from by simp [sp_bl, h36])]
          exact ih (e + 1) _ (by omega) (by rw [hm, fc_u_u, show nI e + 1 = nI (e + 1) from nI_1 e])
        · rw [tk_sk_n (s := mi 2) (show sp_bl (mi 2 e) = false from by simp [sp_bl, h22, h36])]
          exact t_nx hW hT hm (by omega)

theorem c_nextAt (hW : fc_Wd mr) (hT : fc_Tp mi n) {e : Nat} (h3 : mi 1 3 = nI e) (he : e ≤ n) : fc_R E mX8_next (d + 6) fc_sh [.ref 1] mi ml mr (fc_nx mi ml mr n (tk_sk (mi 2) n e)) :=
  fc_met rfl (Nat.le_of_ble_eq_true rfl) (l_nx hW hT (n - e) e _ (by omega) (by rw [← h3, fc_u_self]))
end M33
