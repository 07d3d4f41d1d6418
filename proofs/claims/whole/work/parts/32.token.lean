/-! ===== the tokens of a tape: s its signs, n how many ===== -/
section M32
variable {E : fc_E} {d : Nat} {mi : fc_Mi} {ml : fc_Ml} {mr : fc_Mr} {n : Nat}
def tk_lt (x : Int32) : Bool := sp_from 97 x 122
def tk_dg (x : Int32) : Bool := sp_from 48 x 57
def tk_sk (s : Nat → Int32) (n e : Nat) : Nat := sp_skf (fun k => sp_bl (s k)) (n - e) e
def tk_le (s : Nat → Int32) (n e : Nat) : Nat := sp_skf (fun k => tk_lt (s k)) (n - e) e
def tk_de (s : Nat → Int32) (n e : Nat) : Nat := sp_skf (fun k => tk_dg (s k)) (n - e) e
def tk_en (s : Nat → Int32) (n st : Nat) : Nat := if n ≤ st then st else if tk_lt (s st) then tk_le s n st else if tk_dg (s st) then tk_de s n st else st + 1
def tk_wd (s : Nat → Int32) (st : Nat) : Nat → Int64
  | 0 => 0
  | j + 1 => tk_wd s st j * 32 + (s (st + j) - 97 + 1).toInt64
def tk_nb (s : Nat → Int32) (st : Nat) : Nat → Int32
  | 0 => 0
  | j + 1 => tk_nb s st j * 10 + (s (st + j) - 48)
/-- the l-th sign of the word from st to en, blanks behind it -/
def tk_sg (s : Nat → Int32) (n st en l : Nat) : Int32 := if st + l < en ∧ st + l < n then s (st + l) else 32
def tk_cn (P : Nat → Bool) : Nat → Int32
  | 0 => 0
  | l + 1 => if P l then tk_cn P l + 1 else tk_cn P l
def tk_ce (q : Nat) (g : Nat → Int32) : Nat → Nat → Int32
  | 0, _ => -1
  | j + 1, c => if tk_cn (fun l => decide (fc_ch q (8 * c + l) = g l)) 8 = 8 then nI c else tk_ce q g j (c + 1)
/-- the cell of a text that the word is in -/
def tk_cl (q : Nat) (s : Nat → Int32) (n st en : Nat) : Int32 := tk_ce q (tk_sg s n st en) (fc_tl.getD q 0 / 8) 0
def tk_kd (s : Nat → Int32) (n st : Nat) : Int32 :=
  if n ≤ st then 1 else if tk_lt (s st) then (if 8 < tk_le s n st - st then 2 else if tk_cl 0 s n st (tk_le s n st) = -1 then 4 else 128 + tk_cl 0 s n st (tk_le s n st))
  else if tk_dg (s st) then (if 4 < tk_de s n st - st then 2 else 3) else if sp_ix 1 (s st) < 0 then 2 else s st
/-- the tokens' starts -/
def tS (s : Nat → Int32) (n : Nat) : Nat → Nat
  | 0 => tk_sk s n 0
  | i + 1 => tk_sk s n (tk_en s n (tS s n i))
def tE (s : Nat → Int32) (n i : Nat) : Nat := tk_en s n (tS s n i)
def tK (s : Nat → Int32) (n i : Nat) : Int32 := tk_kd s n (tS s n i)
def tN (s : Nat → Int32) (n i : Nat) : Int32 := tk_nb s (tS s n i) (tE s n i - tS s n i)
def tW (s : Nat → Int32) (n i : Nat) : Int64 := tk_wd s (tS s n i) (tE s n i - tS s n i)
/-- the token at hand, by its start -/
def fc_Tj (mi : fc_Mi) (ml : fc_Ml) (n st : Nat) : Prop := st ≤ n ∧ mi 1 2 = nI st ∧ mi 1 3 = nI (tk_en (mi 2) n st) ∧ mi 1 4 = tk_kd (mi 2) n st ∧ (st < n → tk_lt (mi 2 st) = false → tk_dg (mi 2 st) = true → mi 1 5 = tk_nb (mi 2) st (tk_en (mi 2) n st - st)) ∧ (st < n → tk_lt (mi 2 st) = true → ml 1 6 = tk_wd (mi 2) st (tk_en (mi 2) n st - st))
theorem sp_skf_stop {P : Nat → Bool} : ∀ (j e : Nat), sp_skf P j e < e + j → P (sp_skf P j e) = false
  | 0, e, h => absurd h (by simp [sp_skf])
  | j + 1, e, h => by
    unfold sp_skf at h ⊢
    by_cases q : P e = true
    · rw [if_pos q] at h ⊢
      exact sp_skf_stop j (e + 1) (by omega)
    · rw [if_neg q]
      simpa using q
theorem sp_skf_in {P : Nat → Bool} : ∀ (j e k : Nat), e ≤ k → k < sp_skf P j e → P k = true
  | 0, e, k, h1, h2 => absurd h2 (by simp [sp_skf]; omega)
  | j + 1, e, k, h1, h2 => by
    unfold sp_skf at h2
    by_cases q : P e = true
    · rw [if_pos q] at h2
      rcases Nat.eq_or_lt_of_le h1 with h | h
      · rw [← h]; exact q
      · exact sp_skf_in j (e + 1) k h h2
    · rw [if_neg q] at h2
      omega
theorem tk_sk_b {s : Nat → Int32} {n e : Nat} (h : e ≤ n) : e ≤ tk_sk s n e ∧ tk_sk s n e ≤ n := by
  have := sp_skf_le (P := fun k => sp_bl (s k)) (n - e) e
  unfold tk_sk; omega
theorem tk_le_b {s : Nat → Int32} {n e : Nat} (h : e ≤ n) : e ≤ tk_le s n e ∧ tk_le s n e ≤ n := by
  have := sp_skf_le (P := fun k => tk_lt (s k)) (n - e) e
  unfold tk_le; omega
theorem tk_de_b {s : Nat → Int32} {n e : Nat} (h : e ≤ n) : e ≤ tk_de s n e ∧ tk_de s n e ≤ n := by
  have := sp_skf_le (P := fun k => tk_dg (s k)) (n - e) e
  unfold tk_de; omega
theorem tk_le_s {s : Nat → Int32} {n e : Nat} (h : e < n) (hl : tk_lt (s e) = true) : tk_le s n e = tk_le s n (e + 1) := by
  unfold tk_le
  rw [show n - e = (n - (e + 1)) + 1 by omega, sp_skf, if_pos hl]
theorem tk_le_n {s : Nat → Int32} {n e : Nat} (hl : tk_lt (s e) = false) : tk_le s n e = e := by
  unfold tk_le
  rcases h : n - e with _ | k
  · rfl
  · rw [sp_skf, if_neg (by rw [hl]; decide)]
theorem tk_le_o {s : Nat → Int32} {n e : Nat} (hl : n ≤ e) : tk_le s n e = e := by
  unfold tk_le
  rw [show n - e = 0 by omega]; rfl
theorem tk_de_s {s : Nat → Int32} {n e : Nat} (h : e < n) (hl : tk_dg (s e) = true) : tk_de s n e = tk_de s n (e + 1) := by
  unfold tk_de
  rw [show n - e = (n - (e + 1)) + 1 by omega, sp_skf, if_pos hl]
theorem tk_de_n {s : Nat → Int32} {n e : Nat} (hl : tk_dg (s e) = false) : tk_de s n e = e := by
  unfold tk_de
  rcases h : n - e with _ | k
  · rfl
  · rw [sp_skf, if_neg (by rw [hl]; decide)]
theorem tk_de_o {s : Nat → Int32} {n e : Nat} (hl : n ≤ e) : tk_de s n e = e := by
  unfold tk_de
  rw [show n - e = 0 by omega]; rfl
theorem tk_en_b {s : Nat → Int32} {n st : Nat} (h : st ≤ n) : st ≤ tk_en s n st ∧ tk_en s n st ≤ n ∧ (st < n → st < tk_en s n st) := by
  unfold tk_en
  split
  · omega
  · next q =>
    split
    · next l =>
      rw [tk_le_s (by omega) l]
      have := tk_le_b (s := s) (n := n) (e := st + 1) (by omega)
      omega
    · split
      · next l =>
        rw [tk_de_s (by omega) l]
        have := tk_de_b (s := s) (n := n) (e := st + 1) (by omega)
        omega
      · omega
theorem tS_le {s : Nat → Int32} {n : Nat} : ∀ i, tS s n i ≤ n
  | 0 => (tk_sk_b (Nat.zero_le n)).2
  | i + 1 => (tk_sk_b (tk_en_b (tS_le i)).2.1).2
theorem tS_lt {s : Nat → Int32} {n i : Nat} (h : tS s n i < n) : tS s n i < tS s n (i + 1) :=
  Nat.lt_of_lt_of_le ((tk_en_b (tS_le i)).2.2 h) (tk_sk_b (tk_en_b (tS_le i)).2.1).1
theorem tS_ge {s : Nat → Int32} {n : Nat} : ∀ i, tS s n i = n ∨ i ≤ tS s n i
  | 0 => Or.inr (Nat.zero_le _)
  | i + 1 => by
    have h1 := tS_le (s := s) (n := n) i
    have h3 := tS_le (s := s) (n := n) (i + 1)
    rcases Nat.lt_or_ge (tS s n i) n with h | h
    · have := tS_lt h
      rcases tS_ge (s := s) (n := n) i with q | q <;> omega
    · have := (tk_sk_b (s := s) (tk_en_b (s := s) (tS_le (s := s) (n := n) i)).2.1).1
      have h2 := (tk_en_b (s := s) (tS_le (s := s) (n := n) i)).1
      left
      show tS s n (i + 1) = n
      have : tk_en s n (tS s n i) ≤ tS s n (i + 1) := this
      omega
theorem fc_tl8 : ∀ q, q < 5 → fc_tl.getD q 0 ≤ 168 := by decide
theorem nI_mul (a b : Nat) : nI a * nI b = nI (a * b) := (Int32.ofNat_mul a b).symm
theorem l_cell1 (hW : fc_Wd mr) (hT : fc_Tp mi n) {u : UInt32} (hu : u.toNat < 5) {st en : Nat} (hst : mi 1 2 = nI st) (hst2 : st ≤ 1000) (hen : mi 1 3 = nI en) (hen2 : en ≤ 1000) {c : Nat} (hc : 8 * c + 8 ≤ fc_tl.getD u.toNat 0) {Q : fc_Q} (K : ∀ (x4 x5 x6 : Option Value), fc_T E mX8_cellIn (d + 4) (0, 0) fc_sh 93 [some (.ref 1), some (.float u), some (.int (nI c)), some (.int (tk_cn (fun l => decide (fc_ch u.toNat (8 * c + l) = tk_sg (mi 2) n st en l)) 8)), x4, x5, x6] [] mi ml mr Q) : ∀ (j l : Nat) (z acc : Int32) (x5 x6 : Option Value), l + j = 8 → z = nI l → acc = tk_cn (fun l => decide (fc_ch u.toNat (8 * c + l) = tk_sg (mi 2) n st en l)) l → fc_T E mX8_cellIn (d + 4) (0, 0) fc_sh 20 [some (.ref 1), some (.float u), some (.int (nI c)), some (.int acc), some (.int z), x5, x6] [] mi ml mr Q := by
  have h168 := fc_tl8 _ hu
  have hT2 := hT.2
  intro j
  induction j with
  | zero =>
    intro l z acc x5 x6 hl hz hacc
    subst hz
    refine fc_run oX8_cellIn (fun pc => pc == 20 || pc == 93) 400 ?_
    refine And.intro (fun h24 => ?_) (fun h24 => ?_)
    · rw [hacc, show l = 8 by omega]
      exact K _ _ _
    · exact absurd (by rw [show l = 8 by omega]; decide) h24
  | succ j ih =>
    intro l z acc x5 x6 hl hz hacc
    subst hz
    refine fc_run oX8_cellIn (fun pc => pc == 20 || pc == 93) 400 ?_
    refine And.intro (fun h24 => ?_) (fun h24 => ?_)
    · exact absurd h24 (nI_ge (b := 8) (by omega) (by omega))
    · refine And.intro rfl ?_
      rw [hst]
      refine And.intro rfl ?_
      rw [hen]
      refine And.intro (fun h42 => ?_) (fun h42 => ?_)
      · replace h42 : nI en ≤ nI (st + l) := by rw [← nI_add]; exact h42
        refine And.intro hu (Exists.intro _ (And.intro (show fc_R E mJ0_charAt_5068e (d + 3) fc_sh [.float u, .int (nI c * 8 + nI l)] mi ml mr (fc_is (some (.int (fc_ch u.toNat (8 * c + l)))) mi ml mr) from by rw [show nI c * 8 + nI l = nI (8 * c + l) from by rw [show (8 : Int32) = nI 8 from rfl, nI_mul, nI_add, Nat.mul_comm]]; exact c_charAt hu (by omega)) ?_))
        rintro _ _ _ _ ⟨rfl, rfl, rfl, rfl⟩
        refine And.intro (fun h81 => ?_) (fun h81 => ?_)
        · have e : tk_sg (mi 2) n st en l = 32 := by
            unfold tk_sg
            rw [if_neg]
            intro q
            exact absurd h42 (nI_ge q.1 (by omega))
          exact ih (l + 1) _ _ _ _ (by omega) (fc_inc l) (by rw [hacc, tk_cn, if_pos (by rw [e]; exact decide_eq_true h81)]; rfl)
        · have e : tk_sg (mi 2) n st en l = 32 := by
            unfold tk_sg
            rw [if_neg]
            intro q
            exact absurd h42 (nI_ge q.1 (by omega))
          exact ih (l + 1) _ _ _ _ (by omega) (fc_inc l) (by rw [hacc, tk_cn, if_neg (by rw [e]; simpa using h81)])
      · replace h42 : ¬ nI en ≤ nI (st + l) := by rw [← nI_add]; exact h42
        refine And.intro rfl ?_
        rw [hT.1]
        refine And.intro (fun h51 => ?_) (fun h51 => ?_)
        · replace h51 : nI n ≤ nI (st + l) := by rw [← nI_add]; exact h51
          refine And.intro hu (Exists.intro _ (And.intro (show fc_R E mJ0_charAt_5068e (d + 3) fc_sh [.float u, .int (nI c * 8 + nI l)] mi ml mr (fc_is (some (.int (fc_ch u.toNat (8 * c + l)))) mi ml mr) from by rw [show nI c * 8 + nI l = nI (8 * c + l) from by rw [show (8 : Int32) = nI 8 from rfl, nI_mul, nI_add, Nat.mul_comm]]; exact c_charAt hu (by omega)) ?_))
          rintro _ _ _ _ ⟨rfl, rfl, rfl, rfl⟩
          refine And.intro (fun h81 => ?_) (fun h81 => ?_)
          · have e : tk_sg (mi 2) n st en l = 32 := by
              unfold tk_sg
              rw [if_neg]
              intro q
              exact absurd h51 (nI_ge q.2 (by omega))
            exact ih (l + 1) _ _ _ _ (by omega) (fc_inc l) (by rw [hacc, tk_cn, if_pos (by rw [e]; exact decide_eq_true h81)]; rfl)
          · have e : tk_sg (mi 2) n st en l = 32 := by
              unfold tk_sg
              rw [if_neg]
              intro q
              exact absurd h51 (nI_ge q.2 (by omega))
            exact ih (l + 1) _ _ _ _ (by omega) (fc_inc l) (by rw [hacc, tk_cn, if_neg (by rw [e]; simpa using h81)])
        · replace h51 : ¬ nI n ≤ nI (st + l) := by rw [← nI_add]; exact h51
          have q51 : st + l < n := by
            rcases Nat.lt_or_ge (st + l) n with q | q
            · exact q
            · exact absurd (nI_le q (by omega)) h51
          refine And.intro rfl (Exists.intro _ (And.intro (hW 1 0 2 rfl) ?_))
          refine Exists.intro _ (Exists.intro _ (And.intro rfl (And.intro (show fc_ix (nI st + nI l) 1000 (st + l) from by rw [nI_add]; exact fc_ix_nI (by omega) (by omega)) ?_)))
          refine And.intro hu (Exists.intro _ (And.intro (show fc_R E mJ0_charAt_5068e (d + 3) fc_sh [.float u, .int (nI c * 8 + nI l)] mi ml mr (fc_is (some (.int (fc_ch u.toNat (8 * c + l)))) mi ml mr) from by rw [show nI c * 8 + nI l = nI (8 * c + l) from by rw [show (8 : Int32) = nI 8 from rfl, nI_mul, nI_add, Nat.mul_comm]]; exact c_charAt hu (by omega)) ?_))
          rintro _ _ _ _ ⟨rfl, rfl, rfl, rfl⟩
          refine And.intro (fun h81 => ?_) (fun h81 => ?_)
          · have e : tk_sg (mi 2) n st en l = mi 2 (st + l) := by
              unfold tk_sg
              rw [if_pos]
              exact ⟨by
                rcases Nat.lt_or_ge (st + l) en with q | q
                · exact q
                · exact absurd (nI_le q (by omega)) h42, q51⟩
            exact ih (l + 1) _ _ _ _ (by omega) (fc_inc l) (by rw [hacc, tk_cn, if_pos (by rw [e]; exact decide_eq_true h81)]; rfl)
          · have e : tk_sg (mi 2) n st en l = mi 2 (st + l) := by
              unfold tk_sg
              rw [if_pos]
              exact ⟨by
                rcases Nat.lt_or_ge (st + l) en with q | q
                · exact q
                · exact absurd (nI_le q (by omega)) h42, q51⟩
            exact ih (l + 1) _ _ _ _ (by omega) (fc_inc l) (by rw [hacc, tk_cn, if_neg (by rw [e]; simpa using h81)])

theorem l_cell2 (hW : fc_Wd mr) (hT : fc_Tp mi n) {u : UInt32} (hu : u.toNat < 5) {st en : Nat} (hst : mi 1 2 = nI st) (hst2 : st ≤ 1000) (hen : mi 1 3 = nI en) (hen2 : en ≤ 1000) : ∀ (j c : Nat) (z : Int32) (x3 x4 x5 x6 : Option Value), c + j = fc_tl.getD u.toNat 0 / 8 → z = nI c → fc_T E mX8_cellIn (d + 4) (0, 0) fc_sh 2 [some (.ref 1), some (.float u), some (.int z), x3, x4, x5, x6] [] mi ml mr (fc_is (some (.int (tk_ce u.toNat (tk_sg (mi 2) n st en) j c))) mi ml mr) := by
  have h168 := fc_tl8 _ hu
  intro j
  induction j with
  | zero =>
    intro c z x3 x4 x5 x6 hc hz
    subst hz
    have e8 : (nI c + 1) * 8 = nI (8 * c + 8) := by rw [show (8 : Int32) = nI 8 from rfl, nI_1, nI_mul]; congr 1; omega
    refine fc_run oX8_cellIn (fun pc => pc == 2 || pc == 20) 400 ?_
    refine And.intro hu (Exists.intro _ (And.intro (c_length hu) ?_))
    rintro _ _ _ _ ⟨rfl, rfl, rfl, rfl⟩
    refine And.intro (fun h12 => ?_) (fun h12 => ?_)
    · exact ⟨rfl, rfl, rfl, rfl⟩
    · exact absurd (show nI (fc_tl.getD u.toNat 0) < (nI c + 1) * 8 from by rw [e8]; exact nI_lt (by omega) (by omega)) h12
  | succ j ih =>
    intro c z x3 x4 x5 x6 hc hz
    subst hz
    have e8 : (nI c + 1) * 8 = nI (8 * c + 8) := by rw [show (8 : Int32) = nI 8 from rfl, nI_1, nI_mul]; congr 1; omega
    refine fc_run oX8_cellIn (fun pc => pc == 2 || pc == 20) 400 ?_
    refine And.intro hu (Exists.intro _ (And.intro (c_length hu) ?_))
    rintro _ _ _ _ ⟨rfl, rfl, rfl, rfl⟩
    refine And.intro (fun h12 => ?_) (fun h12 => ?_)
    · exact absurd h12 (show ¬ nI (fc_tl.getD u.toNat 0) < (nI c + 1) * 8 from by rw [e8]; exact nI_nlt (by omega) (by omega))
    · refine l_cell1 hW hT hu hst hst2 hen hen2 (c := c) (by omega) (fun x4 x5 x6 => ?_) 8 0 _ _ _ _ (by omega) rfl rfl
      refine fc_run oX8_cellIn (fun pc => pc == 2) 400 ?_
      refine And.intro (fun h96 => ?_) (fun h96 => ?_)
      · exact ⟨by rw [tk_ce, if_pos h96], rfl, rfl, rfl⟩
      · rw [tk_ce, if_neg h96]
        exact ih (c + 1) _ _ _ _ _ (by omega) (fc_inc c)

theorem c_cellIn (hW : fc_Wd mr) (hT : fc_Tp mi n) {u : UInt32} (hu : u.toNat < 5) {st en : Nat} (hst : mi 1 2 = nI st) (hst2 : st ≤ 1000) (hen : mi 1 3 = nI en) (hen2 : en ≤ 1000) : fc_R E mX8_cellIn (d + 4) fc_sh [.ref 1, .float u] mi ml mr (fc_is (some (.int (tk_cl u.toNat (mi 2) n st en))) mi ml mr) := by
  refine fc_met rfl (Nat.le_of_ble_eq_true rfl) (fc_run oX8_cellIn (fun pc => pc == 2) 400 ?_)
  exact l_cell2 hW hT hu hst hst2 hen hen2 _ 0 _ _ _ _ _ (by omega) rfl

end M32
