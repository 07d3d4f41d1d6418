/-! ===== the reference: tokens ===== -/
def isg (x : Int32) : Bool := decide (x = 40) || (decide (x = 41) || (decide (x = 59) || (decide (x = 61) || (decide (x = 60) || (decide (x = 43) || (decide (x = 45) || decide (x = 42)))))))
def w37 (s : Nat → Int32) (st : Nat) : Nat → Int64
  | 0 => 0
  | j + 1 => if j < 8 then 37 * w37 s st j + (s (st + j) - 96).toInt64 else w37 s st j
def n10 (s : Nat → Int32) (st : Nat) : Nat → Int64
  | 0 => 0
  | j + 1 => if j < 4 then 10 * n10 s st j + (s (st + j)).toInt64 - 48 else n10 s st j
/-- the reference's sort of a token, and its value -/
def rk (s : Nat → Int32) (n st : Nat) : Int32 := if n ≤ st then 0 else if tk_lt (s st) then (if 8 < tk_le s n st - st then 4 else 1) else if tk_dg (s st) then (if 4 < tk_de s n st - st then 4 else 2) else if isg (s st) then 3 else 4
def rw_ (s : Nat → Int32) (n st : Nat) : Int64 := if tk_lt (s st) then w37 s st (tk_le s n st - st) else if tk_dg (s st) then n10 s st (tk_de s n st - st) else (s st).toInt64
/-- the first i tokens are laid -/
def rtj (s : Nat → Int32) (n i : Nat) (mi : fc_Mi) (ml : fc_Ml) : Prop := ∀ j, j < i → tS s n j < n ∧ mi 254 j = rk s n (tS s n j) ∧ mi 255 j = nI (tS s n j) ∧ ml 256 j = rw_ s n (tS s n j)
/-- all N tokens, and the end behind them -/
def rtk (s : Nat → Int32) (n N : Nat) (mi : fc_Mi) (ml : fc_Ml) : Prop := tS s n N = n ∧ N ≤ n ∧ n ≤ 1000 ∧ rtj s n N mi ml ∧ mi 254 N = 0 ∧ mi 255 N = nI n
section M62
variable {E : fc_E} {d : Nat} {mi : fc_Mi} {ml : fc_Ml} {mr : fc_Mr} {n : Nat} {s : Nat → Int32}
theorem rk_l {st : Nat} (h : ¬ n ≤ st) (hl : tk_lt (s st) = true) : rk s n st = if 8 < tk_le s n st - st then 4 else 1 := by rw [rk, if_neg h, if_pos hl]
theorem rk_d {st : Nat} (h : ¬ n ≤ st) (hl : tk_lt (s st) = false) (hd : tk_dg (s st) = true) : rk s n st = if 4 < tk_de s n st - st then 4 else 2 := by rw [rk, if_neg h, hl, if_neg (by decide), if_pos hd]
theorem rk_g {st : Nat} (h : ¬ n ≤ st) (hl : tk_lt (s st) = false) (hd : tk_dg (s st) = false) : rk s n st = if isg (s st) then 3 else 4 := by rw [rk, if_neg h, hl, if_neg (by decide), hd, if_neg (by decide)]
theorem rk_sk_s {e : Nat} (h : e < n) (hb : sp_bl (s e) = true) : tk_sk s n e = tk_sk s n (e + 1) := by
  unfold tk_sk
  rw [show n - e = (n - (e + 1)) + 1 by omega, sp_skf, if_pos hb]
theorem rk_sk_n {e : Nat} (hb : sp_bl (s e) = false) : tk_sk s n e = e := by
  unfold tk_sk
  rcases h : n - e with _ | k
  · rfl
  · rw [sp_skf, if_neg (by rw [hb]; decide)]
theorem rk_sk_o {e : Nat} (h : n ≤ e) : tk_sk s n e = e := by
  unfold tk_sk
  rw [show n - e = 0 by omega]; rfl
theorem c_risLetter (x : Int32) : fc_R E mX11_isLetter d fc_sh [.int x] mi ml mr (fc_is (some (.int (fc_b (tk_lt x)))) mi ml mr) := by
  refine fc_met rfl (Nat.le_of_ble_eq_true rfl) (fc_run oX11_isLetter (fun _ => false) 400 ?_)
  refine And.intro (fun h3 => ?_) (fun h3 => ?_)
  · refine And.intro (by first | exact Or.inl rfl | exact Or.inr rfl | exact fc_bb _ | assumption) ?_
    exact ⟨by rw [tk_lt, sp_from, decide_eq_true h3]; rfl, rfl, rfl, rfl⟩
  · refine And.intro (fun h9 => ?_) (fun h9 => ?_)
    · refine And.intro (by first | exact Or.inl rfl | exact Or.inr rfl | exact fc_bb _ | assumption) ?_
      exact ⟨by rw [tk_lt, sp_from, decide_eq_false h3, decide_eq_true h9]; rfl, rfl, rfl, rfl⟩
    · refine And.intro (by first | exact Or.inl rfl | exact Or.inr rfl | exact fc_bb _ | assumption) ?_
      exact ⟨by rw [tk_lt, sp_from, decide_eq_false h3, decide_eq_false h9]; rfl, rfl, rfl, rfl⟩

theorem c_risDigit (x : Int32) : fc_R E mX11_isDigit d fc_sh [.int x] mi ml mr (fc_is (some (.int (fc_b (tk_dg x)))) mi ml mr) := by
  refine fc_met rfl (Nat.le_of_ble_eq_true rfl) (fc_run oX11_isDigit (fun _ => false) 400 ?_)
  refine And.intro (fun h3 => ?_) (fun h3 => ?_)
  · refine And.intro (by first | exact Or.inl rfl | exact Or.inr rfl | exact fc_bb _ | assumption) ?_
    exact ⟨by rw [tk_dg, sp_from, decide_eq_true h3]; rfl, rfl, rfl, rfl⟩
  · refine And.intro (fun h9 => ?_) (fun h9 => ?_)
    · refine And.intro (by first | exact Or.inl rfl | exact Or.inr rfl | exact fc_bb _ | assumption) ?_
      exact ⟨by rw [tk_dg, sp_from, decide_eq_false h3, decide_eq_true h9]; rfl, rfl, rfl, rfl⟩
    · refine And.intro (by first | exact Or.inl rfl | exact Or.inr rfl | exact fc_bb _ | assumption) ?_
      exact ⟨by rw [tk_dg, sp_from, decide_eq_false h3, decide_eq_false h9]; rfl, rfl, rfl, rfl⟩

theorem c_rrank {x : Int32} (h : tk_lt x = true) : fc_R E mX11_rank (d + 1) fc_sh [.int x] mi ml mr (fc_is (some (.int (x - 96))) mi ml mr) := by
  refine fc_met rfl (Nat.le_of_ble_eq_true rfl) (fc_run oX11_rank (fun _ => false) 400 ?_)
  refine Exists.intro _ (And.intro (c_risLetter _) ?_)
  rintro _ _ _ _ ⟨rfl, rfl, rfl, rfl⟩
  refine And.intro (fun h4 => ?_) (fun h4 => ?_)
  · exact absurd h (by rw [fc_b0.mp h4]; decide)
  · replace h4 := fc_b1.mp h4
    exact ⟨rfl, rfl, rfl, rfl⟩

theorem c_risSignOf (x : Int32) : fc_R E mX11_isSignOf d fc_sh [.int x] mi ml mr (fc_is (some (.int (fc_b (isg x)))) mi ml mr) := by
  refine fc_met rfl (Nat.le_of_ble_eq_true rfl) (fc_run oX11_isSignOf (fun _ => false) 400 ?_)
  refine And.intro (fun h3 => ?_) (fun h3 => ?_)
  · refine And.intro (by first | exact Or.inl rfl | exact Or.inr rfl | exact fc_bb _ | assumption) ?_
    exact ⟨by rw [isg, decide_eq_true h3]; rfl, rfl, rfl, rfl⟩
  · refine And.intro (fun h9 => ?_) (fun h9 => ?_)
    · refine And.intro (by first | exact Or.inl rfl | exact Or.inr rfl | exact fc_bb _ | assumption) ?_
      exact ⟨by rw [isg, decide_eq_false h3, decide_eq_true h9]; rfl, rfl, rfl, rfl⟩
    · refine And.intro (fun h15 => ?_) (fun h15 => ?_)
      · refine And.intro (by first | exact Or.inl rfl | exact Or.inr rfl | exact fc_bb _ | assumption) ?_
        exact ⟨by rw [isg, decide_eq_false h3, decide_eq_false h9, decide_eq_true h15]; rfl, rfl, rfl, rfl⟩
      · refine And.intro (fun h21 => ?_) (fun h21 => ?_)
        · refine And.intro (by first | exact Or.inl rfl | exact Or.inr rfl | exact fc_bb _ | assumption) ?_
          exact ⟨by rw [isg, decide_eq_false h3, decide_eq_false h9, decide_eq_false h15, decide_eq_true h21]; rfl, rfl, rfl, rfl⟩
        · refine And.intro (fun h27 => ?_) (fun h27 => ?_)
          · refine And.intro (by first | exact Or.inl rfl | exact Or.inr rfl | exact fc_bb _ | assumption) ?_
            exact ⟨by rw [isg, decide_eq_false h3, decide_eq_false h9, decide_eq_false h15, decide_eq_false h21, decide_eq_true h27]; rfl, rfl, rfl, rfl⟩
          · refine And.intro (fun h33 => ?_) (fun h33 => ?_)
            · refine And.intro (by first | exact Or.inl rfl | exact Or.inr rfl | exact fc_bb _ | assumption) ?_
              exact ⟨by rw [isg, decide_eq_false h3, decide_eq_false h9, decide_eq_false h15, decide_eq_false h21, decide_eq_false h27, decide_eq_true h33]; rfl, rfl, rfl, rfl⟩
            · refine And.intro (fun h39 => ?_) (fun h39 => ?_)
              · refine And.intro (by first | exact Or.inl rfl | exact Or.inr rfl | exact fc_bb _ | assumption) ?_
                exact ⟨by rw [isg, decide_eq_false h3, decide_eq_false h9, decide_eq_false h15, decide_eq_false h21, decide_eq_false h27, decide_eq_false h33, decide_eq_true h39]; rfl, rfl, rfl, rfl⟩
              · refine And.intro (fun h45 => ?_) (fun h45 => ?_)
                · refine And.intro (by first | exact Or.inl rfl | exact Or.inr rfl | exact fc_bb _ | assumption) ?_
                  exact ⟨by rw [isg, decide_eq_false h3, decide_eq_false h9, decide_eq_false h15, decide_eq_false h21, decide_eq_false h27, decide_eq_false h33, decide_eq_false h39, decide_eq_true h45]; rfl, rfl, rfl, rfl⟩
                · refine And.intro (by first | exact Or.inl rfl | exact Or.inr rfl | exact fc_bb _ | assumption) ?_
                  exact ⟨by rw [isg, decide_eq_false h3, decide_eq_false h9, decide_eq_false h15, decide_eq_false h21, decide_eq_false h27, decide_eq_false h33, decide_eq_false h39, decide_eq_false h45]; rfl, rfl, rfl, rfl⟩

theorem l_cutL (hW : fc_Wd mr) (hs : ∀ j, j < n → mi 253 j = s j) (hz : mi 252 3 = nI n) (hn : n ≤ 1000) {i st : Nat} {x3 : Int32} {K0 : fc_Q} (K : fc_T E mX11_cutAll (d + 2) (0, 0) fc_sh 129 [some (.ref 252), some (.int (nI i)), some (.int (nI (tk_le s n st))), some (.int x3), some (.int (nI st)), some (.long (w37 s st (tk_le s n st - st))), none] [] mi ml mr K0) : ∀ (j k : Nat) (c : Int32) (v : Int64), k + j = n → st ≤ k → c = nI k → tk_le s n k = tk_le s n st → v = w37 s st (k - st) → fc_T E mX11_cutAll (d + 2) (0, 0) fc_sh 70 [some (.ref 252), some (.int (nI i)), some (.int c), some (.int x3), some (.int (nI st)), some (.long v), none] [] mi ml mr K0 := by
  intro j
  induction j with
  | zero =>
    intro k c v hk hst hc hle hv
    subst hc
    have e : tk_le s n st = k := by rw [← hle]; exact tk_le_o (by omega)
    refine fc_run oX11_cutAll (fun pc => pc == 70 || pc == 129) 400 ?_
    refine And.intro rfl ?_
    refine And.intro (fun h75 => ?_) (fun h75 => ?_)
    · rw [hv]
      rw [e] at K
      exact K
    · exact absurd (by rw [hz]; exact nI_le (by omega) (by omega)) h75
  | succ j ih =>
    intro k c v hk hst hc hle hv
    subst hc
    have hsk : mi 253 k = s k := hs k (by omega)
    refine fc_run oX11_cutAll (fun pc => pc == 70 || pc == 129) 400 ?_
    refine And.intro rfl ?_
    refine And.intro (fun h75 => ?_) (fun h75 => ?_)
    · exact absurd h75 (by rw [hz]; exact nI_ge (by omega) (by omega))
    · refine And.intro rfl (Exists.intro _ (And.intro (hW 252 1 253 rfl) ?_))
      refine Exists.intro _ (Exists.intro _ (And.intro rfl (And.intro (fc_ixn rfl (by omega) (by decide)) ?_)))
      refine Exists.intro _ (And.intro (c_risLetter _) ?_)
      rintro _ _ _ _ ⟨rfl, rfl, rfl, rfl⟩
      refine And.intro (fun h87 => ?_) (fun h87 => ?_)
      · replace h87 := fc_b0.mp h87
        rw [hsk] at h87
        have e : tk_le s n st = k := by rw [← hle]; exact tk_le_n h87
        rw [hv]
        rw [e] at K
        exact K
      · replace h87 := fc_b1.mp h87
        rw [hsk] at h87
        have e2 : tk_le s n (k + 1) = tk_le s n st := by rw [← tk_le_s (by omega) h87]; exact hle
        have hsub : nI k - nI st = nI (k - st) := pk_sub hst
        refine And.intro (fun h96 => ?_) (fun h96 => ?_)
        · rw [hsub] at h96
          have h8 : ¬ k - st < 8 := fun q => absurd h96 (nI_ge (a := k - st) (b := 8) q (by omega))
          exact ih (k + 1) _ _ (by omega) (by omega) (fc_inc k) e2 (by rw [show k + 1 - st = (k - st) + 1 by omega, w37, if_neg h8, hv])
        · rw [hsub] at h96
          have h8 : k - st < 8 := by
            rcases Nat.lt_or_ge (k - st) 8 with q | q
            · exact q
            · exact absurd (nI_le (a := 8) q (by omega)) h96
          refine And.intro rfl (Exists.intro _ (And.intro (hW 252 1 253 rfl) ?_))
          refine Exists.intro _ (Exists.intro _ (And.intro rfl (And.intro (fc_ixn rfl (by omega) (by decide)) ?_)))
          refine Exists.intro _ (And.intro (c_rrank (by rw [hsk]; exact h87)) ?_)
          rintro _ _ _ _ ⟨rfl, rfl, rfl, rfl⟩
          exact ih (k + 1) _ _ (by omega) (by omega) (fc_inc k) e2 (by rw [show k + 1 - st = (k - st) + 1 by omega, w37, if_pos h8, hv, hsk, show st + (k - st) = k by omega])
theorem l_cutD (hW : fc_Wd mr) (hs : ∀ j, j < n → mi 253 j = s j) (hz : mi 252 3 = nI n) (hn : n ≤ 1000) {i st : Nat} {x3 : Int32} {K0 : fc_Q} (K : fc_T E mX11_cutAll (d + 2) (0, 0) fc_sh 218 [some (.ref 252), some (.int (nI i)), some (.int (nI (tk_de s n st))), some (.int x3), some (.int (nI st)), some (.long (n10 s st (tk_de s n st - st))), none] [] mi ml mr K0) : ∀ (j k : Nat) (c : Int32) (v : Int64), k + j = n → st ≤ k → c = nI k → tk_de s n k = tk_de s n st → v = n10 s st (k - st) → fc_T E mX11_cutAll (d + 2) (0, 0) fc_sh 159 [some (.ref 252), some (.int (nI i)), some (.int c), some (.int x3), some (.int (nI st)), some (.long v), none] [] mi ml mr K0 := by
  intro j
  induction j with
  | zero =>
    intro k c v hk hst hc hle hv
    subst hc
    have e : tk_de s n st = k := by rw [← hle]; exact tk_de_o (by omega)
    refine fc_run oX11_cutAll (fun pc => pc == 159 || pc == 218) 400 ?_
    refine And.intro rfl ?_
    refine And.intro (fun h164 => ?_) (fun h164 => ?_)
    · rw [hv]
      rw [e] at K
      exact K
    · exact absurd (by rw [hz]; exact nI_le (by omega) (by omega)) h164
  | succ j ih =>
    intro k c v hk hst hc hle hv
    subst hc
    have hsk : mi 253 k = s k := hs k (by omega)
    refine fc_run oX11_cutAll (fun pc => pc == 159 || pc == 218) 400 ?_
    refine And.intro rfl ?_
    refine And.intro (fun h164 => ?_) (fun h164 => ?_)
    · exact absurd h164 (by rw [hz]; exact nI_ge (by omega) (by omega))
    · refine And.intro rfl (Exists.intro _ (And.intro (hW 252 1 253 rfl) ?_))
      refine Exists.intro _ (Exists.intro _ (And.intro rfl (And.intro (fc_ixn rfl (by omega) (by decide)) ?_)))
      refine Exists.intro _ (And.intro (c_risDigit _) ?_)
      rintro _ _ _ _ ⟨rfl, rfl, rfl, rfl⟩
      refine And.intro (fun h176 => ?_) (fun h176 => ?_)
      · replace h176 := fc_b0.mp h176
        rw [hsk] at h176
        have e : tk_de s n st = k := by rw [← hle]; exact tk_de_n h176
        rw [hv]
        rw [e] at K
        exact K
      · replace h176 := fc_b1.mp h176
        rw [hsk] at h176
        have e2 : tk_de s n (k + 1) = tk_de s n st := by rw [← tk_de_s (by omega) h176]; exact hle
        have hsub : nI k - nI st = nI (k - st) := pk_sub hst
        refine And.intro (fun h184 => ?_) (fun h184 => ?_)
        · rw [hsub] at h184
          have h8 : ¬ k - st < 4 := fun q => absurd h184 (nI_ge (a := k - st) (b := 4) q (by omega))
          exact ih (k + 1) _ _ (by omega) (by omega) (fc_inc k) e2 (by rw [show k + 1 - st = (k - st) + 1 by omega, n10, if_neg h8, hv])
        · rw [hsub] at h184
          have h8 : k - st < 4 := by
            rcases Nat.lt_or_ge (k - st) 4 with q | q
            · exact q
            · exact absurd (nI_le (a := 4) q (by omega)) h184
          refine And.intro rfl (Exists.intro _ (And.intro (hW 252 1 253 rfl) ?_))
          refine Exists.intro _ (Exists.intro _ (And.intro rfl (And.intro (fc_ixn rfl (by omega) (by decide)) ?_)))
          exact ih (k + 1) _ _ (by omega) (by omega) (fc_inc k) e2 (by rw [show k + 1 - st = (k - st) + 1 by omega, n10, if_pos h8, hv, hsk, show st + (k - st) = k by omega])
theorem rtj_s {i : Nat} {mm : fc_Mi} {mq : fc_Ml} (h : rtj s n i mm mq) (hn : tS s n i < n) {mm' : fc_Mi} {mq' : fc_Ml} (h1 : ∀ j, j < i → mm' 254 j = mm 254 j ∧ mm' 255 j = mm 255 j ∧ mq' 256 j = mq 256 j) (h2 : mm' 254 i = rk s n (tS s n i)) (h3 : mm' 255 i = nI (tS s n i)) (h4 : mq' 256 i = rw_ s n (tS s n i)) : rtj s n (i + 1) mm' mq' := by
  intro j hj
  by_cases e : j = i
  · subst e; exact ⟨hn, h2, h3, h4⟩
  · obtain ⟨g0, g1, g2, g3⟩ := h j (by omega)
    obtain ⟨a1, a2, a3⟩ := h1 j (by omega)
    exact ⟨g0, a1.trans g1, a2.trans g2, a3.trans g3⟩
/-- nothing but the tokens' rows, size, at, fault -/
def rct (mi mi' : fc_Mi) (ml ml' : fc_Ml) : Prop := (∀ x, x ≠ 252 → x ≠ 254 → x ≠ 255 → mi' x = mi x) ∧ (∀ k, k ≠ 7 → k ≠ 8 → mi' 252 k = mi 252 k) ∧ ∀ x, x ≠ 256 → ml' x = ml x
theorem rct.tr {m1 m2 : fc_Mi} {l1 l2 : fc_Ml} (h : rct mi m1 ml l1) (g : rct m1 m2 l1 l2) : rct mi m2 ml l2 := ⟨fun x a b c => (g.1 x a b c).trans (h.1 x a b c), fun k a b => (g.2.1 k a b).trans (h.2.1 k a b), fun x a => (g.2.2 x a).trans (h.2.2 x a)⟩
theorem l_cutV (hW : fc_Wd mr) {mm : fc_Mi} {mq : fc_Ml} {i k st : Nat} {x3 c2 : Int32} {v : Int64} (hi : i ≤ 1000) (hc2 : c2 = nI k) {K0 : fc_Q} (K : ∀ (c : Int32) (x3 x4 x5 x6 : Option Value), c = nI (i + 1) → fc_T E mX11_cutAll (d + 2) (0, 0) fc_sh 17 [some (.ref 252), some (.int c), some (.int (nI k)), x3, x4, x5, x6] [] mm (fc_u mq 256 i v) mr K0) : fc_T E mX11_cutAll (d + 2) (0, 0) fc_sh 265 [some (.ref 252), some (.int (nI i)), some (.int c2), some (.int x3), some (.int (nI st)), some (.long v), none] [] mm mq mr K0 := by
  subst hc2
  refine fc_run oX11_cutAll (fun pc => pc == 17) 400 ?_
  refine And.intro rfl (Exists.intro _ (And.intro (hW 252 6 256 rfl) ?_))
  refine Exists.intro _ (Exists.intro _ (And.intro rfl (And.intro (fc_ixn rfl (by omega) (by decide)) ?_)))
  exact K _ _ _ _ _ (fc_inc i)
theorem l_cutLe (hW : fc_Wd mr) {mm : fc_Mi} {mq : fc_Ml} {i e st : Nat} {x3 : Int32} {v : Int64} (hi : i ≤ 1000) (hst : st ≤ e) (he : e ≤ 1000) {K0 : fc_Q} (K : fc_T E mX11_cutAll (d + 2) (0, 0) fc_sh 265 [some (.ref 252), some (.int (nI i)), some (.int (nI e)), some (.int x3), some (.int (nI st)), some (.long v), none] [] (fc_u mm 254 i (if 8 < e - st then 4 else 1)) mq mr K0) : fc_T E mX11_cutAll (d + 2) (0, 0) fc_sh 129 [some (.ref 252), some (.int (nI i)), some (.int (nI e)), some (.int x3), some (.int (nI st)), some (.long v), none] [] mm mq mr K0 := by
  have hsub : nI e - nI st = nI (e - st) := pk_sub hst
  refine fc_run oX11_cutAll (fun pc => pc == 265) 400 ?_
  refine And.intro rfl (Exists.intro _ (And.intro (hW 252 4 254 rfl) ?_))
  refine And.intro (fun h140 => ?_) (fun h140 => ?_)
  · rw [hsub] at h140
    refine Exists.intro _ (Exists.intro _ (And.intro rfl (And.intro (fc_ixn rfl (by omega) (by decide)) ?_)))
    rw [if_neg (fun q => absurd h140 (nI_ge (b := e - st) (a := 8) q (by omega)))] at K
    exact K
  · rw [hsub] at h140
    refine Exists.intro _ (Exists.intro _ (And.intro rfl (And.intro (fc_ixn rfl (by omega) (by decide)) ?_)))
    rw [if_pos (by
      rcases Nat.lt_or_ge 8 (e - st) with q | q
      · exact q
      · exact absurd (nI_le (b := 8) q (by omega)) h140)] at K
    exact K
theorem l_cutDe (hW : fc_Wd mr) {mm : fc_Mi} {mq : fc_Ml} {i e st : Nat} {x3 : Int32} {v : Int64} (hi : i ≤ 1000) (hst : st ≤ e) (he : e ≤ 1000) {K0 : fc_Q} (K : fc_T E mX11_cutAll (d + 2) (0, 0) fc_sh 265 [some (.ref 252), some (.int (nI i)), some (.int (nI e)), some (.int x3), some (.int (nI st)), some (.long v), none] [] (fc_u mm 254 i (if 4 < e - st then 4 else 2)) mq mr K0) : fc_T E mX11_cutAll (d + 2) (0, 0) fc_sh 218 [some (.ref 252), some (.int (nI i)), some (.int (nI e)), some (.int x3), some (.int (nI st)), some (.long v), none] [] mm mq mr K0 := by
  have hsub : nI e - nI st = nI (e - st) := pk_sub hst
  refine fc_run oX11_cutAll (fun pc => pc == 265) 400 ?_
  refine And.intro rfl (Exists.intro _ (And.intro (hW 252 4 254 rfl) ?_))
  refine And.intro (fun h228 => ?_) (fun h228 => ?_)
  · rw [hsub] at h228
    refine Exists.intro _ (Exists.intro _ (And.intro rfl (And.intro (fc_ixn rfl (by omega) (by decide)) ?_)))
    rw [if_neg (fun q => absurd h228 (nI_ge (b := e - st) (a := 4) q (by omega)))] at K
    exact K
  · rw [hsub] at h228
    refine Exists.intro _ (Exists.intro _ (And.intro rfl (And.intro (fc_ixn rfl (by omega) (by decide)) ?_)))
    rw [if_pos (by
      rcases Nat.lt_or_ge 4 (e - st) with q | q
      · exact q
      · exact absurd (nI_le (b := 4) q (by omega)) h228)] at K
    exact K
theorem l_cut (hW : fc_Wd mr) (hs : ∀ j, j < n → mi 253 j = s j) (hz : mi 252 3 = nI n) (hn : n ≤ 1000) : ∀ (j k i : Nat) (c1 c2 : Int32) (x3 x4 x5 x6 : Option Value) (mm : fc_Mi) (mq : fc_Ml), n - k ≤ j → k ≤ n → i ≤ k → c1 = nI i → c2 = nI k → tk_sk s n k = tS s n i → rtj s n i mm mq → rct mi mm ml mq → fc_T E mX11_cutAll (d + 2) (0, 0) fc_sh 17 [some (.ref 252), some (.int c1), some (.int c2), x3, x4, x5, x6] [] mm mq mr (fun v mi' ml' mr' => v = none ∧ (∃ N, rtk s n N mi' ml') ∧ (mi' 252 7 = 0 ∧ mi' 252 8 = 0) ∧ rct mi mi' ml ml' ∧ mr = mr') := by
  intro j
  induction j with
  | zero =>
    intro k i c1 c2 x3 x4 x5 x6 mm mq hj hkn hik hc1 hc2 hsk ht hf
    subst hc1 hc2
    have hkn' : k = n := by omega
    subst hkn'
    have hSi : tS s k i = k := by rw [← hsk]; exact rk_sk_o (Nat.le_refl _)
    have hzm : mm 252 3 = nI k := by rw [hf.2.1 3 (by decide) (by decide)]; exact hz
    have hsm : ∀ j, j < k → mm 253 j = s j := fun j hj => by rw [hf.1 253 (by decide) (by decide) (by decide)]; exact hs j hj
    refine fc_run oX11_cutAll (fun pc => pc == 17) 400 ?_
    refine And.intro rfl ?_
    refine And.intro (fun h22 => ?_) (fun h22 => ?_)
    · refine And.intro rfl (Exists.intro _ (And.intro (hW 252 4 254 rfl) ?_))
      refine Exists.intro _ (Exists.intro _ (And.intro rfl (And.intro (fc_ixn rfl (by omega) (by decide)) ?_)))
      refine And.intro rfl (Exists.intro _ (And.intro (hW 252 5 255 rfl) ?_))
      refine And.intro rfl ?_
      rw [show (fc_u mm 254 i 0) 252 3 = nI k from hzm]
      refine Exists.intro _ (Exists.intro _ (And.intro rfl (And.intro (fc_ixn rfl (by omega) (by decide)) ?_)))
      refine And.intro rfl ?_
      refine And.intro rfl ?_
      refine ⟨rfl, ⟨i, hSi, hik, hn, fun j hj => ?_, ?_, ?_⟩, ⟨rfl, rfl⟩, ⟨fun x a b c => ?_, fun q a b => ?_, hf.2.2⟩, rfl⟩
      · obtain ⟨g0, g1, g2, g3⟩ := ht j hj
        refine ⟨g0, ?_, ?_, g3⟩
        · rw [← g1]; show (if j = i then _ else mm 254 j) = _; rw [if_neg (by omega)]
        · rw [← g2]; show (if j = i then _ else mm 255 j) = _; rw [if_neg (by omega)]
      · show (if i = i then _ else _) = _; rw [if_pos rfl]
      · show (if i = i then _ else _) = _; rw [if_pos rfl]
      · rw [fc_u_off _ _ _ a, fc_u_off _ _ _ a, fc_u_off _ _ _ c, fc_u_off _ _ _ b]; exact hf.1 x a b c
      · rw [fc_u_nj _ _ _ _ b, fc_u_nj _ _ _ _ a, fc_u_off _ _ _ (by decide), fc_u_off _ _ _ (by decide)]; exact hf.2.1 q a b
    · exact absurd (by rw [hzm]; exact Int32.le_refl _) h22
  | succ j ih =>
    intro k i c1 c2 x3 x4 x5 x6 mm mq hj hkn hik hc1 hc2 hsk ht hf
    by_cases hkn' : k = n
    · exact ih k i c1 c2 x3 x4 x5 x6 mm mq (by omega) hkn hik hc1 hc2 hsk ht hf
    subst hc1 hc2
    have hzm : mm 252 3 = nI n := by rw [hf.2.1 3 (by decide) (by decide)]; exact hz
    have hsm : ∀ j, j < n → mm 253 j = s j := fun j hj => by rw [hf.1 253 (by decide) (by decide) (by decide)]; exact hs j hj
    have hck := hsm k (by omega)
    have hnb : ∀ v : Int32, v = s k → (sp_bl (s k) = true ↔ v = 10 ∨ v = 32) := fun v hv => by rw [hv]; simp [sp_bl]
    -- on behind a token
    have on : ∀ (e : Nat) (sv : Int32) (vv : Int64), sp_bl (s k) = false → k < e → e ≤ n → tE s n i = e → sv = rk s n k → vv = rw_ s n k → ∀ (c : Int32) (y3 y4 y5 y6 : Option Value), c = nI (i + 1) → fc_T E mX11_cutAll (d + 2) (0, 0) fc_sh 17 [some (.ref 252), some (.int c), some (.int (nI e)), y3, y4, y5, y6] [] (fc_u (fc_u mm 255 i (nI k)) 254 i sv) (fc_u mq 256 i vv) mr (fun v mi' ml' mr' => v = none ∧ (∃ N, rtk s n N mi' ml') ∧ (mi' 252 7 = 0 ∧ mi' 252 8 = 0) ∧ rct mi mi' ml ml' ∧ mr = mr') := by
      intro e sv vv hb hke hen hE hsv hvv c y3 y4 y5 y6 hc
      have hSi : tS s n i = k := by rw [← hsk]; exact rk_sk_n hb
      refine ih e (i + 1) _ _ _ _ _ _ _ _ (by omega) hen (by omega) hc rfl (by rw [tS]; rw [← hE]; rfl) (rtj_s ht (by omega) (fun j hj => ⟨?_, ?_, ?_⟩) ?_ ?_ ?_) (hf.tr ⟨fun x a b c => ?_, fun q a b => ?_, fun x a => ?_⟩)
      · show (if j = i then _ else mm 254 j) = _; rw [if_neg (by omega)]
      · show (if j = i then _ else mm 255 j) = _; rw [if_neg (by omega)]
      · show (if j = i then _ else mq 256 j) = _; rw [if_neg (by omega)]
      · rw [fc_u_at, hsv, hSi]
      · rw [hSi]; show (if i = i then _ else _) = _; rw [if_pos rfl]
      · rw [fc_u_at, hvv, hSi]
      · rw [fc_u_off _ _ _ b, fc_u_off _ _ _ c]
      · rw [fc_u_off _ _ _ (by decide), fc_u_off _ _ _ (by decide)]
      · rw [fc_u_off _ _ _ a]
    refine fc_run oX11_cutAll (fun pc => pc == 17 || pc == 70 || pc == 159 || pc == 265) 400 ?_
    refine And.intro rfl ?_
    refine And.intro (fun h22 => ?_) (fun h22 => ?_)
    · exact absurd h22 (by rw [hzm]; exact nI_ge (by omega) (by omega))
    · refine And.intro rfl (Exists.intro _ (And.intro (hW 252 1 253 rfl) ?_))
      refine Exists.intro _ (Exists.intro _ (And.intro rfl (And.intro (fc_ixn rfl (by omega) (by decide)) ?_)))
      refine And.intro (fun h35 => ?_) (fun h35 => ?_)
      · have hb : sp_bl (s k) = true := (hnb _ hck).mpr (by first | exact Or.inl h35 | exact Or.inr h41)
        exact ih (k + 1) i _ _ _ _ _ _ _ _ (by omega) (by omega) (by omega) rfl (fc_inc k) (by rw [← rk_sk_s (by omega) hb]; exact hsk) ht hf
      · refine And.intro (fun h41 => ?_) (fun h41 => ?_)
        · have hb : sp_bl (s k) = true := (hnb _ hck).mpr (by first | exact Or.inl h35 | exact Or.inr h41)
          exact ih (k + 1) i _ _ _ _ _ _ _ _ (by omega) (by omega) (by omega) rfl (fc_inc k) (by rw [← rk_sk_s (by omega) hb]; exact hsk) ht hf
        · have hb : sp_bl (s k) = false := by
            cases q : sp_bl (s k) with
            | false => rfl
            | true =>
              rcases (hnb _ hck).mp q with z | z
              · exact absurd z h35
              · exact absurd z h41
          have hSi : tS s n i = k := by rw [← hsk]; exact rk_sk_n hb
          refine And.intro rfl (Exists.intro _ (And.intro (hW 252 5 255 rfl) ?_))
          refine Exists.intro _ (Exists.intro _ (And.intro rfl (And.intro (fc_ixn rfl (by omega) (by decide)) ?_)))
          refine Exists.intro _ (And.intro (c_risLetter _) ?_)
          rintro _ _ _ _ ⟨rfl, rfl, rfl, rfl⟩
          refine And.intro (fun h67 => ?_) (fun h67 => ?_)
          · replace h67 := fc_b0.mp h67
            rw [hck] at h67
            refine Exists.intro _ (And.intro (c_risDigit _) ?_)
            rintro _ _ _ _ ⟨rfl, rfl, rfl, rfl⟩
            refine And.intro (fun h156 => ?_) (fun h156 => ?_)
            · replace h156 := fc_b0.mp h156
              rw [hck] at h156
              refine And.intro rfl (Exists.intro _ (And.intro (hW 252 4 254 rfl) ?_))
              refine Exists.intro _ (And.intro (c_risSignOf _) ?_)
              rintro _ _ _ _ ⟨rfl, rfl, rfl, rfl⟩
              refine And.intro (fun h253 => ?_) (fun h253 => ?_)
              · replace h253 := fc_b0.mp h253
                rw [hck] at h253
                refine Exists.intro _ (Exists.intro _ (And.intro rfl (And.intro (fc_ixn rfl (by omega) (by decide)) ?_)))
                exact l_cutV hW (by omega) (fc_inc k) (on (k + 1) _ _ hb (by omega) (by omega) (by rw [tE, tk_en, hSi, if_neg (by omega), if_neg (by rw [h67]; decide), if_neg (by rw [h156]; decide)]) ((rk_g (by omega) h67 h156).trans (if_neg (by rw [h253]; decide))).symm (by rw [rw_, if_neg (by rw [h67]; decide), if_neg (by rw [h156]; decide)]; exact congrArg Int32.toInt64 hck))
              · replace h253 := fc_b1.mp h253
                rw [hck] at h253
                refine Exists.intro _ (Exists.intro _ (And.intro rfl (And.intro (fc_ixn rfl (by omega) (by decide)) ?_)))
                exact l_cutV hW (by omega) (fc_inc k) (on (k + 1) _ _ hb (by omega) (by omega) (by rw [tE, tk_en, hSi, if_neg (by omega), if_neg (by rw [h67]; decide), if_neg (by rw [h156]; decide)]) ((rk_g (by omega) h67 h156).trans (if_pos h253)).symm (by rw [rw_, if_neg (by rw [h67]; decide), if_neg (by rw [h156]; decide)]; exact congrArg Int32.toInt64 hck))
            · replace h156 := fc_b1.mp h156
              rw [hck] at h156
              have hle := tk_de_b (s := s) (n := n) (e := k) (by omega)
              have hlt : k < tk_de s n k := by rw [tk_de_s (by omega) h156]; have := tk_de_b (s := s) (n := n) (e := k + 1) (by omega); omega
              refine l_cutD (mi := fc_u mm 255 i (nI k)) hW (fun j hj => hsm j hj) hzm hn (st := k) ?_ (n - k) k _ _ (by omega) (Nat.le_refl _) rfl rfl (by rw [Nat.sub_self]; rfl)
              refine l_cutDe hW (by omega) hle.1 (by omega) ?_
              exact l_cutV hW (by omega) rfl (on (tk_de s n k) _ _ hb hlt hle.2 (by rw [tE, tk_en, hSi, if_neg (by omega), if_neg (by rw [h67]; decide), if_pos h156]) (rk_d (by omega) h67 h156).symm (by rw [rw_, if_neg (by rw [h67]; decide), if_pos h156]))
          · replace h67 := fc_b1.mp h67
            rw [hck] at h67
            have hle := tk_le_b (s := s) (n := n) (e := k) (by omega)
            have hlt : k < tk_le s n k := by rw [tk_le_s (by omega) h67]; have := tk_le_b (s := s) (n := n) (e := k + 1) (by omega); omega
            refine l_cutL (mi := fc_u mm 255 i (nI k)) hW (fun j hj => hsm j hj) hzm hn (st := k) ?_ (n - k) k _ _ (by omega) (Nat.le_refl _) rfl rfl (by rw [Nat.sub_self]; rfl)
            refine l_cutLe hW (by omega) hle.1 (by omega) ?_
            exact l_cutV hW (by omega) rfl (on (tk_le s n k) _ _ hb hlt hle.2 (by rw [tE, tk_en, hSi, if_neg (by omega), if_pos h67]) (rk_l (by omega) h67).symm (by rw [rw_, if_pos h67]))
theorem c_rcutAll (hW : fc_Wd mr) (hT : mi 252 2 = nI n) (hn : n ≤ 1000) (hs : ∀ j, j < n → mi 253 j = s j) : fc_R E mX11_cutAll (d + 2) fc_sh [.ref 252] mi ml mr (fun v mi' ml' mr' => v = none ∧ (∃ N, rtk s n N mi' ml') ∧ (mi' 252 7 = 0 ∧ mi' 252 8 = 0 ∧ mi' 252 2 = 0) ∧ ((∀ x, x ≠ 252 → x ≠ 254 → x ≠ 255 → mi' x = mi x) ∧ (∀ k, k ≠ 2 → k ≠ 3 → k ≠ 7 → k ≠ 8 → mi' 252 k = mi 252 k) ∧ ∀ x, x ≠ 256 → ml' x = ml x) ∧ mr = mr') := by
  refine fc_met rfl (Nat.le_of_ble_eq_true rfl) (fc_run oX11_cutAll (fun pc => pc == 17) 400 ?_)
  refine And.intro rfl ?_
  rw [hT]
  refine And.intro rfl ?_
  refine And.intro rfl ?_
  refine fc_conT (l_cut (mi := fc_u (fc_u mi 252 3 (nI n)) 252 2 0) hW (n := n) (s := s) (fun j hj => hs j hj) rfl hn n 0 0 _ _ none none none none _ _ (by omega) (Nat.zero_le _) (Nat.le_refl _) rfl rfl (by rw [tS]) (fun j hj => absurd hj (Nat.not_lt_zero j)) ⟨fun _ _ _ _ => rfl, fun _ _ _ => rfl, fun _ _ => rfl⟩) ?_
  rintro v a1 a2 a3 ⟨q1, q2, ⟨q3, q4⟩, ⟨q5, q6, q7⟩, q8⟩
  refine ⟨q1, q2, ⟨q3, q4, (q6 2 (by decide) (by decide)).trans rfl⟩, ⟨fun x a b c => ?_, fun k a b c e => ?_, q7⟩, q8⟩
  · rw [q5 x a b c, fc_u_off _ _ _ a, fc_u_off _ _ _ a]
  · rw [q6 k c e, fc_u_nj _ _ _ _ a, fc_u_nj _ _ _ _ b]

end M62
