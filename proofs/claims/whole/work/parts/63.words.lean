/-! ===== words: two ways of numbering them ===== -/
def wn37 (f : Nat → Nat) : Nat → Nat
  | 0 => 0
  | j + 1 => 37 * wn37 f j + f j
def wn32 (f : Nat → Nat) : Nat → Nat
  | 0 => 0
  | j + 1 => 32 * wn32 f j + f j
/-- letters, by their places in the alphabet -/
def wlt (f : Nat → Nat) (l : Nat) : Prop := ∀ j, j < l → 1 ≤ f j ∧ f j ≤ 26
theorem wlt.le {f : Nat → Nat} {l k : Nat} (h : wlt f l) (hk : k ≤ l) : wlt f k := fun j hj => h j (by omega)
theorem wn37_inj : ∀ {l l' : Nat} {f f' : Nat → Nat}, wlt f l → wlt f' l' → wn37 f l = wn37 f' l' → l = l' ∧ ∀ j, j < l → f j = f' j
  | 0, 0, _, _, _, _, _ => ⟨rfl, fun j hj => absurd hj (Nat.not_lt_zero j)⟩
  | 0, k + 1, f, f', _, h', e => by
    have := (h' k (by omega)).1
    rw [wn37, wn37] at e; omega
  | k + 1, 0, f, f', h, _, e => by
    have := (h k (by omega)).1
    rw [wn37, wn37] at e; omega
  | k + 1, k' + 1, f, f', h, h', e => by
    have a := h k (by omega)
    have b := h' k' (by omega)
    rw [wn37, wn37] at e
    obtain ⟨e1, e2⟩ := wn37_inj (h.le (Nat.le_succ k)) (h'.le (Nat.le_succ k')) (show wn37 f k = wn37 f' k' by omega)
    subst e1
    refine ⟨rfl, fun j hj => ?_⟩
    by_cases q : j = k
    · subst q; omega
    · exact e2 j (by omega)
theorem wn32_inj : ∀ {l l' : Nat} {f f' : Nat → Nat}, wlt f l → wlt f' l' → wn32 f l = wn32 f' l' → l = l' ∧ ∀ j, j < l → f j = f' j
  | 0, 0, _, _, _, _, _ => ⟨rfl, fun j hj => absurd hj (Nat.not_lt_zero j)⟩
  | 0, k + 1, f, f', _, h', e => by
    have := (h' k (by omega)).1
    rw [wn32, wn32] at e; omega
  | k + 1, 0, f, f', h, _, e => by
    have := (h k (by omega)).1
    rw [wn32, wn32] at e; omega
  | k + 1, k' + 1, f, f', h, h', e => by
    have a := h k (by omega)
    have b := h' k' (by omega)
    rw [wn32, wn32] at e
    obtain ⟨e1, e2⟩ := wn32_inj (h.le (Nat.le_succ k)) (h'.le (Nat.le_succ k')) (show wn32 f k = wn32 f' k' by omega)
    subst e1
    refine ⟨rfl, fun j hj => ?_⟩
    by_cases q : j = k
    · subst q; omega
    · exact e2 j (by omega)
theorem wn37_cg {f f' : Nat → Nat} : ∀ {l : Nat}, (∀ j, j < l → f j = f' j) → wn37 f l = wn37 f' l
  | 0, _ => rfl
  | k + 1, h => by rw [wn37, wn37, wn37_cg (fun j hj => h j (by omega)), h k (by omega)]
theorem wn32_cg {f f' : Nat → Nat} : ∀ {l : Nat}, (∀ j, j < l → f j = f' j) → wn32 f l = wn32 f' l
  | 0, _ => rfl
  | k + 1, h => by rw [wn32, wn32, wn32_cg (fun j hj => h j (by omega)), h k (by omega)]
theorem wn_lt {f : Nat → Nat} {l : Nat} (h : wlt f l) (h8 : l ≤ 8) : wn37 f l < 2 ^ 62 ∧ wn32 f l < 2 ^ 62 := by
  have key : ∀ k, k ≤ l → wn37 f k < 37 ^ k ∧ wn32 f k < 32 ^ k := by
    intro k
    induction k with
    | zero => intro _; exact ⟨Nat.zero_lt_one, Nat.zero_lt_one⟩
    | succ k ih =>
      intro hk
      obtain ⟨a, b⟩ := ih (by omega)
      have c := (h k (by omega)).2
      rw [wn37, wn32, Nat.pow_succ, Nat.pow_succ]
      omega
  obtain ⟨a, b⟩ := key l (Nat.le_refl _)
  have p1 : 37 ^ l ≤ 37 ^ 8 := Nat.pow_le_pow_right (by omega) h8
  have p2 : 32 ^ l ≤ 32 ^ 8 := Nat.pow_le_pow_right (by omega) h8
  have q1 : (37 : Nat) ^ 8 < 2 ^ 62 := by decide
  have q2 : (32 : Nat) ^ 8 < 2 ^ 62 := by decide
  omega
/-- one word, in the class's numbering and in the reference's -/
def wpr (a b : Int64) : Prop := ∃ f l, l ≤ 8 ∧ wlt f l ∧ a = lN (wn32 f l) ∧ b = lN (wn37 f l)
theorem wpr_eq {a b a' b' : Int64} (h : wpr a b) (h' : wpr a' b') : a = a' ↔ b = b' := by
  obtain ⟨f, l, h8, hf, rfl, rfl⟩ := h
  obtain ⟨f', l', h8', hf', rfl, rfl⟩ := h'
  have b1 := wn_lt hf h8
  have b2 := wn_lt hf' h8'
  rw [pk_lEQ (by omega) (by omega), pk_lEQ (by omega) (by omega)]
  constructor
  · intro e
    obtain ⟨e1, e2⟩ := wn32_inj hf hf' e
    subst e1
    exact wn37_cg e2
  · intro e
    obtain ⟨e1, e2⟩ := wn37_inj hf hf' e
    subst e1
    exact wn32_cg e2
/-! a word of the tape -/
def ltn (s : Nat → Int32) (st j : Nat) : Nat := (s (st + j)).toNatClampNeg - 96
theorem tk_lt_n {x : Int32} (h : tk_lt x = true) : ∃ c, 97 ≤ c ∧ c ≤ 122 ∧ x = nI c := by
  simp only [tk_lt, sp_from, Bool.and_eq_true, Bool.not_eq_true', decide_eq_false_iff_not] at h
  have h0 : ¬ x < 0 := fun q => h.1 (Int32.lt_trans q (by decide))
  obtain ⟨c, hc, e⟩ := nI_of2 (M := 122) (n := 122) rfl h0 (Int32.not_lt.mp h.2)
  subst e
  refine ⟨c, ?_, hc, rfl⟩
  rcases Nat.lt_or_ge c 97 with q | q
  · exact absurd (nI_lt (b := 97) q (by omega)) h.1
  · exact q
theorem tk_dg_n {x : Int32} (h : tk_dg x = true) : ∃ c, 48 ≤ c ∧ c ≤ 57 ∧ x = nI c := by
  simp only [tk_dg, sp_from, Bool.and_eq_true, Bool.not_eq_true', decide_eq_false_iff_not] at h
  have h0 : ¬ x < 0 := fun q => h.1 (Int32.lt_trans q (by decide))
  obtain ⟨c, hc, e⟩ := nI_of2 (M := 57) (n := 57) rfl h0 (Int32.not_lt.mp h.2)
  subst e
  refine ⟨c, ?_, hc, rfl⟩
  rcases Nat.lt_or_ge c 48 with q | q
  · exact absurd (nI_lt (b := 48) q (by omega)) h.1
  · exact q
theorem ltn_lt {s : Nat → Int32} {st l : Nat} (h : ∀ j, j < l → tk_lt (s (st + j)) = true) : wlt (ltn s st) l := fun j hj => by
  obtain ⟨c, h1, h2, e⟩ := tk_lt_n (h j hj)
  unfold ltn
  rw [e, nI_clamp (by omega)]
  omega
theorem w37_n {s : Nat → Int32} {st : Nat} : ∀ {l : Nat}, l ≤ 8 → (∀ j, j < l → tk_lt (s (st + j)) = true) → w37 s st l = lN (wn37 (ltn s st) l)
  | 0, _, _ => rfl
  | k + 1, h8, h => by
    obtain ⟨c, h1, h2, e⟩ := tk_lt_n (h k (by omega))
    rw [w37, if_pos (by omega), w37_n (by omega) (fun j hj => h j (by omega)), wn37]
    have e2 : (s (st + k) - 96).toInt64 = lN (ltn s st k) := by
      unfold ltn
      rw [e, show (96 : Int32) = nI 96 from rfl, pk_sub (by omega), nI_clamp (by omega), nI_l (by omega)]
    rw [e2, show (37 : Int64) = lN 37 from rfl, lN_mul, lN_add]
theorem w32_n {s : Nat → Int32} {st : Nat} : ∀ {l : Nat}, l ≤ 8 → (∀ j, j < l → tk_lt (s (st + j)) = true) → tk_wd s st l = lN (wn32 (ltn s st) l)
  | 0, _, _ => rfl
  | k + 1, h8, h => by
    obtain ⟨c, h1, h2, e⟩ := tk_lt_n (h k (by omega))
    rw [tk_wd, w32_n (by omega) (fun j hj => h j (by omega)), wn32]
    have e2 : (s (st + k) - 97 + 1).toInt64 = lN (ltn s st k) := by
      unfold ltn
      rw [e, show (97 : Int32) = nI 97 from rfl, pk_sub (by omega), nI_1, nI_clamp (by omega), nI_l (by omega)]
      congr 1; omega
    rw [e2, show (32 : Int64) = lN 32 from rfl, lN_mul, lN_add, Nat.mul_comm]
/-! the words of the language -/
def kwc (q c j : Nat) : Nat := (fc_ch q (8 * c + j)).toNatClampNeg - 96
/-- how long a word of the list is -/
def kwl (q c : Nat) : Nat := (List.range 8).foldl (fun a j => if fc_ch q (8 * c + j) = 32 then a else a + 1) 0
def kwv (w : Nat) : Int64 := [30595897, 812565, 1119812451, 347, 43171619, 37901290, 43890888, 561, 36288495, 4223532, 919077526, 1166843, 367711, 30696, 30596128, 4020872, 979413, 687983, 19741, 1891, 573, 6250976, 30910767, 6555627, 19811063].getD w 0
theorem kw_0 : ∀ c, c < 21 → kwl 0 c ≤ 8 ∧ kwv c = lN (wn37 (kwc 0 c) (kwl 0 c)) ∧ (∀ j, j < 8 → (j < kwl 0 c → tk_lt (fc_ch 0 (8 * c + j)) = true) ∧ (¬ j < kwl 0 c → fc_ch 0 (8 * c + j) = 32)) := by decide +kernel
theorem kw_2 : ∀ c, c < 4 → kwl 2 c ≤ 8 ∧ kwv (21 + c) = lN (wn37 (kwc 2 c) (kwl 2 c)) ∧ (∀ j, j < 8 → (j < kwl 2 c → tk_lt (fc_ch 2 (8 * c + j)) = true) ∧ (¬ j < kwl 2 c → fc_ch 2 (8 * c + j) = 32)) := by decide +kernel
theorem kw_d0 : ∀ c, c < 21 → ∀ c', c' < 21 → (∀ j, j < 8 → fc_ch 0 (8 * c + j) = fc_ch 0 (8 * c' + j)) → c = c' := by decide +kernel
theorem kw_d2 : ∀ c, c < 4 → ∀ c', c' < 4 → (∀ j, j < 8 → fc_ch 2 (8 * c + j) = fc_ch 2 (8 * c' + j)) → c = c' := by decide +kernel
theorem tk_cn_8 {P : Nat → Bool} : tk_cn P 8 = 8 ↔ ∀ j, j < 8 → P j = true := by
  have key : ∀ k, k ≤ 8 → ∃ a, a ≤ k ∧ tk_cn P k = nI a ∧ (a = k ↔ ∀ j, j < k → P j = true) := by
    intro k
    induction k with
    | zero => intro _; exact ⟨0, Nat.le_refl _, rfl, ⟨fun _ j hj => absurd hj (Nat.not_lt_zero j), fun _ => rfl⟩⟩
    | succ k ih =>
      intro hk
      obtain ⟨a, h1, h2, h3⟩ := ih (by omega)
      rw [tk_cn, h2]
      by_cases hP : P k = true
      · rw [if_pos hP]
        refine ⟨a + 1, by omega, nI_1 a, ⟨fun e j hj => ?_, fun e => ?_⟩⟩
        · by_cases q : j = k
          · rw [q]; exact hP
          · exact h3.mp (by omega) j (by omega)
        · rw [h3.mpr (fun j hj => e j (by omega))]
      · rw [if_neg hP]
        refine ⟨a, by omega, rfl, ⟨fun e => by omega, fun e => absurd (e k (by omega)) hP⟩⟩
  obtain ⟨a, h1, h2, h3⟩ := key 8 (Nat.le_refl _)
  rw [h2, ← h3]
  exact nI_eq (a := a) (b := 8) (by omega) (by omega)
theorem tk_ce_c {q : Nat} {g : Nat → Int32} : ∀ j c, (∃ k, c ≤ k ∧ k < c + j ∧ (∀ l, l < 8 → fc_ch q (8 * k + l) = g l) ∧ tk_ce q g j c = nI k) ∨ ((∀ k, c ≤ k → k < c + j → ¬ ∀ l, l < 8 → fc_ch q (8 * k + l) = g l) ∧ tk_ce q g j c = -1)
  | 0, c => Or.inr ⟨fun k h1 h2 => absurd h2 (by omega), rfl⟩
  | j + 1, c => by
    have hm : tk_cn (fun l => decide (fc_ch q (8 * c + l) = g l)) 8 = 8 ↔ ∀ l, l < 8 → fc_ch q (8 * c + l) = g l := by
      rw [tk_cn_8]
      exact ⟨fun h l hl => of_decide_eq_true (h l hl), fun h l hl => decide_eq_true (h l hl)⟩
    rw [tk_ce]
    by_cases h : tk_cn (fun l => decide (fc_ch q (8 * c + l) = g l)) 8 = 8
    · rw [if_pos h]
      exact Or.inl ⟨c, Nat.le_refl _, by omega, hm.mp h, rfl⟩
    · rw [if_neg h]
      rcases tk_ce_c (q := q) (g := g) j (c + 1) with ⟨k, h1, h2, h3, h4⟩ | ⟨h1, h2⟩
      · exact Or.inl ⟨k, by omega, by omega, h3, h4⟩
      · refine Or.inr ⟨fun k g1 g2 => ?_, h2⟩
        by_cases e : k = c
        · subst e; exact fun z => h (hm.mpr z)
        · exact h1 k (by omega) (by omega)
/-- a word of the tape is a word of the list: by its letters, and by the reference's number -/
theorem kw_m {q c : Nat} {s : Nat → Int32} {n st l : Nat} {v : Int64} (hk : kwl q c ≤ 8 ∧ v = lN (wn37 (kwc q c) (kwl q c)) ∧ (∀ j, j < 8 → (j < kwl q c → tk_lt (fc_ch q (8 * c + j)) = true) ∧ (¬ j < kwl q c → fc_ch q (8 * c + j) = 32))) (h8 : l ≤ 8) (hn : st + l ≤ n) (hl : ∀ j, j < l → tk_lt (s (st + j)) = true) : (∀ j, j < 8 → fc_ch q (8 * c + j) = tk_sg s n st (st + l) j) ↔ w37 s st l = v := by
  obtain ⟨k1, k2, k3⟩ := hk
  have hf : wlt (kwc q c) (kwl q c) := fun j hj => by
    obtain ⟨a, h1, h2, e⟩ := tk_lt_n ((k3 j (by omega)).1 hj)
    unfold kwc
    rw [e, nI_clamp (by omega)]
    omega
  rw [w37_n h8 hl, k2, pk_lEQ (by have := wn_lt (ltn_lt hl) h8; omega) (by have := wn_lt hf k1; omega)]
  have sg : ∀ j, tk_sg s n st (st + l) j = if j < l then s (st + j) else 32 := fun j => by
    unfold tk_sg
    by_cases h : j < l
    · rw [if_pos h, if_pos (by omega)]
    · rw [if_neg h, if_neg (by omega)]
  have n32 : ∀ x : Int32, tk_lt x = true → ¬ x = 32 := fun x h e => by rw [e] at h; exact absurd h (by decide)
  constructor
  · intro h
    have hlen : l = kwl q c := by
      rcases Nat.lt_trichotomy l (kwl q c) with z | z | z
      · have a := h l (by omega)
        rw [sg, if_neg (by omega)] at a
        exact absurd a (n32 _ ((k3 l (by omega)).1 z))
      · exact z
      · have a := h (kwl q c) (by omega)
        rw [sg, if_pos z, (k3 (kwl q c) (by omega)).2 (by omega)] at a
        exact absurd a.symm (n32 _ (hl (kwl q c) z))
    rw [← hlen]
    refine wn37_cg (fun j hj => ?_)
    have a := h j (by omega)
    rw [sg, if_pos hj] at a
    unfold ltn kwc
    rw [a]
  · intro e j hj
    obtain ⟨e1, e2⟩ := wn37_inj (ltn_lt hl) hf e
    rw [sg]
    by_cases h : j < l
    · rw [if_pos h]
      have a := e2 j h
      obtain ⟨c1, h1, h2, x1⟩ := tk_lt_n (hl j h)
      obtain ⟨c2, g1, g2, x2⟩ := tk_lt_n ((k3 j hj).1 (by omega))
      unfold ltn kwc at a
      rw [x1, x2, nI_clamp (by omega), nI_clamp (by omega)] at a
      rw [x1, x2]; congr 1; omega
    · rw [if_neg h]; exact (k3 j hj).2 (by omega)
