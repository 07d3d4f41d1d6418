/-! ===== what the small methods answer ===== -/
def sp_has (n x : Int32) : Bool := !decide (x < 0) && !decide (n ≤ x)
def sp_aw (wk : Nat → Int32) (m : Int32) (p : Nat) : Bool := !decide (m < wk p)
def sp_rd (wk ac : Nat → Int32) (m : Int32) (p : Nat) : Bool := sp_aw wk m p && decide (ac p = 0)
/-- the set of those below n -/
def sp_set (P : Nat → Bool) : Nat → Int32
  | 0 => 0
  | n + 1 => if P n then sp_set P n ||| ((1 : Int32) <<< (nI n &&& 31)) else sp_set P n
def sp_sum (f : Nat → Int32) : Nat → Int32
  | 0 => 0
  | n + 1 => sp_sum f n + f n
def sp_in (b x : Int32) : Bool := decide ((b >>> (x &&& 31)) &&& 1 = 1)
theorem sp_set_t {P : Nat → Bool} {n : Nat} (h : P n = true) : sp_set P n ||| ((1 : Int32) <<< (nI n &&& 31)) = sp_set P (n + 1) := by rw [sp_set, if_pos h]
theorem sp_set_f {P : Nat → Bool} {n : Nat} (h : P n = false) : sp_set P n = sp_set P (n + 1) := by rw [sp_set, if_neg (by rw [h]; decide)]
theorem sp_set_congr {P P' : Nat → Bool} : ∀ {n : Nat}, (∀ i, i < n → P i = P' i) → sp_set P n = sp_set P' n
  | 0, _ => rfl
  | n + 1, h => by rw [sp_set, sp_set, sp_set_congr (fun i hi => h i (by omega)), h n (by omega)]
theorem sp_sum_congr {f g : Nat → Int32} : ∀ {n : Nat}, (∀ i, i < n → f i = g i) → sp_sum f n = sp_sum g n
  | 0, _ => rfl
  | n + 1, h => by rw [sp_sum, sp_sum, sp_sum_congr (fun i hi => h i (by omega)), h n (by omega)]
theorem fc_inc (i : Nat) : nI i + Int32.ofInt 1 = nI (i + 1) := nI_1 i
/-- one that is there is a number below n -/
theorem sp_hasN {n : Nat} {x : Int32} (hn : n < 2 ^ 31) (h : sp_has (nI n) x = true) : ∃ p, p < n ∧ x = nI p := by
  unfold sp_has at h
  simp only [Bool.and_eq_true, Bool.not_eq_true', decide_eq_false_iff_not] at h
  obtain ⟨j, h1, rfl⟩ := nI_of h.1
  refine ⟨j, ?_, rfl⟩
  rcases Nat.lt_or_ge j n with q | q
  · exact q
  · exact absurd (nI_le q h1) h.2
theorem sp_has_nI {n p : Nat} (h : p < n) (hn : n < 2 ^ 31) : sp_has (nI n) (nI p) = true := by
  unfold sp_has
  simp only [Bool.and_eq_true, Bool.not_eq_true', decide_eq_false_iff_not]
  exact ⟨nI_pos (by omega), nI_ge h hn⟩
section M13
variable {E : fc_E} {d : Nat} {mi : fc_Mi} {ml : fc_Ml} {mr : fc_Mr} {a b : Nat}
theorem c_hasPlace (hL : fc_L mr b) (x : Int32) : fc_R E mX0_hasPlace d fc_sh [.ref b, .int x] mi ml mr (fc_is (some (.int (fc_b (sp_has (mi b 10) x)))) mi ml mr) := by
  refine fc_met rfl (Nat.le_of_ble_eq_true rfl) (fc_run oX0_hasPlace (fun _ => false) 400 ?_)
  refine And.intro (fun h1 => ?_) (fun h1 => ?_)
  · refine And.intro (by first | exact Or.inl rfl | exact Or.inr rfl | exact fc_bb _ | assumption) ?_
    exact ⟨by simp [sp_has, fc_b, h1], rfl, rfl, rfl⟩
  · refine And.intro (fc_L_0 hL) ?_
    refine And.intro (fun h9 => ?_) (fun h9 => ?_)
    · refine And.intro (by first | exact Or.inl rfl | exact Or.inr rfl | exact fc_bb _ | assumption) ?_
      exact ⟨by simp [sp_has, fc_b, h1, h9], rfl, rfl, rfl⟩
    · refine And.intro (by first | exact Or.inl rfl | exact Or.inr rfl | exact fc_bb _ | assumption) ?_
      exact ⟨by simp [sp_has, fc_b, h1, h9], rfl, rfl, rfl⟩

theorem c_hasPerson (hL : fc_L mr b) (x : Int32) : fc_R E mX0_hasPerson d fc_sh [.ref b, .int x] mi ml mr (fc_is (some (.int (fc_b (sp_has (mi b 12) x)))) mi ml mr) := by
  refine fc_met rfl (Nat.le_of_ble_eq_true rfl) (fc_run oX0_hasPerson (fun _ => false) 400 ?_)
  refine And.intro (fun h1 => ?_) (fun h1 => ?_)
  · refine And.intro (by first | exact Or.inl rfl | exact Or.inr rfl | exact fc_bb _ | assumption) ?_
    exact ⟨by simp [sp_has, fc_b, h1], rfl, rfl, rfl⟩
  · refine And.intro (fc_L_0 hL) ?_
    refine And.intro (fun h9 => ?_) (fun h9 => ?_)
    · refine And.intro (by first | exact Or.inl rfl | exact Or.inr rfl | exact fc_bb _ | assumption) ?_
      exact ⟨by simp [sp_has, fc_b, h1, h9], rfl, rfl, rfl⟩
    · refine And.intro (by first | exact Or.inl rfl | exact Or.inr rfl | exact fc_bb _ | assumption) ?_
      exact ⟨by simp [sp_has, fc_b, h1, h9], rfl, rfl, rfl⟩

theorem c_hasThing (hL : fc_L mr b) (x : Int32) : fc_R E mX0_hasThing d fc_sh [.ref b, .int x] mi ml mr (fc_is (some (.int (fc_b (sp_has (mi b 13) x)))) mi ml mr) := by
  refine fc_met rfl (Nat.le_of_ble_eq_true rfl) (fc_run oX0_hasThing (fun _ => false) 400 ?_)
  refine And.intro (fun h1 => ?_) (fun h1 => ?_)
  · refine And.intro (by first | exact Or.inl rfl | exact Or.inr rfl | exact fc_bb _ | assumption) ?_
    exact ⟨by simp [sp_has, fc_b, h1], rfl, rfl, rfl⟩
  · refine And.intro (fc_L_0 hL) ?_
    refine And.intro (fun h9 => ?_) (fun h9 => ?_)
    · refine And.intro (by first | exact Or.inl rfl | exact Or.inr rfl | exact fc_bb _ | assumption) ?_
      exact ⟨by simp [sp_has, fc_b, h1, h9], rfl, rfl, rfl⟩
    · refine And.intro (by first | exact Or.inl rfl | exact Or.inr rfl | exact fc_bb _ | assumption) ?_
      exact ⟨by simp [sp_has, fc_b, h1, h9], rfl, rfl, rfl⟩

theorem c_isAwake (hL : fc_L mr b) {p : Nat} (hp : p < 5) (m : Int32) : fc_R E mX0_isAwake d fc_sh [.ref b, .int (nI p), .int m] mi ml mr (fc_is (some (.int (fc_b (sp_aw (mi (b + 7)) m p)))) mi ml mr) := by
  refine fc_met rfl (Nat.le_of_ble_eq_true rfl) (fc_run oX0_isAwake (fun _ => false) 400 ?_)
  refine And.intro (fc_L_0 hL) (Exists.intro _ (And.intro (fc_L_r6 hL) ?_))
  refine Exists.intro _ (Exists.intro _ (And.intro (fc_L_7 hL) (And.intro (by first | assumption | exact fc_ix_nI (by omega) (by omega) | exact fc_ix_nI (by assumption) (by omega)) ?_)))
  refine And.intro (fun h7 => ?_) (fun h7 => ?_)
  · refine And.intro (by first | exact Or.inl rfl | exact Or.inr rfl | exact fc_bb _ | assumption) ?_
    exact ⟨by simp [sp_aw, fc_b, h7], rfl, rfl, rfl⟩
  · refine And.intro (by first | exact Or.inl rfl | exact Or.inr rfl | exact fc_bb _ | assumption) ?_
    exact ⟨by simp [sp_aw, fc_b, h7], rfl, rfl, rfl⟩

theorem c_sleepOf (hL : fc_L mr b) {p : Nat} (hp : p < 5) (m : Int32) : fc_R E mX0_sleepOf d fc_sh [.ref b, .int (nI p), .int m] mi ml mr (fc_is (some (.int (if 0 < mi (b + 7) p - m then mi (b + 7) p - m else 0))) mi ml mr) := by
  refine fc_met rfl (Nat.le_of_ble_eq_true rfl) (fc_run oX0_sleepOf (fun _ => false) 400 ?_)
  refine And.intro (fc_L_0 hL) (Exists.intro _ (And.intro (fc_L_r6 hL) ?_))
  refine Exists.intro _ (Exists.intro _ (And.intro (fc_L_7 hL) (And.intro (by first | assumption | exact fc_ix_nI (by omega) (by omega) | exact fc_ix_nI (by assumption) (by omega)) ?_)))
  first | exact ⟨rfl, rfl, rfl, rfl⟩ | skip

theorem c_isIn (x z : Int32) : fc_R E mX10_isIn d fc_sh [.int x, .int z] mi ml mr (fc_is (some (.int (fc_b (sp_in x z)))) mi ml mr) := by
  refine fc_met rfl (Nat.le_of_ble_eq_true rfl) (fc_run oX10_isIn (fun _ => false) 400 ?_)
  refine And.intro (fun h6 => ?_) (fun h6 => ?_)
  · refine And.intro (by first | exact Or.inl rfl | exact Or.inr rfl | exact fc_bb _ | assumption) ?_
    exact ⟨by simp [sp_in, fc_b, h6], rfl, rfl, rfl⟩
  · refine And.intro (by first | exact Or.inl rfl | exact Or.inr rfl | exact fc_bb _ | assumption) ?_
    exact ⟨by simp [sp_in, fc_b, h6], rfl, rfl, rfl⟩

def sp_from (l x m : Int32) : Bool := !decide (x < l) && !decide (m < x)
theorem c_isFrom (l x m : Int32) : fc_R E mX10_isFrom d fc_sh [.int l, .int x, .int m] mi ml mr (fc_is (some (.int (fc_b (sp_from l x m)))) mi ml mr) := by
  refine fc_met rfl (Nat.le_of_ble_eq_true rfl) (fc_run oX10_isFrom (fun _ => false) 400 ?_)
  refine And.intro (fun h2 => ?_) (fun h2 => ?_)
  · refine And.intro (by first | exact Or.inl rfl | exact Or.inr rfl | exact fc_bb _ | assumption) ?_
    exact ⟨by simp [sp_from, fc_b, h2], rfl, rfl, rfl⟩
  · refine And.intro (fun h7 => ?_) (fun h7 => ?_)
    · refine And.intro (by first | exact Or.inl rfl | exact Or.inr rfl | exact fc_bb _ | assumption) ?_
      exact ⟨by simp [sp_from, fc_b, h2, h7], rfl, rfl, rfl⟩
    · refine And.intro (by first | exact Or.inl rfl | exact Or.inr rfl | exact fc_bb _ | assumption) ?_
      exact ⟨by simp [sp_from, fc_b, h2, h7], rfl, rfl, rfl⟩

def sp_non (x : Int32) : Int32 := if 99 < x then -1 else x
theorem c_orNone (x : Int32) : fc_R E mX10_orNone d fc_sh [.int x] mi ml mr (fc_is (some (.int (sp_non x))) mi ml mr) := by
  refine fc_met rfl (Nat.le_of_ble_eq_true rfl) (fc_run oX10_orNone (fun _ => false) 400 ?_)
  refine And.intro (fun h3 => ?_) (fun h3 => ?_)
  · exact ⟨by simp [sp_non, h3], rfl, rfl, rfl⟩
  · exact ⟨by simp [sp_non, h3], rfl, rfl, rfl⟩

end M13
