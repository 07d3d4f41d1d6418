/-! ===== what binds ===== -/
section M20
variable {E : fc_E} {d : Nat} {mi : fc_Mi} {ml : fc_Ml} {mr : fc_Mr} {a b n m t : Nat}
def sp_num (P : Nat → Bool) : Nat → Int32
  | 0 => 0
  | n + 1 => if P n then sp_num P n + 1 else sp_num P n
theorem sp_num_congr {P P' : Nat → Bool} : ∀ {n : Nat}, (∀ i, i < n → P i = P' i) → sp_num P n = sp_num P' n
  | 0, _ => rfl
  | n + 1, h => by rw [sp_num, sp_num, sp_num_congr (fun i hi => h i (by omega)), h n (by omega)]
theorem sp_num_t {P : Nat → Bool} {n : Nat} (h : P n = true) : sp_num P n + Int32.ofInt 1 = sp_num P (n + 1) := by rw [sp_num, if_pos h]; rfl
theorem sp_num_f {P : Nat → Bool} {n : Nat} (h : P n = false) : sp_num P n = sp_num P (n + 1) := by rw [sp_num, if_neg (by rw [h]; decide)]
/-- the crowd about p and o -/
def sp_cd (n : Nat) (w wk : Nat → Int32) (ck : Int32) (p o : Nat) : Int32 := ((sp_set (fun q => decide (w q = w p)) n &&& sp_set (sp_aw wk ck) n) &&& (((1 : Int32) <<< (nI p &&& 31)) ^^^ (-1))) &&& (((1 : Int32) <<< (nI o &&& 31)) ^^^ (-1))
/-- the law's reckoning of something between p and o -/
def sp_bd (n : Nat) (w wk kd code v0 : Nat → Int32) (len : Nat) (pr ck : Int32) (p o : Nat) : Nat × (Nat → Int32) :=
  sp_lw code ck pr (sp_bc (sp_cd n w wk ck p o)) (sp_num (fun q => sp_in (sp_cd n w wk ck p o) (nI q) && decide (kd q = 1)) n) v0 len
def sp_bi (s : Nat × (Nat → Int32)) : Bool := !decide (sp_val s = 0)
theorem l_isBinding (hS : fc_S mr a) (hL : fc_L mr b) (hN : mi b 12 = nI n) (h5 : n ≤ 5) {len : Nat} (hlen : mi (b + 10) 2 = nI len) (hl : len ≤ 1000) {p q : Nat} (hp : p < 5) (pr ck : Int32) : ∀ (j i : Nat) (c acc : Int32), i + j = n → c = nI i → acc = sp_num (fun q0 => sp_in (sp_cd n (mi (a + 1)) (mi (b + 7)) ck p q) (nI q0) && decide (mi (b + 5) q0 = 1)) i → fc_T E mX7_isBinding (d + 2) (0, 0) fc_sh 38 [some (.ref a), some (.ref b), some (.int (nI p)), some (.int (nI q)), some (.int pr), some (.int ck), some (.int (sp_cd n (mi (a + 1)) (mi (b + 7)) ck p q)), some (.int acc), some (.int c)] [] mi ml mr (fc_is (some (.int (fc_b (sp_bi (sp_bd n (mi (a + 1)) (mi (b + 7)) (mi (b + 5)) (mi (b + 11)) (mi (b + 12)) len pr ck p q))))) (fc_ur mi (b + 12) (sp_bd n (mi (a + 1)) (mi (b + 7)) (mi (b + 5)) (mi (b + 11)) (mi (b + 12)) len pr ck p q).2) ml mr) := by
  intro j
  induction j with
  | zero =>
    intro i c acc hi hc hacc
    subst hc
    refine fc_run oX7_isBinding (fun pc => pc == 38) 400 ?_
    refine And.intro (fc_L_0 hL) ?_
    refine And.intro (fun h44 => ?_) (fun h44 => ?_)
    · refine And.intro (fc_L_0 hL) (Exists.intro _ (And.intro (fc_L_r9 hL) ?_))
      refine Exists.intro _ (And.intro (c_bitCount _) ?_)
      rintro _ _ _ _ ⟨rfl, rfl, rfl, rfl⟩
      refine And.intro (fc_L_10 hL) (Exists.intro _ (And.intro (c_valueAt hL _ _ _ _ hlen hl) ?_))
      rintro _ _ _ _ ⟨rfl, rfl, rfl, rfl⟩
      have ev : sp_lw (mi (b + 11)) ck pr (sp_bc (sp_cd n (mi (a + 1)) (mi (b + 7)) ck p q)) acc (mi (b + 12)) len = sp_bd n (mi (a + 1)) (mi (b + 7)) (mi (b + 5)) (mi (b + 11)) (mi (b + 12)) len pr ck p q := by rw [hacc, show i = n by omega]; rfl
      rw [ev]
      refine And.intro (fun h95 => ?_) (fun h95 => ?_)
      · refine And.intro (by first | exact Or.inl rfl | exact Or.inr rfl | exact fc_bb _ | assumption) ?_
        exact ⟨by simp [sp_bi, h95, fc_b], rfl, rfl, rfl⟩
      · refine And.intro (by first | exact Or.inl rfl | exact Or.inr rfl | exact fc_bb _ | assumption) ?_
        exact ⟨by simp [sp_bi, h95, fc_b], rfl, rfl, rfl⟩
    · exact absurd (by rw [hN]; exact nI_le (by omega) (by omega)) h44
  | succ j ih =>
    intro i c acc hi hc hacc
    subst hc
    refine fc_run oX7_isBinding (fun pc => pc == 38) 400 ?_
    refine And.intro (fc_L_0 hL) ?_
    refine And.intro (fun h44 => ?_) (fun h44 => ?_)
    · exact absurd h44 (by rw [hN]; exact nI_ge (by omega) (by omega))
    · refine Exists.intro _ (And.intro (c_isIn _ _) ?_)
      rintro _ _ _ _ ⟨rfl, rfl, rfl, rfl⟩
      refine And.intro (fun h54 => ?_) (fun h54 => ?_)
      · replace h54 := fc_b0.mp h54
        exact ih (i + 1) _ _ (by omega) (fc_inc i) (by rw [hacc]; exact sp_num_f (by simp [h54]))
      · replace h54 := fc_b1.mp h54
        refine And.intro (fc_L_0 hL) (Exists.intro _ (And.intro (fc_L_r4 hL) ?_))
        refine Exists.intro _ (Exists.intro _ (And.intro (fc_L_5 hL) (And.intro (by first | assumption | exact fc_ix_nI (by omega) (by omega) | exact fc_ix_nI (by assumption) (by omega)) ?_)))
        refine And.intro (fun h65 => ?_) (fun h65 => ?_)
        · exact ih (i + 1) _ _ (by omega) (fc_inc i) (by rw [hacc]; exact sp_num_t (by simp [h54, h65]))
        · exact ih (i + 1) _ _ (by omega) (fc_inc i) (by rw [hacc]; exact sp_num_f (by simp [h54, h65]))

theorem c_isBinding (hS : fc_S mr a) (hL : fc_L mr b) (hN : mi b 12 = nI n) (h5 : n ≤ 5) {len : Nat} (hlen : mi (b + 10) 2 = nI len) (hl : len ≤ 1000) {p q : Nat} (hp : p < 5) (pr ck : Int32) : fc_R E mX7_isBinding (d + 2) fc_sh [.ref a, .ref b, .int (nI p), .int (nI q), .int pr, .int ck] mi ml mr (fc_is (some (.int (fc_b (sp_bi (sp_bd n (mi (a + 1)) (mi (b + 7)) (mi (b + 5)) (mi (b + 11)) (mi (b + 12)) len pr ck p q))))) (fc_ur mi (b + 12) (sp_bd n (mi (a + 1)) (mi (b + 7)) (mi (b + 5)) (mi (b + 11)) (mi (b + 12)) len pr ck p q).2) ml mr) := by
  refine fc_met rfl (Nat.le_of_ble_eq_true rfl) (fc_run oX7_isBinding (fun pc => pc == 38) 400 ?_)
  refine And.intro (fc_S_0 hS) (Exists.intro _ (And.intro (fc_S_r2 hS) ?_))
  refine Exists.intro _ (Exists.intro _ (And.intro (fc_S_1 hS) (And.intro (by first | assumption | exact fc_ix_nI (by omega) (by omega) | exact fc_ix_nI (by assumption) (by omega)) ?_)))
  refine And.intro (fc_S_0 hS) (Exists.intro _ (And.intro (c_bitsAt hS hL _ hN h5) ?_))
  rintro _ _ _ _ ⟨rfl, rfl, rfl, rfl⟩
  refine And.intro (fc_L_0 hL) (Exists.intro _ (And.intro (c_awakeBits hL _ hN h5) ?_))
  rintro _ _ _ _ ⟨rfl, rfl, rfl, rfl⟩
  exact l_isBinding (q := q) hS hL hN h5 hlen hl hp pr ck n 0 _ _ (by omega) rfl rfl

theorem c_giftBinds (hS : fc_S mr a) (hL : fc_L mr b) (hN : mi b 12 = nI n) (h5 : n ≤ 5) {len : Nat} (hlen : mi (b + 10) 2 = nI len) (hl : len ≤ 1000) {k p q : Nat} (hk : k < 6) (hh : mi (a + 6) k = nI p) (hp : p < 5) (ck : Int32) : fc_R E mX7_giftBinds (d + 3) fc_sh [.ref a, .ref b, .int (nI k), .int (nI q), .int ck] mi ml mr (fc_is (some (.int (fc_b (sp_bi (sp_bd n (mi (a + 1)) (mi (b + 7)) (mi (b + 5)) (mi (b + 11)) (mi (b + 12)) len (mi (b + 8) k) ck p q))))) (fc_ur mi (b + 12) (sp_bd n (mi (a + 1)) (mi (b + 7)) (mi (b + 5)) (mi (b + 11)) (mi (b + 12)) len (mi (b + 8) k) ck p q).2) ml mr) := by
  refine fc_met rfl (Nat.le_of_ble_eq_true rfl) (fc_run oX7_giftBinds (fun _ => false) 400 ?_)
  refine And.intro (fc_S_0 hS) (Exists.intro _ (And.intro (fc_S_r7 hS) ?_))
  refine Exists.intro _ (Exists.intro _ (And.intro (fc_S_6 hS) (And.intro (fc_ix_nI (p := k) (by omega) (by omega)) ?_)))
  rw [hh]
  refine And.intro (fc_L_0 hL) (Exists.intro _ (And.intro (fc_L_r7 hL) ?_))
  refine Exists.intro _ (Exists.intro _ (And.intro (fc_L_8 hL) (And.intro (fc_ix_nI (p := k) (by omega) (by omega)) ?_)))
  refine And.intro (fc_S_0 hS) (Exists.intro _ (And.intro (c_isBinding hS hL hN h5 hlen hl (by omega) _ _) ?_))
  rintro _ _ _ _ ⟨rfl, rfl, rfl, rfl⟩
  refine And.intro (by first | exact Or.inl rfl | exact Or.inr rfl | exact fc_bb _ | assumption) ?_
  first | exact ⟨rfl, rfl, rfl, rfl⟩ | skip

/-- the memory behind a gift -/
def sp_gv (mi : fc_Mi) (a b k p : Nat) (q : Int32) (s : Nat × (Nat → Int32)) : fc_Mi :=
  if sp_bi s then fc_u (fc_u (fc_u (fc_ur mi (b + 12) s.2) (a + 2) p 1) (a + 6) k q) (a + 7) k q else fc_u (fc_u (fc_ur mi (b + 12) s.2) (a + 2) p 1) (a + 6) k q
theorem c_handOver (hS : fc_S mr a) (hL : fc_L mr b) (hN : mi b 12 = nI n) (h5 : n ≤ 5) {len : Nat} (hlen : mi (b + 10) 2 = nI len) (hl : len ≤ 1000) {k p q : Nat} (hk : k < 6) (hh : mi (a + 6) k = nI p) (hp : p < 5) (hab : a + 8 ≤ b) : fc_R E mX7_handOver (d + 4) fc_sh [.ref a, .ref b, .int (nI k), .int (nI q)] mi ml mr (fc_is (some (.int (fc_b (sp_bi (sp_bd n (mi (a + 1)) (mi (b + 7)) (mi (b + 5)) (mi (b + 11)) (mi (b + 12)) len (mi (b + 8) k) (mi a 1) p q))))) (sp_gv mi a b k p (nI q) (sp_bd n (mi (a + 1)) (mi (b + 7)) (mi (b + 5)) (mi (b + 11)) (mi (b + 12)) len (mi (b + 8) k) (mi a 1) p q)) ml mr) := by
  refine fc_met rfl (Nat.le_of_ble_eq_true rfl) (fc_run oX7_handOver (fun _ => false) 400 ?_)
  refine And.intro (fc_S_0 hS) ?_
  refine And.intro (fc_S_0 hS) (Exists.intro _ (And.intro (c_giftBinds hS hL hN h5 hlen hl hk hh hp _) ?_))
  rintro _ _ _ _ ⟨rfl, rfl, rfl, rfl⟩
  refine And.intro (fc_S_0 hS) (Exists.intro _ (And.intro (fc_S_r3 hS) ?_))
  refine And.intro (fc_S_0 hS) (Exists.intro _ (And.intro (fc_S_r7 hS) ?_))
  refine Exists.intro _ (Exists.intro _ (And.intro (fc_S_6 hS) (And.intro (fc_ix_nI (p := k) (by omega) (by omega)) ?_)))
  rw [fc_ur_off (b := a + 6) _ _ (by omega), hh]
  refine Exists.intro _ (Exists.intro _ (And.intro (fc_S_2 hS) (And.intro (fc_ix_nI (p := p) (by omega) (by omega)) ?_)))
  refine And.intro (fc_S_0 hS) (Exists.intro _ (And.intro (fc_S_r7 hS) ?_))
  refine Exists.intro _ (Exists.intro _ (And.intro (fc_S_6 hS) (And.intro (fc_ix_nI (p := k) (by omega) (by omega)) ?_)))
  refine And.intro (fun h34 => ?_) (fun h34 => ?_)
  · replace h34 := fc_b0.mp h34
    refine And.intro (by first | exact Or.inl rfl | exact Or.inr rfl | exact fc_bb _ | assumption) ?_
    exact ⟨rfl, by simp only [sp_gv, h34]; simp, rfl, rfl⟩
  · replace h34 := fc_b1.mp h34
    refine And.intro (fc_S_0 hS) (Exists.intro _ (And.intro (fc_S_r8 hS) ?_))
    refine Exists.intro _ (Exists.intro _ (And.intro (fc_S_7 hS) (And.intro (fc_ix_nI (p := k) (by omega) (by omega)) ?_)))
    refine And.intro (by first | exact Or.inl rfl | exact Or.inr rfl | exact fc_bb _ | assumption) ?_
    exact ⟨rfl, by simp only [sp_gv, h34]; simp, rfl, rfl⟩

/-- the memory behind a vow -/
def sp_vw0 (mi : fc_Mi) (a p q : Nat) : fc_Mi :=
  let m1 := fc_u (fc_u mi (a + 2) p 1) (a + 2) q 1
  let m2 := fc_u m1 (a + 4) p (m1 (a + 4) p ||| ((1 : Int32) <<< (nI q &&& 31)))
  fc_u m2 (a + 4) q (m2 (a + 4) q ||| ((1 : Int32) <<< (nI p &&& 31)))
def sp_vw1 (mi : fc_Mi) (a p q : Nat) : fc_Mi :=
  let m2 := fc_u mi (a + 5) p (mi (a + 5) p ||| ((1 : Int32) <<< (nI q &&& 31)))
  fc_u m2 (a + 5) q (m2 (a + 5) q ||| ((1 : Int32) <<< (nI p &&& 31)))
def sp_vw (mi : fc_Mi) (a b p q : Nat) (s : Nat × (Nat → Int32)) : fc_Mi :=
  if sp_bi s then sp_vw1 (sp_vw0 (fc_ur mi (b + 12) s.2) a p q) a p q else sp_vw0 (fc_ur mi (b + 12) s.2) a p q
theorem c_pledge (hS : fc_S mr a) (hL : fc_L mr b) (hN : mi b 12 = nI n) (h5 : n ≤ 5) {len : Nat} (hlen : mi (b + 10) 2 = nI len) (hl : len ≤ 1000) {p q : Nat} (hp : p < 5) (hq : q < 5) : fc_R E mX7_pledge (d + 3) fc_sh [.ref a, .ref b, .int (nI p), .int (nI q)] mi ml mr (fc_is (some (.int (fc_b (sp_bi (sp_bd n (mi (a + 1)) (mi (b + 7)) (mi (b + 5)) (mi (b + 11)) (mi (b + 12)) len 0 (mi a 1) p q))))) (sp_vw mi a b p q (sp_bd n (mi (a + 1)) (mi (b + 7)) (mi (b + 5)) (mi (b + 11)) (mi (b + 12)) len 0 (mi a 1) p q)) ml mr) := by
  refine fc_met rfl (Nat.le_of_ble_eq_true rfl) (fc_run oX7_pledge (fun _ => false) 400 ?_)
  refine And.intro (fc_S_0 hS) ?_
  refine And.intro (fc_S_0 hS) (Exists.intro _ (And.intro (c_isBinding hS hL hN h5 hlen hl (by omega) _ _) ?_))
  rintro _ _ _ _ ⟨rfl, rfl, rfl, rfl⟩
  refine And.intro (fc_S_0 hS) (Exists.intro _ (And.intro (fc_S_r3 hS) ?_))
  refine Exists.intro _ (Exists.intro _ (And.intro (fc_S_2 hS) (And.intro (fc_ix_nI (p := p) (by omega) (by omega)) ?_)))
  refine And.intro (fc_S_0 hS) (Exists.intro _ (And.intro (fc_S_r3 hS) ?_))
  refine Exists.intro _ (Exists.intro _ (And.intro (fc_S_2 hS) (And.intro (fc_ix_nI (p := q) (by omega) (by omega)) ?_)))
  refine And.intro (fc_S_0 hS) (Exists.intro _ (And.intro (fc_S_r5 hS) ?_))
  refine Exists.intro _ (Exists.intro _ (And.intro (fc_S_4 hS) (And.intro (fc_ix_nI (p := p) (by omega) (by omega)) ?_)))
  refine Exists.intro _ (Exists.intro _ (And.intro (fc_S_4 hS) (And.intro (fc_ix_nI (p := p) (by omega) (by omega)) ?_)))
  refine And.intro (fc_S_0 hS) (Exists.intro _ (And.intro (fc_S_r5 hS) ?_))
  refine Exists.intro _ (Exists.intro _ (And.intro (fc_S_4 hS) (And.intro (fc_ix_nI (p := q) (by omega) (by omega)) ?_)))
  refine Exists.intro _ (Exists.intro _ (And.intro (fc_S_4 hS) (And.intro (fc_ix_nI (p := q) (by omega) (by omega)) ?_)))
  refine And.intro (fun h54 => ?_) (fun h54 => ?_)
  · replace h54 := fc_b0.mp h54
    refine And.intro (by first | exact Or.inl rfl | exact Or.inr rfl | exact fc_bb _ | assumption) ?_
    exact ⟨rfl, by simp only [sp_vw, h54]; simp [sp_vw0, sp_vw1], rfl, rfl⟩
  · replace h54 := fc_b1.mp h54
    refine And.intro (fc_S_0 hS) (Exists.intro _ (And.intro (fc_S_r6 hS) ?_))
    refine Exists.intro _ (Exists.intro _ (And.intro (fc_S_5 hS) (And.intro (fc_ix_nI (p := p) (by omega) (by omega)) ?_)))
    refine Exists.intro _ (Exists.intro _ (And.intro (fc_S_5 hS) (And.intro (fc_ix_nI (p := p) (by omega) (by omega)) ?_)))
    refine And.intro (fc_S_0 hS) (Exists.intro _ (And.intro (fc_S_r6 hS) ?_))
    refine Exists.intro _ (Exists.intro _ (And.intro (fc_S_5 hS) (And.intro (fc_ix_nI (p := q) (by omega) (by omega)) ?_)))
    refine Exists.intro _ (Exists.intro _ (And.intro (fc_S_5 hS) (And.intro (fc_ix_nI (p := q) (by omega) (by omega)) ?_)))
    refine And.intro (by first | exact Or.inl rfl | exact Or.inr rfl | exact fc_bb _ | assumption) ?_
    exact ⟨rfl, by simp only [sp_vw, h54]; simp [sp_vw0, sp_vw1], rfl, rfl⟩

end M20
