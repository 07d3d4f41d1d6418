/-! ===== the reference: words, numbers and names taken ===== -/
section M66
variable {E : fc_E} {d : Nat} {mi : fc_Mi} {ml : fc_Ml} {mr : fc_Mr} {n N i : Nat} {s : Nat → Int32} {f : Int32}
theorem lg_lt {a b : Nat} (ha : a < 2 ^ 62) (hb : b < 2 ^ 62) : lg_cmp (lN a) (lN b) < 0 ↔ a < b := by
  unfold lg_cmp
  by_cases g : b < a
  · rw [if_pos (show lN a > lN b from (pk_lLT (by omega) (by omega)).mpr g)]; exact ⟨fun q => absurd q (by decide), fun q => absurd q (by omega)⟩
  · rw [if_neg (show ¬ lN a > lN b from fun q => g ((pk_lLT (by omega) (by omega)).mp q))]
    by_cases e : a = b
    · rw [if_pos (by rw [e])]; exact ⟨fun q => absurd q (by decide), fun q => absurd q (by omega)⟩
    · rw [if_neg (fun q => e ((pk_lEQ (by omega) (by omega)).mp q))]; exact ⟨fun _ => by omega, fun _ => by decide⟩
theorem lg_le {a b : Nat} (ha : a < 2 ^ 62) (hb : b < 2 ^ 62) : lg_cmp (lN a) (lN b) ≤ 0 ↔ a ≤ b := by
  unfold lg_cmp
  by_cases g : b < a
  · rw [if_pos (show lN a > lN b from (pk_lLT (by omega) (by omega)).mpr g)]; exact ⟨fun q => absurd q (by decide), fun q => absurd q (by omega)⟩
  · rw [if_neg (show ¬ lN a > lN b from fun q => g ((pk_lLT (by omega) (by omega)).mp q))]
    by_cases e : a = b
    · rw [if_pos (by rw [e])]; exact ⟨fun _ => by omega, fun _ => by decide⟩
    · rw [if_neg (fun q => e ((pk_lEQ (by omega) (by omega)).mp q))]; exact ⟨fun _ => by omega, fun _ => by decide⟩
theorem rfr_at (x : Int32) : rfr mi (fc_u mi 252 7 x) := ⟨fun y q => fc_u_off _ _ _ q, fun k q r => fc_u_nj _ _ _ _ q⟩
theorem rst.next (h : rst s n N i f mi ml) (hi : i < N) : rst s n N (i + 1) f (fc_u mi 252 7 (nI (i + 1))) ml := h.go (rfr_at _) (by omega) (fc_u_at _ _ _ _) (by rw [fc_u_nj _ _ _ _ (by decide)]; exact h.2.2.2.1)
theorem rst.same (h : rst s n N i f mi ml) : fc_u mi 252 7 (nI i) = mi := by rw [← h.2.2.1, fc_u_self]
theorem c_rhasSign (hW : fc_Wd mr) (hS : rst s n N i f mi ml) {c : Nat} (hc : c < 127) (hg : isg (nI c) = true) {x : Int32} (hx : x = nI c) : fc_R E mX11_hasSign (d + 1) fc_sh [.ref 252, .int x] mi ml mr (rsq s n N (some (.int (fc_b (decide (f = 0) && decide (tK s n i = nI c))))) (if f = 0 ∧ tK s n i = nI c then i + 1 else i, f) mi ml mr) := by
  obtain ⟨⟨k1, k2, k3, k4, k5, k6⟩, hiN, hat, hfa, hkw, hok⟩ := id hS
  have htk := hS.tkc i
  refine fc_met rfl (Nat.le_of_ble_eq_true rfl) (fc_run oX11_hasSign (fun _ => false) 400 ?_)
  refine And.intro rfl (Exists.intro _ (And.intro (c_risSign hW hS hc hg hx) ?_))
  rintro _ _ _ _ ⟨rfl, rfl, rfl, rfl⟩
  refine And.intro rfl ?_
  rw [hat]
  refine And.intro (fun h12 => ?_) (fun h12 => ?_)
  · replace h12 := fc_b0.mp h12
    refine And.intro rfl ?_
    refine And.intro (by first | exact Or.inl rfl | exact Or.inr rfl | exact fc_bb _ | assumption) ?_
    rw [if_neg (fun q => by rw [decide_eq_true q.1, decide_eq_true q.2] at h12; cases h12), Int32.add_zero, hS.same]
    exact ⟨rfl, hS, rfr.rf, rfl, rfl⟩
  · replace h12 := fc_b1.mp h12
    rw [Bool.and_eq_true] at h12
    have h12a := of_decide_eq_true h12.1
    have h12b := of_decide_eq_true h12.2
    have hiL : i < N := hS.lt (fun q => by rw [q] at h12b; have := isg_n c hc hg; exact absurd (nIn (a := 1) (by omega) (by omega) h12b) (by omega))
    refine And.intro rfl ?_
    refine And.intro (by first | exact Or.inl rfl | exact Or.inr rfl | exact fc_bb _ | assumption) ?_
    rw [if_pos ⟨h12a, h12b⟩, show nI i + 1 = nI (i + 1) from nI_1 i]
    exact ⟨rfl, hS.next hiL, rfr_at _, rfl, rfl⟩

theorem c_rhasWord (hW : fc_Wd mr) (hS : rst s n N i f mi ml) {w : Nat} (hw : w < 21) {x : Int32} (hx : x = nI w) : fc_R E mX11_hasWord (d + 1) fc_sh [.ref 252, .int x] mi ml mr (rsq s n N (some (.int (fc_b (decide (f = 0) && decide (tK s n i = nI (128 + w)))))) (if f = 0 ∧ tK s n i = nI (128 + w) then i + 1 else i, f) mi ml mr) := by
  obtain ⟨⟨k1, k2, k3, k4, k5, k6⟩, hiN, hat, hfa, hkw, hok⟩ := id hS
  have htk := hS.tkc i
  refine fc_met rfl (Nat.le_of_ble_eq_true rfl) (fc_run oX11_hasWord (fun _ => false) 400 ?_)
  refine And.intro rfl (Exists.intro _ (And.intro (c_risWord hW hS hw hx) ?_))
  rintro _ _ _ _ ⟨rfl, rfl, rfl, rfl⟩
  refine And.intro rfl ?_
  rw [hat]
  refine And.intro (fun h12 => ?_) (fun h12 => ?_)
  · replace h12 := fc_b0.mp h12
    refine And.intro rfl ?_
    refine And.intro (by first | exact Or.inl rfl | exact Or.inr rfl | exact fc_bb _ | assumption) ?_
    rw [if_neg (fun q => by rw [decide_eq_true q.1, decide_eq_true q.2] at h12; cases h12), Int32.add_zero, hS.same]
    exact ⟨rfl, hS, rfr.rf, rfl, rfl⟩
  · replace h12 := fc_b1.mp h12
    rw [Bool.and_eq_true] at h12
    have h12a := of_decide_eq_true h12.1
    have h12b := of_decide_eq_true h12.2
    have hiL : i < N := hS.lt (fun q => by rw [q] at h12b; exact absurd (nIn (a := 1) (by omega) (by omega) h12b) (by omega))
    refine And.intro rfl ?_
    refine And.intro (by first | exact Or.inl rfl | exact Or.inr rfl | exact fc_bb _ | assumption) ?_
    rw [if_pos ⟨h12a, h12b⟩, show nI i + 1 = nI (i + 1) from nI_1 i]
    exact ⟨rfl, hS.next hiL, rfr_at _, rfl, rfl⟩

theorem c_rtakeWord (hW : fc_Wd mr) (hS : rst s n N i f mi ml) {w : Nat} (hw : w < 21) {x : Int32} (hx : x = nI w) : fc_R E mX11_takeWord (d + 2) fc_sh [.ref 252, .int x] mi ml mr (rsq s n N none (p_sg s n (nI (128 + w)) (i, f)) mi ml mr) := by
  obtain ⟨⟨k1, k2, k3, k4, k5, k6⟩, hiN, hat, hfa, hkw, hok⟩ := id hS
  have htk := hS.tkc i
  refine fc_met rfl (Nat.le_of_ble_eq_true rfl) (fc_run oX11_takeWord (fun _ => false) 400 ?_)
  refine And.intro rfl (Exists.intro _ (And.intro (c_rhasWord hW hS hw hx) ?_))
  rintro _ m1 _ _ ⟨rfl, g1, g2, rfl, rfl⟩
  refine And.intro (fun h5 => ?_) (fun h5 => ?_)
  · replace h5 := fc_b0.mp h5
    refine And.intro rfl (Exists.intro _ (And.intro (c_rwrong hW g1 _) ?_))
    rintro _ m2 _ _ ⟨rfl, g3, g4, rfl, rfl⟩
    have hno : ¬ (f = 0 ∧ tK s n i = nI (128 + w)) := fun q => by rw [decide_eq_true q.1, decide_eq_true q.2] at h5; cases h5
    rw [if_neg hno] at g3
    refine ⟨rfl, ?_, g2.tr g4, rfl, rfl⟩
    rw [p_wr] at g3
    rw [p_sg]
    by_cases h0 : f = 0
    · rw [if_pos h0] at g3
      rw [if_pos h0, if_neg (fun q => hno ⟨h0, q⟩)]
      exact g3
    · rw [if_neg h0] at g3
      rw [if_neg h0]; exact g3
  · replace h5 := fc_b1.mp h5
    rw [Bool.and_eq_true] at h5
    have h5a := of_decide_eq_true h5.1
    have h5b := of_decide_eq_true h5.2
    rw [if_pos ⟨h5a, h5b⟩] at g1
    rw [p_sg, if_pos h5a, if_pos h5b]
    rw [h5a] at g1
    exact ⟨rfl, g1, g2, rfl, rfl⟩

/-- the last of whom P is so -/
def whl (P : Nat → Bool) : Nat → Int32
  | 0 => -1
  | k + 1 => if P k then nI k else whl P k
theorem whl_t {P : Nat → Bool} {k : Nat} : ∀ {m : Nat}, k < m → P k = true → (∀ j, j < m → P j = true → j = k) → whl P m = nI k
  | 0, h, _, _ => absurd h (by omega)
  | m + 1, h, hk, hu => by
    rw [whl]
    by_cases q : P m = true
    · rw [if_pos q, hu m (by omega) q]
    · rw [if_neg q]
      exact whl_t (by have : ¬ k = m := fun e => q (by rw [← e]; exact hk); omega) hk (fun j hj => hu j (by omega))
theorem whl_f {P : Nat → Bool} : ∀ {m : Nat}, (∀ j, j < m → P j = false) → whl P m = -1
  | 0, _ => rfl
  | m + 1, h => by rw [whl, if_neg (by rw [h m (by omega)]; decide)]; exact whl_f (fun j hj => h j (by omega))
theorem l_rwhWord (hW : fc_Wd mr) (hS : rst s n N i f mi ml) {b m : Nat} (hb : b + m ≤ 21) {x z : Int32} (hx : x = nI b) (hz : z = nI m) : ∀ (j i0 : Nat) (c acc : Int32), i0 + j = m → c = nI i0 → acc = whl (fun k => decide (f = 0) && decide (tK s n i = nI (128 + (b + k)))) i0 → fc_T E mX11_wordHere (d + 1) (0, 0) fc_sh 5 [some (.ref 252), some (.int x), some (.int z), some (.int acc), some (.int c)] [] mi ml mr (fc_is (some (.int (whl (fun k => decide (f = 0) && decide (tK s n i = nI (128 + (b + k)))) m))) mi ml mr) := by
  intro j
  induction j with
  | zero =>
    intro i0 c acc hi hc h_acc
    subst hc
    refine fc_run oX11_wordHere (fun pc => pc == 5) 400 ?_
    refine And.intro (fun h8 => ?_) (fun h8 => ?_)
    · exact ⟨by rw [h_acc, show i0 = m by omega], rfl, rfl, rfl⟩
    · exact absurd (by rw [hz]; exact nI_le (by omega) (by omega)) h8
  | succ j ih =>
    intro i0 c acc hi hc h_acc
    subst hc
    refine fc_run oX11_wordHere (fun pc => pc == 5) 400 ?_
    refine And.intro (fun h8 => ?_) (fun h8 => ?_)
    · exact absurd h8 (by rw [hz]; exact nI_ge (by omega) (by omega))
    · refine And.intro rfl (Exists.intro _ (And.intro (c_risWord hW hS (w := b + i0) (by omega) (fc_na hx rfl)) ?_))
      rintro _ _ _ _ ⟨rfl, rfl, rfl, rfl⟩
      refine And.intro (fun h19 => ?_) (fun h19 => ?_)
      · replace h19 := fc_b0.mp h19
        exact ih (i0 + 1) _ _ (by omega) (fc_inc i0) (by rw [whl, if_neg (by rw [h19]; decide)]; exact h_acc)
      · replace h19 := fc_b1.mp h19
        exact ih (i0 + 1) _ _ (by omega) (fc_inc i0) (by rw [whl, if_pos h19])
theorem c_rwhWord (hW : fc_Wd mr) (hS : rst s n N i f mi ml) {b m : Nat} (hb : b + m ≤ 21) {x z : Int32} (hx : x = nI b) (hz : z = nI m) : fc_R E mX11_wordHere (d + 1) fc_sh [.ref 252, .int x, .int z] mi ml mr (fc_is (some (.int (whl (fun k => decide (f = 0) && decide (tK s n i = nI (128 + (b + k)))) m))) mi ml mr) := by
  refine fc_met rfl (Nat.le_of_ble_eq_true rfl) (fc_run oX11_wordHere (fun pc => pc == 5) 400 ?_)
  exact l_rwhWord hW hS hb hx hz m 0 _ _ (by omega) rfl rfl

theorem l_rwhFact (hW : fc_Wd mr) (hS : rst s n N i f mi ml)  {x z : Int32} (hx : x = nI 21) (hz : z = nI 4) : ∀ (j i0 : Nat) (c acc : Int32), i0 + j = 4 → c = nI i0 → acc = whl (fun k => decide (f = 0) && decide (tK s n i = 4 ∧ tk_cl 2 s n (tS s n i) (tE s n i) = nI k)) i0 → fc_T E mX11_wordHere (d + 1) (0, 0) fc_sh 5 [some (.ref 252), some (.int x), some (.int z), some (.int acc), some (.int c)] [] mi ml mr (fc_is (some (.int (whl (fun k => decide (f = 0) && decide (tK s n i = 4 ∧ tk_cl 2 s n (tS s n i) (tE s n i) = nI k)) 4))) mi ml mr) := by
  intro j
  induction j with
  | zero =>
    intro i0 c acc hi hc h_acc
    subst hc
    refine fc_run oX11_wordHere (fun pc => pc == 5) 400 ?_
    refine And.intro (fun h8 => ?_) (fun h8 => ?_)
    · exact ⟨by rw [h_acc, show i0 = 4 by omega], rfl, rfl, rfl⟩
    · exact absurd (by rw [hz]; exact nI_le (by omega) (by omega)) h8
  | succ j ih =>
    intro i0 c acc hi hc h_acc
    subst hc
    refine fc_run oX11_wordHere (fun pc => pc == 5) 400 ?_
    refine And.intro (fun h8 => ?_) (fun h8 => ?_)
    · exact absurd h8 (by rw [hz]; exact nI_ge (by omega) (by omega))
    · refine And.intro rfl (Exists.intro _ (And.intro (c_risFact hW hS (w := i0) (by omega) (fc_na hx rfl)) ?_))
      rintro _ _ _ _ ⟨rfl, rfl, rfl, rfl⟩
      refine And.intro (fun h19 => ?_) (fun h19 => ?_)
      · replace h19 := fc_b0.mp h19
        exact ih (i0 + 1) _ _ (by omega) (fc_inc i0) (by rw [whl, if_neg (by rw [h19]; decide)]; exact h_acc)
      · replace h19 := fc_b1.mp h19
        exact ih (i0 + 1) _ _ (by omega) (fc_inc i0) (by rw [whl, if_pos h19])
theorem c_rwhFact (hW : fc_Wd mr) (hS : rst s n N i f mi ml)  {x z : Int32} (hx : x = nI 21) (hz : z = nI 4) : fc_R E mX11_wordHere (d + 1) fc_sh [.ref 252, .int x, .int z] mi ml mr (fc_is (some (.int (whl (fun k => decide (f = 0) && decide (tK s n i = 4 ∧ tk_cl 2 s n (tS s n i) (tE s n i) = nI k)) 4))) mi ml mr) := by
  refine fc_met rfl (Nat.le_of_ble_eq_true rfl) (fc_run oX11_wordHere (fun pc => pc == 5) 400 ?_)
  exact l_rwhFact hW hS hx hz 4 0 _ _ (by omega) rfl rfl

/-- which of m words from the b-th on is here -/
theorem whw_c {b m : Nat} (hb : b + m ≤ 21) : (f = 0 ∧ ∃ k, k < m ∧ tK s n i = nI (128 + (b + k)) ∧ whl (fun k => decide (f = 0) && decide (tK s n i = nI (128 + (b + k)))) m = nI k) ∨ ((f = 0 → ∀ k, k < m → ¬ tK s n i = nI (128 + (b + k))) ∧ whl (fun k => decide (f = 0) && decide (tK s n i = nI (128 + (b + k)))) m = -1) := by
  by_cases h : f = 0 ∧ ∃ k, k < m ∧ tK s n i = nI (128 + (b + k))
  · obtain ⟨h0, k, hk, e⟩ := h
    refine Or.inl ⟨h0, k, hk, e, whl_t hk (by show (decide (f = 0) && decide (tK s n i = nI (128 + (b + k)))) = true; rw [decide_eq_true h0, decide_eq_true e]; rfl) (fun j hj q => ?_)⟩
    rw [Bool.and_eq_true] at q
    have := of_decide_eq_true q.2
    rw [e] at this
    have := nIn (by omega) (by omega) this
    omega
  · refine Or.inr ⟨fun h0 k hk e => h ⟨h0, k, hk, e⟩, whl_f (fun j hj => ?_)⟩
    show (decide (f = 0) && decide (tK s n i = nI (128 + (b + j)))) = false
    by_cases h0 : f = 0
    · rw [decide_eq_false (fun e => h ⟨h0, j, hj, e⟩)]; simp
    · rw [decide_eq_false h0]; rfl
theorem nI_ge0 {k : Nat} (h : k < 1000) : ¬ nI k < 0 := nI_pos (by omega)
theorem c_risName (hW : fc_Wd mr) (hS : rst s n N i f mi ml) : fc_R E mX11_isName (d + 2) fc_sh [.ref 252] mi ml mr (fc_is (some (.int (fc_b (decide (f = 0) && decide (tK s n i = 4))))) mi ml mr) := by
  obtain ⟨⟨k1, k2, k3, k4, k5, k6⟩, hiN, hat, hfa, hkw, hok⟩ := id hS
  have htk := hS.tkc i
  refine fc_met rfl (Nat.le_of_ble_eq_true rfl) (fc_run oX11_isName (fun _ => false) 400 ?_)
  refine And.intro rfl ?_
  refine And.intro (fun h4 => ?_) (fun h4 => ?_)
  · rw [hfa] at h4
    refine And.intro rfl (Exists.intro _ (And.intro (hW 252 4 254 rfl) ?_))
    refine And.intro rfl ?_
    rw [hat]
    refine Exists.intro _ (Exists.intro _ (And.intro rfl (And.intro (fc_ixn rfl (by omega) (by decide)) ?_)))
    refine And.intro (fun h17 => ?_) (fun h17 => ?_)
    · rw [hS.sort] at h17
      refine And.intro rfl (Exists.intro _ (And.intro (c_rwhWord hW hS (b := 0) (m := 21) (by omega) (fc_nl 0) (fc_nl 21)) ?_))
      rintro _ _ _ _ ⟨rfl, rfl, rfl, rfl⟩
      have hwc := whw_c (s := s) (n := n) (i := i) (f := f) (b := 0) (m := 21) (by omega)
      refine And.intro (fun h27 => ?_) (fun h27 => ?_)
      · refine And.intro (by first | exact Or.inl rfl | exact Or.inr rfl | exact fc_bb _ | assumption) ?_
        refine ⟨?_, rfl, rfl, rfl⟩
        rcases hwc with ⟨-, k, hk, e, e2⟩ | ⟨e, e2⟩
        · rw [decide_eq_false (show ¬ tK s n i = 4 from fun q => by rw [q] at e; exact absurd (nIn (a := 4) (by omega) (by omega) e) (by omega))]; simp [fc_b]
        · rw [e2] at h27; exact absurd h27 (by decide)
      · refine And.intro (by first | exact Or.inl rfl | exact Or.inr rfl | exact fc_bb _ | assumption) ?_
        refine ⟨?_, rfl, rfl, rfl⟩
        rcases hwc with ⟨-, k, hk, e, e2⟩ | ⟨e, e2⟩
        · rw [e2] at h27; exact absurd (nI_pos' (by omega)) h27
        · rw [decide_eq_true h4, decide_eq_true (show tK s n i = 4 from (nm_iff htk).mp ⟨h17, fun w hw q => e h4 w hw (by rw [Nat.zero_add]; exact q)⟩)]; rfl
    · rw [hS.sort] at h17
      refine And.intro (by first | exact Or.inl rfl | exact Or.inr rfl | exact fc_bb _ | assumption) ?_
      exact ⟨by rw [decide_eq_false (show ¬ tK s n i = 4 from fun q => h17 ((nm_iff htk).mpr q).1)]; simp [fc_b], rfl, rfl, rfl⟩
  · rw [hfa] at h4
    refine And.intro (by first | exact Or.inl rfl | exact Or.inr rfl | exact fc_bb _ | assumption) ?_
    exact ⟨by rw [decide_eq_false h4]; rfl, rfl, rfl, rfl⟩

def p_nb (s : Nat → Int32) (n : Nat) (lo hi : Int32) (p : Nat × Int32) : Nat × Int32 := if p.2 = 0 then (if tK s n p.1 = 3 then (if sp_from lo (tN s n p.1) hi then (p.1 + 1, 0) else (p.1, tF s n 4 p.1)) else (p.1, tF s n 1 p.1)) else p
theorem tF_pos {c i : Nat} (hc : 1 ≤ c) (h5 : c ≤ 5) (hn : n ≤ 1000) : ∃ z, 0 < z ∧ z < 20000 ∧ tF s n (nI c) i = nI z := by
  have := tS_le (s := s) (n := n) i
  exact ⟨c + 16 * tS s n i, by omega, by omega, by rw [tF, show (16 : Int32) = nI 16 from rfl, pk_mul, nI_add]⟩
/-- a fault, or none -/
def fok (f : Int32) : Prop := ∃ z, z < 20000 ∧ f = nI z
theorem fok_le {f : Int32} (h : fok f) : f ≤ 0 ↔ f = 0 := by
  obtain ⟨z, hz, rfl⟩ := h
  constructor
  · intro q
    by_cases e : z = 0
    · rw [e]; rfl
    · exact absurd q (nI_nle (by omega) (by omega))
  · intro q; rw [q]; decide
theorem tF_ok {c : Nat} (h5 : c ≤ 5) (hn : n ≤ 1000) (i : Nat) : fok (tF s n (nI c) i) := by
  have := tS_le (s := s) (n := n) i
  exact ⟨c + 16 * tS s n i, by omega, by rw [tF, show (16 : Int32) = nI 16 from rfl, pk_mul, nI_add]⟩
theorem tF_ne {c : Nat} (hc : 1 ≤ c) (h5 : c ≤ 5) (hn : n ≤ 1000) (i : Nat) : ¬ tF s n (nI c) i = 0 := by
  have := tS_le (s := s) (n := n) i
  rw [tF, show (16 : Int32) = nI 16 from rfl, pk_mul, nI_add]
  exact nI_ne0 (by omega) (by omega)
end M66
