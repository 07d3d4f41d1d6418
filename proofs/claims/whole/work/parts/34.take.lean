/-! ===== taking tokens ===== -/
section M34
variable {E : fc_E} {d : Nat} {mi : fc_Mi} {ml : fc_Ml} {mr : fc_Mr} {s : Nat → Int32} {n i : Nat}
theorem fc_conT {y : fc_M} {cs : Nat × Nat} {sh : fc_Sh} {pc : Nat} {lv : List (Option Value)} {st : List Value} {Q Q' : fc_Q} (h : fc_T E y d cs sh pc lv st mi ml mr Q) (k : ∀ v a b c, Q v a b c → Q' v a b c) : fc_T E y d cs sh pc lv st mi ml mr Q' :=
  fun p e s m args below meth c R Qf hC hR hret H locs ls hP hS hl => h p e s m args below meth c R Qf hC hR (fun v a b c H locs ls pc q => hret v a b c H locs ls pc (k v a b c q)) H locs ls hP hS hl
theorem tk_ce_r {q : Nat} {g : Nat → Int32} : ∀ (j c : Nat), tk_ce q g j c = -1 ∨ ∃ k, k < c + j ∧ tk_ce q g j c = nI k
  | 0, c => Or.inl rfl
  | j + 1, c => by
    unfold tk_ce
    split
    · exact Or.inr ⟨c, by omega, rfl⟩
    · rcases tk_ce_r (q := q) (g := g) j (c + 1) with h | ⟨k, h1, h2⟩
      · exact Or.inl h
      · exact Or.inr ⟨k, by omega, h2⟩
theorem tk_cl_r (s : Nat → Int32) (n st en : Nat) : tk_cl 0 s n st en = -1 ∨ ∃ k, k < 21 ∧ tk_cl 0 s n st en = nI k := by
  rcases tk_ce_r (q := 0) (g := tk_sg s n st en) (fc_tl.getD 0 0 / 8) 0 with h | ⟨k, h1, h2⟩
  · exact Or.inl h
  · exact Or.inr ⟨k, by simpa [fc_tl] using h1, h2⟩
theorem tk_c128 : ∀ k, k < 21 → ¬ (128 + nI k = 3) ∧ ¬ (128 + nI k = 4) ∧ ¬ (128 + nI k = 1) ∧ ¬ (128 + nI k = 2) := by decide
theorem tk_sig {x : Int32} {k : Int32} (hk : sp_ix 1 k < 0) (h : ¬ sp_ix 1 x < 0) : ¬ x = k := by rintro rfl; exact h hk
theorem tk_kd3 {s : Nat → Int32} {n st : Nat} (h : tk_kd s n st = 3) : st < n ∧ tk_lt (s st) = false ∧ tk_dg (s st) = true := by
  unfold tk_kd at h
  by_cases h1 : n ≤ st
  · rw [if_pos h1] at h; exact absurd h (by decide)
  rw [if_neg h1] at h
  by_cases h2 : tk_lt (s st) = true
  · rw [if_pos h2] at h
    split at h
    · exact absurd h (by decide)
    · split at h
      · exact absurd h (by decide)
      · next q =>
        rcases tk_cl_r s n st (tk_le s n st) with e | ⟨k, hk, e⟩
        · exact absurd e q
        · rw [e] at h; exact absurd h (tk_c128 k hk).1
  rw [if_neg h2] at h
  by_cases h3 : tk_dg (s st) = true
  · exact ⟨by omega, by simpa using h2, h3⟩
  rw [if_neg h3] at h
  split at h
  · exact absurd h (by decide)
  · next q => exact absurd h (tk_sig (by decide) q)
theorem tk_kd4 {s : Nat → Int32} {n st : Nat} (h : tk_kd s n st = 4) : st < n ∧ tk_lt (s st) = true := by
  unfold tk_kd at h
  by_cases h1 : n ≤ st
  · rw [if_pos h1] at h; exact absurd h (by decide)
  rw [if_neg h1] at h
  by_cases h2 : tk_lt (s st) = true
  · exact ⟨by omega, h2⟩
  rw [if_neg h2] at h
  by_cases h3 : tk_dg (s st) = true
  · rw [if_pos h3] at h
    split at h <;> exact absurd h (by decide)
  rw [if_neg h3] at h
  split at h
  · exact absurd h (by decide)
  · next q => exact absurd h (tk_sig (by decide) q)
theorem tk_kd1 {s : Nat → Int32} {n st : Nat} (hs : st ≤ n) : tk_kd s n st = 1 ↔ st = n := by
  constructor
  · intro h
    unfold tk_kd at h
    by_cases h1 : n ≤ st
    · omega
    rw [if_neg h1] at h
    exfalso
    split at h
    · split at h
      · exact absurd h (by decide)
      · split at h
        · exact absurd h (by decide)
        · next q =>
          rcases tk_cl_r s n st (tk_le s n st) with e | ⟨k, hk, e⟩
          · exact absurd e q
          · rw [e] at h; exact absurd h (tk_c128 k hk).2.2.1
    · split at h
      · split at h <;> exact absurd h (by decide)
      · split at h
        · exact absurd h (by decide)
        · next q => exact absurd h (tk_sig (by decide) q)
  · rintro rfl
    unfold tk_kd
    rw [if_pos (Nat.le_refl _)]
/-- the i-th token of s is at hand -/
def fc_Tk (s : Nat → Int32) (mi : fc_Mi) (ml : fc_Ml) (n i : Nat) : Prop := mi 2 = s ∧ mi 1 1 = nI n ∧ n ≤ 1000 ∧ mi 1 2 = nI (tS s n i) ∧ mi 1 3 = nI (tE s n i) ∧ mi 1 4 = tK s n i ∧ (tK s n i = 3 → mi 1 5 = tN s n i) ∧ (tK s n i = 4 → ml 1 6 = tW s n i)
theorem fc_Tk.tp {mi : fc_Mi} (h : fc_Tk s mi ml n i) : fc_Tp mi n := ⟨h.2.1, h.2.2.1⟩
/-- the token stays while other cells move -/
theorem fc_Tk.off {mm : fc_Mi} {mlm : fc_Ml} (h : fc_Tk s mi ml n i) (h1 : mm 1 = mi 1) (h2 : mm 2 = mi 2) (h3 : mlm 1 = ml 1) : fc_Tk s mm mlm n i := by
  unfold fc_Tk at *
  rw [h1, h2, h3]
  exact h
theorem fc_Tj.tk {mm : fc_Mi} {mlm : fc_Ml} (hs : mm 2 = s) (h1 : mm 1 1 = nI n) (hn : n ≤ 1000) (h : fc_Tj mm mlm n (tS s n i)) : fc_Tk s mm mlm n i := by
  obtain ⟨a1, a2, a3, a4, a5, a6⟩ := h
  rw [hs] at a3 a4 a5 a6
  exact ⟨hs, h1, hn, a2, a3, a4, fun q => a5 (tk_kd3 q).1 (tk_kd3 q).2.1 (tk_kd3 q).2.2, fun q => a6 (tk_kd4 q).1 (tk_kd4 q).2⟩
def fc_nk (s : Nat → Int32) (mi : fc_Mi) (ml : fc_Ml) (mr : fc_Mr) (n i : Nat) : fc_Q := fun v mi' ml' mr' => v = none ∧ mr = mr' ∧ fc_tm mi mi' ml ml' ∧ fc_Tk s mi' ml' n i
theorem c_next (hW : fc_Wd mr) (hk : fc_Tk s mi ml n i) : fc_R E mX8_next (d + 6) fc_sh [.ref 1] mi ml mr (fc_nk s mi ml mr n (i + 1)) := by
  obtain ⟨a1, a2, a3, a4, a5, a6, a7⟩ := id hk
  refine fc_met rfl (Nat.le_of_ble_eq_true rfl) (fc_conT (l_nx hW hk.tp (n - tE s n i) (tE s n i) _ (by have := (tk_en_b (s := s) (n := n) (tS_le (s := s) i)).2.1; unfold tE; omega) (by rw [← a5, fc_u_self])) ?_)
  rintro v a b c ⟨h1, h2, h3, h4⟩
  rw [a1] at h4
  exact ⟨h1, h2.symm, h3, h4.tk (i := i + 1) (by rw [h3.1 2 (by decide), a1]) (by rw [h3.2.2.1, a2]) a3⟩
theorem c_topen (hW : fc_Wd mr) (hT : fc_Tp mi n) (hs : mi 2 = s) : fc_R E mX8_open (d + 7) fc_sh [.ref 1] mi ml mr (fun v mi' ml' mr' => v = none ∧ mr = mr' ∧ (∀ x, x ≠ 1 → mi' x = mi x) ∧ (∀ x, x ≠ 1 → ml' x = ml x) ∧ mi' 1 7 = 0 ∧ fc_Tk s mi' ml' n 0) := by
  have hT2 : fc_Tp (fc_u (fc_u mi 1 3 0) 1 7 0) n := ⟨by rw [fc_u_ne _ _ _ (by decide), fc_u_ne _ _ _ (by decide), hT.1], hT.2⟩
  have h3 : (fc_u (fc_u mi 1 3 0) 1 7 0) 1 3 = nI 0 := by rw [fc_u_ne _ _ _ (by decide), fc_u_at]; rfl
  refine fc_met rfl (Nat.le_of_ble_eq_true rfl) (fc_run oX8_open (fun _ => false) 400 ?_)
  refine And.intro rfl ?_
  refine And.intro rfl ?_
  refine And.intro rfl (Exists.intro _ (And.intro (c_nextAt hW hT2 h3 (Nat.zero_le n)) ?_))
  rintro _ a b _ ⟨rfl, rfl, ⟨f, g, s1, t1⟩, j⟩
  have e2 : a 2 = s := by rw [f 2 (by decide)]; exact hs
  rw [show (fc_u (fc_u mi 1 3 0) 1 7 0) 2 = s from hs] at j
  refine ⟨rfl, rfl, fun x hx => ?_, g, ?_, j.tk (i := 0) e2 (by rw [s1]; exact hT2.1) hT.2⟩
  · rw [f x hx, fc_u_off _ _ _ hx, fc_u_off _ _ _ hx]
  · rw [t1, fc_u_at]
/-- a fault at the i-th token -/
def tF (s : Nat → Int32) (n : Nat) (c : Int32) (i : Nat) : Int32 := c + 16 * nI (tS s n i)
/-- a fault told, and nothing else has moved -/
def fc_ff (mi mi' : fc_Mi) (ml ml' : fc_Ml) (f : Int32) : Prop := ml' = ml ∧ (∀ x, x ≠ 1 → mi' x = mi x) ∧ mi' 1 1 = mi 1 1 ∧ mi' 1 7 = f
def fc_fl (mi : fc_Mi) (ml : fc_Ml) (mr : fc_Mr) (v0 f : Int32) : fc_Q := fun v mi' ml' mr' => v = some (.int v0) ∧ mr = mr' ∧ fc_ff mi mi' ml ml' f
theorem c_failk (hW : fc_Wd mr) (hk : fc_Tk s mi ml n i) (c : Int32) : fc_R E mX8_fail d fc_sh [.ref 1, .int c] mi ml mr (fc_fl mi ml mr (fc_b false) (tF s n c i)) := by
  refine fc_met rfl (Nat.le_of_ble_eq_true rfl) (fc_run oX8_fail (fun _ => false) 400 ?_)
  refine And.intro rfl ?_
  refine And.intro rfl ?_
  refine And.intro (Or.inl rfl) ?_
  refine ⟨rfl, rfl, rfl, fun x hx => fc_u_off _ _ _ hx, fc_u_ne _ _ _ (by decide), ?_⟩
  rw [fc_u_at, hk.2.2.2.1]; rfl
theorem c_take (hW : fc_Wd mr) (hk : fc_Tk s mi ml n i) (c : Int32) : fc_R E mX8_take (d + 7) fc_sh [.ref 1, .int c] mi ml mr (fun v mi' ml' mr' => ∃ z : Bool, v = some (.int (fc_b z)) ∧ mr = mr' ∧ (z = true → tK s n i = c ∧ fc_tm mi mi' ml ml' ∧ fc_Tk s mi' ml' n (i + 1)) ∧ (z = false → ¬ tK s n i = c ∧ fc_ff mi mi' ml ml' (tF s n 1 i))) := by
  have k4 := hk.2.2.2.2.2.1
  refine fc_met rfl (Nat.le_of_ble_eq_true rfl) (fc_run oX8_take (fun _ => false) 400 ?_)
  refine And.intro rfl ?_
  rw [k4]
  refine And.intro (fun h5 => ?_) (fun h5 => ?_)
  · refine And.intro rfl (Exists.intro _ (And.intro (c_next hW hk) ?_))
    rintro _ a b _ ⟨rfl, rfl, f1, f2⟩
    refine And.intro (by first | exact Or.inl rfl | exact Or.inr rfl | exact fc_bb _ | assumption) ?_
    exact ⟨true, rfl, rfl, fun _ => ⟨h5, f1, f2⟩, fun q => absurd q (by decide)⟩
  · refine And.intro rfl (Exists.intro _ (And.intro (c_failk hW hk 1) ?_))
    rintro _ a a2 _ ⟨rfl, rfl, f1⟩
    refine And.intro (by first | exact Or.inl rfl | exact Or.inr rfl | exact fc_bb _ | assumption) ?_
    exact ⟨false, rfl, rfl, fun q => absurd q (by decide), fun _ => ⟨h5, f1⟩⟩
theorem c_isNumber (hW : fc_Wd mr) (hk : fc_Tk s mi ml n i) (c c2 : Int32) : fc_R E mX8_isNumber (d + 1) fc_sh [.ref 1, .int c, .int c2] mi ml mr (fun v mi' ml' mr' => ∃ z : Bool, v = some (.int (fc_b z)) ∧ mr = mr' ∧ (z = true → tK s n i = 3 ∧ sp_from c (tN s n i) c2 = true ∧ mi = mi' ∧ ml = ml') ∧ (z = false → ∃ f, fc_ff mi mi' ml ml' f ∧ ((¬ tK s n i = 3 ∧ f = tF s n 1 i) ∨ (tK s n i = 3 ∧ sp_from c (tN s n i) c2 = false ∧ f = tF s n 4 i)))) := by
  have k4 := hk.2.2.2.2.2.1
  refine fc_met rfl (Nat.le_of_ble_eq_true rfl) (fc_run oX8_isNumber (fun _ => false) 400 ?_)
  refine And.intro rfl ?_
  rw [k4]
  refine And.intro (fun h5 => ?_) (fun h5 => ?_)
  · refine And.intro rfl ?_
    rw [hk.2.2.2.2.2.2.1 h5]
    refine Exists.intro _ (And.intro (c_isFrom _ _ _) ?_)
    rintro _ _ _ _ ⟨rfl, rfl, rfl, rfl⟩
    refine And.intro (fun h23 => ?_) (fun h23 => ?_)
    · replace h23 := fc_b0.mp h23
      refine And.intro rfl (Exists.intro _ (And.intro (c_failk hW hk 4) ?_))
      rintro _ a a2 _ ⟨rfl, rfl, f1⟩
      refine And.intro (fun h31 => ?_) (fun h31 => ?_)
      · replace h31 := fc_b0.mp h31
        refine And.intro (by first | exact Or.inl rfl | exact Or.inr rfl | exact fc_bb _ | assumption) ?_
        exact ⟨false, rfl, rfl, fun q => absurd q (by decide), fun _ => ⟨_, f1, Or.inr ⟨h5, h23, rfl⟩⟩⟩
      · exact absurd h31 (by decide)
    · replace h23 := fc_b1.mp h23
      refine And.intro (by first | exact Or.inl rfl | exact Or.inr rfl | exact fc_bb _ | assumption) ?_
      exact ⟨true, rfl, rfl, fun _ => ⟨h5, h23, rfl, rfl⟩, fun q => absurd q (by decide)⟩
  · refine And.intro rfl (Exists.intro _ (And.intro (c_failk hW hk 1) ?_))
    rintro _ a a2 _ ⟨rfl, rfl, f1⟩
    refine And.intro (by first | exact Or.inl rfl | exact Or.inr rfl | exact fc_bb _ | assumption) ?_
    exact ⟨false, rfl, rfl, fun q => absurd q (by decide), fun _ => ⟨_, f1, Or.inl ⟨h5, rfl⟩⟩⟩
theorem c_knownk {r N k : Nat} (hW : fc_Wd mr) (hk : fc_Tk s mi ml n i) (hr : fc_sh[r]? = some (21, N)) (hkn : k ≤ N) (hN : N ≤ 1000) : fc_R E mX8_known (d + 1) fc_sh [.ref 1, .ref r, .int (nI k)] mi ml mr (fun v mi' ml' mr' => ∃ x, v = some (.int x) ∧ mr = mr' ∧ (¬ x = -1 → tK s n i = 4 ∧ x = sp_fi (ml r) (tW s n i) k 0 ∧ mi = mi' ∧ ml = ml') ∧ (x = -1 → ∃ f, fc_ff mi mi' ml ml' f ∧ ((¬ tK s n i = 4 ∧ f = tF s n 1 i) ∨ (tK s n i = 4 ∧ sp_fi (ml r) (tW s n i) k 0 = -1 ∧ f = tF s n 2 i)))) := by
  have k4 := hk.2.2.2.2.2.1
  refine fc_met rfl (Nat.le_of_ble_eq_true rfl) (fc_run oX8_known (fun _ => false) 400 ?_)
  refine And.intro rfl ?_
  rw [k4]
  refine And.intro (fun h5 => ?_) (fun h5 => ?_)
  · refine And.intro rfl ?_
    rw [hk.2.2.2.2.2.2.2 h5]
    refine Exists.intro _ (And.intro (c_indexOf hr hkn hN _) ?_)
    rintro _ _ _ _ ⟨rfl, rfl, rfl, rfl⟩
    refine And.intro (fun h28 => ?_) (fun h28 => ?_)
    · refine And.intro rfl (Exists.intro _ (And.intro (c_failk hW hk 2) ?_))
      rintro _ a a2 _ ⟨rfl, rfl, f1⟩
      exact ⟨_, rfl, rfl, fun q => absurd h28 q, fun _ => ⟨_, f1, Or.inr ⟨h5, h28, rfl⟩⟩⟩
    · exact ⟨_, rfl, rfl, fun _ => ⟨h5, rfl, rfl, rfl⟩, fun q => absurd q h28⟩
  · refine And.intro rfl (Exists.intro _ (And.intro (c_failk hW hk 1) ?_))
    rintro _ a a2 _ ⟨rfl, rfl, f1⟩
    exact ⟨-1, rfl, rfl, fun q => absurd rfl q, fun _ => ⟨_, f1, Or.inl ⟨h5, rfl⟩⟩⟩
def q_tl (ml : fc_Ml) (b m k t : Nat) (w : Int64) : Bool := !decide (sp_fi (ml (b + 1)) w m 0 = -1) || (!decide (sp_fi (ml (b + 2)) w k 0 = -1) || !decide (sp_fi (ml (b + 3)) w t 0 = -1))
theorem c_newName {b m k t : Nat} (hW : fc_Wd mr) (hk : fc_Tk s mi ml n i) (hL : fc_L mr b) (hN : fc_LN mi b k m t) : fc_R E mX1_isNewName (d + 2) fc_sh [.ref 1, .ref b] mi ml mr (fun v mi' ml' mr' => ∃ z : Bool, v = some (.int (fc_b z)) ∧ mr = mr' ∧ (z = true → tK s n i = 4 ∧ q_tl ml b m k t (tW s n i) = false ∧ mi = mi' ∧ ml = ml') ∧ (z = false → ∃ f, fc_ff mi mi' ml ml' f ∧ ((¬ tK s n i = 4 ∧ f = tF s n 1 i) ∨ (tK s n i = 4 ∧ q_tl ml b m k t (tW s n i) = true ∧ f = tF s n 3 i)))) := by
  have k4 := hk.2.2.2.2.2.1
  refine fc_met rfl (Nat.le_of_ble_eq_true rfl) (fc_run oX1_isNewName (fun _ => false) 400 ?_)
  refine And.intro rfl ?_
  rw [k4]
  refine And.intro (fun h5 => ?_) (fun h5 => ?_)
  · refine And.intro rfl ?_
    rw [hk.2.2.2.2.2.2.2 h5]
    refine And.intro (fc_L_0 hL) (Exists.intro _ (And.intro (c_isTold hL hN _) ?_))
    rintro _ _ _ _ ⟨rfl, rfl, rfl, rfl⟩
    refine And.intro (fun h22 => ?_) (fun h22 => ?_)
    · replace h22 := fc_b0.mp h22
      refine And.intro (by first | exact Or.inl rfl | exact Or.inr rfl | exact fc_bb _ | assumption) ?_
      exact ⟨true, rfl, rfl, fun _ => ⟨h5, h22, rfl, rfl⟩, fun q => absurd q (by decide)⟩
    · replace h22 := fc_b1.mp h22
      refine And.intro rfl (Exists.intro _ (And.intro (c_failk hW hk 3) ?_))
      rintro _ a a2 _ ⟨rfl, rfl, f1⟩
      refine And.intro (fun h30 => ?_) (fun h30 => ?_)
      · replace h30 := fc_b0.mp h30
        refine And.intro (by first | exact Or.inl rfl | exact Or.inr rfl | exact fc_bb _ | assumption) ?_
        exact ⟨false, rfl, rfl, fun q => absurd q (by decide), fun _ => ⟨_, f1, Or.inr ⟨h5, h22, rfl⟩⟩⟩
      · exact absurd h30 (by decide)
  · refine And.intro rfl (Exists.intro _ (And.intro (c_failk hW hk 1) ?_))
    rintro _ a a2 _ ⟨rfl, rfl, f1⟩
    refine And.intro (by first | exact Or.inl rfl | exact Or.inr rfl | exact fc_bb _ | assumption) ?_
    exact ⟨false, rfl, rfl, fun q => absurd q (by decide), fun _ => ⟨_, f1, Or.inl ⟨h5, rfl⟩⟩⟩
/-- length and signs with three longs more -/
def sp_feed (mi : fc_Mi) (n : Nat) (x y z : Int64) : Nat × (Nat → Int32) := sp_put z (sp_put y (sp_put x (n, mi 2) 8) 8) 8
theorem fc_u_r1 (f : fc_Mi) (g g' : Nat → Int32) (x z : Int32) : fc_u (fc_ur (fc_u (fc_ur f 2 g) 1 1 x) 2 g') 1 1 z = fc_u (fc_ur f 2 g') 1 1 z := by
  funext q k
  unfold fc_u fc_ur
  by_cases h1 : q = 1 <;> by_cases h2 : q = 2 <;> by_cases h3 : k = 1 <;> simp [h1, h2, h3]
theorem c_feed (hW : fc_Wd mr) (hT : fc_Tp mi n) (x y z : Int64) : fc_R E mX10_feed (d + 2) fc_sh [.ref 0, .long x, .long y, .long z] mi ml mr (fc_is (some (.int (nI (sp_feed mi n x y z).1))) (fc_u (fc_ur mi 2 (sp_feed mi n x y z).2) 1 1 (nI (sp_feed mi n x y z).1)) ml mr) := by
  rcases e1 : sp_put x (n, mi 2) 8 with ⟨n1, v1⟩
  have l1 : n1 ≤ 1000 := by have := sp_put_le x (n, mi 2) hT.2 8; rw [e1] at this; exact this
  rcases e2 : sp_put y (n1, v1) 8 with ⟨n2, v2⟩
  have l2 : n2 ≤ 1000 := by have := sp_put_le y (n1, v1) l1 8; rw [e2] at this; exact this
  rcases e3 : sp_put z (n2, v2) 8 with ⟨n3, v3⟩
  have ef : sp_feed mi n x y z = (n3, v3) := by unfold sp_feed; rw [e1, e2, e3]
  rw [ef]
  have c1 := fun (d : Nat) => c_put (E := E) (d := d) (ml := ml) (mr := mr) hW hT x
  rw [e1] at c1
  have hT1 : fc_Tp (fc_u (fc_ur mi 2 v1) 1 1 (nI n1)) n1 := ⟨fc_u_at _ _ _ _, l1⟩
  have c2 := fun (d : Nat) => c_put (E := E) (d := d) (ml := ml) (mr := mr) hW hT1 y
  rw [show (fc_u (fc_ur mi 2 v1) 1 1 (nI n1)) 2 = v1 from rfl, e2] at c2
  have hT2 : fc_Tp (fc_u (fc_ur (fc_u (fc_ur mi 2 v1) 1 1 (nI n1)) 2 v2) 1 1 (nI n2)) n2 := ⟨fc_u_at _ _ _ _, l2⟩
  have c3 := fun (d : Nat) => c_put (E := E) (d := d) (ml := ml) (mr := mr) hW hT2 z
  rw [show (fc_u (fc_ur (fc_u (fc_ur mi 2 v1) 1 1 (nI n1)) 2 v2) 1 1 (nI n2)) 2 = v2 from rfl, e3] at c3
  refine fc_met rfl (Nat.le_of_ble_eq_true rfl) (fc_run oX10_feed (fun _ => false) 400 ?_)
  refine And.intro rfl (Exists.intro _ (And.intro (hW 0 0 1 rfl) ?_))
  refine And.intro rfl (Exists.intro _ (And.intro (c1 d) ?_))
  rintro _ _ _ _ ⟨rfl, rfl, rfl, rfl⟩
  refine And.intro rfl (Exists.intro _ (And.intro (hW 0 0 1 rfl) ?_))
  refine And.intro rfl (Exists.intro _ (And.intro (c2 d) ?_))
  rintro _ _ _ _ ⟨rfl, rfl, rfl, rfl⟩
  refine And.intro rfl (Exists.intro _ (And.intro (hW 0 0 1 rfl) ?_))
  refine And.intro rfl (Exists.intro _ (And.intro (c3 d) ?_))
  rintro _ _ _ _ ⟨rfl, rfl, rfl, rfl⟩
  refine And.intro rfl (Exists.intro _ (And.intro (hW 0 0 1 rfl) ?_))
  refine And.intro rfl ?_
  refine ⟨congrArg (fun z => some (Value.int z)) (fc_u_at _ _ _ _).symm, ?_, rfl, rfl⟩
  rw [fc_u_r1, fc_u_r1]
end M34
