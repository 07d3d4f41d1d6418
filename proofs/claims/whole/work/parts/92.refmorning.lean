/-! ===== the reference reads a morning ===== -/
theorem sf_138 {x : Int32} : sp_from 138 x 141 = true ↔ ∃ k, k < 4 ∧ x = nI (138 + k) := by
  constructor
  · intro h
    simp only [sp_from, Bool.and_eq_true, Bool.not_eq_true', decide_eq_false_iff_not] at h
    have h0 : ¬ x < 0 := fun q => h.1 (Int32.lt_trans q (by decide))
    obtain ⟨c, hc, e⟩ := nI_of2 (M := 141) (n := 141) rfl h0 (Int32.not_lt.mp h.2)
    subst e
    have : 138 ≤ c := by
      rcases Nat.lt_or_ge c 138 with q | q
      · exact absurd (nI_lt (b := 138) q (by omega)) h.1
      · exact q
    exact ⟨c - 138, by omega, by rw [show 138 + (c - 138) = c by omega]⟩
  · rintro ⟨k, hk, rfl⟩
    rw [sp_from, decide_eq_false (show ¬ nI (138 + k) < 138 from nI_nlt (a := 138 + k) (b := 138) (by omega) (by omega)), decide_eq_false (show ¬ 141 < nI (138 + k) from nI_nlt (a := 141) (b := 138 + k) (by omega) (by omega))]; rfl
/-- lines laid so far -/
def rml (A : fc_Ab) (L : Nat) (a mi : fc_Mi) (B : Nat) : Prop := ∀ k, k < L → lnr (A.1 2) (A.1 0) (A.1 3) (a 1 k) (a 2 k) (a 3 k) (mi 265 (B + 3 * k)) (mi 265 (B + 3 * k + 1)) (mi 265 (B + 3 * k + 2))
/-- what a morning's reading may move -/
def rmF (mi mi' : fc_Mi) : Prop := (∀ x, x ≠ 252 → x ≠ 265 → mi' x = mi x) ∧ (∀ k, k ≠ 7 → k ≠ 8 → mi' 252 k = mi 252 k) ∧ ∀ k, k < 125 → mi' 265 k = mi 265 k
def rmoq (A : fc_Ab) (mi : fc_Mi) (ml : fc_Ml) (mr : fc_Mr) (r : Except Int32 (Nat × fc_Mi)) : fc_Q := fun v mi' ml' mr' => ml = ml' ∧ mr = mr' ∧ (∀ x, x ≠ 252 → x ≠ 265 → mi' x = mi x) ∧ (∀ k, k ≠ 7 → k ≠ 8 → mi' 252 k = mi 252 k) ∧ (match r with
  | .error e => v = some (.int e) ∧ ¬ e = 0 ∧ ∀ k, k < 125 → mi' 265 k = mi 265 k
  | .ok q => v = some (.int 0) ∧ q.1 ≤ 40 ∧ mi' 265 0 = nI q.1 ∧ rml A q.1 q.2 mi' 1)
section M92
variable {E : fc_E} {d : Nat} {mi m0 : fc_Mi} {ml : fc_Ml} {mr : fc_Mr} {n N i L : Nat} {s : Nat → Int32} {A : fc_Ab} {f : Int32} {a : fc_Mi}
theorem rmF.fr {m1 : fc_Mi} (h : rmF m0 mi) (g : rfr mi m1) : rmF m0 m1 := ⟨fun x q1 q2 => (g.1 x q1).trans (h.1 x q1 q2), fun k q1 q2 => (g.2 k q1 q2).trans (h.2.1 k q1 q2), fun k q => (congrFun (g.1 265 (by decide)) k).trans (h.2.2 k q)⟩
theorem rmF.mf {m1 : fc_Mi} (h : rmF m0 mi) (g : rmf L mi m1) : rmF m0 m1 := ⟨fun x q1 q2 => (g.1 x q1 q2).trans (h.1 x q1 q2), fun k q1 q2 => (g.2.1 k q1 q2).trans (h.2.1 k q1 q2), fun k q => (g.2.2 k (by omega)).trans (h.2.2 k q)⟩
theorem rml.mf {m1 : fc_Mi} (h : rml A L a mi 125) (g : rmf L mi m1) : rml A L a m1 125 := fun k hk => by
  rw [g.2.2 (125 + 3 * k) (by omega), g.2.2 (125 + 3 * k + 1) (by omega), g.2.2 (125 + 3 * k + 2) (by omega)]; exact h k hk
theorem rml.fr {m1 : fc_Mi} (h : rml A L a mi 125) (g : rfr mi m1) : rml A L a m1 125 := fun k hk => by
  rw [g.1 265 (by decide)]; exact h k hk
theorem rml.cg {b : fc_Mi} (h : rml A L a mi 125) (g : ∀ k, k < L → b 1 k = a 1 k ∧ b 2 k = a 2 k ∧ b 3 k = a 3 k) : rml A L b mi 125 := fun k hk => by
  rw [(g k hk).1, (g k hk).2.1, (g k hk).2.2]; exact h k hk
theorem rml.add {b : fc_Mi} (h : rml A L b mi 125) (g : lnr (A.1 2) (A.1 0) (A.1 3) (b 1 L) (b 2 L) (b 3 L) (mi 265 (125 + 3 * L)) (mi 265 (125 + 3 * L + 1)) (mi 265 (125 + 3 * L + 2))) : rml A (L + 1) b mi 125 := fun k hk => by
  by_cases e : k = L
  · rw [e]; exact g
  · exact h k (by omega)
theorem nm_ok {dd : Int32} {q : Int32 × Int32} (h : ms_nm s n A.2.2 (A.1 0) (A.1 2) (A.1 3) dd i = .ok q) : q.1 = ms_f1 A.2.2 (A.1 2) (A.1 3) dd (tW s n i) ∧ ¬ q.1 = -1 ∧ q.2 = ms_f2 A.2.2 (A.1 0) (A.1 2) dd (tW s n (i + 1)) ∧ ¬ q.2 = -1 := by
  unfold ms_nm at h
  split at h
  · split at h
    · cases h
    rename_i h1
    split at h
    · split at h
      · cases h
      rename_i h2
      split at h
      · cases h
      injection h with h
      rw [← h]
      exact ⟨rfl, h1, rfl, h2⟩
    · cases h
  · cases h
theorem nm_lnr {dd w : Int32} {q : Int32 × Int32} (h : ms_nm s n A.2.2 (A.1 0) (A.1 2) (A.1 3) dd i = .ok q) (hd : (dd = 139 ∧ w = 1) ∨ (dd = 140 ∧ w = 2) ∨ (dd = 141 ∧ w = 3)) : lnr (A.1 2) (A.1 0) (A.1 3) dd q.1 q.2 w q.1 q.2 := by
  obtain ⟨e1, n1, e2, n2⟩ := nm_ok h
  rcases hd with ⟨rfl, rfl⟩ | ⟨rfl, rfl⟩ | ⟨rfl, rfl⟩
  · rw [e1] at n1 ⊢; rw [e2] at n2 ⊢
    exact .inr (.inl ⟨⟨rfl, rfl⟩, fi_in n1, fi_in n2, rfl, rfl⟩)
  · rw [e1] at n1 ⊢; rw [e2] at n2 ⊢
    exact .inr (.inr (.inl ⟨⟨rfl, rfl⟩, fi_in n1, fi_in n2, rfl, rfl⟩))
  · rw [e1] at n1 ⊢; rw [e2] at n2 ⊢
    exact .inr (.inr (.inr ⟨⟨rfl, rfl⟩, fi_in n1, fi_in n2, rfl, rfl⟩))
theorem l_rm88 (hW : fc_Wd mr) (hS : rst s n N i f mi ml) {Q : fc_Q} {c : Int32} {x2 : Option Value} (K : ∀ m1, rst s n N (p_sg s n (nI 59) (i, f)).1 (p_sg s n (nI 59) (i, f)).2 m1 ml → rfr mi m1 → fc_T E mX11_morning (d + 6) (0, 0) fc_sh 11 [some (.ref 252), some (.int c), x2] [] m1 ml mr Q) : fc_T E mX11_morning (d + 6) (0, 0) fc_sh 88 [some (.ref 252), some (.int c), x2] [] mi ml mr Q := by
  refine fc_run oX11_morning (fun pc => pc == 11) 400 ?_
  refine And.intro rfl (Exists.intro _ (And.intro (c_rtakeSign hW hS (c := 59) (by omega) (by decide) rfl) ?_))
  rintro _ m1 _ _ ⟨rfl, g1, u1, rfl, rfl⟩
  exact K m1 g1 u1
theorem l_rm11F (hW : fc_Wd mr) (hS : rst s n N i f mi ml) (hne : ¬ f = 0) (hfk : fok f) (hF : rmF m0 mi) {c : Int32} {x2 : Option Value} : fc_T E mX11_morning (d + 6) (0, 0) fc_sh 11 [some (.ref 252), some (.int c), x2] [] mi ml mr (rmoq A m0 ml mr (.error f)) := by
  have hfa := hS.2.2.2.1
  refine fc_run oX11_morning (fun _ => false) 400 ?_
  refine And.intro rfl ?_
  refine And.intro (fun h15 => ?_) (fun h15 => ?_)
  · rw [hfa] at h15; exact absurd h15 hne
  · refine And.intro rfl ?_
    refine And.intro (fun h101 => ?_) (fun h101 => ?_)
    · rw [hfa] at h101; exact absurd ((fok_le hfk).mp h101) hne
    · refine And.intro rfl ?_
      rw [hfa]
      exact ⟨rfl, rfl, hF.1, hF.2.1, rfl, hne, hF.2.2⟩
theorem l_rm88F (hW : fc_Wd mr) (hS : rst s n N i f mi ml) (hne : ¬ f = 0) (hfk : fok f) (hF : rmF m0 mi) {c : Int32} {x2 : Option Value} : fc_T E mX11_morning (d + 6) (0, 0) fc_sh 88 [some (.ref 252), some (.int c), x2] [] mi ml mr (rmoq A m0 ml mr (.error f)) := by
  refine l_rm88 hW hS (fun m1 g1 u1 => ?_)
  rw [p_sg_f hne] at g1
  exact l_rm11F hW g1 hne hfk (hF.fr u1)
theorem l_rmC (hW : fc_Wd mr) (hL : L ≤ 40) (hF : rmF m0 mi) (hR : rml A L a mi 125) : ∀ (j i : Nat) (c : Int32) (M : fc_Mi), i + j = 3 * L → c = nI i → (∀ x, x ≠ 265 → M x = mi x) → M 265 0 = nI L → (∀ k, k < i → M 265 (1 + k) = mi 265 (125 + k)) → (∀ k, 125 ≤ k → M 265 k = mi 265 k) → fc_T E mX11_morning (d + 6) (0, 0) fc_sh 118 [some (.ref 252), some (.int (nI L)), some (.int c)] [] M ml mr (rmoq A m0 ml mr (.ok (L, a))) := by
  intro j
  induction j with
  | zero =>
    intro i c M hi hc h1 h2 h3 h4
    subst hc
    refine fc_run oX11_morning (fun pc => pc == 118) 400 ?_
    refine And.intro (fun h122 => ?_) (fun h122 => ?_)
    · refine ⟨rfl, rfl, fun x q1 q2 => (h1 x q2).trans (hF.1 x q1 q2), fun k q1 q2 => (congrFun (h1 252 (by decide)) k).trans (hF.2.1 k q1 q2), rfl, hL, h2, fun k hk => ?_⟩
      have hk' : k < L := hk
      rw [show 1 + 3 * k + 1 = 1 + (3 * k + 1) by omega, show 1 + 3 * k + 2 = 1 + (3 * k + 2) by omega, h3 (3 * k) (by omega), h3 (3 * k + 1) (by omega), h3 (3 * k + 2) (by omega)]
      exact hR k hk
    · exact absurd (show (3 : Int32) * nI L ≤ nI i from by rw [show (3 : Int32) * nI L = nI (3 * L) from fc_nm (fc_nl 3) rfl]; exact nI_le (by omega) (by omega)) h122
  | succ j ih =>
    intro i c M hi hc h1 h2 h3 h4
    subst hc
    refine fc_run oX11_morning (fun pc => pc == 118) 400 ?_
    refine And.intro (fun h122 => ?_) (fun h122 => ?_)
    · exact absurd h122 (show ¬ (3 : Int32) * nI L ≤ nI i from by rw [show (3 : Int32) * nI L = nI (3 * L) from fc_nm (fc_nl 3) rfl]; exact nI_ge (by omega) (by omega))
    · refine And.intro rfl (Exists.intro _ (And.intro (hW 252 21 265 rfl) ?_))
      refine And.intro rfl (Exists.intro _ (And.intro (hW 252 21 265 rfl) ?_))
      refine Exists.intro _ (Exists.intro _ (And.intro rfl (And.intro (fc_ixn (fc_na (fc_nl 125) rfl) (by omega) (by decide)) ?_)))
      refine Exists.intro _ (Exists.intro _ (And.intro rfl (And.intro (fc_ixn (fc_na (fc_nl 1) rfl) (by omega) (by decide)) ?_)))
      refine ih (i + 1) _ _ (by omega) (fc_inc i) (fun x q => ?_) ?_ (fun k q => ?_) (fun k q => ?_)
      · rw [fc_u_off _ _ _ q]; exact h1 x q
      · rw [fc_u_nj _ _ _ _ (by omega)]; exact h2
      · by_cases e : k = i
        · rw [e]; exact (fc_u_at _ _ _ _).trans (h4 _ (by omega))
        · rw [fc_u_nj _ _ _ _ (by omega)]; exact h3 k (by omega)
      · rw [fc_u_nj _ _ _ _ (by omega)]; exact h4 k q

theorem l_rm64_0 (hW : fc_Wd mr) (hS : rst s n N i 0 mi ml) (hiL : i < N) (hL : L < 40)  {Q : fc_Q} (K : ∀ m1 (c : Int32) x2, c = nI (L + 1) → rst s n N (i + 1) 0 m1 ml → rmf L (fc_u mi 252 7 (nI (i + 1))) m1 → m1 265 (125 + 3 * L) = 0 → fc_T E mX11_morning (d + 6) (0, 0) fc_sh 88 [some (.ref 252), some (.int c), x2] [] m1 ml mr Q) : fc_T E mX11_morning (d + 6) (0, 0) fc_sh 64 [some (.ref 252), some (.int (nI L)), some (.int 0)] [] mi ml mr Q := by
  have hat := hS.2.2.1
  refine fc_run oX11_morning (fun pc => pc == 88) 400 ?_
  refine And.intro rfl ?_
  rw [hat]
  refine And.intro rfl ?_
  rw [nI_1 i]
  refine And.intro rfl (Exists.intro _ (And.intro (c_rrm0 (d := d + 1) hW (hS.next hiL) hL (fc_na (fc_nl 125) (fc_nm (fc_nl 3) rfl))) ?_))
  rintro _ m1 _ _ ⟨rfl, rfl, rfl, g1, g2, g3⟩
  exact K m1 _ _ (fc_inc L) g3 g1 g2
theorem l_rm64_1 (hW : fc_Wd mr) (hS : rst s n N i 0 mi ml) (hiL : i < N) (hL : L < 40) (hB : fc_AB A) (hD : nd A) (hK : mi 252 18 = nI (A.1 0 + A.1 2 + A.1 3)) (hN : nmr A (ml 261) (mi 263) (A.1 0 + A.1 2 + A.1 3)) {Q : fc_Q} (K : ∀ m1 (c : Int32) x2, c = nI (L + 1) → rmq s n N L 1 (fc_u mi 252 7 (nI (i + 1))) ml mr (i + 1) (ms_nm s n A.2.2 (A.1 0) (A.1 2) (A.1 3) 139 (i + 1)) none m1 ml mr → fc_T E mX11_morning (d + 6) (0, 0) fc_sh 88 [some (.ref 252), some (.int c), x2] [] m1 ml mr Q) : fc_T E mX11_morning (d + 6) (0, 0) fc_sh 64 [some (.ref 252), some (.int (nI L)), some (.int 1)] [] mi ml mr Q := by
  have hat := hS.2.2.1
  refine fc_run oX11_morning (fun pc => pc == 88) 400 ?_
  refine And.intro rfl ?_
  rw [hat]
  refine And.intro rfl ?_
  rw [nI_1 i]
  refine And.intro rfl (Exists.intro _ (And.intro (c_rrm1 (d := d + 1) hW (hS.next hiL) hL hB hD hK hN (fc_na (fc_nl 125) (fc_nm (fc_nl 3) rfl))) ?_))
  intro v m1 l1 r1 h1
  obtain rfl : v = none := h1.1
  obtain rfl := h1.2.1
  obtain rfl := h1.2.2.1
  exact K m1 _ _ (fc_inc L) h1
theorem l_rm64_2 (hW : fc_Wd mr) (hS : rst s n N i 0 mi ml) (hiL : i < N) (hL : L < 40) (hB : fc_AB A) (hD : nd A) (hK : mi 252 18 = nI (A.1 0 + A.1 2 + A.1 3)) (hN : nmr A (ml 261) (mi 263) (A.1 0 + A.1 2 + A.1 3)) {Q : fc_Q} (K : ∀ m1 (c : Int32) x2, c = nI (L + 1) → rmq s n N L 2 (fc_u mi 252 7 (nI (i + 1))) ml mr (i + 1) (ms_nm s n A.2.2 (A.1 0) (A.1 2) (A.1 3) 140 (i + 1)) none m1 ml mr → fc_T E mX11_morning (d + 6) (0, 0) fc_sh 88 [some (.ref 252), some (.int c), x2] [] m1 ml mr Q) : fc_T E mX11_morning (d + 6) (0, 0) fc_sh 64 [some (.ref 252), some (.int (nI L)), some (.int 2)] [] mi ml mr Q := by
  have hat := hS.2.2.1
  refine fc_run oX11_morning (fun pc => pc == 88) 400 ?_
  refine And.intro rfl ?_
  rw [hat]
  refine And.intro rfl ?_
  rw [nI_1 i]
  refine And.intro rfl (Exists.intro _ (And.intro (c_rrm2 (d := d + 1) hW (hS.next hiL) hL hB hD hK hN (fc_na (fc_nl 125) (fc_nm (fc_nl 3) rfl))) ?_))
  intro v m1 l1 r1 h1
  obtain rfl : v = none := h1.1
  obtain rfl := h1.2.1
  obtain rfl := h1.2.2.1
  exact K m1 _ _ (fc_inc L) h1
theorem l_rm64_3 (hW : fc_Wd mr) (hS : rst s n N i 0 mi ml) (hiL : i < N) (hL : L < 40) (hB : fc_AB A) (hD : nd A) (hK : mi 252 18 = nI (A.1 0 + A.1 2 + A.1 3)) (hN : nmr A (ml 261) (mi 263) (A.1 0 + A.1 2 + A.1 3)) {Q : fc_Q} (K : ∀ m1 (c : Int32) x2, c = nI (L + 1) → rmq s n N L 3 (fc_u mi 252 7 (nI (i + 1))) ml mr (i + 1) (ms_nm s n A.2.2 (A.1 0) (A.1 2) (A.1 3) 141 (i + 1)) none m1 ml mr → fc_T E mX11_morning (d + 6) (0, 0) fc_sh 88 [some (.ref 252), some (.int c), x2] [] m1 ml mr Q) : fc_T E mX11_morning (d + 6) (0, 0) fc_sh 64 [some (.ref 252), some (.int (nI L)), some (.int 3)] [] mi ml mr Q := by
  have hat := hS.2.2.1
  refine fc_run oX11_morning (fun pc => pc == 88) 400 ?_
  refine And.intro rfl ?_
  rw [hat]
  refine And.intro rfl ?_
  rw [nI_1 i]
  refine And.intro rfl (Exists.intro _ (And.intro (c_rrm3 (d := d + 1) hW (hS.next hiL) hL hB hD hK hN (fc_na (fc_nl 125) (fc_nm (fc_nl 3) rfl))) ?_))
  intro v m1 l1 r1 h1
  obtain rfl : v = none := h1.1
  obtain rfl := h1.2.1
  obtain rfl := h1.2.2.1
  exact K m1 _ _ (fc_inc L) h1
theorem ms_nm_F {dd e : Int32} {N : fc_Ml} {m k t : Nat} (h : ms_nm s n N m k t dd i = .error e) : isF s n e := by
  unfold ms_nm at h
  repeat' split at h
  all_goals first | (injection h with h; rw [← h]; first | exact isF_1 _ | exact isF_2 _ | exact isF_3 _ | exact isF_4 _ | exact isF_5 _) | cases h
theorem ms_line_F {e : Int32} {N : fc_Ml} {m k t : Nat} (h : ms_line s n N m k t i L a = .error e) : isF s n e := by
  unfold ms_line at h
  split at h
  · split at h
    · injection h with h; rw [← h]; exact isF_5 _
    · split at h
      · cases h
      · split at h
        · rename_i hf
          injection h with h; rw [← h]; exact ms_nm_F hf
        · cases h
  · injection h with h; rw [← h]; exact isF_1 _
theorem ms_rd_F {e : Int32} {N : fc_Ml} {m k t : Nat} : ∀ (j i L : Nat) (a : fc_Mi), ms_rd s n N m k t j i L a = .error e → isF s n e
  | 0, i, L, a, h => by rw [ms_rd] at h; cases h
  | j + 1, i, L, a, h => by
    rw [ms_rd] at h
    split at h
    · cases h
    · split at h
      · rename_i f hf
        injection h with h
        rw [← h]; exact ms_line_F hf
      · split at h
        · exact ms_rd_F j _ _ _ h
        · injection h with h; rw [← h]; exact isF_1 _
theorem l_rm11 (hW : fc_Wd mr) (hB : fc_AB A) (hD : nd A) (hK : m0 252 18 = nI (A.1 0 + A.1 2 + A.1 3)) (hN : nmr A (ml 261) (m0 263) (A.1 0 + A.1 2 + A.1 3)) : ∀ (j i L : Nat) (a mi : fc_Mi) (c : Int32) (x2 : Option Value), N ≤ i + j → rst s n N i 0 mi ml → L ≤ 40 → c = nI L → rml A L a mi 125 → rmF m0 mi → fc_T E mX11_morning (d + 6) (0, 0) fc_sh 11 [some (.ref 252), some (.int c), x2] [] mi ml mr (rmoq A m0 ml mr (ms_rd s n A.2.2 (A.1 0) (A.1 2) (A.1 3) j i L a)) := by
  intro j
  induction j with
  | zero =>
    intro i L a mi c x2 hj hS hL hc hR hF
    subst hc
    have hat := hS.2.2.1
    have hfa := hS.2.2.2.1
    have hn := hS.1.2.2.1
    have hN1 : N ≤ 1000 := Nat.le_trans hS.1.2.1 hn
    have hiN := hS.2.1
    refine fc_run oX11_morning (fun pc => pc == 64 || pc == 88 || pc == 118) 400 ?_
    refine And.intro rfl ?_
    refine And.intro (fun h15 => ?_) (fun h15 => ?_)
    · refine And.intro rfl (Exists.intro _ (And.intro (hW 252 4 254 rfl) ?_))
      refine And.intro rfl ?_
      rw [hat]
      refine Exists.intro _ (Exists.intro _ (And.intro rfl (And.intro (fc_ixn rfl (by omega) (by decide)) ?_)))
      refine And.intro (fun h27 => ?_) (fun h27 => ?_)
      · refine And.intro rfl ?_
        refine And.intro (fun h101 => ?_) (fun h101 => ?_)
        · refine And.intro rfl (Exists.intro _ (And.intro (hW 252 21 265 rfl) ?_))
          refine Exists.intro _ (Exists.intro _ (And.intro rfl (And.intro (fc_ixn (fc_nl 0) (by omega) (by decide)) ?_)))
          rw [show ms_rd s n A.2.2 (A.1 0) (A.1 2) (A.1 3) 0 i L a = .ok (L, a) from rfl]
          refine l_rmC hW hL hF hR (3 * L) 0 _ _ (by omega) rfl (fun x q => fc_u_off _ _ _ q) (fc_u_at _ _ _ _) (fun k q => absurd q (Nat.not_lt_zero k)) (fun k q => ?_)
          rw [fc_u_nj _ _ _ _ (by omega)]
        · rw [hfa] at h101; exact absurd (by decide) h101
      · exact absurd (hS.z.mpr (hS.end.mp (by omega))) h27
    · exact absurd hfa h15
  | succ j ih =>
    intro i L a mi c x2 hj hS hL hc hR hF
    subst hc
    have hat := hS.2.2.1
    have hfa := hS.2.2.2.1
    have hn := hS.1.2.2.1
    have hN1 : N ≤ 1000 := Nat.le_trans hS.1.2.1 hn
    have hiN := hS.2.1
    refine fc_run oX11_morning (fun pc => pc == 64 || pc == 88 || pc == 118) 400 ?_
    refine And.intro rfl ?_
    refine And.intro (fun h15 => ?_) (fun h15 => ?_)
    · refine And.intro rfl (Exists.intro _ (And.intro (hW 252 4 254 rfl) ?_))
      refine And.intro rfl ?_
      rw [hat]
      refine Exists.intro _ (Exists.intro _ (And.intro rfl (And.intro (fc_ixn rfl (by omega) (by decide)) ?_)))
      refine And.intro (fun h27 => ?_) (fun h27 => ?_)
      · refine And.intro rfl ?_
        refine And.intro (fun h101 => ?_) (fun h101 => ?_)
        · refine And.intro rfl (Exists.intro _ (And.intro (hW 252 21 265 rfl) ?_))
          refine Exists.intro _ (Exists.intro _ (And.intro rfl (And.intro (fc_ixn (fc_nl 0) (by omega) (by decide)) ?_)))
          rw [ms_rd, if_pos (hS.z.mp h27)]
          refine l_rmC hW hL hF hR (3 * L) 0 _ _ (by omega) rfl (fun x q => fc_u_off _ _ _ q) (fc_u_at _ _ _ _) (fun k q => absurd q (Nat.not_lt_zero k)) (fun k q => ?_)
          rw [fc_u_nj _ _ _ _ (by omega)]
        · rw [hfa] at h101; exact absurd (by decide) h101
      · have hk1 : ¬ tK s n i = 1 := fun q => h27 (hS.z.mpr q)
        have hiL : i < N := hS.lt hk1
        refine And.intro rfl (Exists.intro _ (And.intro (c_rwhWord hW hS (b := 10) (m := 4) (by omega) rfl rfl) ?_))
        rintro _ _ _ _ ⟨rfl, rfl, rfl, rfl⟩
        have hwc := whw_c (s := s) (n := n) (i := i) (f := 0) (b := 10) (m := 4) (by omega)
        generalize whl (fun k => decide ((0 : Int32) = 0) && decide (tK s n i = nI (128 + (10 + k)))) 4 = z at hwc ⊢
        refine And.intro (fun h39 => ?_) (fun h39 => ?_)
        · have hq : ∃ k, k < 4 ∧ tK s n i = nI (138 + k) ∧ z = nI k := by
            rcases hwc with ⟨-, k, hk, e, q⟩ | ⟨q1, q⟩
            · exact ⟨k, hk, by rw [e]; exact congrArg nI (by omega), q⟩
            · rw [q] at h39; exact absurd h39 (by decide)
          obtain ⟨kq, hkq, hk, rfl⟩ := hq
          have hq0 : sp_from 138 (tK s n i) 141 = true := sf_138.mpr ⟨kq, hkq, hk⟩
          refine And.intro (fun h53 => ?_) (fun h53 => ?_)
          · have hL40 : L = 40 := nIn (b := 40) (by omega) (by omega) h53
            refine And.intro rfl (Exists.intro _ (And.intro (c_rwrong hW hS _) ?_))
            rintro _ m1 _ _ ⟨rfl, g1, u1, rfl, rfl⟩
            rw [ms_rd, if_neg hk1, ms_line, if_pos hq0, if_pos (by omega)]
            rw [p_wr, if_pos rfl] at g1
            exact l_rm88F hW g1 (tF_ne (c := 5) (by omega) (by omega) hn _) (tF_ok (c := 5) (by omega) hn _) (hF.fr u1)
          · have hL40 : ¬ L = 40 := fun q => h53 (by rw [q]; rfl)
            rw [ms_rd, if_neg hk1]
            have hk4 : kq = 0 ∨ kq = 1 ∨ kq = 2 ∨ kq = 3 := by omega
            rcases hk4 with rfl | rfl | rfl | rfl
            · refine l_rm64_0 hW hS hiL (by omega) (fun m1 c2 y2 hc2 g1 g2 g3 => ?_)
              rw [ms_line, if_pos (sf_138.mpr ⟨0, by omega, hk⟩), if_neg (by omega), if_pos (show tK s n i = 138 from hk)]
              dsimp only
              have hF1 := (hF.fr (rfr_at (nI (i + 1)))).mf g2
              by_cases h59 : tK s n (i + 1) = 59
              · rw [if_pos h59]
                refine l_rm88 hW g1 (fun m2 k2 u2 => ?_)
                rw [show p_sg s n (nI 59) (i + 1, 0) = (i + 2, 0) from (if_pos rfl).trans (if_pos h59)] at k2
                refine ih (i + 1 + 1) (L + 1) _ _ _ _ (by omega) k2 (by omega) hc2 ?_ (hF1.fr u2)
                refine rml.fr (rml.add (((hR.fr (rfr_at (nI (i + 1)))).mf g2).cg (fun k hk => ⟨?_, ?_, ?_⟩)) ?_) u2
                · exact fc_u_nj _ _ _ _ (by omega)
                · rw [fc_u_off _ _ _ (by decide)]
                · rw [fc_u_off _ _ _ (by decide)]
                · exact .inl ⟨fc_u_at _ _ _ _, g3⟩
              · rw [if_neg h59]
                refine l_rm88 hW g1 (fun m2 k2 u2 => ?_)
                rw [show p_sg s n (nI 59) (i + 1, 0) = (i + 1, tF s n 1 (i + 1)) from (if_pos rfl).trans (if_neg h59)] at k2
                exact l_rm11F hW k2 (tF_ne (c := 1) (by omega) (by omega) hn _) (tF_ok (c := 1) (by omega) hn _) (hF1.fr u2)
            · refine l_rm64_1 hW hS hiL (by omega) hB hD ((hF.2.1 18 (by decide) (by decide)).trans hK) (by rw [hF.1 263 (by decide) (by decide)]; exact hN) (fun m1 c2 y2 hc2 g => ?_)
              obtain ⟨-, -, -, g2, g3, g4⟩ := g
              rw [ms_line, if_pos (sf_138.mpr ⟨1, by omega, hk⟩), if_neg (by omega), if_neg (by rw [show tK s n i = 139 from hk]; decide), show tK s n i = 139 from hk]
              have hF1 := (hF.fr (rfr_at (nI (i + 1)))).mf g2
              cases hr : ms_nm s n A.2.2 (A.1 0) (A.1 2) (A.1 3) 139 (i + 1) with
              | error e =>
                rw [hr] at g4
                obtain ⟨hne, j1, k1⟩ := g4
                dsimp only
                exact l_rm88F hW k1 hne (isF_ok hn (ms_nm_F hr)).1 hF1
              | ok q =>
                rw [hr] at g4
                obtain ⟨k1, k4, k5⟩ := g4
                dsimp only
                by_cases h59 : tK s n (i + 3) = 59
                · rw [if_pos h59]
                  refine l_rm88 hW k1 (fun m2 k2 u2 => ?_)
                  rw [show p_sg s n (nI 59) (i + 1 + 2, 0) = (i + 3 + 1, 0) from (if_pos rfl).trans (if_pos h59)] at k2
                  refine ih (i + 3 + 1) (L + 1) _ _ _ _ (by omega) k2 (by omega) hc2 ?_ (hF1.fr u2)
                  refine rml.fr (rml.add (((hR.fr (rfr_at (nI (i + 1)))).mf g2).cg (fun k hk => ⟨?_, ?_, ?_⟩)) ?_) u2
                  · rw [fc_u_off _ _ _ (by decide), fc_u_off _ _ _ (by decide)]; exact fc_u_nj _ _ _ _ (by omega)
                  · rw [fc_u_off _ _ _ (by decide), fc_u_nj _ _ _ _ (by omega), fc_u_off _ _ _ (by decide)]
                  · rw [fc_u_nj _ _ _ _ (by omega), fc_u_off _ _ _ (by decide), fc_u_off _ _ _ (by decide)]
                  · rw [g3, k4, k5, fc_u_at, fc_u_off _ _ _ (show 1 ≠ 3 by decide), fc_u_off _ _ _ (show 1 ≠ 2 by decide), fc_u_at, fc_u_off _ _ _ (show 2 ≠ 3 by decide), fc_u_at]
                    exact nm_lnr hr (.inl ⟨rfl, rfl⟩)
                · rw [if_neg h59]
                  refine l_rm88 hW k1 (fun m2 k2 u2 => ?_)
                  rw [show p_sg s n (nI 59) (i + 1 + 2, 0) = (i + 1 + 2, tF s n 1 (i + 3)) from (if_pos rfl).trans (if_neg h59)] at k2
                  exact l_rm11F hW k2 (tF_ne (c := 1) (by omega) (by omega) hn _) (tF_ok (c := 1) (by omega) hn _) (hF1.fr u2)
            · refine l_rm64_2 hW hS hiL (by omega) hB hD ((hF.2.1 18 (by decide) (by decide)).trans hK) (by rw [hF.1 263 (by decide) (by decide)]; exact hN) (fun m1 c2 y2 hc2 g => ?_)
              obtain ⟨-, -, -, g2, g3, g4⟩ := g
              rw [ms_line, if_pos (sf_138.mpr ⟨2, by omega, hk⟩), if_neg (by omega), if_neg (by rw [show tK s n i = 140 from hk]; decide), show tK s n i = 140 from hk]
              have hF1 := (hF.fr (rfr_at (nI (i + 1)))).mf g2
              cases hr : ms_nm s n A.2.2 (A.1 0) (A.1 2) (A.1 3) 140 (i + 1) with
              | error e =>
                rw [hr] at g4
                obtain ⟨hne, j1, k1⟩ := g4
                dsimp only
                exact l_rm88F hW k1 hne (isF_ok hn (ms_nm_F hr)).1 hF1
              | ok q =>
                rw [hr] at g4
                obtain ⟨k1, k4, k5⟩ := g4
                dsimp only
                by_cases h59 : tK s n (i + 3) = 59
                · rw [if_pos h59]
                  refine l_rm88 hW k1 (fun m2 k2 u2 => ?_)
                  rw [show p_sg s n (nI 59) (i + 1 + 2, 0) = (i + 3 + 1, 0) from (if_pos rfl).trans (if_pos h59)] at k2
                  refine ih (i + 3 + 1) (L + 1) _ _ _ _ (by omega) k2 (by omega) hc2 ?_ (hF1.fr u2)
                  refine rml.fr (rml.add (((hR.fr (rfr_at (nI (i + 1)))).mf g2).cg (fun k hk => ⟨?_, ?_, ?_⟩)) ?_) u2
                  · rw [fc_u_off _ _ _ (by decide), fc_u_off _ _ _ (by decide)]; exact fc_u_nj _ _ _ _ (by omega)
                  · rw [fc_u_off _ _ _ (by decide), fc_u_nj _ _ _ _ (by omega), fc_u_off _ _ _ (by decide)]
                  · rw [fc_u_nj _ _ _ _ (by omega), fc_u_off _ _ _ (by decide), fc_u_off _ _ _ (by decide)]
                  · rw [g3, k4, k5, fc_u_at, fc_u_off _ _ _ (show 1 ≠ 3 by decide), fc_u_off _ _ _ (show 1 ≠ 2 by decide), fc_u_at, fc_u_off _ _ _ (show 2 ≠ 3 by decide), fc_u_at]
                    exact nm_lnr hr (.inr (.inl ⟨rfl, rfl⟩))
                · rw [if_neg h59]
                  refine l_rm88 hW k1 (fun m2 k2 u2 => ?_)
                  rw [show p_sg s n (nI 59) (i + 1 + 2, 0) = (i + 1 + 2, tF s n 1 (i + 3)) from (if_pos rfl).trans (if_neg h59)] at k2
                  exact l_rm11F hW k2 (tF_ne (c := 1) (by omega) (by omega) hn _) (tF_ok (c := 1) (by omega) hn _) (hF1.fr u2)
            · refine l_rm64_3 hW hS hiL (by omega) hB hD ((hF.2.1 18 (by decide) (by decide)).trans hK) (by rw [hF.1 263 (by decide) (by decide)]; exact hN) (fun m1 c2 y2 hc2 g => ?_)
              obtain ⟨-, -, -, g2, g3, g4⟩ := g
              rw [ms_line, if_pos (sf_138.mpr ⟨3, by omega, hk⟩), if_neg (by omega), if_neg (by rw [show tK s n i = 141 from hk]; decide), show tK s n i = 141 from hk]
              have hF1 := (hF.fr (rfr_at (nI (i + 1)))).mf g2
              cases hr : ms_nm s n A.2.2 (A.1 0) (A.1 2) (A.1 3) 141 (i + 1) with
              | error e =>
                rw [hr] at g4
                obtain ⟨hne, j1, k1⟩ := g4
                dsimp only
                exact l_rm88F hW k1 hne (isF_ok hn (ms_nm_F hr)).1 hF1
              | ok q =>
                rw [hr] at g4
                obtain ⟨k1, k4, k5⟩ := g4
                dsimp only
                by_cases h59 : tK s n (i + 3) = 59
                · rw [if_pos h59]
                  refine l_rm88 hW k1 (fun m2 k2 u2 => ?_)
                  rw [show p_sg s n (nI 59) (i + 1 + 2, 0) = (i + 3 + 1, 0) from (if_pos rfl).trans (if_pos h59)] at k2
                  refine ih (i + 3 + 1) (L + 1) _ _ _ _ (by omega) k2 (by omega) hc2 ?_ (hF1.fr u2)
                  refine rml.fr (rml.add (((hR.fr (rfr_at (nI (i + 1)))).mf g2).cg (fun k hk => ⟨?_, ?_, ?_⟩)) ?_) u2
                  · rw [fc_u_off _ _ _ (by decide), fc_u_off _ _ _ (by decide)]; exact fc_u_nj _ _ _ _ (by omega)
                  · rw [fc_u_off _ _ _ (by decide), fc_u_nj _ _ _ _ (by omega), fc_u_off _ _ _ (by decide)]
                  · rw [fc_u_nj _ _ _ _ (by omega), fc_u_off _ _ _ (by decide), fc_u_off _ _ _ (by decide)]
                  · rw [g3, k4, k5, fc_u_at, fc_u_off _ _ _ (show 1 ≠ 3 by decide), fc_u_off _ _ _ (show 1 ≠ 2 by decide), fc_u_at, fc_u_off _ _ _ (show 2 ≠ 3 by decide), fc_u_at]
                    exact nm_lnr hr (.inr (.inr ⟨rfl, rfl⟩))
                · rw [if_neg h59]
                  refine l_rm88 hW k1 (fun m2 k2 u2 => ?_)
                  rw [show p_sg s n (nI 59) (i + 1 + 2, 0) = (i + 1 + 2, tF s n 1 (i + 3)) from (if_pos rfl).trans (if_neg h59)] at k2
                  exact l_rm11F hW k2 (tF_ne (c := 1) (by omega) (by omega) hn _) (tF_ok (c := 1) (by omega) hn _) (hF1.fr u2)
        · have hq : ¬ sp_from 138 (tK s n i) 141 = true ∧ z = -1 := by
            rcases hwc with ⟨-, k, hk, e, q⟩ | ⟨q1, q⟩
            · exact absurd (show 0 ≤ z by rw [q]; exact nI_pos' (by omega)) h39
            · refine ⟨fun w => ?_, q⟩
              obtain ⟨k, hk, e⟩ := sf_138.mp w
              exact q1 rfl k hk (by rw [e]; exact congrArg nI (by omega))
          refine And.intro rfl (Exists.intro _ (And.intro (c_rwrong hW hS _) ?_))
          rintro _ m1 _ _ ⟨rfl, g1, u1, rfl, rfl⟩
          rw [ms_rd, if_neg hk1, ms_line, if_neg (fun q => hq.1 q)]
          rw [p_wr, if_pos rfl] at g1
          exact l_rm88F hW g1 (tF_ne (c := 1) (by omega) (by omega) hn _) (tF_ok (c := 1) (by omega) hn _) (hF.fr u1)
    · exact absurd hfa h15
end M92
