/-! ===== the law, level by level: what the class's reader does over a part (PK), a product (LL 4), a sum (3), a test (2), a whole (1); with a fault: PE, LE ===== -/
def PK (s : Nat → Int32) (n N dp i : Nat) (o : List Int32) (j : Nat) (o' : List Int32) : Prop := (hl o ≤ 4 * dp + 4 → hl o' = hl o + 1) ∧ i ≤ j ∧ ∀ w : List Int32, w.length ≤ 5 * dp + 4 → cr s n N i (w, nI dp, true, o) j ((ps_cn w (nI dp) o').1, (ps_cn w (nI dp) o').2.1, false, (ps_cn w (nI dp) o').2.2)
def PE (s : Nat → Int32) (n N dp i : Nat) (o : List Int32) (e : Int32) : Prop := ∀ w : List Int32, w.length ≤ 5 * dp + 4 → ce s n N i (w, nI dp, true, o) e
def LL (s : Nat → Int32) (n N R dp i : Nat) (o : List Int32) (j : Nat) (o' : List Int32) (b : Bool) : Prop := (hl o + 1 ≤ 4 * dp + R → hl o' = hl o + 1) ∧ i ≤ j ∧ ∀ w : List Int32, w.length + 1 ≤ 5 * dp + R → tpn w < R → ¬ w.head? = some 146 → ∃ u o1, u.length + R ≤ 5 ∧ (∀ x ∈ u, R ≤ rkn x) ∧ fl u o1 = o' ∧ cr s n N i (w, nI dp, true, o) j (u ++ w, nI dp, false, o1) ∧ (b = true → tpn (ps_wd 3 (u ++ w) o1).1 = 2)
def LE (s : Nat → Int32) (n N R dp i : Nat) (o : List Int32) (e : Int32) : Prop := ∀ w : List Int32, w.length + 1 ≤ 5 * dp + R → tpn w < R → ¬ w.head? = some 146 → ce s n N i (w, nI dp, true, o) e
/-- a whole has come to its end: what stands there is no sign that it takes -/
def lex (s : Nat → Int32) (n j : Nat) (b : Bool) : Prop := rkn (tK s n (j + 1)) = 0 ∨ (rkn (tK s n (j + 1)) = 2 ∧ b = true)
section M81
variable {s : Nat → Int32} {n N R dp i j j2 : Nat} {o o' o1 o2 : List Int32} {e : Int32} {b b2 : Bool}
theorem cn_no {w : List Int32} (h : ¬ w.head? = some 146) (x : Int32) (o : List Int32) : ps_cn w x o = (w, x, o) := by
  cases w with
  | nil => rfl
  | cons y w => rw [ps_cn, if_neg (fun q => h (by rw [q]; rfl))]
theorem push_w {w : List Int32} (h : w.length < 64) (x : Int32) : ps_push w x = x :: w := if_pos h
theorem wr_o {o : List Int32} (h : o.length < 1000) (x : Int32) : ps_wr o x = x :: o := if_pos h
theorem nI_lt5 {dp : Nat} (h : dp < 5) : nI dp < 5 := nI_lt (b := 5) h (by omega)
theorem nI_n5 : ¬ nI 5 < 5 := by decide
theorem LL_5 (h : PK s n N dp i o j o') : LL s n N 5 dp i o j o' false := by
  refine ⟨fun q => h.1 (by omega), h.2.1, fun w hw _ hh => ⟨[], o', by simp, fun x hx => (nomatch hx), rfl, ?_, fun q => (nomatch q)⟩⟩
  have hc := h.2.2 w (by omega)
  rw [cn_no hh] at hc
  exact hc
theorem LE_5 (h : PE s n N dp i o e) : LE s n N 5 dp i o e := fun w hw _ _ => h w (by omega)
theorem LL_up (h : LL s n N (R + 1) dp i o j o' b) : LL s n N R dp i o j o' b := by
  refine ⟨fun q => h.1 (by omega), h.2.1, fun w hw ht hh => ?_⟩
  obtain ⟨u, p, h1, h2, h3, h4, h5⟩ := h.2.2 w (by omega) (by omega) hh
  exact ⟨u, p, by omega, fun x hx => by have := h2 x hx; omega, h3, h4, h5⟩
theorem LE_up (h : LE s n N (R + 1) dp i o e) : LE s n N R dp i o e := fun w hw ht hh => h w (by omega) (by omega) hh
theorem rkn_ne {x y : Int32} (h : ¬ rkn x = rkn y) : ¬ x = y := fun q => h (by rw [q])
/-- one more at the same level: *, + or -, and or or -/
theorem op_step {u w p1 : List Int32} (hR : R = 4 ∨ R = 3 ∨ R = 1) (hd5 : dp ≤ 5) (ht : rkn (tK s n (j + 1)) = R) (hu : ∀ x ∈ u, R ≤ rkn x) (hf : fl u p1 = o1) (ho : o1.length ≤ 1000) (hw : w.length + 1 ≤ 5 * dp + R) (htp : tpn w < R) : ps_beh s n (j + 1) (u ++ w) (nI dp) p1 = .ok (tK s n (j + 1) :: w, nI dp, true, o1) := by
  have h41 : ¬ tK s n (j + 1) = 41 := rkn_ne (by rw [ht]; show ¬ R = 0; omega)
  have hr : ps_rk (tK s n (j + 1)) = nI R := by rw [rk_n, ht]
  have h0 : ¬ nI R = 0 := by rcases hR with rfl | rfl | rfl <;> decide
  have h2 : ¬ nI R = 2 := by rcases hR with rfl | rfl | rfl <;> decide
  rw [ps_beh, if_neg (fun q => h41 q.1), hr, if_neg h0, if_neg h2, wd_all (by omega) hu (by rw [hf]; exact ho) htp, hf]
  dsimp only
  rw [push_w (by omega)]
theorem LL_op (hR : R = 4 ∨ R = 3 ∨ R = 1) (hd5 : dp ≤ 5) (h : LL s n N R dp i o j o1 b) (hj : j < N) (ht : rkn (tK s n (j + 1)) = R) (ho : o1.length ≤ 1000) (g : LL s n N (R + 1) dp (j + 1) o1 j2 o2 b2) : LL s n N R dp i o j2 ((-tK s n (j + 1)) :: o2) b2 := by
  refine ⟨fun q => ?_, by have := h.2.1; have := g.2.1; omega, fun w hw htp hh => ?_⟩
  · have e1 := h.1 q
    have e2 := g.1 (by omega)
    rw [hl_op (by omega) (by omega) (by omega)]
    omega
  · obtain ⟨u, p1, a1, a2, a3, a4, -⟩ := h.2.2 w hw htp hh
    have hb := op_step (n := n) (s := s) (j := j) hR hd5 ht a2 a3 ho hw htp
    have c1 := a4.tr (cr_b hj (.inr (rkn_ne (by rw [ht]; show ¬ R = 0; omega))) hb)
    obtain ⟨u2, p2, b1, b2, b3, b4, b5⟩ := g.2.2 (tK s n (j + 1) :: w) (by rw [List.length_cons]; omega) (by show rkn _ < _; omega) (fun q => rkn_ne (x := tK s n (j + 1)) (y := 146) (by rw [ht]; show ¬ R = 0; omega) (by simpa using q))
    have ea : u2 ++ [tK s n (j + 1)] ++ w = u2 ++ tK s n (j + 1) :: w := by simp
    refine ⟨u2 ++ [tK s n (j + 1)], p2, by rw [List.length_append]; simp only [List.length_cons, List.length_nil]; omega, fun x hx => ?_, by rw [fl_app, b3], ?_, ?_⟩
    · rcases List.mem_append.mp hx with q | q
      · have := b2 x q; omega
      · rw [List.mem_singleton.mp q]; omega
    · rw [ea]; exact c1.tr b4
    · rw [ea]; exact b5
theorem LE_op (hR : R = 4 ∨ R = 3 ∨ R = 1) (hd5 : dp ≤ 5) (h : LL s n N R dp i o j o1 b) (hj : j < N) (ht : rkn (tK s n (j + 1)) = R) (ho : o1.length ≤ 1000) (g : LE s n N (R + 1) dp (j + 1) o1 e) : LE s n N R dp i o e := fun w hw htp hh => by
  obtain ⟨u, p1, a1, a2, a3, a4, -⟩ := h.2.2 w hw htp hh
  have hb := op_step (n := n) (s := s) (j := j) hR hd5 ht a2 a3 ho hw htp
  exact (a4.tr (cr_b hj (.inr (rkn_ne (by rw [ht]; show ¬ R = 0; omega))) hb)).er (g (tK s n (j + 1) :: w) (by rw [List.length_cons]; omega) (by show rkn _ < _; omega) (fun q => rkn_ne (x := tK s n (j + 1)) (y := 146) (by rw [ht]; show ¬ R = 0; omega) (by simpa using q)))
/-- a test -/
theorem ts_step {u w p1 : List Int32} (hd5 : dp ≤ 5) (ht : rkn (tK s n (j + 1)) = 2) (hu : ∀ x ∈ u, 3 ≤ rkn x) (hf : fl u p1 = o1) (ho : o1.length ≤ 1000) (hw : w.length + 1 ≤ 5 * dp + 2) (htp : tpn w < 2) : ps_beh s n (j + 1) (u ++ w) (nI dp) p1 = .ok (tK s n (j + 1) :: w, nI dp, true, o1) := by
  have h41 : ¬ tK s n (j + 1) = 41 := rkn_ne (by rw [ht]; decide)
  have hr : ps_rk (tK s n (j + 1)) = 2 := by rw [rk_n, ht]; rfl
  have hw3 : ps_wd 3 (u ++ w) p1 = (w, o1) := by
    have := wd_all (R := 3) (by omega) hu (o := p1) (by rw [hf]; exact ho) (w := w) (by omega)
    rw [hf] at this; exact this
  have h2 : ¬ ps_tp w = 2 := by
    rw [tp_n]
    intro q
    have := (nI_eq (a := tpn w) (b := 2) (by omega) (by omega)).mp q
    omega
  rw [ps_beh, if_neg (fun q => h41 q.1), hr, if_neg (by decide), if_pos rfl, hw3, if_neg h2]
  dsimp only
  rw [push_w (by omega)]
theorem LL_ts (hd5 : dp ≤ 5) (h : LL s n N 3 dp i o j o1 b) (hj : j < N) (ht : rkn (tK s n (j + 1)) = 2) (ho : o1.length ≤ 1000) (ho2 : o2.length ≤ 1000) (g : LL s n N 3 dp (j + 1) o1 j2 o2 b2) : LL s n N 2 dp i o j2 ((-tK s n (j + 1)) :: o2) true := by
  refine ⟨fun q => ?_, by have := h.2.1; have := g.2.1; omega, fun w hw htp hh => ?_⟩
  · have e1 := h.1 (by omega)
    have e2 := g.1 (by omega)
    rw [hl_op (by omega) (by omega) (by omega)]
    omega
  · obtain ⟨u, p1, a1, a2, a3, a4, -⟩ := h.2.2 w (by omega) (by omega) hh
    have hb := ts_step (n := n) (s := s) (j := j) hd5 ht a2 a3 ho hw htp
    have c1 := a4.tr (cr_b hj (.inr (rkn_ne (by rw [ht]; decide))) hb)
    obtain ⟨u2, p2, b1, b2, b3, b4, -⟩ := g.2.2 (tK s n (j + 1) :: w) (by rw [List.length_cons]; omega) (by show rkn _ < _; omega) (fun q => rkn_ne (x := tK s n (j + 1)) (y := 146) (by rw [ht]; decide) (by simpa using q))
    have ea : u2 ++ [tK s n (j + 1)] ++ w = u2 ++ tK s n (j + 1) :: w := by simp
    refine ⟨u2 ++ [tK s n (j + 1)], p2, by rw [List.length_append]; simp only [List.length_cons, List.length_nil]; omega, fun x hx => ?_, by rw [fl_app, b3], ?_, fun _ => ?_⟩
    · rcases List.mem_append.mp hx with q | q
      · have := b2 x q; omega
      · rw [List.mem_singleton.mp q]; omega
    · rw [ea]; exact c1.tr b4
    · rw [ea]
      have := wd_all (R := 3) (by omega) b2 (o := p2) (by rw [b3]; exact ho2) (w := tK s n (j + 1) :: w) (by show rkn _ < 3; omega)
      rw [show ps_wd 3 (u2 ++ tK s n (j + 1) :: w) p2 = _ from this]
      exact ht
theorem LE_ts (hd5 : dp ≤ 5) (h : LL s n N 3 dp i o j o1 b) (hj : j < N) (ht : rkn (tK s n (j + 1)) = 2) (ho : o1.length ≤ 1000) (g : LE s n N 3 dp (j + 1) o1 e) : LE s n N 2 dp i o e := fun w hw htp hh => by
  obtain ⟨u, p1, a1, a2, a3, a4, -⟩ := h.2.2 w (by omega) (by omega) hh
  have hb := ts_step (n := n) (s := s) (j := j) hd5 ht a2 a3 ho hw htp
  exact (a4.tr (cr_b hj (.inr (rkn_ne (by rw [ht]; decide))) hb)).er (g (tK s n (j + 1) :: w) (by rw [List.length_cons]; omega) (by show rkn _ < _; omega) (fun q => rkn_ne (x := tK s n (j + 1)) (y := 146) (by rw [ht]; decide) (by simpa using q)))
/-- the end of a whole where no sign of its own stands: the class's fault -/
theorem beh_x {u w p1 : List Int32} {x : Int32} (hc : ¬ (tK s n (j + 1) = 41 ∧ ¬ x ≤ 0)) (hx : lex s n j b) (hb : b = true → tpn (ps_wd 3 (u ++ w) p1).1 = 2) : ps_beh s n (j + 1) (u ++ w) x p1 = .error (tF s n 1 (j + 1)) := by
  rw [ps_beh, if_neg hc]
  rcases hx with hx | ⟨hx, rfl⟩
  · rw [show ps_rk (tK s n (j + 1)) = 0 by rw [rk_n, hx]; rfl, if_pos rfl]
  · rw [show ps_rk (tK s n (j + 1)) = 2 by rw [rk_n, hx]; rfl, if_neg (by decide), if_pos rfl, if_pos]
    rw [tp_n, hb rfl]; rfl
theorem opn_t (h : tK s n i = 146 ∨ tK s n i = 40) : ps_opn s n i = true := by
  unfold ps_opn
  rcases h with h | h <;> rw [h] <;> rfl
theorem opn_f (h1 : ¬ tK s n i = 146) (h2 : ¬ tK s n i = 40) : ps_opn s n i = false := by
  unfold ps_opn
  rw [decide_eq_false h1, decide_eq_false h2]; rfl
theorem opn_step {w : List Int32} (hd : dp < 5) (ht : tK s n (i + 1) = 146 ∨ tK s n (i + 1) = 40) (hw : w.length ≤ 5 * dp + 4) : ps_part s n (i + 1) w (nI dp) o = .ok (tK s n (i + 1) :: w, nI (dp + 1), true, o) := by
  rw [ps_part, if_pos (opn_t ht), if_pos (nI_lt5 hd), push_w (by omega), nI_1]
theorem PK_not (hi : i < N) (hd : dp < 5) (ht : tK s n (i + 1) = 146) (h : PK s n N (dp + 1) (i + 1) o j o1) (ho : o1.length < 1000) : PK s n N dp i o j ((-146) :: o1) := by
  refine ⟨fun q => ?_, by have := h.2.1; omega, fun w hw => ?_⟩
  · have e1 := h.1 (by omega)
    rw [hl_not (by omega) (by omega), e1]
  · have c1 := cr_p hi (opn_step (n := n) (s := s) (i := i) (o := o) hd (.inl ht) hw)
    have c2 := h.2.2 (tK s n (i + 1) :: w) (by rw [List.length_cons]; omega)
    have hz : ps_cn (tK s n (i + 1) :: w) (nI (dp + 1)) o1 = ps_cn w (nI dp) ((-146) :: o1) := by
      rw [ps_cn, if_pos ht, nI_pred, wr_o ho]
    rw [hz] at c2
    exact c1.tr c2
theorem PE_not (hi : i < N) (hd : dp < 5) (ht : tK s n (i + 1) = 146) (h : PE s n N (dp + 1) (i + 1) o e) : PE s n N dp i o e := fun w hw =>
  (cr_p hi (opn_step (n := n) (s := s) (i := i) (o := o) hd (.inl ht) hw)).er (h (tK s n (i + 1) :: w) (by rw [List.length_cons]; omega))
theorem par_ctx {w : List Int32} (ht : tK s n (i + 1) = 40) : tpn (tK s n (i + 1) :: w) < 1 ∧ ¬ (tK s n (i + 1) :: w).head? = some 146 := by
  rw [ht]
  exact ⟨(by decide : rkn 40 < 1), fun q => absurd (Option.some.inj q) (by decide)⟩
theorem PK_par (hi : i < N) (hd : dp < 5) (ht : tK s n (i + 1) = 40) (h : LL s n N 1 (dp + 1) (i + 1) o j o' b) (hj : j < N) (hc : tK s n (j + 1) = 41) (ho : o'.length ≤ 1000) : PK s n N dp i o (j + 1) o' := by
  refine ⟨fun q => h.1 (by omega), by have := h.2.1; omega, fun w hw => ?_⟩
  have c1 := cr_p hi (opn_step (n := n) (s := s) (i := i) (o := o) hd (.inr ht) hw)
  obtain ⟨u, p1, a1, a2, a3, a4, -⟩ := h.2.2 (tK s n (i + 1) :: w) (by rw [List.length_cons]; omega) (par_ctx ht).1 (par_ctx ht).2
  have hz : ps_wd 1 (u ++ tK s n (i + 1) :: w) p1 = (tK s n (i + 1) :: w, o') := by
    have := wd_all (R := 1) (by omega) a2 (o := p1) (by rw [a3]; exact ho) (par_ctx (w := w) ht).1
    rw [a3] at this; exact this
  have hd0 : ¬ nI (dp + 1) ≤ 0 := nI_nle (by omega) (by omega)
  refine c1.tr (a4.tr (cr_b hj (.inr (by rw [hc]; decide)) ?_))
  rw [ps_beh, if_pos ⟨hc, hd0⟩, hz, nI_pred]
  rfl
theorem PE_par1 (hi : i < N) (hd : dp < 5) (ht : tK s n (i + 1) = 40) (h : LE s n N 1 (dp + 1) (i + 1) o e) : PE s n N dp i o e := fun w hw =>
  (cr_p hi (opn_step (n := n) (s := s) (i := i) (o := o) hd (.inr ht) hw)).er (h (tK s n (i + 1) :: w) (by rw [List.length_cons]; omega) (par_ctx ht).1 (par_ctx ht).2)
theorem PE_par2 (hi : i < N) (hd : dp < 5) (ht : tK s n (i + 1) = 40) (h : LL s n N 1 (dp + 1) (i + 1) o j o' b) (hj : j < N) (hc : ¬ tK s n (j + 1) = 41) (hx : lex s n j b) : PE s n N dp i o (tF s n 1 (j + 1)) := fun w hw => by
  obtain ⟨u, p1, a1, a2, a3, a4, a5⟩ := h.2.2 (tK s n (i + 1) :: w) (by rw [List.length_cons]; omega) (par_ctx ht).1 (par_ctx ht).2
  exact (cr_p hi (opn_step (n := n) (s := s) (i := i) (o := o) hd (.inr ht) hw)).er (a4.er (ce_b hj (.inl (nI_ne0 (by omega) (by omega))) (beh_x (fun q => hc q.1) hx a5)))
theorem fa_no (h : ¬ tK s n i = 4) : ps_fa s n i = -1 := if_neg h
theorem PK_num (hi : i < N) (hd : dp < 5) (ht : tK s n (i + 1) = 3) (hp : ¬ tN s n (i + 1) < 0) (ho : o.length < 1000) : PK s n N dp i o (i + 1) (tN s n (i + 1) :: o) := by
  refine ⟨fun q => hl_num (by omega) (.inl hp), by omega, fun w hw => cr_p hi ?_⟩
  rw [ps_part, if_neg (by rw [opn_f (by rw [ht]; decide) (by rw [ht]; decide)]; decide), if_pos (fa_no (by rw [ht]; decide)), if_pos ht, if_pos (nI_lt5 hd), wr_o ho]
theorem PK_fact (hi : i < N) (hd : dp < 5) (ht : tK s n (i + 1) = 4) {k : Nat} (hk : k < 4) (hf : tk_cl 2 s n (tS s n (i + 1)) (tE s n (i + 1)) = nI k) (ho : o.length < 1000) : PK s n N dp i o (i + 1) ((-256 - nI k) :: o) := by
  have hfa : ps_fa s n (i + 1) = nI k := by rw [ps_fa, if_pos ht]; exact hf
  have hx : ¬ (-256 : Int32) < -256 - nI k := by
    have : k = 0 ∨ k = 1 ∨ k = 2 ∨ k = 3 := by omega
    rcases this with rfl | rfl | rfl | rfl <;> decide
  refine ⟨fun q => hl_num (by omega) (.inr hx), by omega, fun w hw => cr_p hi ?_⟩
  rw [ps_part, if_neg (by rw [opn_f (by rw [ht]; decide) (by rw [ht]; decide)]; decide), if_neg (by rw [hfa]; exact nI_ne1 (by omega)), if_pos (nI_lt5 hd), hfa, wr_o ho]
theorem PE_tok (hi : i < N) (h1 : ¬ tK s n (i + 1) = 146) (h2 : ¬ tK s n (i + 1) = 40) (h3 : ps_fa s n (i + 1) = -1) (h4 : ¬ tK s n (i + 1) = 3) : PE s n N dp i o (tF s n 1 (i + 1)) := fun w hw => ce_p hi (by
  rw [ps_part, if_neg (by rw [opn_f h1 h2]; decide), if_pos h3, if_neg h4])
theorem PE_deep (hi : i < N) (h : tK s n (i + 1) = 146 ∨ tK s n (i + 1) = 40 ∨ ¬ ps_fa s n (i + 1) = -1 ∨ tK s n (i + 1) = 3) : PE s n N 5 i o (tF s n 5 (i + 1)) := fun w hw => ce_p hi (by
  by_cases e1 : tK s n (i + 1) = 146 ∨ tK s n (i + 1) = 40
  · rw [ps_part, if_pos (opn_t e1), if_neg nI_n5]
  · rw [ps_part, if_neg (by rw [opn_f (fun q => e1 (.inl q)) (fun q => e1 (.inr q))]; decide)]
    by_cases e2 : ps_fa s n (i + 1) = -1
    · rw [if_pos e2, if_pos (h.elim (fun q => absurd (Or.inl q) e1) (fun q => q.elim (fun q => absurd (Or.inr q) e1) (fun q => q.elim (fun q => absurd e2 q) id))), if_neg nI_n5]
    · rw [if_neg e2, if_neg nI_n5])
/-- the law's own E -/
theorem law_k (h : LL s n N 1 0 i [] j o' b) (hj : j < N) (hc : tK s n (j + 1) = 59) (ho : o'.length ≤ 1000) {k : Nat} (hk : N ≤ i + k) : ps_lr s n k i ([], 0, true, []) = .ok (o', j + 1) := by
  obtain ⟨u, p1, a1, a2, a3, a4, -⟩ := h.2.2 [] (by simp) (by show (0 : Nat) < 1; omega) (fun q => (nomatch q))
  obtain ⟨k', hk', e1⟩ := a4.2 k hk
  refine Eq.trans e1 ?_
  rw [cr_f hj (show nI 0 = 0 from rfl) hc k' hk']
  have := wd_all (R := 1) (by omega) a2 (o := p1) (by rw [a3]; exact ho) (w := []) (by show (0 : Nat) < 1; omega)
  rw [a3] at this
  rw [show ps_wd 1 (u ++ []) p1 = _ from this]
theorem law_e1 (h : LE s n N 1 0 i [] e) {k : Nat} (hk : N ≤ i + k) : ps_lr s n k i ([], 0, true, []) = .error e := h [] (by simp) (by show (0 : Nat) < 1; omega) (fun q => (nomatch q)) k hk
theorem law_e2 (h : LL s n N 1 0 i [] j o' b) (hj : j < N) (hc : ¬ tK s n (j + 1) = 59) (hx : lex s n j b) {k : Nat} (hk : N ≤ i + k) : ps_lr s n k i ([], 0, true, []) = .error (tF s n 1 (j + 1)) := by
  obtain ⟨u, p1, a1, a2, a3, a4, a5⟩ := h.2.2 [] (by simp) (by show (0 : Nat) < 1; omega) (fun q => (nomatch q))
  exact a4.er (ce_b hj (.inr hc) (beh_x (fun q => q.2 (by decide)) hx a5)) k hk
end M81
