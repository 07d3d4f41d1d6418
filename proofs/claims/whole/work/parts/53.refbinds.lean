/-! ===== the reference: the law's worth, what binds, gifts and vows ===== -/
def bo (x a b : Int32) : Int32 := if x = 4 then a + b else if x = 5 then a - b else if x = 6 then a * b else if x = 7 then (if a < b then 1 else 0) else if x = 8 then (if a = b then 1 else 0) else if x = 9 then (if a = 0 then 0 else if b = 0 then 0 else 1) else (if a = 0 then (if b = 0 then 0 else 1) else 1)
/-- one sign of a law, in the class's code and in the reference's -/
def lwr (z x a : Int32) : Prop := (x = 1 ∧ z = a ∧ ¬ a < 0) ∨ (x = 2 ∧ ∃ k, k < 4 ∧ a = nI k ∧ z = -256 - nI k) ∨ (x = 3 ∧ z = -146) ∨ (x = 4 ∧ z = -43) ∨ (x = 5 ∧ z = -45) ∨ (x = 6 ∧ z = -42) ∨ (x = 7 ∧ z = -60) ∨ (x = 8 ∧ z = -61) ∨ (x = 9 ∧ z = -147) ∨ (x = 10 ∧ z = -148)
theorem lwr_0 {z x a : Int32} (h : lwr z x a) : ¬ x = 0 := by
  rcases h with ⟨h, -⟩ | ⟨h, -⟩ | ⟨h, -⟩ | ⟨h, -⟩ | ⟨h, -⟩ | ⟨h, -⟩ | ⟨h, -⟩ | ⟨h, -⟩ | ⟨h, -⟩ | ⟨h, -⟩ <;> (rw [h]; decide)
theorem lwr_1 {z x a : Int32} (h : lwr z x a) (h1 : x = 1) : z = a ∧ ¬ a < 0 := by
  rcases h with ⟨-, h⟩ | ⟨h, -⟩ | ⟨h, -⟩ | ⟨h, -⟩ | ⟨h, -⟩ | ⟨h, -⟩ | ⟨h, -⟩ | ⟨h, -⟩ | ⟨h, -⟩ | ⟨h, -⟩ <;> first | exact h | exact absurd (h1.symm.trans h) (by decide)
theorem lwr_2 {z x a : Int32} (h : lwr z x a) (h1 : x = 2) : ∃ k, k < 4 ∧ a = nI k ∧ z = -256 - nI k := by
  rcases h with ⟨h, -⟩ | ⟨-, h⟩ | ⟨h, -⟩ | ⟨h, -⟩ | ⟨h, -⟩ | ⟨h, -⟩ | ⟨h, -⟩ | ⟨h, -⟩ | ⟨h, -⟩ | ⟨h, -⟩ <;> first | exact h | exact absurd (h1.symm.trans h) (by decide)
theorem lwr_3 {z x a : Int32} (h : lwr z x a) (h1 : x = 3) : z = -146 := by
  rcases h with ⟨h, -⟩ | ⟨h, -⟩ | ⟨-, h⟩ | ⟨h, -⟩ | ⟨h, -⟩ | ⟨h, -⟩ | ⟨h, -⟩ | ⟨h, -⟩ | ⟨h, -⟩ | ⟨h, -⟩ <;> first | exact h | exact absurd (h1.symm.trans h) (by decide)
theorem lwr_4 {z x a : Int32} (h : lwr z x a) (h1 : ¬ x = 1) (h2 : ¬ x = 2) (h3 : ¬ x = 3) : (¬ z = -146 ∧ z < 0 ∧ -256 < z) ∧ ∀ l r, bo x l r = sp_jn z l r := by
  rcases h with ⟨h, -⟩ | ⟨h, -⟩ | ⟨h, -⟩ | ⟨rfl, rfl⟩ | ⟨rfl, rfl⟩ | ⟨rfl, rfl⟩ | ⟨rfl, rfl⟩ | ⟨rfl, rfl⟩ | ⟨rfl, rfl⟩ | ⟨rfl, rfl⟩
  · exact absurd h h1
  · exact absurd h h2
  · exact absurd h h3
  all_goals exact ⟨by decide, fun l r => rfl⟩
section M53
variable {E : fc_E} {d : Nat} {mi : fc_Mi} {ml : fc_Ml} {mr : fc_Mr} {B n m t sm : Nat} {L σ : fc_Mi}
theorem lw_hg {code v0 : Nat → Int32} {ck pr cr jd : Int32} {i : Nat} (h : sp_hg code i ≠ 99) : (sp_lw code ck pr cr jd v0 i).1 = sp_hg code i := (sp_lw_v0 v0 v0 i h).1
theorem lw_push {code v0 : Nat → Int32} {ck pr cr jd : Int32} {i : Nat} (h : sp_hg code (i + 1) ≠ 99) (h1 : ¬ code i = -146) (h2 : ¬ (code i < 0 ∧ -256 < code i)) : (sp_lw code ck pr cr jd v0 i).1 < 64 ∧ sp_lw code ck pr cr jd v0 (i + 1) = ((sp_lw code ck pr cr jd v0 i).1 + 1, upd (sp_lw code ck pr cr jd v0 i).2 (sp_lw code ck pr cr jd v0 i).1 (sp_op (code i) ck pr cr jd)) := by
  have h0 : sp_hg code i ≠ 99 := sp_hg_back (Nat.le_succ i) h
  have hT := lw_hg (v0 := v0) (ck := ck) (pr := pr) (cr := cr) (jd := jd) h0
  rw [sp_hg, if_neg h0, if_neg h1, if_neg h2] at h
  by_cases q : sp_hg code i < 64
  · rw [sp_lw, sp_st, if_neg h1, if_neg h2, hT, if_pos q]; exact ⟨q, rfl⟩
  · rw [if_neg q] at h; exact absurd rfl h
theorem lw_not {code v0 : Nat → Int32} {ck pr cr jd : Int32} {i : Nat} (h : sp_hg code (i + 1) ≠ 99) (h1 : code i = -146) : 1 ≤ (sp_lw code ck pr cr jd v0 i).1 ∧ sp_lw code ck pr cr jd v0 (i + 1) = ((sp_lw code ck pr cr jd v0 i).1, upd (sp_lw code ck pr cr jd v0 i).2 ((sp_lw code ck pr cr jd v0 i).1 - 1) (if (sp_lw code ck pr cr jd v0 i).2 ((sp_lw code ck pr cr jd v0 i).1 - 1) = 0 then 1 else 0)) := by
  have h0 : sp_hg code i ≠ 99 := sp_hg_back (Nat.le_succ i) h
  have hT := lw_hg (v0 := v0) (ck := ck) (pr := pr) (cr := cr) (jd := jd) h0
  rw [sp_hg, if_neg h0, if_pos h1] at h
  by_cases q : sp_hg code i = 0
  · rw [if_pos q] at h; exact absurd rfl h
  · rw [sp_lw, sp_st, if_pos h1, hT, if_neg q]; exact ⟨by omega, rfl⟩
theorem lw_join {code v0 : Nat → Int32} {ck pr cr jd : Int32} {i : Nat} (h : sp_hg code (i + 1) ≠ 99) (h1 : ¬ code i = -146) (h2 : code i < 0 ∧ -256 < code i) : 2 ≤ (sp_lw code ck pr cr jd v0 i).1 ∧ sp_lw code ck pr cr jd v0 (i + 1) = ((sp_lw code ck pr cr jd v0 i).1 - 1, upd (sp_lw code ck pr cr jd v0 i).2 ((sp_lw code ck pr cr jd v0 i).1 - 2) (sp_jn (code i) ((sp_lw code ck pr cr jd v0 i).2 ((sp_lw code ck pr cr jd v0 i).1 - 2)) ((sp_lw code ck pr cr jd v0 i).2 ((sp_lw code ck pr cr jd v0 i).1 - 1)))) := by
  have h0 : sp_hg code i ≠ 99 := sp_hg_back (Nat.le_succ i) h
  have hT := lw_hg (v0 := v0) (ck := ck) (pr := pr) (cr := cr) (jd := jd) h0
  rw [sp_hg, if_neg h0, if_neg h1, if_pos h2] at h
  by_cases q : sp_hg code i < 2
  · rw [if_pos q] at h; exact absurd rfl h
  · rw [sp_lw, sp_st, if_neg h1, if_pos h2, hT, if_neg q]; exact ⟨by omega, rfl⟩
theorem sp_op_n {z ck pr cr jd : Int32} (h : ¬ z < 0) : sp_op z ck pr cr jd = z := by
  have hn : ∀ w : Int32, w < 0 → ¬ z = w := fun w hw e => h (by rw [e]; exact hw)
  rw [sp_op, if_neg (hn _ (by decide)), if_neg (hn _ (by decide)), if_neg (hn _ (by decide)), if_neg (hn _ (by decide))]
theorem fc_m1b {T : Nat} (h : 2 ≤ T) : nI T + Int32.ofInt (-1) - 1 = nI (T - 2) := by rw [fc_m1 (by omega), fc_pm (by omega)]; rfl
/-- a law told, in both -/
def lwx (mi : fc_Mi) (code : Nat → Int32) (len : Nat) : Prop := 1 ≤ len ∧ len ≤ 1000 ∧ sp_hg code len = 1 ∧ (∀ i, i < len → lwr (code i) (mi 259 i) (mi 260 i)) ∧ mi 259 len = 0
theorem c_rboth (x a b : Int32) : fc_R E mX11_both d fc_sh [.int x, .int a, .int b] mi ml mr (fc_is (some (.int (bo x a b))) mi ml mr) := by
  refine fc_met rfl (Nat.le_of_ble_eq_true rfl) (fc_run oX11_both (fun _ => false) 400 ?_)
  refine And.intro (fun h1 => ?_) (fun _ => And.intro (And.intro (fun h1 => ?_) (And.intro (fun h1 => ?_) (And.intro (fun h1 => ?_) (And.intro (fun h1 => ?_) (And.intro (fun h1 => ?_) (And.intro (fun h1 => ?_) trivial)))))) (by decide))
  · have n1_0 : ¬ x = 4 := by rintro rfl; revert h1; decide
    have n1_1 : ¬ x = 5 := by rintro rfl; revert h1; decide
    have n1_2 : ¬ x = 6 := by rintro rfl; revert h1; decide
    have n1_3 : ¬ x = 7 := by rintro rfl; revert h1; decide
    have n1_4 : ¬ x = 8 := by rintro rfl; revert h1; decide
    have n1_5 : ¬ x = 9 := by rintro rfl; revert h1; decide
    refine And.intro (fun h89 => ?_) (fun h89 => ?_)
    · refine And.intro (fun h93 => ?_) (fun h93 => ?_)
      · exact ⟨by rw [bo, if_neg n1_0, if_neg n1_1, if_neg n1_2, if_neg n1_3, if_neg n1_4, if_neg n1_5, if_pos h89, if_pos h93], rfl, rfl, rfl⟩
      · exact ⟨by rw [bo, if_neg n1_0, if_neg n1_1, if_neg n1_2, if_neg n1_3, if_neg n1_4, if_neg n1_5, if_pos h89, if_neg h93], rfl, rfl, rfl⟩
    · exact ⟨by rw [bo, if_neg n1_0, if_neg n1_1, if_neg n1_2, if_neg n1_3, if_neg n1_4, if_neg n1_5, if_neg h89], rfl, rfl, rfl⟩
  · replace h1 := (fc_ofI 4 (by decide)).mp h1
    subst h1
    exact ⟨by rw [bo, if_pos rfl], rfl, rfl, rfl⟩
  · replace h1 := (fc_ofI 5 (by decide)).mp h1
    subst h1
    exact ⟨by rw [bo, if_neg (show ¬ (5 : Int32) = 4 by decide), if_pos rfl], rfl, rfl, rfl⟩
  · replace h1 := (fc_ofI 6 (by decide)).mp h1
    subst h1
    exact ⟨by rw [bo, if_neg (show ¬ (6 : Int32) = 4 by decide), if_neg (show ¬ (6 : Int32) = 5 by decide), if_pos rfl], rfl, rfl, rfl⟩
  · replace h1 := (fc_ofI 7 (by decide)).mp h1
    refine And.intro (fun h54 => ?_) (fun h54 => ?_)
    · subst h1
      exact ⟨by rw [bo, if_neg (show ¬ (7 : Int32) = 4 by decide), if_neg (show ¬ (7 : Int32) = 5 by decide), if_neg (show ¬ (7 : Int32) = 6 by decide), if_pos rfl, if_neg (Int32.not_lt.mpr h54)], rfl, rfl, rfl⟩
    · subst h1
      exact ⟨by rw [bo, if_neg (show ¬ (7 : Int32) = 4 by decide), if_neg (show ¬ (7 : Int32) = 5 by decide), if_neg (show ¬ (7 : Int32) = 6 by decide), if_pos rfl, if_pos (Int32.not_le.mp h54)], rfl, rfl, rfl⟩
  · replace h1 := (fc_ofI 8 (by decide)).mp h1
    refine And.intro (fun h65 => ?_) (fun h65 => ?_)
    · subst h1
      exact ⟨by rw [bo, if_neg (show ¬ (8 : Int32) = 4 by decide), if_neg (show ¬ (8 : Int32) = 5 by decide), if_neg (show ¬ (8 : Int32) = 6 by decide), if_neg (show ¬ (8 : Int32) = 7 by decide), if_pos rfl, if_pos h65], rfl, rfl, rfl⟩
    · subst h1
      exact ⟨by rw [bo, if_neg (show ¬ (8 : Int32) = 4 by decide), if_neg (show ¬ (8 : Int32) = 5 by decide), if_neg (show ¬ (8 : Int32) = 6 by decide), if_neg (show ¬ (8 : Int32) = 7 by decide), if_pos rfl, if_neg h65], rfl, rfl, rfl⟩
  · replace h1 := (fc_ofI 9 (by decide)).mp h1
    refine And.intro (fun h75 => ?_) (fun h75 => ?_)
    · subst h1
      exact ⟨by rw [bo, if_neg (show ¬ (9 : Int32) = 4 by decide), if_neg (show ¬ (9 : Int32) = 5 by decide), if_neg (show ¬ (9 : Int32) = 6 by decide), if_neg (show ¬ (9 : Int32) = 7 by decide), if_neg (show ¬ (9 : Int32) = 8 by decide), if_pos rfl, if_pos h75], rfl, rfl, rfl⟩
    · refine And.intro (fun h79 => ?_) (fun h79 => ?_)
      · subst h1
        exact ⟨by rw [bo, if_neg (show ¬ (9 : Int32) = 4 by decide), if_neg (show ¬ (9 : Int32) = 5 by decide), if_neg (show ¬ (9 : Int32) = 6 by decide), if_neg (show ¬ (9 : Int32) = 7 by decide), if_neg (show ¬ (9 : Int32) = 8 by decide), if_pos rfl, if_neg h75, if_pos h79], rfl, rfl, rfl⟩
      · subst h1
        exact ⟨by rw [bo, if_neg (show ¬ (9 : Int32) = 4 by decide), if_neg (show ¬ (9 : Int32) = 5 by decide), if_neg (show ¬ (9 : Int32) = 6 by decide), if_neg (show ¬ (9 : Int32) = 7 by decide), if_neg (show ¬ (9 : Int32) = 8 by decide), if_pos rfl, if_neg h75, if_neg h79], rfl, rfl, rfl⟩

theorem l_rworthAt (hW : fc_Wd mr) {code : Nat → Int32} {len : Nat} {ck pr cr jd : Int32} (hx : lwx mi code len) (f0 : mi 266 0 = ck) (f1 : mi 266 1 = pr) (f2 : mi 266 2 = cr) (f3 : mi 266 3 = jd) : ∀ (j i : Nat) (c tp : Int32) (x4 : Option Value) (r : Nat → Int32), i + j = len → c = nI i → tp = nI (sp_lw code ck pr cr jd (fun _ => 0) i).1 → (∀ k, k < (sp_lw code ck pr cr jd (fun _ => 0) i).1 → r k = (sp_lw code ck pr cr jd (fun _ => 0) i).2 k) → fc_T E mX11_worthAt (d + 1) (0, 0) fc_sh 4 [some (.ref 252), some (.int 0), some (.int tp), some (.int c), x4] [] (fc_ur mi 267 r) ml mr (fc_isS 267 (some (.int (sp_val (sp_lw code ck pr cr jd (fun _ => 0) len)))) mi ml mr) := by
  intro j
  induction j with
  | zero =>
    intro i c tp x4 r hi hc ht hr
    subst hc
    obtain ⟨hx1, hx2, hx3, hx4, hx5⟩ := id hx
    refine fc_run oX11_worthAt (fun pc => pc == 4) 400 ?_
    refine And.intro rfl (Exists.intro _ (And.intro (hW 252 11 259 rfl) ?_))
    refine Exists.intro _ (Exists.intro _ (And.intro rfl (And.intro (fc_ixn rfl (by omega) (by decide)) ?_)))
    refine And.intro (fun h10 => ?_) (fun h10 => ?_)
    · refine And.intro rfl (Exists.intro _ (And.intro (hW 252 23 267 rfl) ?_))
      refine Exists.intro _ (Exists.intro _ (And.intro rfl (And.intro (fc_ixn (fc_nl 0) (by omega) (by decide)) ?_)))
      refine ⟨r, ?_, rfl, rfl, rfl⟩
      rw [show i = len by omega] at hr
      have hT1 := lw_hg (v0 := fun _ => 0) (ck := ck) (pr := pr) (cr := cr) (jd := jd) (show sp_hg code len ≠ 99 by rw [hx3]; decide)
      rw [hx3] at hT1
      have := hr 0 (by omega)
      rw [sp_val, hT1, if_neg (by decide)]
      exact congrArg (fun q => some (Value.int q)) this.symm
    · exact absurd (by rw [show i = len by omega]; exact hx5) h10
  | succ j ih =>
    intro i c tp x4 r hi hc ht hr
    subst hc
    obtain ⟨hx1, hx2, hx3, hx4, hx5⟩ := id hx
    have hl := hx4 i (by omega)
    have h99 : sp_hg code (i + 1) ≠ 99 := sp_hg_back (show i + 1 ≤ len by omega) (by rw [hx3]; decide)
    have hle := sp_lw_le (code := code) (ck := ck) (pr := pr) (cr := cr) (jd := jd) (v0 := fun _ => 0) i
    refine fc_run oX11_worthAt (fun pc => pc == 4) 400 ?_
    refine And.intro rfl (Exists.intro _ (And.intro (hW 252 11 259 rfl) ?_))
    refine Exists.intro _ (Exists.intro _ (And.intro rfl (And.intro (fc_ixn rfl (by omega) (by decide)) ?_)))
    refine And.intro (fun h10 => ?_) (fun h10 => ?_)
    · exact absurd h10 (lwr_0 hl)
    · refine And.intro rfl (Exists.intro _ (And.intro (hW 252 11 259 rfl) ?_))
      refine Exists.intro _ (Exists.intro _ (And.intro rfl (And.intro (fc_ixn rfl (by omega) (by decide)) ?_)))
      refine And.intro (fun h24 => ?_) (fun h24 => ?_)
      · have hz := lwr_1 hl h24
        obtain ⟨s1, s2⟩ := lw_push (v0 := fun _ => 0) (ck := ck) (pr := pr) (cr := cr) (jd := jd) h99 (fun e => hz.2 (by rw [← hz.1, e]; decide)) (fun e => hz.2 (by rw [← hz.1]; exact e.1))
        refine And.intro rfl (Exists.intro _ (And.intro (hW 252 23 267 rfl) ?_))
        refine And.intro (fun h41 => ?_) (fun h41 => ?_)
        · refine And.intro rfl (Exists.intro _ (And.intro (hW 252 12 260 rfl) ?_))
          refine Exists.intro _ (Exists.intro _ (And.intro rfl (And.intro (fc_ixn rfl (by omega) (by decide)) ?_)))
          refine Exists.intro _ (Exists.intro _ (And.intro rfl (And.intro (fc_ixn ht (by omega) (by decide)) ?_)))
          subst ht
          rw [fc_u_ur]
          have hv : mi 260 i = sp_op (code i) ck pr cr jd := by rw [sp_op_n (by rw [hz.1]; exact hz.2), hz.1]
          refine ih (i + 1) _ _ _ _ (by omega) (fc_inc i) (by rw [s2]; exact fc_inc _) ?_
          intro k hk
          rw [s2] at hk ⊢
          show (if k = (sp_lw code ck pr cr jd (fun _ => 0) i).1 then _ else r k) = (if k = (sp_lw code ck pr cr jd (fun _ => 0) i).1 then _ else (sp_lw code ck pr cr jd (fun _ => 0) i).2 k)
          by_cases e : k = (sp_lw code ck pr cr jd (fun _ => 0) i).1
          · rw [if_pos e, if_pos e]; exact hv
          · rw [if_neg e, if_neg e]; exact hr k (by have : k < (sp_lw code ck pr cr jd (fun _ => 0) i).1 + 1 := hk; omega)
        · exact absurd h24 h41
      · refine And.intro (fun h30 => ?_) (fun h30 => ?_)
        · obtain ⟨kk, hkk, ek, ez⟩ := lwr_2 hl h30
          have hzz : ¬ code i = -146 ∧ ¬ (code i < 0 ∧ -256 < code i) := by
            rw [ez]
            rcases (by omega : kk = 0 ∨ kk = 1 ∨ kk = 2 ∨ kk = 3) with rfl | rfl | rfl | rfl <;> decide
          obtain ⟨s1, s2⟩ := lw_push (v0 := fun _ => 0) (ck := ck) (pr := pr) (cr := cr) (jd := jd) h99 hzz.1 hzz.2
          refine And.intro rfl (Exists.intro _ (And.intro (hW 252 23 267 rfl) ?_))
          refine And.intro (fun h41 => ?_) (fun h41 => ?_)
          · exact absurd h41 h24
          · refine And.intro rfl (Exists.intro _ (And.intro (hW 252 22 266 rfl) ?_))
            refine And.intro rfl (Exists.intro _ (And.intro (hW 252 12 260 rfl) ?_))
            refine Exists.intro _ (Exists.intro _ (And.intro rfl (And.intro (fc_ixn rfl (by omega) (by decide)) ?_)))
            refine Exists.intro _ (Exists.intro _ (And.intro rfl (And.intro (fc_ixn ek (by omega) (by decide)) ?_)))
            refine Exists.intro _ (Exists.intro _ (And.intro rfl (And.intro (fc_ixn ht (by omega) (by decide)) ?_)))
            subst ht
            rw [fc_u_ur]
            have hv : mi 266 kk = sp_op (code i) ck pr cr jd := by
              rw [ez]
              rcases (by omega : kk = 0 ∨ kk = 1 ∨ kk = 2 ∨ kk = 3) with rfl | rfl | rfl | rfl
              · rw [f0]; rfl
              · rw [f1]; rfl
              · rw [f2]; rfl
              · rw [f3]; rfl
            refine ih (i + 1) _ _ _ _ (by omega) (fc_inc i) (by rw [s2]; exact fc_inc _) ?_
            intro k hk
            rw [s2] at hk ⊢
            show (if k = (sp_lw code ck pr cr jd (fun _ => 0) i).1 then _ else r k) = (if k = (sp_lw code ck pr cr jd (fun _ => 0) i).1 then _ else (sp_lw code ck pr cr jd (fun _ => 0) i).2 k)
            by_cases e : k = (sp_lw code ck pr cr jd (fun _ => 0) i).1
            · rw [if_pos e, if_pos e]; exact hv
            · rw [if_neg e, if_neg e]; exact hr k (by have : k < (sp_lw code ck pr cr jd (fun _ => 0) i).1 + 1 := hk; omega)
        · refine And.intro (fun h74 => ?_) (fun h74 => ?_)
          · have hz := lwr_3 hl h74
            obtain ⟨s1, s2⟩ := lw_not (v0 := fun _ => 0) (ck := ck) (pr := pr) (cr := cr) (jd := jd) h99 hz
            refine And.intro rfl (Exists.intro _ (And.intro (hW 252 23 267 rfl) ?_))
            refine And.intro rfl (Exists.intro _ (And.intro (hW 252 23 267 rfl) ?_))
            refine Exists.intro _ (Exists.intro _ (And.intro rfl (And.intro (fc_ixn (by rw [ht]; exact fc_pm s1) (by omega) (by decide)) ?_)))
            refine And.intro (fun h92 => ?_) (fun h92 => ?_)
            · refine Exists.intro _ (Exists.intro _ (And.intro rfl (And.intro (fc_ixn (by rw [ht]; exact fc_pm s1) (by omega) (by decide)) ?_)))
              subst ht
              rw [fc_u_ur]
              refine ih (i + 1) _ _ _ _ (by omega) (fc_inc i) (by rw [s2]) ?_
              intro k hk
              rw [s2] at hk ⊢
              show (if k = (sp_lw code ck pr cr jd (fun _ => 0) i).1 - 1 then _ else r k) = (if k = (sp_lw code ck pr cr jd (fun _ => 0) i).1 - 1 then _ else (sp_lw code ck pr cr jd (fun _ => 0) i).2 k)
              by_cases e : k = (sp_lw code ck pr cr jd (fun _ => 0) i).1 - 1
              · rw [if_pos e, if_pos e]
                have h92' : (sp_lw code ck pr cr jd (fun _ => 0) i).2 ((sp_lw code ck pr cr jd (fun _ => 0) i).1 - 1) = 0 := by rw [← hr _ (by omega)]; exact h92
                rw [if_pos h92']
              · rw [if_neg e, if_neg e]; exact hr k hk
            · refine Exists.intro _ (Exists.intro _ (And.intro rfl (And.intro (fc_ixn (by rw [ht]; exact fc_pm s1) (by omega) (by decide)) ?_)))
              subst ht
              rw [fc_u_ur]
              refine ih (i + 1) _ _ _ _ (by omega) (fc_inc i) (by rw [s2]) ?_
              intro k hk
              rw [s2] at hk ⊢
              show (if k = (sp_lw code ck pr cr jd (fun _ => 0) i).1 - 1 then _ else r k) = (if k = (sp_lw code ck pr cr jd (fun _ => 0) i).1 - 1 then _ else (sp_lw code ck pr cr jd (fun _ => 0) i).2 k)
              by_cases e : k = (sp_lw code ck pr cr jd (fun _ => 0) i).1 - 1
              · rw [if_pos e, if_pos e]
                have h92' : ¬ (sp_lw code ck pr cr jd (fun _ => 0) i).2 ((sp_lw code ck pr cr jd (fun _ => 0) i).1 - 1) = 0 := by rw [← hr _ (by omega)]; exact h92
                rw [if_neg h92']
              · rw [if_neg e, if_neg e]; exact hr k hk
          · have hz := lwr_4 hl h24 h30 h74
            obtain ⟨s1, s2⟩ := lw_join (v0 := fun _ => 0) (ck := ck) (pr := pr) (cr := cr) (jd := jd) h99 hz.1.1 hz.1.2
            refine And.intro rfl (Exists.intro _ (And.intro (hW 252 23 267 rfl) ?_))
            refine And.intro rfl (Exists.intro _ (And.intro (hW 252 23 267 rfl) ?_))
            refine Exists.intro _ (Exists.intro _ (And.intro rfl (And.intro (fc_ixn (by rw [ht]; exact fc_m1b s1) (by omega) (by decide)) ?_)))
            refine And.intro rfl (Exists.intro _ (And.intro (hW 252 23 267 rfl) ?_))
            refine Exists.intro _ (Exists.intro _ (And.intro rfl (And.intro (fc_ixn (by rw [ht]; exact fc_m1 (by omega)) (by omega) (by decide)) ?_)))
            refine Exists.intro _ (And.intro (c_rboth _ _ _) ?_)
            rintro _ _ _ _ ⟨rfl, rfl, rfl, rfl⟩
            refine Exists.intro _ (Exists.intro _ (And.intro rfl (And.intro (fc_ixn (by rw [ht]; exact fc_m1b s1) (by omega) (by decide)) ?_)))
            subst ht
            rw [fc_u_ur]
            refine ih (i + 1) _ _ _ _ (by omega) (fc_inc i) (by rw [s2]; exact fc_m1 (by omega)) ?_
            intro k hk
            rw [s2] at hk ⊢
            have hk' : k < (sp_lw code ck pr cr jd (fun _ => 0) i).1 - 1 := hk
            show (if k = (sp_lw code ck pr cr jd (fun _ => 0) i).1 - 2 then _ else r k) = (if k = (sp_lw code ck pr cr jd (fun _ => 0) i).1 - 2 then _ else (sp_lw code ck pr cr jd (fun _ => 0) i).2 k)
            by_cases e : k = (sp_lw code ck pr cr jd (fun _ => 0) i).1 - 2
            · rw [if_pos e, if_pos e]
              rw [← hr _ (show (sp_lw code ck pr cr jd (fun _ => 0) i).1 - 2 < _ by omega), ← hr _ (show (sp_lw code ck pr cr jd (fun _ => 0) i).1 - 1 < _ by omega)]
              exact hz.2 _ _
            · rw [if_neg e, if_neg e]; exact hr k (by omega)

theorem c_rworthAt (hW : fc_Wd mr) {code : Nat → Int32} {len : Nat} {ck pr cr jd : Int32} (hx : lwx mi code len) (f0 : mi 266 0 = ck) (f1 : mi 266 1 = pr) (f2 : mi 266 2 = cr) (f3 : mi 266 3 = jd) : fc_R E mX11_worthAt (d + 1) fc_sh [.ref 252, .int 0] mi ml mr (fc_isS 267 (some (.int (sp_val (sp_lw code ck pr cr jd (fun _ => 0) len)))) mi ml mr) := by
  refine fc_met rfl (Nat.le_of_ble_eq_true rfl) (fc_run oX11_worthAt (fun pc => pc == 4) 400 ?_)
  have h := l_rworthAt (E := E) (d := d) (ml := ml) hW hx f0 f1 f2 f3 len 0 _ 0 none (mi 267) (by omega) rfl rfl (fun k hk => absurd hk (Nat.not_lt_zero k))
  rw [fc_ur_self] at h
  exact h

/-- what the reference's law says -/
def rlw (mi : fc_Mi) (ev : fc_Ev) : Prop := (mi 258 5 = -1 ∧ ∀ a b c e, ev a b c e = false) ∨ (mi 258 5 = 0 ∧ ∃ code len, lwx mi code len ∧ ∀ a b c e, ev a b c e = sp_bi (sp_lw code a b c e (fun _ => 0) len))
theorem rlw.off {mm : fc_Mi} {ev : fc_Ev} (h : rlw mi ev) (h1 : mm 258 = mi 258) (h2 : mm 259 = mi 259) (h3 : mm 260 = mi 260) : rlw mm ev := by unfold rlw lwx at *; rw [h1, h2, h3]; exact h
/-- an answer; rows that questions use have changed -/
def rqw (v0 : Int32) (mi : fc_Mi) (ml : fc_Ml) (mr : fc_Mr) : fc_Q := fun v mi' ml' mr' => v = some (.int v0) ∧ (∀ x, x ≠ 266 → x ≠ 267 → mi' x = mi x) ∧ ml = ml' ∧ mr = mr'
theorem c_rdoesBind (hW : fc_Wd mr) (hA : ra mi B n m t sm L σ) {ev : fc_Ev} (hE : rlw mi ev) {y : Int32} (hy : y = nI B) {x z : Int32} {p o : Nat} (hx : x = nI p) (hz : z = nI o) (hp : p < n) (ho : o < n) (pr ck : Int32) : fc_R E mX11_doesBind (d + 2) fc_sh [.ref 252, .int y, .int x, .int z, .int pr, .int ck] mi ml mr (rqw (fc_b (as_bd L σ n ev pr ck p o)) mi ml mr) := by
  obtain ⟨⟨e0, e2, e3, e4⟩, hB, hLo, hSo, hLg, hSg⟩ := id hA
  obtain ⟨h5, h7, h6, hs1, hs2, hLp, hLt⟩ := id hLo
  have hcdl : lo7 (sp_cd n (σ 1) (L 7) ck p o) := lo7_and (lo7_and (lo7_and (lo7_set (by omega))))
  refine fc_met rfl (Nat.le_of_ble_eq_true rfl) (fc_run oX11_doesBind (fun _ => false) 400 ?_)
  refine And.intro rfl (Exists.intro _ (And.intro (hW 252 24 268 rfl) ?_))
  refine Exists.intro _ (Exists.intro _ (And.intro rfl (And.intro (fc_ixn (fc_na (fc_na hy (fc_nl 2)) hx) (by omega) (by decide)) ?_)))
  rw [ra_w hA hp]
  refine And.intro rfl (Exists.intro _ (And.intro (c_rwhoIn hW hA hy _) ?_))
  rintro _ _ _ _ ⟨rfl, rfl, rfl, rfl⟩
  refine And.intro rfl (Exists.intro _ (And.intro (c_rawakeAt hW hA _) ?_))
  rintro _ _ _ _ ⟨rfl, rfl, rfl, rfl⟩
  refine And.intro rfl (Exists.intro _ (And.intro (hW 252 22 266 rfl) ?_))
  refine Exists.intro _ (Exists.intro _ (And.intro rfl (And.intro (fc_ixn (fc_nl 0) (by omega) (by decide)) ?_)))
  refine And.intro rfl (Exists.intro _ (And.intro (hW 252 22 266 rfl) ?_))
  refine Exists.intro _ (Exists.intro _ (And.intro rfl (And.intro (fc_ixn (fc_nl 1) (by omega) (by decide)) ?_)))
  refine And.intro rfl (Exists.intro _ (And.intro (hW 252 22 266 rfl) ?_))
  refine Exists.intro _ (And.intro (c_rbits (by subst hx hz; exact hcdl)) ?_)
  rintro _ _ _ _ ⟨rfl, rfl, rfl, rfl⟩
  refine Exists.intro _ (Exists.intro _ (And.intro rfl (And.intro (fc_ixn (fc_nl 2) (by omega) (by decide)) ?_)))
  refine And.intro rfl (Exists.intro _ (And.intro (hW 252 22 266 rfl) ?_))
  refine And.intro rfl (Exists.intro _ (And.intro (c_rbenches hW (hA.off (by rfl) (by rfl))) ?_))
  rintro _ _ _ _ ⟨rfl, rfl, rfl, rfl⟩
  refine Exists.intro _ (And.intro (c_rbits (by subst hx hz; exact lo7_and hcdl)) ?_)
  rintro _ _ _ _ ⟨rfl, rfl, rfl, rfl⟩
  refine Exists.intro _ (Exists.intro _ (And.intro rfl (And.intro (fc_ixn (fc_nl 3) (by omega) (by decide)) ?_)))
  refine And.intro rfl (Exists.intro _ (And.intro (hW 252 10 258 rfl) ?_))
  refine Exists.intro _ (Exists.intro _ (And.intro rfl (And.intro (fc_ixn (fc_nl 5) (by omega) (by decide)) ?_)))
  refine And.intro (fun h85 => ?_) (fun h85 => ?_)
  · refine And.intro (by first | exact Or.inl rfl | exact Or.inr rfl | exact fc_bb _ | assumption) ?_
    refine ⟨?_, fun w q1 q2 => ?_, rfl, rfl⟩
    · rcases hE with ⟨q1, q2⟩ | ⟨q1, -⟩
      · rw [as_bd, q2]; rfl
      · exact absurd (show mi 258 5 < 0 from h85) (by rw [q1]; decide)
    · repeat (first | rw [fc_u_off _ _ _ (by first | exact q1 | exact q2)] | rw [fc_ur_off _ _ (by exact q2)])
  · obtain ⟨q5, code, len, hlx, he⟩ : mi 258 5 = 0 ∧ ∃ code len, lwx mi code len ∧ ∀ a b c e, ev a b c e = sp_bi (sp_lw code a b c e (fun _ => 0) len) := by
      rcases hE with ⟨q1, q2⟩ | q
      · exact absurd (show mi 258 5 < 0 by rw [q1]; decide) h85
      · exact q
    subst hx hz
    rw [show sp_bc (((((sp_set (fun q => decide (σ 1 q = σ 1 p)) n &&& sp_set (sp_aw (L 7) ck) n) &&& (((1 : Int32) <<< (nI p &&& 31)) ^^^ (-1))) &&& (((1 : Int32) <<< (nI o &&& 31)) ^^^ (-1)))) &&& sp_set (fun p => decide (L 5 p = 1)) n) = sp_num (fun q => sp_in (sp_cd n (σ 1) (L 7) ck p o) (nI q) && decide (L 5 q = 1)) n from bc_and (by omega)]
    have hcall := fun (mm : fc_Mi) (h1 : mm 259 = mi 259) (h2 : mm 260 = mi 260) (f0 : mm 266 0 = ck) (f1 : mm 266 1 = pr) (f2 : mm 266 2 = sp_bc (sp_cd n (σ 1) (L 7) ck p o)) (f3 : mm 266 3 = sp_num (fun q => sp_in (sp_cd n (σ 1) (L 7) ck p o) (nI q) && decide (L 5 q = 1)) n) => c_rworthAt (E := E) (d := d) (ml := ml) (mi := mm) hW (show lwx mm code len by unfold lwx at *; rw [h1, h2]; exact hlx) f0 f1 f2 f3
    refine And.intro rfl (Exists.intro _ (And.intro (hW 252 10 258 rfl) ?_))
    refine Exists.intro _ (Exists.intro _ (And.intro rfl (And.intro (fc_ixn (fc_nl 5) (by omega) (by decide)) ?_)))
    rw [show (fc_u (fc_u (fc_u (fc_u mi 266 0 ck) 266 1 pr) 266 2 _) 266 3 _) 258 5 = 0 from q5]
    refine And.intro rfl (Exists.intro _ (And.intro (hcall _ rfl rfl rfl rfl rfl rfl) ?_))
    rintro _ _ _ _ ⟨r9, rfl, rfl, rfl, rfl⟩
    refine And.intro (fun h98 => ?_) (fun h98 => ?_)
    · refine And.intro (by first | exact Or.inl rfl | exact Or.inr rfl | exact fc_bb _ | assumption) ?_
      refine ⟨?_, fun w q1 q2 => ?_, rfl, rfl⟩
      · rw [as_bd, he, sp_bi, nd_f h98]; rfl
      · repeat (first | rw [fc_u_off _ _ _ (by first | exact q1 | exact q2)] | rw [fc_ur_off _ _ (by exact q2)])
    · refine And.intro (by first | exact Or.inl rfl | exact Or.inr rfl | exact fc_bb _ | assumption) ?_
      refine ⟨?_, fun w q1 q2 => ?_, rfl, rfl⟩
      · rw [as_bd, he, sp_bi, nd_t h98]; rfl
      · repeat (first | rw [fc_u_off _ _ _ (by first | exact q1 | exact q2)] | rw [fc_ur_off _ _ (by exact q2)])

end M53
