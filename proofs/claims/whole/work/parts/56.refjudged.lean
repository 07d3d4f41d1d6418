/-! ===== the reference: news, judged, mornings by draws ===== -/
section M56
variable {E : fc_E} {d : Nat} {mi : fc_Mi} {ml : fc_Ml} {mr : fc_Mr} {B n m t sm g : Nat} {L σ : fc_Mi}
theorem rlw.rf {mm : fc_Mi} {ev : fc_Ev} (h : rlw mi ev) (g : rf B mi mm) : rlw mm ev := h.off (g.1 258 (by decide) (by decide) (by decide) (by decide)) (g.1 259 (by decide) (by decide) (by decide) (by decide)) (g.1 260 (by decide) (by decide) (by decide) (by decide))
/-- an answer, the trial's entries used -/
def rqv (B : Nat) (x : Int32) (mi : fc_Mi) (ml : fc_Ml) (mr : fc_Mr) : fc_Q := fun v mi' ml' mr' => v = some (.int x) ∧ rf B mi mi' ∧ ml = ml' ∧ mr = mr'
theorem cpr_ag {r : Nat → Int32} {a : Nat} (hn : n ≤ 5) (ht : t ≤ 6) (h : as_ag n t σ (rv r a)) : as_ag n t σ (rv (cpr r a B 39) B) := by
  have e : ∀ j, j < 39 → cpr r a B 39 (B + j) = r (a + j) := fun j hj => by rw [cpr, if_pos (by omega)]; exact congrArg r (by omega)
  refine ⟨⟨?_, ?_⟩, fun p hp => ⟨?_, ?_, ?_, ?_, ?_⟩, fun q hq => ⟨?_, ?_⟩⟩
  · exact h.1.1.trans (e 0 (by omega)).symm
  · exact h.1.2.trans (e 1 (by omega)).symm
  · exact (h.2.1 p hp).1.trans (by show r (a + 2 + p) = cpr r a B 39 (B + 2 + p); rw [Nat.add_assoc, Nat.add_assoc]; exact (e _ (by omega)).symm)
  · exact (h.2.1 p hp).2.1.trans (by show r (a + 7 + p) = cpr r a B 39 (B + 7 + p); rw [Nat.add_assoc, Nat.add_assoc]; exact (e _ (by omega)).symm)
  · exact (h.2.1 p hp).2.2.1.trans (by show r (a + 34 + p) = cpr r a B 39 (B + 34 + p); rw [Nat.add_assoc, Nat.add_assoc]; exact (e _ (by omega)).symm)
  · exact (h.2.1 p hp).2.2.2.1.trans (by show r (a + 24 + p) = cpr r a B 39 (B + 24 + p); rw [Nat.add_assoc, Nat.add_assoc]; exact (e _ (by omega)).symm)
  · exact (h.2.1 p hp).2.2.2.2.trans (by show r (a + 29 + p) = cpr r a B 39 (B + 29 + p); rw [Nat.add_assoc, Nat.add_assoc]; exact (e _ (by omega)).symm)
  · exact (h.2.2 q hq).1.trans (by show r (a + 12 + q) = cpr r a B 39 (B + 12 + q); rw [Nat.add_assoc, Nat.add_assoc]; exact (e _ (by omega)).symm)
  · exact (h.2.2 q hq).2.trans (by show r (a + 18 + q) = cpr r a B 39 (B + 18 + q); rw [Nat.add_assoc, Nat.add_assoc]; exact (e _ (by omega)).symm)
theorem cpr_rf {a : Nat} : rf B mi (fc_ur mi 268 (cpr (mi 268) a B 39)) := rf_row (fun j q => by rw [cpr, if_neg (by omega)])
theorem c_rtriesNow (hW : fc_Wd mr) : fc_R E mX11_triesNow (d + 1) fc_sh [.ref 252] mi ml mr (fc_is none (fc_ur mi 268 (cpr (mi 268) 0 1344 39)) ml mr) := by
  refine fc_met rfl (Nat.le_of_ble_eq_true rfl) (fc_run oX11_triesNow (fun _ => false) 400 ?_)
  refine And.intro rfl (Exists.intro _ (And.intro (c_rcopies hW (fc_nl 0) (fc_nl 1344) (fc_nl 39) (by omega) (by omega) (by omega)) ?_))
  rintro _ _ _ _ ⟨rfl, rfl, rfl, rfl⟩
  exact ⟨rfl, rfl, rfl, rfl⟩

theorem l_rnews (hW : fc_Wd mr) (hZ : rz mi n m t sm L) : ∀ (j i : Nat) (c : Int32) (mm : fc_Mi) (τ : fc_Mi), i + j = 100 → c = nI i → rf 1344 mi mm → as_ok n m t sm τ → as_ag n t τ (rv (mm 268) 1344) → fc_T E mX11_news (d + 3) (0, 0) fc_sh 11 [some (.ref 252), some (.int c)] [] mm ml mr (rqv 1344 (as_nws L n m (nI sm) j i τ) mi ml mr) := by
  intro j
  induction j with
  | zero =>
    intro i c mm τ hi hc hf hok hg
    subst hc
    have hZm := hZ.rf hf
    have hA : ra mm 1344 n m t sm L τ := hZm.ra (by omega) hok hg
    obtain ⟨⟨e0, e2, e3, e4⟩, hLo, hLg⟩ := id hZm
    obtain ⟨h5, h7, h6, hs1, hs2, hLp, hLt⟩ := id hLo
    refine fc_run oX11_news (fun pc => pc == 11) 400 ?_
    refine And.intro (fun h14 => ?_) (fun h14 => ?_)
    · exact ⟨rfl, hf, rfl, rfl⟩
    · exact absurd (nI_lt (a := 99) (b := i) (by omega) (by omega)) h14
  | succ j ih =>
    intro i c mm τ hi hc hf hok hg
    subst hc
    have hZm := hZ.rf hf
    have hA : ra mm 1344 n m t sm L τ := hZm.ra (by omega) hok hg
    obtain ⟨⟨e0, e2, e3, e4⟩, hLo, hLg⟩ := id hZm
    obtain ⟨h5, h7, h6, hs1, hs2, hLp, hLt⟩ := id hLo
    refine fc_run oX11_news (fun pc => pc == 11) 400 ?_
    refine And.intro (fun h14 => ?_) (fun h14 => ?_)
    · exact absurd h14 (nI_nlt (b := i) (a := 99) (by omega) (by omega))
    · refine And.intro rfl (Exists.intro _ (And.intro (c_rheardAll hW hA (fc_nl 1344)) ?_))
      rintro _ _ _ _ ⟨rfl, rfl, rfl, rfl⟩
      refine And.intro rfl (Exists.intro _ (And.intro (c_rpersons hW hA) ?_))
      rintro _ _ _ _ ⟨rfl, rfl, rfl, rfl⟩
      refine And.intro rfl (Exists.intro _ (And.intro (c_rpersons hW hA) ?_))
      rintro _ _ _ _ ⟨rfl, rfl, rfl, rfl⟩
      refine And.intro (fun h33 => ?_) (fun h33 => ?_)
      · exact ⟨by rw [as_nws, if_pos h33], hf, rfl, rfl⟩
      · refine And.intro rfl (Exists.intro _ (And.intro (c_rpasses hW hA (fc_nl 1344)) ?_))
        rintro _ m1 _ _ ⟨rfl, g1, g2, rfl, rfl⟩
        rw [as_nws, if_neg h33]
        exact ih (i + 1) _ _ _ (by omega) (fc_inc i) (hf.tr g2) (as_pass_ok hLo hok) g1

theorem c_rnews (hW : fc_Wd mr) (hA : ra mi 0 n m t sm L σ) : fc_R E mX11_news (d + 3) fc_sh [.ref 252] mi ml mr (rqv 1344 (as_nws L n m (nI sm) 100 0 σ) (fc_u mi 252 0 0) ml mr) := by
  replace hA : ra (fc_u mi 252 0 0) 0 n m t sm L σ := hA.off rfl rfl
  obtain ⟨⟨e0, e2, e3, e4⟩, hB, hLo, hSo, hLg, hSg⟩ := id hA
  obtain ⟨h5, h7, h6, hs1, hs2, hLp, hLt⟩ := id hLo
  refine fc_met rfl (Nat.le_of_ble_eq_true rfl) (fc_run oX11_news (fun pc => pc == 11) 400 ?_)
  refine And.intro rfl ?_
  refine And.intro rfl (Exists.intro _ (And.intro (c_rtriesNow hW) ?_))
  rintro _ _ _ _ ⟨rfl, rfl, rfl, rfl⟩
  refine fc_conT (l_rnews hW (hA.z.rf cpr_rf) 100 0 _ _ σ (by omega) rfl rf.rf' hSo (cpr_ag h5 h6 hSg)) ?_
  rintro v a1 a2 a3 ⟨q1, q2, rfl, rfl⟩
  exact ⟨q1, cpr_rf.tr q2, rfl, rfl⟩

/-- a line of a morning, in both -/
def lnr (n m t : Nat) (dd x z a1 a2 a3 : Int32) : Prop := (dd = 138 ∧ a1 = 0) ∨ ((dd = 139 ∧ a1 = 1) ∧ (∃ p, p < n ∧ x = nI p) ∧ (∃ q, q < m ∧ z = nI q) ∧ a2 = x ∧ a3 = z) ∨ ((dd = 140 ∧ a1 = 2) ∧ (∃ p, p < t ∧ x = nI p) ∧ (∃ q, q < n ∧ z = nI q) ∧ a2 = x ∧ a3 = z) ∨ ((dd = 141 ∧ a1 = 3) ∧ (∃ p, p < n ∧ x = nI p) ∧ (∃ q, q < n ∧ z = nI q) ∧ a2 = x ∧ a3 = z)
def lns (mi : fc_Mi) (n m t k : Nat) (dd xs zs : Nat → Int32) : Prop := mi 265 0 = nI k ∧ k ≤ 40 ∧ ∀ i, i < k → lnr n m t (dd i) (xs i) (zs i) (mi 265 (1 + 3 * i)) (mi 265 (2 + 3 * i)) (mi 265 (3 + 3 * i))
theorem lnr_0 {dd x z a1 a2 a3 : Int32} (h : lnr n m t dd x z a1 a2 a3) (h0 : a1 = 0) : dd = 138 := by
  rcases h with h | ⟨⟨-, h⟩, -⟩ | ⟨⟨-, h⟩, -⟩ | ⟨⟨-, h⟩, -⟩
  · exact h.1
  all_goals exact absurd (h0.symm.trans h) (by decide)
theorem lnr_1 {dd x z a1 a2 a3 : Int32} (h : lnr n m t dd x z a1 a2 a3) (h0 : a1 = 1) : dd = 139 ∧ (∃ p, p < n ∧ x = nI p) ∧ (∃ q, q < m ∧ z = nI q) ∧ a2 = x ∧ a3 = z := by
  rcases h with ⟨-, h⟩ | ⟨⟨h1, -⟩, h⟩ | ⟨⟨-, h⟩, -⟩ | ⟨⟨-, h⟩, -⟩
  · exact absurd (h0.symm.trans h) (by decide)
  · exact ⟨h1, h⟩
  all_goals exact absurd (h0.symm.trans h) (by decide)
theorem lnr_2 {dd x z a1 a2 a3 : Int32} (h : lnr n m t dd x z a1 a2 a3) (h0 : a1 = 2) : dd = 140 ∧ (∃ p, p < t ∧ x = nI p) ∧ (∃ q, q < n ∧ z = nI q) ∧ a2 = x ∧ a3 = z := by
  rcases h with ⟨-, h⟩ | ⟨⟨-, h⟩, -⟩ | ⟨⟨h1, -⟩, h⟩ | ⟨⟨-, h⟩, -⟩
  · exact absurd (h0.symm.trans h) (by decide)
  · exact absurd (h0.symm.trans h) (by decide)
  · exact ⟨h1, h⟩
  · exact absurd (h0.symm.trans h) (by decide)
theorem lnr_3 {dd x z a1 a2 a3 : Int32} (h : lnr n m t dd x z a1 a2 a3) (h0 : ¬ a1 = 0) (h1 : ¬ a1 = 1) (h2 : ¬ a1 = 2) : dd = 141 ∧ (∃ p, p < n ∧ x = nI p) ∧ (∃ q, q < n ∧ z = nI q) ∧ a2 = x ∧ a3 = z := by
  rcases h with ⟨-, h⟩ | ⟨⟨-, h⟩, -⟩ | ⟨⟨-, h⟩, -⟩ | ⟨⟨h1, -⟩, h⟩
  · exact absurd h h0
  · exact absurd h h1
  · exact absurd h h2
  · exact ⟨h1, h⟩
theorem as_run_s {s : Int32} {ev : fc_Ev} {dd xs zs : Nat → Int32} {i : Nat} {τ : fc_Mi} {c : Int32} (h : as_play L (as_run L σ n m t s ev dd xs zs i).1 n m t s ev (dd i) (xs i) (zs i) = (τ, c)) : as_run L σ n m t s ev dd xs zs (i + 1) = (τ, if c = -1 ∧ (as_run L σ n m t s ev dd xs zs i).2.1 = -1 then nI i else (as_run L σ n m t s ev dd xs zs i).2.1, if c = 1 ∧ (as_run L σ n m t s ev dd xs zs i).2.2 = -1 then nI i else (as_run L σ n m t s ev dd xs zs i).2.2) := by rw [as_run, h]
theorem as_run_r {s : Int32} {ev : fc_Ev} {dd xs zs : Nat → Int32} : ∀ i, ((as_run L σ n m t s ev dd xs zs i).2.1 = -1 ∨ ∃ j, j < i ∧ (as_run L σ n m t s ev dd xs zs i).2.1 = nI j) ∧ ((as_run L σ n m t s ev dd xs zs i).2.2 = -1 ∨ ∃ j, j < i ∧ (as_run L σ n m t s ev dd xs zs i).2.2 = nI j)
  | 0 => ⟨Or.inl rfl, Or.inl rfl⟩
  | i + 1 => by
    obtain ⟨h1, h2⟩ := as_run_r (s := s) (ev := ev) (dd := dd) (xs := xs) (zs := zs) i
    rw [as_run]
    simp only
    refine ⟨?_, ?_⟩
    · split
      · exact Or.inr ⟨i, by omega, rfl⟩
      · rcases h1 with h | ⟨j, g1, g2⟩
        · exact Or.inl h
        · exact Or.inr ⟨j, by omega, g2⟩
    · split
      · exact Or.inr ⟨i, by omega, rfl⟩
      · rcases h2 with h | ⟨j, g1, g2⟩
        · exact Or.inl h
        · exact Or.inr ⟨j, by omega, g2⟩
theorem neg1_of {x : Int32} {i : Nat} (hi : i ≤ 40) (h : x = -1 ∨ ∃ j, j < i ∧ x = nI j) : ¬ 0 ≤ x ↔ x = -1 := by
  rcases h with h | ⟨j, h1, h2⟩
  · subst h; decide
  · subst h2
    constructor
    · intro q; exact absurd (nI_pos' (by omega)) q
    · intro q
      have : ¬ nI j < 0 := nI_pos (by omega)
      rw [q] at this; exact absurd (by decide) this
theorem fc_b_m1 (b : Bool) : ¬ fc_b b = -1 := by cases b <;> decide
section J
variable {s : Int32} {ev : fc_Ev} {dd xs zs : Nat → Int32} {i : Nat} {τ : fc_Mi} {c : Int32}
theorem as_run_1 (h : as_play L (as_run L σ n m t s ev dd xs zs i).1 n m t s ev (dd i) (xs i) (zs i) = (τ, c)) : (as_run L σ n m t s ev dd xs zs (i + 1)).1 = τ := by rw [as_run_s h]
theorem as_run_2 (h : as_play L (as_run L σ n m t s ev dd xs zs i).1 n m t s ev (dd i) (xs i) (zs i) = (τ, c)) : (as_run L σ n m t s ev dd xs zs (i + 1)).2.1 = if c = -1 ∧ (as_run L σ n m t s ev dd xs zs i).2.1 = -1 then nI i else (as_run L σ n m t s ev dd xs zs i).2.1 := by rw [as_run_s h]
theorem as_run_3 (h : as_play L (as_run L σ n m t s ev dd xs zs i).1 n m t s ev (dd i) (xs i) (zs i) = (τ, c)) : (as_run L σ n m t s ev dd xs zs (i + 1)).2.2 = if c = 1 ∧ (as_run L σ n m t s ev dd xs zs i).2.2 = -1 then nI i else (as_run L σ n m t s ev dd xs zs i).2.2 := by rw [as_run_s h]
end J
theorem l_rjA0 (hW : fc_Wd mr) {τ : fc_Mi} (hA : ra mi 1344 n m t sm L τ) {w x2 x3 ci a1 x z : Int32} {x8 x9 : Option Value} {Q : fc_Q} (h1 : a1 = 0) (K : ∀ x2' : Int32, x2' = (if true then x2 else if 0 ≤ x2 then x2 else ci) → fc_T E mX11_judged (d + 5) (0, 0) fc_sh 169 [some (.ref 252), some (.int w), some (.int x2'), some (.int x3), some (.int ci), some (.int a1), some (.int x), some (.int z), some (.int (fc_b true)), x9] [] mi ml mr Q) : fc_T E mX11_judged (d + 5) (0, 0) fc_sh 81 [some (.ref 252), some (.int w), some (.int x2), some (.int x3), some (.int ci), some (.int a1), some (.int x), some (.int z), x8, x9] [] mi ml mr Q := by
  refine fc_run oX11_judged (fun pc => pc == 169) 400 ?_
  refine And.intro (fun h83 => ?_) (fun h83 => ?_)
  · refine And.intro (fun h155 => ?_) (fun h155 => ?_)
    · exact absurd h155 (by decide)
    · have hmv : true = true := rfl
      rw [hmv] at K
      exact K _ (by rw [if_pos rfl])
  · exact absurd h1 h83
theorem l_rjA1 (hW : fc_Wd mr) {τ : fc_Mi} (hA : ra mi 1344 n m t sm L τ) {w x2 x3 ci a1 x z : Int32} {x8 x9 : Option Value} {Q : fc_Q} (h1 : a1 = 1) {p : Nat} (ex : x = nI p) (hp : p < n) (K : ∀ x2' : Int32, x2' = (if (sp_rd (L 7) (τ 2) (τ 0 1) p && sp_in (L 4 (τ 1 p).toNatClampNeg) z) then x2 else if 0 ≤ x2 then x2 else ci) → fc_T E mX11_judged (d + 5) (0, 0) fc_sh 169 [some (.ref 252), some (.int w), some (.int x2'), some (.int x3), some (.int ci), some (.int a1), some (.int x), some (.int z), some (.int (fc_b (sp_rd (L 7) (τ 2) (τ 0 1) p && sp_in (L 4 (τ 1 p).toNatClampNeg) z))), x9] [] mi ml mr Q) : fc_T E mX11_judged (d + 5) (0, 0) fc_sh 81 [some (.ref 252), some (.int w), some (.int x2), some (.int x3), some (.int ci), some (.int a1), some (.int x), some (.int z), x8, x9] [] mi ml mr Q := by
  refine fc_run oX11_judged (fun pc => pc == 169) 400 ?_
  refine And.intro (fun h83 => ?_) (fun h83 => ?_)
  · rw [h1] at h83; exact absurd h83 (by decide)
  · refine And.intro (fun h89 => ?_) (fun h89 => ?_)
    · refine And.intro rfl (Exists.intro _ (And.intro (c_rmayWalk hW hA (fc_nl 1344) ex hp _) ?_))
      rintro _ _ _ _ ⟨rfl, rfl, rfl, rfl⟩
      refine And.intro (fun h103 => ?_) (fun h103 => ?_)
      · replace h103 := fc_b0.mp h103
        refine And.intro (fun h155 => ?_) (fun h155 => ?_)
        · refine And.intro (fun h159 => ?_) (fun h159 => ?_)
          · have hmv : (sp_rd (L 7) (τ 2) (τ 0 1) p && sp_in (L 4 (τ 1 p).toNatClampNeg) z) = false := h103
            rw [hmv] at K
            exact K _ (by rw [if_neg (by decide), if_pos h159])
          · have hmv : (sp_rd (L 7) (τ 2) (τ 0 1) p && sp_in (L 4 (τ 1 p).toNatClampNeg) z) = false := h103
            rw [hmv] at K
            exact K _ (by rw [if_neg (by decide), if_neg h159])
        · exact absurd rfl h155
      · replace h103 := fc_b1.mp h103
        refine And.intro (fun h155 => ?_) (fun h155 => ?_)
        · exact absurd h155 (by decide)
        · have hmv : (sp_rd (L 7) (τ 2) (τ 0 1) p && sp_in (L 4 (τ 1 p).toNatClampNeg) z) = true := h103
          rw [hmv] at K
          exact K _ (by rw [if_pos rfl])
    · exact absurd h1 h89
theorem l_rjA2 (hW : fc_Wd mr) {τ : fc_Mi} (hA : ra mi 1344 n m t sm L τ) {w x2 x3 ci a1 x z : Int32} {x8 x9 : Option Value} {Q : fc_Q} (h1 : a1 = 2) {p q : Nat} (ex : x = nI p) (ez : z = nI q) (hp : p < t) (hq : q < n) (K : ∀ x2' : Int32, x2' = (if (!decide (τ 6 p = z) && (sp_rd (L 7) (τ 2) (τ 0 1) (τ 6 p).toNatClampNeg && (sp_aw (L 7) (τ 0 1) q && decide (τ 1 (τ 6 p).toNatClampNeg = τ 1 q)))) then x2 else if 0 ≤ x2 then x2 else ci) → fc_T E mX11_judged (d + 5) (0, 0) fc_sh 169 [some (.ref 252), some (.int w), some (.int x2'), some (.int x3), some (.int ci), some (.int a1), some (.int x), some (.int z), some (.int (fc_b (!decide (τ 6 p = z) && (sp_rd (L 7) (τ 2) (τ 0 1) (τ 6 p).toNatClampNeg && (sp_aw (L 7) (τ 0 1) q && decide (τ 1 (τ 6 p).toNatClampNeg = τ 1 q)))))), x9] [] mi ml mr Q) : fc_T E mX11_judged (d + 5) (0, 0) fc_sh 81 [some (.ref 252), some (.int w), some (.int x2), some (.int x3), some (.int ci), some (.int a1), some (.int x), some (.int z), x8, x9] [] mi ml mr Q := by
  refine fc_run oX11_judged (fun pc => pc == 169) 400 ?_
  refine And.intro (fun h83 => ?_) (fun h83 => ?_)
  · rw [h1] at h83; exact absurd h83 (by decide)
  · refine And.intro (fun h89 => ?_) (fun h89 => ?_)
    · rw [h1] at h89; exact absurd h89 (by decide)
    · refine And.intro (fun h112 => ?_) (fun h112 => ?_)
      · refine And.intro rfl (Exists.intro _ (And.intro (c_rmayGive hW hA (fc_nl 1344) ex ez hp hq) ?_))
        rintro _ _ _ _ ⟨rfl, rfl, rfl, rfl⟩
        refine And.intro (fun h126 => ?_) (fun h126 => ?_)
        · replace h126 := fc_b0.mp h126
          refine And.intro (fun h155 => ?_) (fun h155 => ?_)
          · refine And.intro (fun h159 => ?_) (fun h159 => ?_)
            · have hmv : (!decide (τ 6 p = z) && (sp_rd (L 7) (τ 2) (τ 0 1) (τ 6 p).toNatClampNeg && (sp_aw (L 7) (τ 0 1) q && decide (τ 1 (τ 6 p).toNatClampNeg = τ 1 q)))) = false := h126
              rw [hmv] at K
              exact K _ (by rw [if_neg (by decide), if_pos h159])
            · have hmv : (!decide (τ 6 p = z) && (sp_rd (L 7) (τ 2) (τ 0 1) (τ 6 p).toNatClampNeg && (sp_aw (L 7) (τ 0 1) q && decide (τ 1 (τ 6 p).toNatClampNeg = τ 1 q)))) = false := h126
              rw [hmv] at K
              exact K _ (by rw [if_neg (by decide), if_neg h159])
          · exact absurd rfl h155
        · replace h126 := fc_b1.mp h126
          refine And.intro (fun h155 => ?_) (fun h155 => ?_)
          · exact absurd h155 (by decide)
          · have hmv : (!decide (τ 6 p = z) && (sp_rd (L 7) (τ 2) (τ 0 1) (τ 6 p).toNatClampNeg && (sp_aw (L 7) (τ 0 1) q && decide (τ 1 (τ 6 p).toNatClampNeg = τ 1 q)))) = true := h126
            rw [hmv] at K
            exact K _ (by rw [if_pos rfl])
      · exact absurd h1 h112
theorem l_rjA3 (hW : fc_Wd mr) {τ : fc_Mi} (hA : ra mi 1344 n m t sm L τ) {w x2 x3 ci a1 x z : Int32} {x8 x9 : Option Value} {Q : fc_Q} (h1 : a1 = 3) {p q : Nat} (ex : x = nI p) (ez : z = nI q) (hp : p < n) (hq : q < n) (K : ∀ x2' : Int32, x2' = (if (!decide (x = z) && (sp_rd (L 7) (τ 2) (τ 0 1) p && (sp_rd (L 7) (τ 2) (τ 0 1) q && (decide (τ 1 p = τ 1 q) && (!decide (L 5 p = 3) && (!decide (L 5 q = 3) && !sp_in (τ 4 p) z)))))) then x2 else if 0 ≤ x2 then x2 else ci) → fc_T E mX11_judged (d + 5) (0, 0) fc_sh 169 [some (.ref 252), some (.int w), some (.int x2'), some (.int x3), some (.int ci), some (.int a1), some (.int x), some (.int z), some (.int (fc_b (!decide (x = z) && (sp_rd (L 7) (τ 2) (τ 0 1) p && (sp_rd (L 7) (τ 2) (τ 0 1) q && (decide (τ 1 p = τ 1 q) && (!decide (L 5 p = 3) && (!decide (L 5 q = 3) && !sp_in (τ 4 p) z)))))))), x9] [] mi ml mr Q) : fc_T E mX11_judged (d + 5) (0, 0) fc_sh 81 [some (.ref 252), some (.int w), some (.int x2), some (.int x3), some (.int ci), some (.int a1), some (.int x), some (.int z), x8, x9] [] mi ml mr Q := by
  refine fc_run oX11_judged (fun pc => pc == 169) 400 ?_
  refine And.intro (fun h83 => ?_) (fun h83 => ?_)
  · rw [h1] at h83; exact absurd h83 (by decide)
  · refine And.intro (fun h89 => ?_) (fun h89 => ?_)
    · rw [h1] at h89; exact absurd h89 (by decide)
    · refine And.intro (fun h112 => ?_) (fun h112 => ?_)
      · rw [h1] at h112; exact absurd h112 (by decide)
      · refine And.intro rfl (Exists.intro _ (And.intro (c_rmayVow hW hA (fc_nl 1344) ex ez hp hq) ?_))
        rintro _ _ _ _ ⟨rfl, rfl, rfl, rfl⟩
        refine And.intro (fun h143 => ?_) (fun h143 => ?_)
        · replace h143 := fc_b0.mp h143
          refine And.intro (fun h155 => ?_) (fun h155 => ?_)
          · refine And.intro (fun h159 => ?_) (fun h159 => ?_)
            · have hmv : (!decide (x = z) && (sp_rd (L 7) (τ 2) (τ 0 1) p && (sp_rd (L 7) (τ 2) (τ 0 1) q && (decide (τ 1 p = τ 1 q) && (!decide (L 5 p = 3) && (!decide (L 5 q = 3) && !sp_in (τ 4 p) z)))))) = false := h143
              rw [hmv] at K
              exact K _ (by rw [if_neg (by decide), if_pos h159])
            · have hmv : (!decide (x = z) && (sp_rd (L 7) (τ 2) (τ 0 1) p && (sp_rd (L 7) (τ 2) (τ 0 1) q && (decide (τ 1 p = τ 1 q) && (!decide (L 5 p = 3) && (!decide (L 5 q = 3) && !sp_in (τ 4 p) z)))))) = false := h143
              rw [hmv] at K
              exact K _ (by rw [if_neg (by decide), if_neg h159])
          · exact absurd rfl h155
        · replace h143 := fc_b1.mp h143
          refine And.intro (fun h155 => ?_) (fun h155 => ?_)
          · exact absurd h155 (by decide)
          · have hmv : (!decide (x = z) && (sp_rd (L 7) (τ 2) (τ 0 1) p && (sp_rd (L 7) (τ 2) (τ 0 1) q && (decide (τ 1 p = τ 1 q) && (!decide (L 5 p = 3) && (!decide (L 5 q = 3) && !sp_in (τ 4 p) z)))))) = true := h143
            rw [hmv] at K
            exact K _ (by rw [if_pos rfl])
theorem l_rjB0 (hW : fc_Wd mr) {τ : fc_Mi} (hA : ra mi 1344 n m t sm L τ) {ev : fc_Ev} (hE : rlw mi ev) {w x2 x3 ci a1 x z : Int32} {x9 : Option Value} {Q : fc_Q} (h1 : a1 = 0) (K : ∀ m1 : fc_Mi, as_ag n t (as_pass L τ n m (nI sm)) (rv (m1 268) 1344) → rf 1344 mi m1 → fc_T E mX11_judged (d + 5) (0, 0) fc_sh 251 [some (.ref 252), some (.int w), some (.int x2), some (.int x3), some (.int ci), some (.int a1), some (.int x), some (.int z), some (.int 1), some (.int 0)] [] m1 ml mr Q) : fc_T E mX11_judged (d + 5) (0, 0) fc_sh 169 [some (.ref 252), some (.int w), some (.int x2), some (.int x3), some (.int ci), some (.int a1), some (.int x), some (.int z), some (.int 1), x9] [] mi ml mr Q := by
  refine fc_run oX11_judged (fun pc => pc == 251) 400 ?_
  refine And.intro (fun h174 => ?_) (fun h174 => ?_)
  · refine And.intro rfl (Exists.intro _ (And.intro (c_rpasses hW hA (fc_nl 1344)) ?_))
    rintro _ m1 _ _ ⟨rfl, g1, g2, rfl, rfl⟩
    exact K _ g1 g2
  · exact absurd h1 h174
theorem l_rjB1 (hW : fc_Wd mr) {τ : fc_Mi} (hA : ra mi 1344 n m t sm L τ) {ev : fc_Ev} (hE : rlw mi ev) {w x2 x3 ci a1 x z : Int32} {x9 : Option Value} {Q : fc_Q} (h1 : a1 = 1) {p : Nat} (ex : x = nI p) (hp : p < n) (K : ∀ m1 : fc_Mi, as_ag n t (as_wk L τ p z) (rv (m1 268) 1344) → rf 1344 mi m1 → fc_T E mX11_judged (d + 5) (0, 0) fc_sh 251 [some (.ref 252), some (.int w), some (.int x2), some (.int x3), some (.int ci), some (.int a1), some (.int x), some (.int z), some (.int 1), some (.int 0)] [] m1 ml mr Q) : fc_T E mX11_judged (d + 5) (0, 0) fc_sh 169 [some (.ref 252), some (.int w), some (.int x2), some (.int x3), some (.int ci), some (.int a1), some (.int x), some (.int z), some (.int 1), x9] [] mi ml mr Q := by
  refine fc_run oX11_judged (fun pc => pc == 251) 400 ?_
  refine And.intro (fun h174 => ?_) (fun h174 => ?_)
  · rw [h1] at h174; exact absurd h174 (by decide)
  · refine And.intro (fun h190 => ?_) (fun h190 => ?_)
    · exact absurd h190 (by decide)
    · refine And.intro (fun h196 => ?_) (fun h196 => ?_)
      · refine And.intro rfl (Exists.intro _ (And.intro (c_rwalks hW hA (fc_nl 1344) ex hp _) ?_))
        rintro _ m1 _ _ ⟨rfl, g1, g2, rfl, rfl⟩
        exact K _ g1 g2
      · exact absurd h1 h196
theorem l_rjB2 (hW : fc_Wd mr) {τ : fc_Mi} (hA : ra mi 1344 n m t sm L τ) {ev : fc_Ev} (hE : rlw mi ev) {w x2 x3 ci a1 x z : Int32} {x9 : Option Value} {Q : fc_Q} (h1 : a1 = 2) {p q : Nat} (ex : x = nI p) (ez : z = nI q) (hp : p < t) (hq : q < n) (K : ∀ m1 : fc_Mi, as_ag n t (as_gv τ p (τ 6 p).toNatClampNeg z (as_bd L τ n ev (L 8 p) (τ 0 1) (τ 6 p).toNatClampNeg q)) (rv (m1 268) 1344) → rf 1344 mi m1 → fc_T E mX11_judged (d + 5) (0, 0) fc_sh 251 [some (.ref 252), some (.int w), some (.int x2), some (.int x3), some (.int ci), some (.int a1), some (.int x), some (.int z), some (.int 1), some (.int (fc_b (as_bd L τ n ev (L 8 p) (τ 0 1) (τ 6 p).toNatClampNeg q)))] [] m1 ml mr Q) : fc_T E mX11_judged (d + 5) (0, 0) fc_sh 169 [some (.ref 252), some (.int w), some (.int x2), some (.int x3), some (.int ci), some (.int a1), some (.int x), some (.int z), some (.int 1), x9] [] mi ml mr Q := by
  refine fc_run oX11_judged (fun pc => pc == 251) 400 ?_
  refine And.intro (fun h174 => ?_) (fun h174 => ?_)
  · rw [h1] at h174; exact absurd h174 (by decide)
  · refine And.intro (fun h190 => ?_) (fun h190 => ?_)
    · exact absurd h190 (by decide)
    · refine And.intro (fun h196 => ?_) (fun h196 => ?_)
      · rw [h1] at h196; exact absurd h196 (by decide)
      · refine And.intro (fun h215 => ?_) (fun h215 => ?_)
        · exact absurd h215 (by decide)
        · refine And.intro (fun h221 => ?_) (fun h221 => ?_)
          · refine And.intro rfl (Exists.intro _ (And.intro (c_rgives hW hA hE (fc_nl 1344) ex ez hp hq) ?_))
            rintro _ m1 _ _ ⟨rfl, g1, g2, rfl, rfl⟩
            exact K _ g1 g2
          · exact absurd h1 h221
theorem l_rjB3 (hW : fc_Wd mr) {τ : fc_Mi} (hA : ra mi 1344 n m t sm L τ) {ev : fc_Ev} (hE : rlw mi ev) {w x2 x3 ci a1 x z : Int32} {x9 : Option Value} {Q : fc_Q} (h1 : a1 = 3) {p q : Nat} (ex : x = nI p) (ez : z = nI q) (hp : p < n) (hq : q < n) (hne : ¬ p = q) (K : ∀ m1 : fc_Mi, as_ag n t (as_vw τ p q (as_bd L τ n ev 0 (τ 0 1) p q)) (rv (m1 268) 1344) → rf 1344 mi m1 → fc_T E mX11_judged (d + 5) (0, 0) fc_sh 251 [some (.ref 252), some (.int w), some (.int x2), some (.int x3), some (.int ci), some (.int a1), some (.int x), some (.int z), some (.int 1), some (.int (fc_b (as_bd L τ n ev 0 (τ 0 1) p q)))] [] m1 ml mr Q) : fc_T E mX11_judged (d + 5) (0, 0) fc_sh 169 [some (.ref 252), some (.int w), some (.int x2), some (.int x3), some (.int ci), some (.int a1), some (.int x), some (.int z), some (.int 1), x9] [] mi ml mr Q := by
  refine fc_run oX11_judged (fun pc => pc == 251) 400 ?_
  refine And.intro (fun h174 => ?_) (fun h174 => ?_)
  · rw [h1] at h174; exact absurd h174 (by decide)
  · refine And.intro (fun h190 => ?_) (fun h190 => ?_)
    · exact absurd h190 (by decide)
    · refine And.intro (fun h196 => ?_) (fun h196 => ?_)
      · rw [h1] at h196; exact absurd h196 (by decide)
      · refine And.intro (fun h215 => ?_) (fun h215 => ?_)
        · exact absurd h215 (by decide)
        · refine And.intro (fun h221 => ?_) (fun h221 => ?_)
          · rw [h1] at h221; exact absurd h221 (by decide)
          · refine And.intro rfl (Exists.intro _ (And.intro (c_rvowsBy hW hA hE (fc_nl 1344) ex ez hp hq hne) ?_))
            rintro _ m1 _ _ ⟨rfl, g1, g2, rfl, rfl⟩
            exact K _ g1 g2
theorem l_rjBN (hW : fc_Wd mr) {τ : fc_Mi} (hA : ra mi 1344 n m t sm L τ) {ev : fc_Ev} (hE : rlw mi ev) {w x2 x3 ci a1 x z : Int32} {x9 : Option Value} {Q : fc_Q} (h1 : ¬ a1 = 0) (K : ∀ m1 : fc_Mi, as_ag n t (τ) (rv (m1 268) 1344) → rf 1344 mi m1 → fc_T E mX11_judged (d + 5) (0, 0) fc_sh 251 [some (.ref 252), some (.int w), some (.int x2), some (.int x3), some (.int ci), some (.int a1), some (.int x), some (.int z), some (.int 0), some (.int 0)] [] m1 ml mr Q) : fc_T E mX11_judged (d + 5) (0, 0) fc_sh 169 [some (.ref 252), some (.int w), some (.int x2), some (.int x3), some (.int ci), some (.int a1), some (.int x), some (.int z), some (.int 0), x9] [] mi ml mr Q := by
  refine fc_run oX11_judged (fun pc => pc == 251) 400 ?_
  refine And.intro (fun h174 => ?_) (fun h174 => ?_)
  · exact absurd h174 h1
  · refine And.intro (fun h190 => ?_) (fun h190 => ?_)
    · refine And.intro (fun h215 => ?_) (fun h215 => ?_)
      · exact K _ hA.2.2.2.2.2 rf.rf'
      · exact absurd rfl h215
    · exact absurd rfl h190
theorem l_rjC {w x2 x3 : Int32} {i : Nat} {x5 x6 x7 x8 : Option Value} {bv : Bool} {Q : fc_Q} (K : ∀ (c x3' : Int32) (x9 : Option Value), c = nI (i + 1) → x3' = (if bv then (if 0 ≤ x3 then x3 else nI i) else x3) → fc_T E mX11_judged (d + 5) (0, 0) fc_sh 31 [some (.ref 252), some (.int w), some (.int x2), some (.int x3'), some (.int c), x5, x6, x7, x8, x9] [] mi ml mr Q) : fc_T E mX11_judged (d + 5) (0, 0) fc_sh 251 [some (.ref 252), some (.int w), some (.int x2), some (.int x3), some (.int (nI i)), x5, x6, x7, x8, some (.int (fc_b bv))] [] mi ml mr Q := by
  refine fc_run oX11_judged (fun pc => pc == 31) 400 ?_
  refine And.intro (fun h253 => ?_) (fun h253 => ?_)
  · replace h253 := fc_b0.mp h253
    exact K _ _ _ (fc_inc i) (by rw [h253, if_neg (by decide)])
  · replace h253 := fc_b1.mp h253
    refine And.intro (fun h257 => ?_) (fun h257 => ?_)
    · exact K _ _ _ (fc_inc i) (by rw [h253, if_pos rfl, if_pos h257])
    · exact K _ _ _ (fc_inc i) (by rw [h253, if_pos rfl, if_neg h257])
theorem l_rjudged2 (hW : fc_Wd mr) {τ : fc_Mi} (hA : ra mi 1344 n m t sm L τ) (w x2 x3 : Int32) {x6 x7 x8 x9 : Option Value} : ∀ (j i : Nat) (c : Int32) (acc : Int32), i + j = t → c = nI i → acc = sp_num (fun q => !decide (τ 6 q = L 9 q)) i → fc_T E mX11_judged (d + 5) (0, 0) fc_sh 279 [some (.ref 252), some (.int w), some (.int x2), some (.int x3), some (.int acc), some (.int c), x6, x7, x8, x9] [] mi ml mr (rqv 1344 (if w = 0 then x2 else if w = 1 then x3 else sp_num (fun q => !decide (τ 6 q = L 9 q)) t) mi ml mr) := by
  intro j
  induction j with
  | zero =>
    intro i c acc  hi hc h_acc
    subst hc
    obtain ⟨⟨e0, e2, e3, e4⟩, hB, hLo, hSo, hLg, hSg⟩ := id hA
    obtain ⟨h5, h7, h6, hs1, hs2, hLp, hLt⟩ := id hLo
    refine fc_run oX11_judged (fun pc => pc == 279) 400 ?_
    refine And.intro rfl (Exists.intro _ (And.intro (c_rthings hW hA) ?_))
    rintro _ _ _ _ ⟨rfl, rfl, rfl, rfl⟩
    refine And.intro (fun h285 => ?_) (fun h285 => ?_)
    · refine And.intro (fun h326 => ?_) (fun h326 => ?_)
      · refine ⟨congrArg (fun q => some (Value.int q)) ?_, rf.rf', rfl, rfl⟩
        rw [if_pos h326]
      · refine And.intro (fun h335 => ?_) (fun h335 => ?_)
        · refine ⟨congrArg (fun q => some (Value.int q)) ?_, rf.rf', rfl, rfl⟩
          rw [if_neg h326, if_pos h335]
        · refine ⟨congrArg (fun q => some (Value.int q)) ?_, rf.rf', rfl, rfl⟩
          rw [if_neg h326, if_neg h335, h_acc, show i = t by omega]
    · exact absurd (nI_le (by omega) (by omega)) h285
  | succ j ih =>
    intro i c acc  hi hc h_acc
    subst hc
    obtain ⟨⟨e0, e2, e3, e4⟩, hB, hLo, hSo, hLg, hSg⟩ := id hA
    obtain ⟨h5, h7, h6, hs1, hs2, hLp, hLt⟩ := id hLo
    refine fc_run oX11_judged (fun pc => pc == 279) 400 ?_
    refine And.intro rfl (Exists.intro _ (And.intro (c_rthings hW hA) ?_))
    rintro _ _ _ _ ⟨rfl, rfl, rfl, rfl⟩
    refine And.intro (fun h285 => ?_) (fun h285 => ?_)
    · exact absurd h285 (nI_ge (by omega) (by omega))
    · refine And.intro rfl (Exists.intro _ (And.intro (hW 252 24 268 rfl) ?_))
      refine Exists.intro _ (Exists.intro _ (And.intro rfl (And.intro (fc_ixn (fc_na (fc_nl 1356) rfl) (by omega) (by decide)) ?_)))
      refine And.intro rfl (Exists.intro _ (And.intro (c_rthi1 hW hA rfl (by omega)) ?_))
      rintro _ _ _ _ ⟨rfl, rfl, rfl, rfl⟩
      refine And.intro (fun h308 => ?_) (fun h308 => ?_)
      · rw [show mi 268 (1356 + i) = τ 6 i from ra_o hA (show i < t by omega)] at h308
        exact ih (i + 1) _ _ (by omega) (fc_inc i) (by rw [h_acc, Int32.add_zero]; exact sp_num_f (P := fun q => !decide (τ 6 q = L 9 q)) (nd_f h308))
      · rw [show mi 268 (1356 + i) = τ 6 i from ra_o hA (show i < t by omega)] at h308
        exact ih (i + 1) _ _ (by omega) (fc_inc i) (by rw [h_acc]; exact sp_num_t (P := fun q => !decide (τ 6 q = L 9 q)) (nd_t h308))

theorem jd_2 {x x2 y : Int32} {i : Nat} {x2' : Int32} (hr : x = -1 ∨ ∃ j, j < i ∧ x = nI j) (hi : i ≤ 40) (h2 : x2 = x) (hx : x2' = (if 0 ≤ x2 then x2 else nI i)) (hy : y = if (-1 : Int32) = -1 ∧ x = -1 then nI i else x) : x2' = y := by
  subst h2
  rw [hx, hy]
  by_cases q : 0 ≤ x2
  · rw [if_pos q, if_neg (fun e => ((neg1_of hi hr).mpr e.2) q)]
  · rw [if_neg q, if_pos ⟨rfl, (neg1_of hi hr).mp q⟩]
theorem jd_3 {x x3 y : Int32} {i : Nat} {x3' : Int32} {b : Bool} (hr : x = -1 ∨ ∃ j, j < i ∧ x = nI j) (hi : i ≤ 40) (h3 : x3 = x) (hx : x3' = (if b then (if 0 ≤ x3 then x3 else nI i) else x3)) (hy : y = if fc_b b = 1 ∧ x = -1 then nI i else x) : x3' = y := by
  subst h3
  rw [hx, hy]
  cases b with
  | false => rw [if_neg (by decide), if_neg (fun e => absurd e.1 (by decide))]
  | true =>
    rw [if_pos rfl]
    by_cases q : 0 ≤ x3
    · rw [if_pos q, if_neg (fun e => ((neg1_of hi hr).mpr e.2) q)]
    · rw [if_neg q, if_pos ⟨rfl, (neg1_of hi hr).mp q⟩]
theorem l_rjudged (hW : fc_Wd mr) (hZ : rz mi n m t sm L) {ev : fc_Ev} (hE : rlw mi ev) {k : Nat} {dd xs zs : Nat → Int32} (hln : lns mi n m t k dd xs zs) (h0 : as_ok n m t sm σ) (w : Int32) : ∀ (j i : Nat) (c x2 x3 : Int32) (x5 x6 x7 x8 x9 : Option Value) (mm : fc_Mi), i + j = k → c = nI i → rf 1344 mi mm → as_ag n t (as_run L σ n m t (nI sm) ev dd xs zs i).1 (rv (mm 268) 1344) → x2 = (as_run L σ n m t (nI sm) ev dd xs zs i).2.1 → x3 = (as_run L σ n m t (nI sm) ev dd xs zs i).2.2 → fc_T E mX11_judged (d + 5) (0, 0) fc_sh 31 [some (.ref 252), some (.int w), some (.int x2), some (.int x3), some (.int c), x5, x6, x7, x8, x9] [] mm ml mr (rqv 1344 (as_jd L σ n m t (nI sm) ev dd xs zs k w) mi ml mr) := by
  intro j
  induction j with
  | zero =>
    intro i c x2 x3 x5 x6 x7 x8 x9 mm hi hc hf hg h2 h3
    subst hc
    have hZm := hZ.rf hf
    have hA : ra mm 1344 n m t sm L (as_run L σ n m t (nI sm) ev dd xs zs i).1 := hZm.ra (by omega) (as_run_ok hZ.2.1 h0 i) hg
    obtain ⟨⟨e0, e2, e3, e4⟩, hLo, hLg⟩ := id hZm
    obtain ⟨h5, h7, h6, hs1, hs2, hLp, hLt⟩ := id hLo
    have hr := as_run_r (L := L) (σ := σ) (n := n) (m := m) (t := t) (s := nI sm) (ev := ev) (dd := dd) (xs := xs) (zs := zs) i
    have h65 : mm 265 = mi 265 := hf.1 265 (by decide) (by decide) (by decide) (by decide)
    have hk0 : mm 265 0 = nI k := by rw [h65]; exact hln.1
    have hk4 := hln.2.1
    have hEm := hE.rf hf
    refine fc_run oX11_judged (fun pc => pc == 31 || pc == 279 || pc == 81) 400 ?_
    refine And.intro rfl (Exists.intro _ (And.intro (hW 252 21 265 rfl) ?_))
    refine Exists.intro _ (Exists.intro _ (And.intro rfl (And.intro (fc_ixn (fc_nl 0) (by omega) (by decide)) ?_)))
    refine And.intro (fun h39 => ?_) (fun h39 => ?_)
    · refine fc_conT (l_rjudged2 hW hA w x2 x3 t 0 _ _ (by omega) rfl rfl) ?_
      rintro v a1 a2 a3 ⟨q1, q2, rfl, rfl⟩
      refine ⟨?_, hf.tr q2, rfl, rfl⟩
      rw [q1, h2, h3, show i = k by omega]
      rfl
    · exact absurd (by rw [hk0]; exact nI_le (by omega) (by omega)) h39
  | succ j ih =>
    intro i c x2 x3 x5 x6 x7 x8 x9 mm hi hc hf hg h2 h3
    subst hc
    have hZm := hZ.rf hf
    have hA : ra mm 1344 n m t sm L (as_run L σ n m t (nI sm) ev dd xs zs i).1 := hZm.ra (by omega) (as_run_ok hZ.2.1 h0 i) hg
    obtain ⟨⟨e0, e2, e3, e4⟩, hLo, hLg⟩ := id hZm
    obtain ⟨h5, h7, h6, hs1, hs2, hLp, hLt⟩ := id hLo
    have hr := as_run_r (L := L) (σ := σ) (n := n) (m := m) (t := t) (s := nI sm) (ev := ev) (dd := dd) (xs := xs) (zs := zs) i
    have h65 : mm 265 = mi 265 := hf.1 265 (by decide) (by decide) (by decide) (by decide)
    have hk0 : mm 265 0 = nI k := by rw [h65]; exact hln.1
    have hk4 := hln.2.1
    have hEm := hE.rf hf
    have hl := hln.2.2 i (by omega)
    rw [← h65] at hl
    have hl_2 : mm 265 (2 + 3 * i) = mm 265 (2 + 3 * i) := rfl
    have hl_3 : mm 265 (3 + 3 * i) = mm 265 (3 + 3 * i) := rfl
    refine fc_run oX11_judged (fun pc => pc == 31 || pc == 279 || pc == 81) 400 ?_
    refine And.intro rfl (Exists.intro _ (And.intro (hW 252 21 265 rfl) ?_))
    refine Exists.intro _ (Exists.intro _ (And.intro rfl (And.intro (fc_ixn (fc_nl 0) (by omega) (by decide)) ?_)))
    refine And.intro (fun h39 => ?_) (fun h39 => ?_)
    · exact absurd h39 (by rw [hk0]; exact nI_ge (by omega) (by omega))
    · refine And.intro rfl (Exists.intro _ (And.intro (hW 252 21 265 rfl) ?_))
      refine Exists.intro _ (Exists.intro _ (And.intro rfl (And.intro (fc_ixn (fc_na (fc_nl 1) (fc_nm (fc_nl 3) rfl)) (by omega) (by decide)) ?_)))
      refine And.intro rfl (Exists.intro _ (And.intro (hW 252 21 265 rfl) ?_))
      refine Exists.intro _ (Exists.intro _ (And.intro rfl (And.intro (fc_ixn (fc_na (fc_nl 2) (fc_nm (fc_nl 3) rfl)) (by omega) (by decide)) ?_)))
      refine And.intro rfl (Exists.intro _ (And.intro (hW 252 21 265 rfl) ?_))
      refine Exists.intro _ (Exists.intro _ (And.intro rfl (And.intro (fc_ixn (fc_na (fc_nl 3) (fc_nm (fc_nl 3) rfl)) (by omega) (by decide)) ?_)))
      rcases hl with ⟨d1, d2⟩ | ⟨⟨d1, d2⟩, ⟨p, hp, ep⟩, ⟨q, hq, eq⟩, ea, eo⟩ | ⟨⟨d1, d2⟩, ⟨p, hp, ep⟩, ⟨q, hq, eq⟩, ea, eo⟩ | ⟨⟨d1, d2⟩, ⟨p, hp, ep⟩, ⟨q, hq, eq⟩, ea, eo⟩
      · have ePl : as_play L (as_run L σ n m t (nI sm) ev dd xs zs i).1 n m t (nI sm) ev (dd i) (xs i) (zs i) = (as_pass L (as_run L σ n m t (nI sm) ev dd xs zs i).1 n m (nI sm), 0) := by rw [d1]; exact as_play_m (by decide) (by decide) (by decide)
        exact l_rjA0 hW hA d2 (fun x2' hx2 => l_rjB0 hW hA hEm d2 (fun m1 g1 g2 => l_rjC (bv := false) (fun c x3' y9 hc hx3 => ih (i + 1) _ _ _ _ _ _ _ _ _ (by omega) hc (hf.tr g2) (by rw [as_run_1 ePl]; exact g1) (by rw [as_run_2 ePl, if_neg (fun q => absurd q.1 (by decide)), hx2, if_pos rfl]; exact h2) (by rw [as_run_3 ePl, if_neg (fun q => absurd q.1 (by decide)), hx3, if_neg (by decide)]; exact h3))))
      · rw [ea, eo]
        refine l_rjA1 hW hA d2 ep hp (fun x2' hx2 => ?_)
        cases hmv : (sp_rd (L 7) ((as_run L σ n m t (nI sm) ev dd xs zs i).1 2) ((as_run L σ n m t (nI sm) ev dd xs zs i).1 0 1) p && sp_in (L 4 ((as_run L σ n m t (nI sm) ev dd xs zs i).1 1 p).toNatClampNeg) (zs i)) with
        | true =>
          have hcw : sp_cw (nI n) (nI m) (L 7) ((as_run L σ n m t (nI sm) ev dd xs zs i).1 2) ((as_run L σ n m t (nI sm) ev dd xs zs i).1 1) (L 4) ((as_run L σ n m t (nI sm) ev dd xs zs i).1 0 1) (xs i) (zs i) = true := by rw [sp_cw, show sp_has (nI n) (xs i) = true by rw [ep]; exact sp_has_nI hp (by omega), show sp_has (nI m) (zs i) = true by rw [eq]; exact sp_has_nI hq (by omega), show (xs i).toNatClampNeg = p by rw [ep]; exact nI_clamp (by omega)]; exact hmv
          have ePl : as_play L (as_run L σ n m t (nI sm) ev dd xs zs i).1 n m t (nI sm) ev (dd i) (xs i) (zs i) = (as_wk L (as_run L σ n m t (nI sm) ev dd xs zs i).1 p (zs i), 0) := by rw [d1, as_play_w1 hcw]; simp only [show (xs i).toNatClampNeg = p by rw [ep]; exact nI_clamp (by omega), show (zs i).toNatClampNeg = q by rw [eq]; exact nI_clamp (by omega)]
          rw [hmv, if_pos rfl] at hx2
          exact l_rjB1 hW hA hEm d2 ep hp (fun m1 g1 g2 => l_rjC (bv := false) (fun c x3' y9 hc hx3 => ih (i + 1) _ _ _ _ _ _ _ _ _ (by omega) hc (hf.tr g2) (by rw [as_run_1 ePl]; exact g1) (by rw [as_run_2 ePl, if_neg (fun q => absurd q.1 (by decide)), hx2]; exact h2) (by rw [as_run_3 ePl, if_neg (fun q => absurd q.1 (by decide)), hx3, if_neg (by decide)]; exact h3)))
        | false =>
          have hcw : sp_cw (nI n) (nI m) (L 7) ((as_run L σ n m t (nI sm) ev dd xs zs i).1 2) ((as_run L σ n m t (nI sm) ev dd xs zs i).1 1) (L 4) ((as_run L σ n m t (nI sm) ev dd xs zs i).1 0 1) (xs i) (zs i) = false := by rw [sp_cw, show sp_has (nI n) (xs i) = true by rw [ep]; exact sp_has_nI hp (by omega), show sp_has (nI m) (zs i) = true by rw [eq]; exact sp_has_nI hq (by omega), show (xs i).toNatClampNeg = p by rw [ep]; exact nI_clamp (by omega)]; exact hmv
          have ePl : as_play L (as_run L σ n m t (nI sm) ev dd xs zs i).1 n m t (nI sm) ev (dd i) (xs i) (zs i) = ((as_run L σ n m t (nI sm) ev dd xs zs i).1, -1) := by rw [d1, as_play_w0 hcw]
          rw [hmv, if_neg (by decide)] at hx2
          exact l_rjBN hW hA hEm (by rw [d2]; decide) (fun m1 g1 g2 => l_rjC (bv := false) (fun c x3' y9 hc hx3 => ih (i + 1) _ _ _ _ _ _ _ _ _ (by omega) hc (hf.tr g2) (by rw [as_run_1 ePl]; exact g1) (jd_2 hr.1 (by omega) h2 hx2 (as_run_2 ePl)) (by rw [as_run_3 ePl, if_neg (fun q => absurd q.1 (by decide)), hx3, if_neg (by decide)]; exact h3)))
      · rw [ea, eo]
        refine l_rjA2 hW hA d2 ep eq hp hq (fun x2' hx2 => ?_)
        cases hmv : (!decide ((as_run L σ n m t (nI sm) ev dd xs zs i).1 6 p = zs i) && (sp_rd (L 7) ((as_run L σ n m t (nI sm) ev dd xs zs i).1 2) ((as_run L σ n m t (nI sm) ev dd xs zs i).1 0 1) ((as_run L σ n m t (nI sm) ev dd xs zs i).1 6 p).toNatClampNeg && (sp_aw (L 7) ((as_run L σ n m t (nI sm) ev dd xs zs i).1 0 1) q && decide ((as_run L σ n m t (nI sm) ev dd xs zs i).1 1 ((as_run L σ n m t (nI sm) ev dd xs zs i).1 6 p).toNatClampNeg = (as_run L σ n m t (nI sm) ev dd xs zs i).1 1 q)))) with
        | true =>
          have hcw : sp_cg (nI t) (nI n) ((as_run L σ n m t (nI sm) ev dd xs zs i).1 6) (L 7) ((as_run L σ n m t (nI sm) ev dd xs zs i).1 2) ((as_run L σ n m t (nI sm) ev dd xs zs i).1 1) ((as_run L σ n m t (nI sm) ev dd xs zs i).1 0 1) (xs i) (zs i) = true := by rw [sp_cg, show sp_has (nI t) (xs i) = true by rw [ep]; exact sp_has_nI hp (by omega), show sp_has (nI n) (zs i) = true by rw [eq]; exact sp_has_nI hq (by omega), show (xs i).toNatClampNeg = p by rw [ep]; exact nI_clamp (by omega), show (zs i).toNatClampNeg = q by rw [eq]; exact nI_clamp (by omega)]; exact hmv
          have ePl : as_play L (as_run L σ n m t (nI sm) ev dd xs zs i).1 n m t (nI sm) ev (dd i) (xs i) (zs i) = (as_gv (as_run L σ n m t (nI sm) ev dd xs zs i).1 p ((as_run L σ n m t (nI sm) ev dd xs zs i).1 6 p).toNatClampNeg (zs i) (as_bd L (as_run L σ n m t (nI sm) ev dd xs zs i).1 n ev (L 8 p) ((as_run L σ n m t (nI sm) ev dd xs zs i).1 0 1) ((as_run L σ n m t (nI sm) ev dd xs zs i).1 6 p).toNatClampNeg q), fc_b (as_bd L (as_run L σ n m t (nI sm) ev dd xs zs i).1 n ev (L 8 p) ((as_run L σ n m t (nI sm) ev dd xs zs i).1 0 1) ((as_run L σ n m t (nI sm) ev dd xs zs i).1 6 p).toNatClampNeg q)) := by rw [d1, as_play_g1 hcw]; simp only [show (xs i).toNatClampNeg = p by rw [ep]; exact nI_clamp (by omega), show (zs i).toNatClampNeg = q by rw [eq]; exact nI_clamp (by omega)]
          rw [hmv, if_pos rfl] at hx2
          exact l_rjB2 hW hA hEm d2 ep eq hp hq (fun m1 g1 g2 => l_rjC (bv := (as_bd L (as_run L σ n m t (nI sm) ev dd xs zs i).1 n ev (L 8 p) ((as_run L σ n m t (nI sm) ev dd xs zs i).1 0 1) ((as_run L σ n m t (nI sm) ev dd xs zs i).1 6 p).toNatClampNeg q)) (fun c x3' y9 hc hx3 => ih (i + 1) _ _ _ _ _ _ _ _ _ (by omega) hc (hf.tr g2) (by rw [as_run_1 ePl]; exact g1) (by rw [as_run_2 ePl, if_neg (fun q => absurd q.1 (fc_b_m1 _)), hx2]; exact h2) (jd_3 hr.2 (by omega) h3 hx3 (as_run_3 ePl))))
        | false =>
          have hcw : sp_cg (nI t) (nI n) ((as_run L σ n m t (nI sm) ev dd xs zs i).1 6) (L 7) ((as_run L σ n m t (nI sm) ev dd xs zs i).1 2) ((as_run L σ n m t (nI sm) ev dd xs zs i).1 1) ((as_run L σ n m t (nI sm) ev dd xs zs i).1 0 1) (xs i) (zs i) = false := by rw [sp_cg, show sp_has (nI t) (xs i) = true by rw [ep]; exact sp_has_nI hp (by omega), show sp_has (nI n) (zs i) = true by rw [eq]; exact sp_has_nI hq (by omega), show (xs i).toNatClampNeg = p by rw [ep]; exact nI_clamp (by omega), show (zs i).toNatClampNeg = q by rw [eq]; exact nI_clamp (by omega)]; exact hmv
          have ePl : as_play L (as_run L σ n m t (nI sm) ev dd xs zs i).1 n m t (nI sm) ev (dd i) (xs i) (zs i) = ((as_run L σ n m t (nI sm) ev dd xs zs i).1, -1) := by rw [d1, as_play_g0 hcw]
          rw [hmv, if_neg (by decide)] at hx2
          exact l_rjBN hW hA hEm (by rw [d2]; decide) (fun m1 g1 g2 => l_rjC (bv := false) (fun c x3' y9 hc hx3 => ih (i + 1) _ _ _ _ _ _ _ _ _ (by omega) hc (hf.tr g2) (by rw [as_run_1 ePl]; exact g1) (jd_2 hr.1 (by omega) h2 hx2 (as_run_2 ePl)) (by rw [as_run_3 ePl, if_neg (fun q => absurd q.1 (by decide)), hx3, if_neg (by decide)]; exact h3)))
      · rw [ea, eo]
        refine l_rjA3 hW hA d2 ep eq hp hq (fun x2' hx2 => ?_)
        cases hmv : (!decide (xs i = zs i) && (sp_rd (L 7) ((as_run L σ n m t (nI sm) ev dd xs zs i).1 2) ((as_run L σ n m t (nI sm) ev dd xs zs i).1 0 1) p && (sp_rd (L 7) ((as_run L σ n m t (nI sm) ev dd xs zs i).1 2) ((as_run L σ n m t (nI sm) ev dd xs zs i).1 0 1) q && (decide ((as_run L σ n m t (nI sm) ev dd xs zs i).1 1 p = (as_run L σ n m t (nI sm) ev dd xs zs i).1 1 q) && (!decide (L 5 p = 3) && (!decide (L 5 q = 3) && !sp_in ((as_run L σ n m t (nI sm) ev dd xs zs i).1 4 p) (zs i))))))) with
        | true =>
          have hcw : sp_cv (nI n) (L 7) ((as_run L σ n m t (nI sm) ev dd xs zs i).1 2) ((as_run L σ n m t (nI sm) ev dd xs zs i).1 1) (L 5) ((as_run L σ n m t (nI sm) ev dd xs zs i).1 4) ((as_run L σ n m t (nI sm) ev dd xs zs i).1 0 1) (xs i) (zs i) = true := by rw [sp_cv, show sp_has (nI n) (xs i) = true by rw [ep]; exact sp_has_nI hp (by omega), show sp_has (nI n) (zs i) = true by rw [eq]; exact sp_has_nI hq (by omega), show (xs i).toNatClampNeg = p by rw [ep]; exact nI_clamp (by omega), show (zs i).toNatClampNeg = q by rw [eq]; exact nI_clamp (by omega)]; exact hmv
          have ePl : as_play L (as_run L σ n m t (nI sm) ev dd xs zs i).1 n m t (nI sm) ev (dd i) (xs i) (zs i) = (as_vw (as_run L σ n m t (nI sm) ev dd xs zs i).1 p q (as_bd L (as_run L σ n m t (nI sm) ev dd xs zs i).1 n ev 0 ((as_run L σ n m t (nI sm) ev dd xs zs i).1 0 1) p q), fc_b (as_bd L (as_run L σ n m t (nI sm) ev dd xs zs i).1 n ev 0 ((as_run L σ n m t (nI sm) ev dd xs zs i).1 0 1) p q)) := by rw [d1, as_play_v1 hcw]; simp only [show (xs i).toNatClampNeg = p by rw [ep]; exact nI_clamp (by omega), show (zs i).toNatClampNeg = q by rw [eq]; exact nI_clamp (by omega)]
          rw [hmv, if_pos rfl] at hx2
          exact l_rjB3 hW hA hEm d2 ep eq hp hq (by rintro rfl; rw [Bool.and_eq_true] at hmv; exact absurd hmv.1 (by rw [ep, eq, nd_f rfl]; decide)) (fun m1 g1 g2 => l_rjC (bv := (as_bd L (as_run L σ n m t (nI sm) ev dd xs zs i).1 n ev 0 ((as_run L σ n m t (nI sm) ev dd xs zs i).1 0 1) p q)) (fun c x3' y9 hc hx3 => ih (i + 1) _ _ _ _ _ _ _ _ _ (by omega) hc (hf.tr g2) (by rw [as_run_1 ePl]; exact g1) (by rw [as_run_2 ePl, if_neg (fun q => absurd q.1 (fc_b_m1 _)), hx2]; exact h2) (jd_3 hr.2 (by omega) h3 hx3 (as_run_3 ePl))))
        | false =>
          have hcw : sp_cv (nI n) (L 7) ((as_run L σ n m t (nI sm) ev dd xs zs i).1 2) ((as_run L σ n m t (nI sm) ev dd xs zs i).1 1) (L 5) ((as_run L σ n m t (nI sm) ev dd xs zs i).1 4) ((as_run L σ n m t (nI sm) ev dd xs zs i).1 0 1) (xs i) (zs i) = false := by rw [sp_cv, show sp_has (nI n) (xs i) = true by rw [ep]; exact sp_has_nI hp (by omega), show sp_has (nI n) (zs i) = true by rw [eq]; exact sp_has_nI hq (by omega), show (xs i).toNatClampNeg = p by rw [ep]; exact nI_clamp (by omega), show (zs i).toNatClampNeg = q by rw [eq]; exact nI_clamp (by omega)]; exact hmv
          have ePl : as_play L (as_run L σ n m t (nI sm) ev dd xs zs i).1 n m t (nI sm) ev (dd i) (xs i) (zs i) = ((as_run L σ n m t (nI sm) ev dd xs zs i).1, -1) := by rw [d1, as_play_v0 hcw]
          rw [hmv, if_neg (by decide)] at hx2
          exact l_rjBN hW hA hEm (by rw [d2]; decide) (fun m1 g1 g2 => l_rjC (bv := false) (fun c x3' y9 hc hx3 => ih (i + 1) _ _ _ _ _ _ _ _ _ (by omega) hc (hf.tr g2) (by rw [as_run_1 ePl]; exact g1) (jd_2 hr.1 (by omega) h2 hx2 (as_run_2 ePl)) (by rw [as_run_3 ePl, if_neg (fun q => absurd q.1 (by decide)), hx3, if_neg (by decide)]; exact h3)))
      

theorem c_rjudged (hW : fc_Wd mr) (hA : ra mi 0 n m t sm L σ) {ev : fc_Ev} (hE : rlw mi ev) {k : Nat} {dd xs zs : Nat → Int32} (hln : lns mi n m t k dd xs zs) {τ : fc_Mi} (h0 : as_ok n m t sm τ) (hb : as_ag n t τ (as_beg L)) (w : Int32) : fc_R E mX11_judged (d + 5) fc_sh [.ref 252, .int w] mi ml mr (if sp_from 0 w 2 then rqv 1344 (as_jd L τ n m t (nI sm) ev dd xs zs k w) (fc_u mi 252 0 0) ml mr else fc_is (some (.int (-2))) (fc_u mi 252 0 0) ml mr) := by
  replace hA : ra (fc_u mi 252 0 0) 0 n m t sm L σ := hA.off rfl rfl
  obtain ⟨⟨e0, e2, e3, e4⟩, hB, hLo, hSo, hLg, hSg⟩ := id hA
  obtain ⟨h5, h7, h6, hs1, hs2, hLp, hLt⟩ := id hLo
  replace hE : rlw (fc_u mi 252 0 0) ev := hE.off rfl rfl rfl
  replace hln : lns (fc_u mi 252 0 0) n m t k dd xs zs := hln
  refine fc_met rfl (Nat.le_of_ble_eq_true rfl) (fc_run oX11_judged (fun pc => pc == 31) 400 ?_)
  refine And.intro rfl ?_
  refine Exists.intro _ (And.intro (c_rwithin _ _ _) ?_)
  rintro _ _ _ _ ⟨rfl, rfl, rfl, rfl⟩
  refine And.intro (fun h11 => ?_) (fun h11 => ?_)
  · replace h11 := fc_b0.mp h11
    rw [if_neg (by rw [h11]; decide)]
    exact ⟨rfl, rfl, rfl, rfl⟩
  · replace h11 := fc_b1.mp h11
    rw [if_pos h11]
    refine And.intro rfl (Exists.intro _ (And.intro (c_rstarts hW hA.z (fc_nl 1344) (by omega)) ?_))
    rintro _ m0 _ _ ⟨rfl, g1, g2, rfl, rfl⟩
    have h65 : m0 265 = (fc_u mi 252 0 0) 265 := g2.1 265 (by decide) (by decide) (by decide) (by decide)
    refine fc_conT (l_rjudged hW (hA.z.rf g2) (hE.rf g2) (k := k) (by unfold lns at *; rw [h65]; exact hln) h0 w k 0 _ _ _ none none none none none _ (by omega) rfl rf.rf' (hb.tr g1) rfl rfl) ?_
    rintro v a1 a2 a3 ⟨q1, q2, rfl, rfl⟩
    exact ⟨q1, g2.tr q2, rfl, rfl⟩

end M56
