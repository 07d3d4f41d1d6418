/-! ===== the reference: questions with loops ===== -/
section M51
variable {E : fc_E} {d : Nat} {mi : fc_Mi} {ml : fc_Ml} {mr : fc_Mr} {B n m t sm : Nat} {L σ : fc_Mi}
theorem l_rcould (hW : fc_Wd mr) (hA : ra mi 0 n m t sm L σ) {x : Int32} {q : Nat} (hx : x = nI q) (hq : q < t) : ∀ (j i : Nat) (c : Int32) (acc : Int32), i + j = n → c = nI i → acc = sp_set (fun k => !decide (σ 6 q = nI k) && (sp_rd (L 7) (σ 2) (σ 0 1) (σ 6 q).toNatClampNeg && (sp_aw (L 7) (σ 0 1) k && decide (σ 1 (σ 6 q).toNatClampNeg = σ 1 k)))) i → fc_T E mX11_could (d + 4) (0, 0) fc_sh 19 [some (.ref 252), some (.int x), some (.int acc), some (.int c)] [] mi ml mr (fc_is (some (.int (sp_set (fun k => !decide (σ 6 q = nI k) && (sp_rd (L 7) (σ 2) (σ 0 1) (σ 6 q).toNatClampNeg && (sp_aw (L 7) (σ 0 1) k && decide (σ 1 (σ 6 q).toNatClampNeg = σ 1 k)))) n))) mi ml mr) := by
  intro j
  induction j with
  | zero =>
    intro i c acc  hi hc h_acc
    subst hc
    obtain ⟨⟨e0, e2, e3, e4⟩, hB, hLo, hSo, hLg, hSg⟩ := id hA
    obtain ⟨h5, h7, h6, hs1, hs2, hLp, hLt⟩ := id hLo
    refine fc_run oX11_could (fun pc => pc == 19) 400 ?_
    refine And.intro rfl (Exists.intro _ (And.intro (c_rpersons hW hA) ?_))
    rintro _ _ _ _ ⟨rfl, rfl, rfl, rfl⟩
    refine And.intro (fun h24 => ?_) (fun h24 => ?_)
    · exact ⟨by rw [h_acc, show i = n by omega], rfl, rfl, rfl⟩
    · exact absurd (nI_le (by omega) (by omega)) h24
  | succ j ih =>
    intro i c acc  hi hc h_acc
    subst hc
    obtain ⟨⟨e0, e2, e3, e4⟩, hB, hLo, hSo, hLg, hSg⟩ := id hA
    obtain ⟨h5, h7, h6, hs1, hs2, hLp, hLt⟩ := id hLo
    refine fc_run oX11_could (fun pc => pc == 19) 400 ?_
    refine And.intro rfl (Exists.intro _ (And.intro (c_rpersons hW hA) ?_))
    rintro _ _ _ _ ⟨rfl, rfl, rfl, rfl⟩
    refine And.intro (fun h24 => ?_) (fun h24 => ?_)
    · exact absurd h24 (nI_ge (by omega) (by omega))
    · refine And.intro rfl (Exists.intro _ (And.intro (c_rmayGive hW hA (fc_nl 0) hx rfl (by omega) (by omega)) ?_))
      rintro _ _ _ _ ⟨rfl, rfl, rfl, rfl⟩
      refine And.intro (fun h35 => ?_) (fun h35 => ?_)
      · replace h35 := fc_b0.mp h35
        exact ih (i + 1) _ _ (by omega) (fc_inc i) (by rw [h_acc, fc_or0]; exact sp_set_f (P := fun k => !decide (σ 6 q = nI k) && (sp_rd (L 7) (σ 2) (σ 0 1) (σ 6 q).toNatClampNeg && (sp_aw (L 7) (σ 0 1) k && decide (σ 1 (σ 6 q).toNatClampNeg = σ 1 k)))) h35)
      · replace h35 := fc_b1.mp h35
        exact ih (i + 1) _ _ (by omega) (fc_inc i) (by rw [h_acc]; exact sp_set_t (P := fun k => !decide (σ 6 q = nI k) && (sp_rd (L 7) (σ 2) (σ 0 1) (σ 6 q).toNatClampNeg && (sp_aw (L 7) (σ 0 1) k && decide (σ 1 (σ 6 q).toNatClampNeg = σ 1 k)))) h35)

theorem c_rcould (hW : fc_Wd mr) (hA : ra mi 0 n m t sm L σ) (x : Int32) : fc_R E mX11_could (d + 4) fc_sh [.ref 252, .int x] mi ml mr (fc_is (some (.int (if sp_has (nI t) x then sp_set (fun k => !decide (σ 6 x.toNatClampNeg = nI k) && (sp_rd (L 7) (σ 2) (σ 0 1) (σ 6 x.toNatClampNeg).toNatClampNeg && (sp_aw (L 7) (σ 0 1) k && decide (σ 1 (σ 6 x.toNatClampNeg).toNatClampNeg = σ 1 k)))) n else -1))) (fc_u mi 252 0 0) ml mr) := by
  replace hA : ra (fc_u mi 252 0 0) 0 n m t sm L σ := hA.off rfl rfl
  obtain ⟨⟨e0, e2, e3, e4⟩, hB, hLo, hSo, hLg, hSg⟩ := id hA
  obtain ⟨h5, h7, h6, hs1, hs2, hLp, hLt⟩ := id hLo
  refine fc_met rfl (Nat.le_of_ble_eq_true rfl) (fc_run oX11_could (fun pc => pc == 19) 400 ?_)
  refine And.intro rfl ?_
  refine And.intro rfl (Exists.intro _ (And.intro (c_risThing hW hA _) ?_))
  rintro _ _ _ _ ⟨rfl, rfl, rfl, rfl⟩
  refine And.intro (fun h10 => ?_) (fun h10 => ?_)
  · replace h10 := fc_b0.mp h10
    exact ⟨by simp [h10], rfl, rfl, rfl⟩
  · replace h10 := fc_b1.mp h10
    obtain ⟨p, h_p, ep⟩ := sp_hasN (by omega) h10
    have hcp : x.toNatClampNeg = p := by rw [ep]; exact nI_clamp (by omega)
    rw [if_pos h10, hcp]
    exact l_rcould hW hA ep h_p n 0 _ _ (by omega) rfl rfl

theorem l_rsees (hW : fc_Wd mr) (hA : ra mi 0 n m t sm L σ) {x w s : Int32} {p jj : Nat} (hx : x = nI p) (hw : w = nI jj) (hj : jj < m) : ∀ (j i : Nat) (c : Int32) (acc : Int32), i + j = m → c = nI i → acc = s ||| sp_or (fun k => sp_in (L 4 jj) (nI k)) (fun k => sp_set (fun q => decide (σ 1 q = nI k)) n) i → fc_T E mX11_sees (d + 3) (0, 0) fc_sh 34 [some (.ref 252), some (.int x), some (.int w), some (.int acc), some (.int c)] [] mi ml mr (fc_is (some (.int ((s ||| sp_or (fun k => sp_in (L 4 jj) (nI k)) (fun k => sp_set (fun q => decide (σ 1 q = nI k)) n) m) &&& (sp_one p ^^^ (-1))))) mi ml mr) := by
  intro j
  induction j with
  | zero =>
    intro i c acc  hi hc h_acc
    subst hc
    obtain ⟨⟨e0, e2, e3, e4⟩, hB, hLo, hSo, hLg, hSg⟩ := id hA
    obtain ⟨h5, h7, h6, hs1, hs2, hLp, hLt⟩ := id hLo
    refine fc_run oX11_sees (fun pc => pc == 34) 400 ?_
    refine And.intro rfl (Exists.intro _ (And.intro (c_rplaces hW hA) ?_))
    rintro _ _ _ _ ⟨rfl, rfl, rfl, rfl⟩
    refine And.intro (fun h40 => ?_) (fun h40 => ?_)
    · exact ⟨by rw [h_acc, show i = m by omega, hx]; rfl, rfl, rfl, rfl⟩
    · exact absurd (nI_le (by omega) (by omega)) h40
  | succ j ih =>
    intro i c acc  hi hc h_acc
    subst hc
    obtain ⟨⟨e0, e2, e3, e4⟩, hB, hLo, hSo, hLg, hSg⟩ := id hA
    obtain ⟨h5, h7, h6, hs1, hs2, hLp, hLt⟩ := id hLo
    refine fc_run oX11_sees (fun pc => pc == 34) 400 ?_
    refine And.intro rfl (Exists.intro _ (And.intro (c_rplaces hW hA) ?_))
    rintro _ _ _ _ ⟨rfl, rfl, rfl, rfl⟩
    refine And.intro (fun h40 => ?_) (fun h40 => ?_)
    · exact absurd h40 (nI_ge (by omega) (by omega))
    · refine And.intro rfl (Exists.intro _ (And.intro (c_rpath hW hA hw (by omega)) ?_))
      rintro _ _ _ _ ⟨rfl, rfl, rfl, rfl⟩
      refine And.intro (fun h55 => ?_) (fun h55 => ?_)
      · refine And.intro rfl (Exists.intro _ (And.intro (c_rwhoIn hW hA (fc_nl 0) _) ?_))
        rintro _ _ _ _ ⟨rfl, rfl, rfl, rfl⟩
        exact ih (i + 1) _ _ (by omega) (fc_inc i) (by rw [h_acc, fb_oror, sp_or_t (P := fun k => sp_in (L 4 jj) (nI k)) (f := fun k => sp_set (fun q => decide (σ 1 q = nI k)) n) (decide_eq_true h55)])
      · exact ih (i + 1) _ _ (by omega) (fc_inc i) (by rw [h_acc, fc_or0, ← sp_or_f (P := fun k => sp_in (L 4 jj) (nI k)) (f := fun k => sp_set (fun q => decide (σ 1 q = nI k)) n) (decide_eq_false h55)])

theorem c_rsees (hW : fc_Wd mr) (hA : ra mi 0 n m t sm L σ) (x : Int32) : fc_R E mX11_sees (d + 3) fc_sh [.ref 252, .int x] mi ml mr (fc_is (some (.int (if sp_has (nI n) x then ((fun p => (sp_set (fun q => decide (σ 1 q = σ 1 p)) n ||| sp_or (fun k => sp_in (L 4 (σ 1 p).toNatClampNeg) (nI k)) (fun k => sp_set (fun q => decide (σ 1 q = nI k)) n) m) &&& (sp_one p ^^^ (-1))) x.toNatClampNeg) else -1))) (fc_u mi 252 0 0) ml mr) := by
  replace hA : ra (fc_u mi 252 0 0) 0 n m t sm L σ := hA.off rfl rfl
  obtain ⟨⟨e0, e2, e3, e4⟩, hB, hLo, hSo, hLg, hSg⟩ := id hA
  obtain ⟨h5, h7, h6, hs1, hs2, hLp, hLt⟩ := id hLo
  refine fc_met rfl (Nat.le_of_ble_eq_true rfl) (fc_run oX11_sees (fun pc => pc == 34) 400 ?_)
  refine And.intro rfl ?_
  refine And.intro rfl (Exists.intro _ (And.intro (c_risPerson hW hA _) ?_))
  rintro _ _ _ _ ⟨rfl, rfl, rfl, rfl⟩
  refine And.intro (fun h10 => ?_) (fun h10 => ?_)
  · replace h10 := fc_b0.mp h10
    exact ⟨by simp [h10], rfl, rfl, rfl⟩
  · replace h10 := fc_b1.mp h10
    obtain ⟨p, h_p, ep⟩ := sp_hasN (by omega) h10
    have hcp : x.toNatClampNeg = p := by rw [ep]; exact nI_clamp (by omega)
    obtain ⟨⟨jj, hj, ej⟩, -⟩ := hSo.1 p h_p
    have hcl : (σ 1 p).toNatClampNeg = jj := by rw [ej]; exact nI_clamp (by omega)
    refine And.intro rfl (Exists.intro _ (And.intro (hW 252 24 268 rfl) ?_))
    refine Exists.intro _ (Exists.intro _ (And.intro rfl (And.intro (fc_ixn (fc_na (fc_nl 2) ep) (by omega) (by decide)) ?_)))
    refine And.intro rfl (Exists.intro _ (And.intro (c_rwhoIn hW hA (fc_nl 0) _) ?_))
    rintro _ _ _ _ ⟨rfl, rfl, rfl, rfl⟩
    rw [if_pos h10, hcp]
    simp only [hcl]
    exact l_rsees hW hA ep ((ra_w0 hA h_p).trans ej) hj m 0 _ _ (by omega) rfl (by rw [sp_or, fc_or0, ra_w0 hA h_p])

theorem l_ralone (hW : fc_Wd mr) (hA : ra mi 0 n m t sm L σ) : ∀ (j i : Nat) (c : Int32) (acc : Int32), i + j = n → c = nI i → acc = sp_set (fun p => decide ((sp_set (fun q => decide (σ 1 q = σ 1 p)) n &&& sp_set (sp_aw (L 7) (σ 0 1)) n) = sp_one p)) i → fc_T E mX11_alone (d + 3) (0, 0) fc_sh 20 [some (.ref 252), some (.int (sp_set (sp_aw (L 7) (σ 0 1)) n)), some (.int acc), some (.int c)] [] mi ml mr (fc_is (some (.int (sp_set (fun p => decide ((sp_set (fun q => decide (σ 1 q = σ 1 p)) n &&& sp_set (sp_aw (L 7) (σ 0 1)) n) = sp_one p)) n))) mi ml mr) := by
  intro j
  induction j with
  | zero =>
    intro i c acc  hi hc h_acc
    subst hc
    obtain ⟨⟨e0, e2, e3, e4⟩, hB, hLo, hSo, hLg, hSg⟩ := id hA
    obtain ⟨h5, h7, h6, hs1, hs2, hLp, hLt⟩ := id hLo
    refine fc_run oX11_alone (fun pc => pc == 20) 400 ?_
    refine And.intro rfl (Exists.intro _ (And.intro (c_rpersons hW hA) ?_))
    rintro _ _ _ _ ⟨rfl, rfl, rfl, rfl⟩
    refine And.intro (fun h25 => ?_) (fun h25 => ?_)
    · exact ⟨by rw [h_acc, show i = n by omega], rfl, rfl, rfl⟩
    · exact absurd (nI_le (by omega) (by omega)) h25
  | succ j ih =>
    intro i c acc  hi hc h_acc
    subst hc
    obtain ⟨⟨e0, e2, e3, e4⟩, hB, hLo, hSo, hLg, hSg⟩ := id hA
    obtain ⟨h5, h7, h6, hs1, hs2, hLp, hLt⟩ := id hLo
    refine fc_run oX11_alone (fun pc => pc == 20) 400 ?_
    refine And.intro rfl (Exists.intro _ (And.intro (c_rpersons hW hA) ?_))
    rintro _ _ _ _ ⟨rfl, rfl, rfl, rfl⟩
    refine And.intro (fun h25 => ?_) (fun h25 => ?_)
    · exact absurd h25 (nI_ge (by omega) (by omega))
    · refine And.intro rfl (Exists.intro _ (And.intro (hW 252 24 268 rfl) ?_))
      refine Exists.intro _ (Exists.intro _ (And.intro rfl (And.intro (fc_ixn (fc_na (fc_nl 2) rfl) (by omega) (by decide)) ?_)))
      refine And.intro rfl (Exists.intro _ (And.intro (c_rwhoIn hW hA (fc_nl 0) _) ?_))
      rintro _ _ _ _ ⟨rfl, rfl, rfl, rfl⟩
      refine And.intro (fun h47 => ?_) (fun h47 => ?_)
      · rw [ra_w0 hA (show i < n by omega)] at h47
        exact ih (i + 1) _ _ (by omega) (fc_inc i) (by rw [h_acc]; exact sp_set_t (P := fun p => decide ((sp_set (fun q => decide (σ 1 q = σ 1 p)) n &&& sp_set (sp_aw (L 7) (σ 0 1)) n) = sp_one p)) (decide_eq_true h47))
      · rw [ra_w0 hA (show i < n by omega)] at h47
        exact ih (i + 1) _ _ (by omega) (fc_inc i) (by rw [h_acc, fc_or0]; exact sp_set_f (P := fun p => decide ((sp_set (fun q => decide (σ 1 q = σ 1 p)) n &&& sp_set (sp_aw (L 7) (σ 0 1)) n) = sp_one p)) (decide_eq_false h47))

theorem c_ralone (hW : fc_Wd mr) (hA : ra mi 0 n m t sm L σ) : fc_R E mX11_alone (d + 3) fc_sh [.ref 252] mi ml mr (fc_is (some (.int (sp_set (fun p => decide ((sp_set (fun q => decide (σ 1 q = σ 1 p)) n &&& sp_set (sp_aw (L 7) (σ 0 1)) n) = sp_one p)) n))) (fc_u mi 252 0 0) ml mr) := by
  replace hA : ra (fc_u mi 252 0 0) 0 n m t sm L σ := hA.off rfl rfl
  obtain ⟨⟨e0, e2, e3, e4⟩, hB, hLo, hSo, hLg, hSg⟩ := id hA
  obtain ⟨h5, h7, h6, hs1, hs2, hLp, hLt⟩ := id hLo
  refine fc_met rfl (Nat.le_of_ble_eq_true rfl) (fc_run oX11_alone (fun pc => pc == 20) 400 ?_)
  refine And.intro rfl ?_
  refine And.intro rfl (Exists.intro _ (And.intro (hW 252 24 268 rfl) ?_))
  refine Exists.intro _ (Exists.intro _ (And.intro rfl (And.intro (fc_ixn (fc_nl 1) (by omega) (by decide)) ?_)))
  refine And.intro rfl (Exists.intro _ (And.intro (c_rawakeAt hW hA _) ?_))
  rintro _ _ _ _ ⟨rfl, rfl, rfl, rfl⟩
  rw [ra_10 hA]
  exact l_ralone hW hA n 0 _ _ (by omega) rfl rfl

theorem fb_oridem (x y : Int32) : (x ||| y) ||| y = x ||| y := b_ext (fun i _ => by simp only [b_or, Bool.or_assoc, Bool.or_self])
theorem a_cutor (b : Bool) (s w : Int32) : (if b then s ||| w else s) ||| w = if (b || (true && true)) then s ||| w else s := by
  cases b
  · simp
  · simp [fb_oridem]
theorem l_rcuts2 (hW : fc_Wd mr) (hA : ra mi 0 n m t sm L σ) {k : Nat} (hk : k < m) (s : Int32) {Q : fc_Q} (K : ∀ (c' acc' : Int32) (x3 x4 x5 : Option Value), acc' = (if fg_cut (L 4) m k then s ||| sp_one k else s) → c' = nI (k + 1) → fc_T E mX11_cuts (d + 3) (0, 0) fc_sh 9 [some (.ref 252), some (.int acc'), some (.int c'), x3, x4, x5] [] mi ml mr Q) : ∀ (j i : Nat) (c acc : Int32) (x5 : Option Value), i + j = m → c = nI i → acc = (if sp_any (fun o => sp_in (fg_ot (L 4) m k) (nI o) && !decide (fg_ot (L 4) m k &&& (fg_it (L 4) m (sp_one k) (sp_one o) 7 ^^^ (-1)) = 0)) i then s ||| sp_one k else s) → fc_T E mX11_cuts (d + 3) (0, 0) fc_sh 33 [some (.ref 252), some (.int acc), some (.int (nI k)), some (.int (fg_ot (L 4) m k)), some (.int c), x5] [] mi ml mr (Q) := by
  intro j
  induction j with
  | zero =>
    intro i c acc x5 hi hc h_acc
    subst hc
    obtain ⟨⟨e0, e2, e3, e4⟩, hB, hLo, hSo, hLg, hSg⟩ := id hA
    obtain ⟨h5, h7, h6, hs1, hs2, hLp, hLt⟩ := id hLo
    refine fc_run oX11_cuts (fun pc => pc == 33 || pc == 9) 400 ?_
    refine And.intro rfl (Exists.intro _ (And.intro (c_rplaces hW hA) ?_))
    rintro _ _ _ _ ⟨rfl, rfl, rfl, rfl⟩
    refine And.intro (fun h39 => ?_) (fun h39 => ?_)
    · exact K _ _ _ _ _ (by rw [h_acc, show i = m by omega]; rfl) (fc_inc k)
    · exact absurd (nI_le (by omega) (by omega)) h39
  | succ j ih =>
    intro i c acc x5 hi hc h_acc
    subst hc
    obtain ⟨⟨e0, e2, e3, e4⟩, hB, hLo, hSo, hLg, hSg⟩ := id hA
    obtain ⟨h5, h7, h6, hs1, hs2, hLp, hLt⟩ := id hLo
    refine fc_run oX11_cuts (fun pc => pc == 33 || pc == 9) 400 ?_
    refine And.intro rfl (Exists.intro _ (And.intro (c_rplaces hW hA) ?_))
    rintro _ _ _ _ ⟨rfl, rfl, rfl, rfl⟩
    refine And.intro (fun h39 => ?_) (fun h39 => ?_)
    · exact absurd h39 (nI_ge (by omega) (by omega))
    · refine And.intro (fun h49 => ?_) (fun h49 => ?_)
      · refine And.intro rfl (Exists.intro _ (And.intro (c_rreachBy hW hA rfl _) ?_))
        rintro _ _ _ _ ⟨rfl, rfl, rfl, rfl⟩
        refine And.intro (fun h65 => ?_) (fun h65 => ?_)
        · change fg_ot (L 4) m k &&& (fg_it (L 4) m (sp_one k) (sp_one i) 7 ^^^ (-1)) = 0 at h65
          refine And.intro (fun h78 => ?_) (fun h78 => ?_)
          · exact ih (i + 1) _ _ _ (by omega) (fc_inc i) (by rw [h_acc, fc_or0, sp_any, nd_f h65]; simp)
          · exact absurd rfl h78
        · change ¬ fg_ot (L 4) m k &&& (fg_it (L 4) m (sp_one k) (sp_one i) 7 ^^^ (-1)) = 0 at h65
          refine And.intro (fun h78 => ?_) (fun h78 => ?_)
          · exact absurd h78 (by decide)
          · exact ih (i + 1) _ _ _ (by omega) (fc_inc i) (by rw [h_acc, sp_any, sp_in, decide_eq_true h49, nd_t h65]; exact a_cutor _ _ _)
      · refine And.intro (fun h78 => ?_) (fun h78 => ?_)
        · exact ih (i + 1) _ _ _ (by omega) (fc_inc i) (by rw [h_acc, fc_or0, sp_any, sp_in, decide_eq_false h49]; simp)
        · exact absurd rfl h78

theorem l_rcuts (hW : fc_Wd mr) (hA : ra mi 0 n m t sm L σ) : ∀ (j i : Nat) (c acc : Int32) (x3 x4 x5 : Option Value), i + j = m → c = nI i → acc = sp_set (fg_cut (L 4) m) i → fc_T E mX11_cuts (d + 3) (0, 0) fc_sh 9 [some (.ref 252), some (.int acc), some (.int c), x3, x4, x5] [] mi ml mr (fc_is (some (.int (sp_set (fg_cut (L 4) m) m))) mi ml mr) := by
  intro j
  induction j with
  | zero =>
    intro i c acc x3 x4 x5 hi hc h_acc
    subst hc
    obtain ⟨⟨e0, e2, e3, e4⟩, hB, hLo, hSo, hLg, hSg⟩ := id hA
    obtain ⟨h5, h7, h6, hs1, hs2, hLp, hLt⟩ := id hLo
    refine fc_run oX11_cuts (fun pc => pc == 9 || pc == 33) 400 ?_
    refine And.intro rfl (Exists.intro _ (And.intro (c_rplaces hW hA) ?_))
    rintro _ _ _ _ ⟨rfl, rfl, rfl, rfl⟩
    refine And.intro (fun h14 => ?_) (fun h14 => ?_)
    · exact ⟨by rw [h_acc, show i = m by omega], rfl, rfl, rfl⟩
    · exact absurd (nI_le (by omega) (by omega)) h14
  | succ j ih =>
    intro i c acc x3 x4 x5 hi hc h_acc
    subst hc
    obtain ⟨⟨e0, e2, e3, e4⟩, hB, hLo, hSo, hLg, hSg⟩ := id hA
    obtain ⟨h5, h7, h6, hs1, hs2, hLp, hLt⟩ := id hLo
    refine fc_run oX11_cuts (fun pc => pc == 9 || pc == 33) 400 ?_
    refine And.intro rfl (Exists.intro _ (And.intro (c_rplaces hW hA) ?_))
    rintro _ _ _ _ ⟨rfl, rfl, rfl, rfl⟩
    refine And.intro (fun h14 => ?_) (fun h14 => ?_)
    · exact absurd h14 (nI_ge (by omega) (by omega))
    · refine And.intro rfl (Exists.intro _ (And.intro (c_rreachBy hW hA rfl _) ?_))
      rintro _ _ _ _ ⟨rfl, rfl, rfl, rfl⟩
      exact l_rcuts2 hW hA (show i < m by omega) acc (fun c' acc' a3 a4 a5 ha hc' => by
            subst hc'
            refine ih (i + 1) _ _ _ _ _ (by omega) rfl ?_
            rw [ha, h_acc, sp_set]; rfl) m 0 _ _ _ (by omega) rfl rfl

theorem c_rcuts (hW : fc_Wd mr) (hA : ra mi 0 n m t sm L σ) : fc_R E mX11_cuts (d + 3) fc_sh [.ref 252] mi ml mr (fc_is (some (.int (sp_set (fg_cut (L 4) m) m))) (fc_u mi 252 0 0) ml mr) := by
  replace hA : ra (fc_u mi 252 0 0) 0 n m t sm L σ := hA.off rfl rfl
  obtain ⟨⟨e0, e2, e3, e4⟩, hB, hLo, hSo, hLg, hSg⟩ := id hA
  obtain ⟨h5, h7, h6, hs1, hs2, hLp, hLt⟩ := id hLo
  refine fc_met rfl (Nat.le_of_ble_eq_true rfl) (fc_run oX11_cuts (fun pc => pc == 9) 400 ?_)
  refine And.intro rfl ?_
  exact l_rcuts hW hA m 0 _ _ _ _ _ (by omega) rfl rfl

theorem l_rhub2 (hW : fc_Wd mr) (hA : ra mi 0 n m t sm L σ) {k : Nat} (hk : k < m) (be le : Int32) {Q : fc_Q} (K : ∀ (mo : Int32) (x5 x6 : Option Value), mo = sp_fr (fun y => fg_far (L 4) m k (nI y)) m → fc_T E mX11_hub (d + 3) (0, 0) fc_sh 75 [some (.ref 252), some (.int be), some (.int le), some (.int (nI k)), some (.int mo), x5, x6] [] mi ml mr Q) : ∀ (j i : Nat) (c mo : Int32) (x6 : Option Value), i + j = m → c = nI i → mo = sp_fr (fun y => fg_far (L 4) m k (nI y)) i → fc_T E mX11_hub (d + 3) (0, 0) fc_sh 27 [some (.ref 252), some (.int be), some (.int le), some (.int (nI k)), some (.int mo), some (.int c), x6] [] mi ml mr (Q) := by
  intro j
  induction j with
  | zero =>
    intro i c mo x6 hi hc h_mo
    subst hc
    obtain ⟨⟨e0, e2, e3, e4⟩, hB, hLo, hSo, hLg, hSg⟩ := id hA
    obtain ⟨h5, h7, h6, hs1, hs2, hLp, hLt⟩ := id hLo
    refine fc_run oX11_hub (fun pc => pc == 27 || pc == 75) 400 ?_
    refine And.intro rfl (Exists.intro _ (And.intro (c_rplaces hW hA) ?_))
    rintro _ _ _ _ ⟨rfl, rfl, rfl, rfl⟩
    refine And.intro (fun h33 => ?_) (fun h33 => ?_)
    · exact K _ _ _ (by rw [h_mo, show i = m by omega])
    · exact absurd (nI_le (by omega) (by omega)) h33
  | succ j ih =>
    intro i c mo x6 hi hc h_mo
    subst hc
    obtain ⟨⟨e0, e2, e3, e4⟩, hB, hLo, hSo, hLg, hSg⟩ := id hA
    obtain ⟨h5, h7, h6, hs1, hs2, hLp, hLt⟩ := id hLo
    refine fc_run oX11_hub (fun pc => pc == 27 || pc == 75) 400 ?_
    refine And.intro rfl (Exists.intro _ (And.intro (c_rplaces hW hA) ?_))
    rintro _ _ _ _ ⟨rfl, rfl, rfl, rfl⟩
    refine And.intro (fun h33 => ?_) (fun h33 => ?_)
    · exact absurd h33 (nI_ge (by omega) (by omega))
    · refine And.intro rfl (Exists.intro _ (And.intro (c_rfarOf hW hA rfl _) ?_))
      rintro _ _ _ _ ⟨rfl, rfl, rfl, rfl⟩
      refine And.intro (fun h50 => ?_) (fun h50 => ?_)
      · exact ih (i + 1) _ _ _ (by omega) (fc_inc i) (by rw [h_mo, sp_fr, if_neg (Int32.not_lt.mpr h50)])
      · refine And.intro (fun h57 => ?_) (fun h57 => ?_)
        · exact ih (i + 1) _ _ _ (by omega) (fc_inc i) (by rw [h_mo] at h57; rw [h_mo, sp_fr, if_pos (Int32.not_le.mp h50), if_neg (Int32.not_lt.mpr h57)])
        · exact ih (i + 1) _ _ _ (by omega) (fc_inc i) (by rw [h_mo] at h57; rw [sp_fr, if_pos (Int32.not_le.mp h50), if_pos (Int32.not_le.mp h57)])

theorem l_rhub3 (hW : fc_Wd mr) (hA : ra mi 0 n m t sm L σ) {i : Nat} {be le mo : Int32} {x5 x6 : Option Value} {Q : fc_Q} (h_be : be = (sp_ag (fun k => sp_fr (fun y => fg_far (L 4) m k (nI y)) m) i).1) (h_le : le = (sp_ag (fun k => sp_fr (fun y => fg_far (L 4) m k (nI y)) m) i).2) (ha : mo = (fun k => sp_fr (fun y => fg_far (L 4) m k (nI y)) m) i)
    (K : ∀ (be' le' c : Int32) (x4 x5 x6 : Option Value), be' = (sp_ag (fun k => sp_fr (fun y => fg_far (L 4) m k (nI y)) m) (i + 1)).1 → le' = (sp_ag (fun k => sp_fr (fun y => fg_far (L 4) m k (nI y)) m) (i + 1)).2 → c = nI (i + 1) → fc_T E mX11_hub (d + 3) (0, 0) fc_sh 13 [some (.ref 252), some (.int be'), some (.int le'), some (.int c), x4, x5, x6] [] mi ml mr Q) :
    fc_T E mX11_hub (d + 3) (0, 0) fc_sh 75 [some (.ref 252), some (.int be), some (.int le), some (.int (nI i)), some (.int mo), x5, x6] [] mi ml mr Q := by
  refine fc_run oX11_hub (fun pc => pc == 13) 400 ?_
  refine And.intro (fun h78 => ?_) (fun h78 => ?_)
  · refine And.intro (fun h90 => ?_) (fun h90 => ?_)
    · exact K _ _ _ _ _ _ (by rw [h_be]; rw [ha, h_le] at h78; simp only [sp_ag, if_pos h78]) (by rw [h_le]; rw [ha, h_le] at h78; simp only [sp_ag, if_pos h78]) (fc_inc i)
    · exact absurd h78 h90
  · refine And.intro (fun h90 => ?_) (fun h90 => ?_)
    · exact absurd h90 h78
    · exact K _ _ _ _ _ _ (by rw [ha, h_le] at h78; simp only [sp_ag, if_neg h78]) (by rw [ha]; rw [ha, h_le] at h78; simp only [sp_ag, if_neg h78]) (fc_inc i)
theorem l_rhub (hW : fc_Wd mr) (hA : ra mi 0 n m t sm L σ) : ∀ (j i : Nat) (c be le : Int32) (x4 x5 x6 : Option Value), i + j = m → c = nI i → be = (sp_ag (fun k => sp_fr (fun y => fg_far (L 4) m k (nI y)) m) i).1 → le = (sp_ag (fun k => sp_fr (fun y => fg_far (L 4) m k (nI y)) m) i).2 → fc_T E mX11_hub (d + 3) (0, 0) fc_sh 13 [some (.ref 252), some (.int be), some (.int le), some (.int c), x4, x5, x6] [] mi ml mr (fc_is (some (.int ((sp_ag (fun k => sp_fr (fun y => fg_far (L 4) m k (nI y)) m) m).1))) mi ml mr) := by
  intro j
  induction j with
  | zero =>
    intro i c be le x4 x5 x6 hi hc h_be h_le
    subst hc
    obtain ⟨⟨e0, e2, e3, e4⟩, hB, hLo, hSo, hLg, hSg⟩ := id hA
    obtain ⟨h5, h7, h6, hs1, hs2, hLp, hLt⟩ := id hLo
    refine fc_run oX11_hub (fun pc => pc == 13 || pc == 27) 400 ?_
    refine And.intro rfl (Exists.intro _ (And.intro (c_rplaces hW hA) ?_))
    rintro _ _ _ _ ⟨rfl, rfl, rfl, rfl⟩
    refine And.intro (fun h18 => ?_) (fun h18 => ?_)
    · exact ⟨by rw [h_be, show i = m by omega], rfl, rfl, rfl⟩
    · exact absurd (nI_le (by omega) (by omega)) h18
  | succ j ih =>
    intro i c be le x4 x5 x6 hi hc h_be h_le
    subst hc
    obtain ⟨⟨e0, e2, e3, e4⟩, hB, hLo, hSo, hLg, hSg⟩ := id hA
    obtain ⟨h5, h7, h6, hs1, hs2, hLp, hLt⟩ := id hLo
    refine fc_run oX11_hub (fun pc => pc == 13 || pc == 27) 400 ?_
    refine And.intro rfl (Exists.intro _ (And.intro (c_rplaces hW hA) ?_))
    rintro _ _ _ _ ⟨rfl, rfl, rfl, rfl⟩
    refine And.intro (fun h18 => ?_) (fun h18 => ?_)
    · exact absurd h18 (nI_ge (by omega) (by omega))
    · exact l_rhub2 hW hA (show i < m by omega) be le (fun mo y5 y6 hmo => l_rhub3 hW hA h_be h_le hmo (fun be' le' c' y4 y5 y6 h1 h2 h3 => ih (i + 1) _ _ _ _ _ _ (by omega) h3 h1 h2)) m 0 _ _ _ (by omega) rfl rfl

theorem c_rhub (hW : fc_Wd mr) (hA : ra mi 0 n m t sm L σ) : fc_R E mX11_hub (d + 3) fc_sh [.ref 252] mi ml mr (fc_is (some (.int ((sp_ag (fun k => sp_fr (fun y => fg_far (L 4) m k (nI y)) m) m).1))) (fc_u mi 252 0 0) ml mr) := by
  replace hA : ra (fc_u mi 252 0 0) 0 n m t sm L σ := hA.off rfl rfl
  obtain ⟨⟨e0, e2, e3, e4⟩, hB, hLo, hSo, hLg, hSg⟩ := id hA
  obtain ⟨h5, h7, h6, hs1, hs2, hLp, hLt⟩ := id hLo
  refine fc_met rfl (Nat.le_of_ble_eq_true rfl) (fc_run oX11_hub (fun pc => pc == 13) 400 ?_)
  refine And.intro rfl ?_
  exact l_rhub hW hA m 0 _ _ _ _ _ _ (by omega) rfl rfl rfl

theorem sp_w1_s2 {f : Nat → Nat → Int32} {k i : Nat} {s : Int32 × Int32} (h : f k (k + 1 + i) ≤ (sp_w1 f k s i).2) : sp_w1 f k s (i + 1) = sp_w1 f k s i := by rw [sp_w1, if_pos h]
theorem sp_w1_s1 {f : Nat → Nat → Int32} {k i : Nat} {s : Int32 × Int32} (h : (1000 : Int32) ≤ f k (k + 1 + i)) : sp_w1 f k s (i + 1) = sp_w1 f k s i := by
  rw [sp_w1]
  by_cases q : f k (k + 1 + i) ≤ (sp_w1 f k s i).2
  · rw [if_pos q]
  · rw [if_neg q, if_pos h]
theorem sp_w1_s3 {f : Nat → Nat → Int32} {k i : Nat} {s : Int32 × Int32} (h : ¬ f k (k + 1 + i) ≤ (sp_w1 f k s i).2) (h2 : ¬ (1000 : Int32) ≤ f k (k + 1 + i)) : sp_w1 f k s (i + 1) = (8 * nI k + nI (k + 1 + i), f k (k + 1 + i)) := by rw [sp_w1, if_neg h, if_neg h2]
theorem sp_mn_a {f : Nat → Int32} {i : Nat} {v : Int32} (e : f i = v) (h : sp_mn f i ≤ v) : sp_mn f i = sp_mn f (i + 1) := by rw [sp_mn, e, if_neg (Int32.not_lt.mpr h)]
theorem sp_mn_b {f : Nat → Int32} {i : Nat} {v : Int32} (e : f i = v) (h : ¬ sp_mn f i ≤ v) : v = sp_mn f (i + 1) := by rw [sp_mn, e, if_pos (Int32.not_le.mp h)]
theorem l_rwide2 (hW : fc_Wd mr) (hA : ra mi 0 n m t sm L σ) {k : Nat} (hk : k < m) (s : Int32 × Int32) {Q : fc_Q} (K : ∀ (be le c : Int32) (x4 x5 x6 : Option Value), be = (sp_w1 (fun x y => fg_far (L 4) m x (nI y)) k s (m - (k + 1))).1 → le = (sp_w1 (fun x y => fg_far (L 4) m x (nI y)) k s (m - (k + 1))).2 → c = nI (k + 1) → fc_T E mX11_wide (d + 3) (0, 0) fc_sh 11 [some (.ref 252), some (.int be), some (.int le), some (.int c), x4, x5, x6] [] mi ml mr Q) : ∀ (j i : Nat) (c be le : Int32) (x5 x6 : Option Value), i + j = m - (k + 1) → c = nI (k + 1 + i) → be = (sp_w1 (fun x y => fg_far (L 4) m x (nI y)) k s i).1 → le = (sp_w1 (fun x y => fg_far (L 4) m x (nI y)) k s i).2 → fc_T E mX11_wide (d + 3) (0, 0) fc_sh 24 [some (.ref 252), some (.int be), some (.int le), some (.int (nI k)), some (.int c), x5, x6] [] mi ml mr (Q) := by
  intro j
  induction j with
  | zero =>
    intro i c be le x5 x6 hi hc h_be h_le
    subst hc
    obtain ⟨⟨e0, e2, e3, e4⟩, hB, hLo, hSo, hLg, hSg⟩ := id hA
    obtain ⟨h5, h7, h6, hs1, hs2, hLp, hLt⟩ := id hLo
    refine fc_run oX11_wide (fun pc => pc == 24 || pc == 11) 400 ?_
    refine And.intro rfl (Exists.intro _ (And.intro (c_rplaces hW hA) ?_))
    rintro _ _ _ _ ⟨rfl, rfl, rfl, rfl⟩
    refine And.intro (fun h30 => ?_) (fun h30 => ?_)
    · exact K _ _ _ _ _ _ (by rw [h_be, show i = m - (k + 1) by omega]) (by rw [h_le, show i = m - (k + 1) by omega]) (fc_inc k)
    · exact absurd (nI_le (by omega) (by omega)) h30
  | succ j ih =>
    intro i c be le x5 x6 hi hc h_be h_le
    subst hc
    obtain ⟨⟨e0, e2, e3, e4⟩, hB, hLo, hSo, hLg, hSg⟩ := id hA
    obtain ⟨h5, h7, h6, hs1, hs2, hLp, hLt⟩ := id hLo
    refine fc_run oX11_wide (fun pc => pc == 24 || pc == 11) 400 ?_
    refine And.intro rfl (Exists.intro _ (And.intro (c_rplaces hW hA) ?_))
    rintro _ _ _ _ ⟨rfl, rfl, rfl, rfl⟩
    refine And.intro (fun h30 => ?_) (fun h30 => ?_)
    · exact absurd h30 (nI_ge (by omega) (by omega))
    · refine And.intro rfl (Exists.intro _ (And.intro (c_rfarOf hW hA rfl _) ?_))
      rintro _ _ _ _ ⟨rfl, rfl, rfl, rfl⟩
      refine And.intro (fun h47 => ?_) (fun h47 => ?_)
      · refine And.intro (fun h65 => ?_) (fun h65 => ?_)
        · refine And.intro (fun h82 => ?_) (fun h82 => ?_)
          · exact ih (i + 1) _ _ _ _ _ (by omega) (fc_inc _) (by rw [h_be, sp_w1_s1 (f := fun x y => fg_far (L 4) m x (nI y)) h47]) (by rw [h_le, sp_w1_s1 (f := fun x y => fg_far (L 4) m x (nI y)) h47])
          · exact absurd rfl h82
        · exact absurd rfl h65
      · refine And.intro (fun h53 => ?_) (fun h53 => ?_)
        · refine And.intro (fun h65 => ?_) (fun h65 => ?_)
          · refine And.intro (fun h82 => ?_) (fun h82 => ?_)
            · exact ih (i + 1) _ _ _ _ _ (by omega) (fc_inc _) (by rw [h_le] at h53; rw [h_be, sp_w1_s2 (f := fun x y => fg_far (L 4) m x (nI y)) h53]) (by rw [h_le] at h53; rw [h_le, sp_w1_s2 (f := fun x y => fg_far (L 4) m x (nI y)) h53])
            · exact absurd rfl h82
          · exact absurd rfl h65
        · refine And.intro (fun h65 => ?_) (fun h65 => ?_)
          · exact absurd h65 (by decide)
          · refine And.intro (fun h82 => ?_) (fun h82 => ?_)
            · exact absurd h82 (by decide)
            · exact ih (i + 1) _ _ _ _ _ (by omega) (fc_inc _) (by rw [h_le] at h53; rw [sp_w1_s3 (f := fun x y => fg_far (L 4) m x (nI y)) h53 h47]) (by rw [h_le] at h53; rw [sp_w1_s3 (f := fun x y => fg_far (L 4) m x (nI y)) h53 h47])

theorem l_rwide (hW : fc_Wd mr) (hA : ra mi 0 n m t sm L σ) : ∀ (j i : Nat) (c be le : Int32) (x4 x5 x6 : Option Value), i + j = m → c = nI i → be = (sp_w2 (fun x y => fg_far (L 4) m x (nI y)) m i).1 → le = (sp_w2 (fun x y => fg_far (L 4) m x (nI y)) m i).2 → fc_T E mX11_wide (d + 3) (0, 0) fc_sh 11 [some (.ref 252), some (.int be), some (.int le), some (.int c), x4, x5, x6] [] mi ml mr (fc_is (some (.int ((sp_w2 (fun x y => fg_far (L 4) m x (nI y)) m m).1))) mi ml mr) := by
  intro j
  induction j with
  | zero =>
    intro i c be le x4 x5 x6 hi hc h_be h_le
    subst hc
    obtain ⟨⟨e0, e2, e3, e4⟩, hB, hLo, hSo, hLg, hSg⟩ := id hA
    obtain ⟨h5, h7, h6, hs1, hs2, hLp, hLt⟩ := id hLo
    refine fc_run oX11_wide (fun pc => pc == 11 || pc == 24) 400 ?_
    refine And.intro rfl (Exists.intro _ (And.intro (c_rplaces hW hA) ?_))
    rintro _ _ _ _ ⟨rfl, rfl, rfl, rfl⟩
    refine And.intro (fun h16 => ?_) (fun h16 => ?_)
    · exact ⟨by rw [h_be, show i = m by omega], rfl, rfl, rfl⟩
    · exact absurd (nI_le (by omega) (by omega)) h16
  | succ j ih =>
    intro i c be le x4 x5 x6 hi hc h_be h_le
    subst hc
    obtain ⟨⟨e0, e2, e3, e4⟩, hB, hLo, hSo, hLg, hSg⟩ := id hA
    obtain ⟨h5, h7, h6, hs1, hs2, hLp, hLt⟩ := id hLo
    refine fc_run oX11_wide (fun pc => pc == 11 || pc == 24) 400 ?_
    refine And.intro rfl (Exists.intro _ (And.intro (c_rplaces hW hA) ?_))
    rintro _ _ _ _ ⟨rfl, rfl, rfl, rfl⟩
    refine And.intro (fun h16 => ?_) (fun h16 => ?_)
    · exact absurd h16 (nI_ge (by omega) (by omega))
    · exact l_rwide2 hW hA (show i < m by omega) (sp_w2 (fun x y => fg_far (L 4) m x (nI y)) m i) (fun be' le' c' y4 y5 y6 h1 h2 h3 => ih (i + 1) _ _ _ _ _ _ (by omega) h3 h1 h2) (m - (i + 1)) 0 _ _ _ _ _ (by omega) (fc_inc i) h_be h_le

theorem c_rwide (hW : fc_Wd mr) (hA : ra mi 0 n m t sm L σ) : fc_R E mX11_wide (d + 3) fc_sh [.ref 252] mi ml mr (fc_is (some (.int ((sp_w2 (fun x y => fg_far (L 4) m x (nI y)) m m).1))) (fc_u mi 252 0 0) ml mr) := by
  replace hA : ra (fc_u mi 252 0 0) 0 n m t sm L σ := hA.off rfl rfl
  obtain ⟨⟨e0, e2, e3, e4⟩, hB, hLo, hSo, hLg, hSg⟩ := id hA
  obtain ⟨h5, h7, h6, hs1, hs2, hLp, hLt⟩ := id hLo
  refine fc_met rfl (Nat.le_of_ble_eq_true rfl) (fc_run oX11_wide (fun pc => pc == 11) 400 ?_)
  refine And.intro rfl ?_
  exact l_rwide hW hA m 0 _ _ _ _ _ _ (by omega) rfl rfl rfl

theorem l_rmeet (hW : fc_Wd mr) (hA : ra mi 0 n m t sm L σ) {x z : Int32} {p q : Nat} (ep : x = nI p) (eq : z = nI q) (hp : p < n) (hq : q < n) (hne : ¬ x = z) : ∀ (j i : Nat) (c : Int32) (acc : Int32) (x5 : Option Value) (x6 : Option Value) (x7 : Option Value), i + j = m → c = nI i → acc = sp_mn (fun k => if a_mt L σ m p (nI k) < a_mt L σ m q (nI k) then a_mt L σ m q (nI k) else a_mt L σ m p (nI k)) i → fc_T E mX11_meet (d + 4) (0, 0) fc_sh 12 [some (.ref 252), some (.int x), some (.int z), some (.int acc), some (.int c), x5, x6, x7] [] mi ml mr (fc_is (some (.int (sp_non (sp_mn (fun k => if a_mt L σ m p (nI k) < a_mt L σ m q (nI k) then a_mt L σ m q (nI k) else a_mt L σ m p (nI k)) m)))) mi ml mr) := by
  intro j
  induction j with
  | zero =>
    intro i c acc x5 x6 x7 hi hc h_acc
    subst hc
    obtain ⟨⟨e0, e2, e3, e4⟩, hB, hLo, hSo, hLg, hSg⟩ := id hA
    obtain ⟨h5, h7, h6, hs1, hs2, hLp, hLt⟩ := id hLo
    refine fc_run oX11_meet (fun pc => pc == 12) 400 ?_
    refine And.intro rfl (Exists.intro _ (And.intro (c_rplaces hW hA) ?_))
    rintro _ _ _ _ ⟨rfl, rfl, rfl, rfl⟩
    refine And.intro (fun h18 => ?_) (fun h18 => ?_)
    · refine Exists.intro _ (And.intro (c_rtold _) ?_)
      rintro _ _ _ _ ⟨rfl, rfl, rfl, rfl⟩
      exact ⟨by rw [h_acc, show i = m by omega], rfl, rfl, rfl⟩
    · exact absurd (nI_le (by omega) (by omega)) h18
  | succ j ih =>
    intro i c acc x5 x6 x7 hi hc h_acc
    subst hc
    obtain ⟨⟨e0, e2, e3, e4⟩, hB, hLo, hSo, hLg, hSg⟩ := id hA
    obtain ⟨h5, h7, h6, hs1, hs2, hLp, hLt⟩ := id hLo
    refine fc_run oX11_meet (fun pc => pc == 12) 400 ?_
    refine And.intro rfl (Exists.intro _ (And.intro (c_rplaces hW hA) ?_))
    rintro _ _ _ _ ⟨rfl, rfl, rfl, rfl⟩
    refine And.intro (fun h18 => ?_) (fun h18 => ?_)
    · exact absurd h18 (nI_ge (by omega) (by omega))
    · refine And.intro rfl (Exists.intro _ (And.intro (c_risPerson hW hA _) ?_))
      rintro _ _ _ _ ⟨rfl, rfl, rfl, rfl⟩
      refine And.intro (fun h26 => ?_) (fun h26 => ?_)
      · rw [ep, sp_has_nI hp (by omega)] at h26; cases h26
      · replace h26 := fc_b1.mp h26
        refine And.intro rfl (Exists.intro _ (And.intro (c_risPerson hW hA _) ?_))
        rintro _ _ _ _ ⟨rfl, rfl, rfl, rfl⟩
        refine And.intro (fun h34 => ?_) (fun h34 => ?_)
        · rw [eq, sp_has_nI hq (by omega)] at h34; cases h34
        · replace h34 := fc_b1.mp h34
          refine And.intro (fun h39 => ?_) (fun h39 => ?_)
          · exact absurd h39 hne
          · refine And.intro rfl (Exists.intro _ (And.intro (c_rsoonOf hW hA ep rfl (by omega) (by omega)) ?_))
            rintro _ _ _ _ ⟨rfl, rfl, rfl, rfl⟩
            refine And.intro rfl (Exists.intro _ (And.intro (c_rsoonOf hW hA eq rfl (by omega) (by omega)) ?_))
            rintro _ _ _ _ ⟨rfl, rfl, rfl, rfl⟩
            refine And.intro (fun h64 => ?_) (fun h64 => ?_)
            · refine And.intro (fun h79 => ?_) (fun h79 => ?_)
              · exact ih (i + 1) _ _ _ _ _ (by omega) (fc_inc i) (by rw [h_acc] at h79; rw [h_acc]; exact sp_mn_a (show (fun k => if a_mt L σ m p (nI k) < a_mt L σ m q (nI k) then a_mt L σ m q (nI k) else a_mt L σ m p (nI k)) i = _ from (a_max0 _ _).trans (if_pos h64)) h79)
              · exact ih (i + 1) _ _ _ _ _ (by omega) (fc_inc i) (by rw [h_acc] at h79; exact sp_mn_b (show (fun k => if a_mt L σ m p (nI k) < a_mt L σ m q (nI k) then a_mt L σ m q (nI k) else a_mt L σ m p (nI k)) i = _ from (a_max0 _ _).trans (if_pos h64)) h79)
            · refine And.intro (fun h79 => ?_) (fun h79 => ?_)
              · exact ih (i + 1) _ _ _ _ _ (by omega) (fc_inc i) (by rw [h_acc] at h79; rw [h_acc]; exact sp_mn_a (show (fun k => if a_mt L σ m p (nI k) < a_mt L σ m q (nI k) then a_mt L σ m q (nI k) else a_mt L σ m p (nI k)) i = _ from (a_max0 _ _).trans (if_neg h64)) h79)
              · exact ih (i + 1) _ _ _ _ _ (by omega) (fc_inc i) (by rw [h_acc] at h79; exact sp_mn_b (show (fun k => if a_mt L σ m p (nI k) < a_mt L σ m q (nI k) then a_mt L σ m q (nI k) else a_mt L σ m p (nI k)) i = _ from (a_max0 _ _).trans (if_neg h64)) h79)

theorem c_rmeet (hW : fc_Wd mr) (hA : ra mi 0 n m t sm L σ) (x z : Int32) : fc_R E mX11_meet (d + 4) fc_sh [.ref 252, .int x, .int z] mi ml mr (fc_is (some (.int (if sp_has (nI n) x && (sp_has (nI n) z && !decide (x = z)) then sp_non (sp_mn ((fun p q => fun k => if a_mt L σ m p (nI k) < a_mt L σ m q (nI k) then a_mt L σ m q (nI k) else a_mt L σ m p (nI k)) x.toNatClampNeg z.toNatClampNeg) m) else -1))) (fc_u mi 252 0 0) ml mr) := by
  replace hA : ra (fc_u mi 252 0 0) 0 n m t sm L σ := hA.off rfl rfl
  obtain ⟨⟨e0, e2, e3, e4⟩, hB, hLo, hSo, hLg, hSg⟩ := id hA
  obtain ⟨h5, h7, h6, hs1, hs2, hLp, hLt⟩ := id hLo
  by_cases hall : (sp_has (nI n) x && (sp_has (nI n) z && !decide (x = z))) = true
  · rw [if_pos hall]
    simp only [Bool.and_eq_true, Bool.not_eq_true', decide_eq_false_iff_not] at hall
    obtain ⟨g1, g2, g3⟩ := hall
    obtain ⟨p, hp, ep⟩ := sp_hasN (by omega) g1
    obtain ⟨q, hq, eq⟩ := sp_hasN (by omega) g2
    have hcp : x.toNatClampNeg = p := by rw [ep]; exact nI_clamp (by omega)
    have hcq : z.toNatClampNeg = q := by rw [eq]; exact nI_clamp (by omega)
    rw [hcp, hcq]
    refine fc_met rfl (Nat.le_of_ble_eq_true rfl) (fc_run oX11_meet (fun pc => pc == 12) 400 ?_)
    refine And.intro rfl ?_
    exact l_rmeet hW hA ep eq hp hq g3 m 0 _ _ _ _ _ (by omega) rfl rfl
  rw [if_neg hall]
  refine fc_met rfl (Nat.le_of_ble_eq_true rfl) (fc_run oX11_meet (fun _ => false) 400 ?_)
  refine And.intro rfl ?_
  refine And.intro rfl (Exists.intro _ (And.intro (c_rplaces hW hA) ?_))
  rintro _ _ _ _ ⟨rfl, rfl, rfl, rfl⟩
  refine And.intro (fun h18 => ?_) (fun h18 => ?_)
  · refine Exists.intro _ (And.intro (c_rtold _) ?_)
    rintro _ _ _ _ ⟨rfl, rfl, rfl, rfl⟩
    exact ⟨by decide, rfl, rfl, rfl⟩
  · refine And.intro rfl (Exists.intro _ (And.intro (c_risPerson hW hA _) ?_))
    rintro _ _ _ _ ⟨rfl, rfl, rfl, rfl⟩
    refine And.intro (fun h26 => ?_) (fun h26 => ?_)
    · replace h26 := fc_b0.mp h26
      refine Exists.intro _ (And.intro (c_rtold _) ?_)
      rintro _ _ _ _ ⟨rfl, rfl, rfl, rfl⟩
      exact ⟨by decide, rfl, rfl, rfl⟩
    · replace h26 := fc_b1.mp h26
      refine And.intro rfl (Exists.intro _ (And.intro (c_risPerson hW hA _) ?_))
      rintro _ _ _ _ ⟨rfl, rfl, rfl, rfl⟩
      refine And.intro (fun h34 => ?_) (fun h34 => ?_)
      · replace h34 := fc_b0.mp h34
        refine Exists.intro _ (And.intro (c_rtold _) ?_)
        rintro _ _ _ _ ⟨rfl, rfl, rfl, rfl⟩
        exact ⟨by decide, rfl, rfl, rfl⟩
      · replace h34 := fc_b1.mp h34
        refine And.intro (fun h39 => ?_) (fun h39 => ?_)
        · refine Exists.intro _ (And.intro (c_rtold _) ?_)
          rintro _ _ _ _ ⟨rfl, rfl, rfl, rfl⟩
          exact ⟨by decide, rfl, rfl, rfl⟩
        · exact absurd (by rw [h26, h34, nd_t h39]; rfl) hall

theorem l_rall2 (hW : fc_Wd mr) (hA : ra mi 0 n m t sm L σ) {k : Nat} (hk : k < m) (w be le : Int32) {Q : fc_Q} (K : ∀ (mo : Int32) (x6 x7 : Option Value), mo = sp_mx (fun p => a_mt L σ m p (nI k)) n → fc_T E mX11_all (d + 4) (0, 0) fc_sh 77 [some (.ref 252), some (.int w), some (.int be), some (.int le), some (.int (nI k)), some (.int mo), x6, x7] [] mi ml mr Q) : ∀ (j i : Nat) (c mo : Int32) (x7 : Option Value), i + j = n → c = nI i → mo = sp_mx (fun p => a_mt L σ m p (nI k)) i → fc_T E mX11_all (d + 4) (0, 0) fc_sh 36 [some (.ref 252), some (.int w), some (.int be), some (.int le), some (.int (nI k)), some (.int mo), some (.int c), x7] [] mi ml mr (Q) := by
  intro j
  induction j with
  | zero =>
    intro i c mo x7 hi hc h_mo
    subst hc
    obtain ⟨⟨e0, e2, e3, e4⟩, hB, hLo, hSo, hLg, hSg⟩ := id hA
    obtain ⟨h5, h7, h6, hs1, hs2, hLp, hLt⟩ := id hLo
    refine fc_run oX11_all (fun pc => pc == 36 || pc == 77) 400 ?_
    refine And.intro rfl (Exists.intro _ (And.intro (c_rpersons hW hA) ?_))
    rintro _ _ _ _ ⟨rfl, rfl, rfl, rfl⟩
    refine And.intro (fun h42 => ?_) (fun h42 => ?_)
    · exact K _ _ _ (by rw [h_mo, show i = n by omega])
    · exact absurd (nI_le (by omega) (by omega)) h42
  | succ j ih =>
    intro i c mo x7 hi hc h_mo
    subst hc
    obtain ⟨⟨e0, e2, e3, e4⟩, hB, hLo, hSo, hLg, hSg⟩ := id hA
    obtain ⟨h5, h7, h6, hs1, hs2, hLp, hLt⟩ := id hLo
    refine fc_run oX11_all (fun pc => pc == 36 || pc == 77) 400 ?_
    refine And.intro rfl (Exists.intro _ (And.intro (c_rpersons hW hA) ?_))
    rintro _ _ _ _ ⟨rfl, rfl, rfl, rfl⟩
    refine And.intro (fun h42 => ?_) (fun h42 => ?_)
    · exact absurd h42 (nI_ge (by omega) (by omega))
    · refine And.intro rfl (Exists.intro _ (And.intro (c_rsoonOf hW hA rfl rfl (by omega) (by omega)) ?_))
      rintro _ _ _ _ ⟨rfl, rfl, rfl, rfl⟩
      refine And.intro (fun h59 => ?_) (fun h59 => ?_)
      · exact ih (i + 1) _ _ _ (by omega) (fc_inc i) (by rw [h_mo] at h59; rw [h_mo, sp_mx, if_neg (Int32.not_lt.mpr h59)])
      · exact ih (i + 1) _ _ _ (by omega) (fc_inc i) (by rw [h_mo] at h59; rw [sp_mx, if_pos (Int32.not_le.mp h59)])

theorem l_rall3 (hW : fc_Wd mr) (hA : ra mi 0 n m t sm L σ) {i : Nat} {w be le mo : Int32} {x6 x7 : Option Value} {Q : fc_Q} (h_be : be = (sp_ag (fun k => sp_mx (fun p => a_mt L σ m p (nI k)) n) i).1) (h_le : le = (sp_ag (fun k => sp_mx (fun p => a_mt L σ m p (nI k)) n) i).2) (ha : mo = (fun k => sp_mx (fun p => a_mt L σ m p (nI k)) n) i)
    (K : ∀ (be' le' c : Int32) (x5 x6 x7 : Option Value), be' = (sp_ag (fun k => sp_mx (fun p => a_mt L σ m p (nI k)) n) (i + 1)).1 → le' = (sp_ag (fun k => sp_mx (fun p => a_mt L σ m p (nI k)) n) (i + 1)).2 → c = nI (i + 1) → fc_T E mX11_all (d + 4) (0, 0) fc_sh 14 [some (.ref 252), some (.int w), some (.int be'), some (.int le'), some (.int c), x5, x6, x7] [] mi ml mr Q) :
    fc_T E mX11_all (d + 4) (0, 0) fc_sh 77 [some (.ref 252), some (.int w), some (.int be), some (.int le), some (.int (nI i)), some (.int mo), x6, x7] [] mi ml mr Q := by
  refine fc_run oX11_all (fun pc => pc == 14) 400 ?_
  refine And.intro (fun h80 => ?_) (fun h80 => ?_)
  · refine And.intro (fun h93 => ?_) (fun h93 => ?_)
    · exact K _ _ _ _ _ _ (by rw [h_be]; rw [ha, h_le] at h80; simp only [sp_ag, if_pos h80]) (by rw [h_le]; rw [ha, h_le] at h80; simp only [sp_ag, if_pos h80]) (fc_inc i)
    · exact absurd h80 h93
  · refine And.intro (fun h93 => ?_) (fun h93 => ?_)
    · exact absurd h93 h80
    · exact K _ _ _ _ _ _ (by rw [ha, h_le] at h80; simp only [sp_ag, if_neg h80]) (by rw [ha]; rw [ha, h_le] at h80; simp only [sp_ag, if_neg h80]) (fc_inc i)
theorem l_rall (hW : fc_Wd mr) (hA : ra mi 0 n m t sm L σ) (hn0 : 0 < n) (w : Int32) : ∀ (j i : Nat) (c be le : Int32) (x5 x6 x7 : Option Value), i + j = m → c = nI i → be = (sp_ag (fun k => sp_mx (fun p => a_mt L σ m p (nI k)) n) i).1 → le = (sp_ag (fun k => sp_mx (fun p => a_mt L σ m p (nI k)) n) i).2 → fc_T E mX11_all (d + 4) (0, 0) fc_sh 14 [some (.ref 252), some (.int w), some (.int be), some (.int le), some (.int c), x5, x6, x7] [] mi ml mr (fc_is (some (.int (if 99 < (sp_ag (fun k => sp_mx (fun p => a_mt L σ m p (nI k)) n) m).2 then -1 else if w = 0 then (sp_ag (fun k => sp_mx (fun p => a_mt L σ m p (nI k)) n) m).1 else if w = 1 then (sp_ag (fun k => sp_mx (fun p => a_mt L σ m p (nI k)) n) m).2 else -1))) mi ml mr) := by
  intro j
  induction j with
  | zero =>
    intro i c be le x5 x6 x7 hi hc h_be h_le
    subst hc
    obtain ⟨⟨e0, e2, e3, e4⟩, hB, hLo, hSo, hLg, hSg⟩ := id hA
    obtain ⟨h5, h7, h6, hs1, hs2, hLp, hLt⟩ := id hLo
    refine fc_run oX11_all (fun pc => pc == 14 || pc == 36) 400 ?_
    refine And.intro rfl (Exists.intro _ (And.intro (c_rplaces hW hA) ?_))
    rintro _ _ _ _ ⟨rfl, rfl, rfl, rfl⟩
    refine And.intro (fun h20 => ?_) (fun h20 => ?_)
    · refine And.intro (fun h112 => ?_) (fun h112 => ?_)
      · refine And.intro (fun h120 => ?_) (fun h120 => ?_)
        · rw [h_le, show i = m by omega] at h112
          refine ⟨?_, rfl, rfl, rfl⟩
          rw [if_neg (Int32.not_lt.mpr h112), if_pos h120, h_be, show i = m by omega]
        · refine And.intro (fun h129 => ?_) (fun h129 => ?_)
          · rw [h_le, show i = m by omega] at h112
            refine ⟨?_, rfl, rfl, rfl⟩
            rw [if_neg (Int32.not_lt.mpr h112), if_neg h120, if_pos h129, h_le, show i = m by omega]
          · rw [h_le, show i = m by omega] at h112
            refine ⟨?_, rfl, rfl, rfl⟩
            rw [if_neg (Int32.not_lt.mpr h112), if_neg h120, if_neg h129]
      · rw [h_le, show i = m by omega] at h112
        exact ⟨by rw [if_pos (Int32.not_le.mp h112)], rfl, rfl, rfl⟩
    · exact absurd (nI_le (by omega) (by omega)) h20
  | succ j ih =>
    intro i c be le x5 x6 x7 hi hc h_be h_le
    subst hc
    obtain ⟨⟨e0, e2, e3, e4⟩, hB, hLo, hSo, hLg, hSg⟩ := id hA
    obtain ⟨h5, h7, h6, hs1, hs2, hLp, hLt⟩ := id hLo
    refine fc_run oX11_all (fun pc => pc == 14 || pc == 36) 400 ?_
    refine And.intro rfl (Exists.intro _ (And.intro (c_rplaces hW hA) ?_))
    rintro _ _ _ _ ⟨rfl, rfl, rfl, rfl⟩
    refine And.intro (fun h20 => ?_) (fun h20 => ?_)
    · exact absurd h20 (nI_ge (by omega) (by omega))
    · refine And.intro rfl (Exists.intro _ (And.intro (c_rpersons hW hA) ?_))
      rintro _ _ _ _ ⟨rfl, rfl, rfl, rfl⟩
      refine And.intro (fun h27 => ?_) (fun h27 => ?_)
      · exact absurd h27 (nI_nle (by omega) (by omega))
      · exact l_rall2 hW hA (show i < m by omega) w be le (fun mo y6 y7 hmo => l_rall3 hW hA h_be h_le hmo (fun be' le' c' y5 y6 y7 h1 h2 h3 => ih (i + 1) _ _ _ _ _ _ (by omega) h3 h1 h2)) n 0 _ _ _ (by omega) rfl rfl

theorem c_rall (hW : fc_Wd mr) (hA : ra mi 0 n m t sm L σ) (w : Int32) : fc_R E mX11_all (d + 4) fc_sh [.ref 252, .int w] mi ml mr (fc_is (some (.int (if n = 0 then -1 else if 99 < (sp_ag (fun k => sp_mx (fun p => a_mt L σ m p (nI k)) n) m).2 then -1 else if w = 0 then (sp_ag (fun k => sp_mx (fun p => a_mt L σ m p (nI k)) n) m).1 else if w = 1 then (sp_ag (fun k => sp_mx (fun p => a_mt L σ m p (nI k)) n) m).2 else -1))) (fc_u mi 252 0 0) ml mr) := by
  replace hA : ra (fc_u mi 252 0 0) 0 n m t sm L σ := hA.off rfl rfl
  obtain ⟨⟨e0, e2, e3, e4⟩, hB, hLo, hSo, hLg, hSg⟩ := id hA
  obtain ⟨h5, h7, h6, hs1, hs2, hLp, hLt⟩ := id hLo
  by_cases hn0 : n = 0
  · rw [if_pos hn0]
    subst hn0
    refine fc_met rfl (Nat.le_of_ble_eq_true rfl) (fc_run oX11_all (fun pc => pc == 14) 400 ?_)
    refine And.intro rfl ?_
    refine fc_run oX11_all (fun _ => false) 400 ?_
    refine And.intro rfl (Exists.intro _ (And.intro (c_rplaces hW hA) ?_))
    rintro _ _ _ _ ⟨rfl, rfl, rfl, rfl⟩
    refine And.intro (fun h20 => ?_) (fun h20 => ?_)
    · refine And.intro (fun h112 => ?_) (fun h112 => ?_)
      · exact absurd h112 (by decide)
      · exact ⟨rfl, rfl, rfl, rfl⟩
    · refine And.intro rfl (Exists.intro _ (And.intro (c_rpersons hW hA) ?_))
      rintro _ _ _ _ ⟨rfl, rfl, rfl, rfl⟩
      refine And.intro (fun h27 => ?_) (fun h27 => ?_)
      · refine And.intro (fun h112 => ?_) (fun h112 => ?_)
        · exact absurd h112 (by decide)
        · exact ⟨rfl, rfl, rfl, rfl⟩
      · exact absurd (show nI 0 ≤ 0 by decide) h27
  rw [if_neg hn0]
  refine fc_met rfl (Nat.le_of_ble_eq_true rfl) (fc_run oX11_all (fun pc => pc == 14) 400 ?_)
  refine And.intro rfl ?_
  exact l_rall hW hA (by omega) w m 0 _ _ _ _ _ _ (by omega) rfl rfl rfl

def a_ri (f : Nat → Int32) : Nat → Int32
  | 0 => -1
  | i + 1 => if a_ri f i < 0 then nI i else if f i ≤ f (a_ri f i).toNatClampNeg then a_ri f i else nI i
theorem a_ri_c (f : Nat → Int32) : ∀ i, (i = 0 ∧ a_ri f i = -1) ∨ ∃ p, p < i ∧ a_ri f i = nI p
  | 0 => Or.inl ⟨rfl, rfl⟩
  | i + 1 => by
    refine Or.inr ?_
    rw [a_ri]
    rcases a_ri_c f i with ⟨h0, h1⟩ | ⟨p, h1, h2⟩
    · rw [h1, if_pos (by decide)]; exact ⟨i, by omega, rfl⟩
    · rw [h2]
      split
      · exact ⟨i, by omega, rfl⟩
      · split
        · exact ⟨p, by omega, rfl⟩
        · exact ⟨i, by omega, rfl⟩
theorem l_rrich (hW : fc_Wd mr) (hA : ra mi 0 n m t sm L σ) (r : Int32) : ∀ (j i : Nat) (c : Int32) (acc : Int32), i + j = n → c = nI i → acc = a_ri (fun p => sp_sw (fun q => decide (σ (if r = 0 then 6 else 7) q = nI p)) (L 8) t) i → fc_T E mX11_rich (d + 3) (0, 0) fc_sh 9 [some (.ref 252), some (.int r), some (.int acc), some (.int c)] [] mi ml mr (fc_is (some (.int (a_ri (fun p => sp_sw (fun q => decide (σ (if r = 0 then 6 else 7) q = nI p)) (L 8) t) n))) mi ml mr) := by
  intro j
  induction j with
  | zero =>
    intro i c acc  hi hc h_acc
    subst hc
    obtain ⟨⟨e0, e2, e3, e4⟩, hB, hLo, hSo, hLg, hSg⟩ := id hA
    obtain ⟨h5, h7, h6, hs1, hs2, hLp, hLt⟩ := id hLo
    refine fc_run oX11_rich (fun pc => pc == 9) 400 ?_
    refine And.intro rfl (Exists.intro _ (And.intro (c_rpersons hW hA) ?_))
    rintro _ _ _ _ ⟨rfl, rfl, rfl, rfl⟩
    refine And.intro (fun h14 => ?_) (fun h14 => ?_)
    · exact ⟨by rw [h_acc, show i = n by omega], rfl, rfl, rfl⟩
    · exact absurd (nI_le (by omega) (by omega)) h14
  | succ j ih =>
    intro i c acc  hi hc h_acc
    subst hc
    obtain ⟨⟨e0, e2, e3, e4⟩, hB, hLo, hSo, hLg, hSg⟩ := id hA
    obtain ⟨h5, h7, h6, hs1, hs2, hLp, hLt⟩ := id hLo
    refine fc_run oX11_rich (fun pc => pc == 9) 400 ?_
    refine And.intro rfl (Exists.intro _ (And.intro (c_rpersons hW hA) ?_))
    rintro _ _ _ _ ⟨rfl, rfl, rfl, rfl⟩
    refine And.intro (fun h14 => ?_) (fun h14 => ?_)
    · exact absurd h14 (nI_ge (by omega) (by omega))
    · refine And.intro (fun h18 => ?_) (fun h18 => ?_)
      · exact ih (i + 1) _ _ (by omega) (fc_inc i) (by rw [h_acc] at h18; rw [a_ri, if_pos h18])
      · obtain ⟨pb, hpb, epb⟩ : ∃ pb, pb < i ∧ a_ri (fun p => sp_sw (fun q => decide (σ (if r = 0 then 6 else 7) q = nI p)) (L 8) t) i = nI pb := by
          rcases a_ri_c (fun p => sp_sw (fun q => decide (σ (if r = 0 then 6 else 7) q = nI p)) (L 8) t) i with ⟨q0, q1⟩ | q
          · rw [h_acc, q1] at h18; exact absurd (by decide) h18
          · exact q
        refine And.intro rfl (Exists.intro _ (And.intro (c_rworth hW hA _ _) ?_))
        rintro _ _ _ _ ⟨rfl, rfl, rfl, rfl⟩
        refine And.intro rfl (Exists.intro _ (And.intro (c_rworth hW hA _ _) ?_))
        rintro _ _ _ _ ⟨rfl, rfl, rfl, rfl⟩
        refine And.intro (fun h33 => ?_) (fun h33 => ?_)
        · exact ih (i + 1) _ _ (by omega) (fc_inc i) (by rw [h_acc] at h18 h33; rw [epb] at h33; rw [h_acc, a_ri, if_neg h18, epb, nI_clamp (by omega)]; rw [if_pos h33])
        · exact ih (i + 1) _ _ (by omega) (fc_inc i) (by rw [h_acc] at h18 h33; rw [epb] at h33; rw [a_ri, if_neg h18, epb, nI_clamp (by omega)]; rw [if_neg h33])

theorem c_rrich (hW : fc_Wd mr) (hA : ra mi 0 n m t sm L σ) (r : Int32) : fc_R E mX11_rich (d + 3) fc_sh [.ref 252, .int r] mi ml mr (fc_is (some (.int (a_ri (fun p => sp_sw (fun q => decide (σ (if r = 0 then 6 else 7) q = nI p)) (L 8) t) n))) (fc_u mi 252 0 0) ml mr) := by
  replace hA : ra (fc_u mi 252 0 0) 0 n m t sm L σ := hA.off rfl rfl
  obtain ⟨⟨e0, e2, e3, e4⟩, hB, hLo, hSo, hLg, hSg⟩ := id hA
  obtain ⟨h5, h7, h6, hs1, hs2, hLp, hLt⟩ := id hLo
  refine fc_met rfl (Nat.le_of_ble_eq_true rfl) (fc_run oX11_rich (fun pc => pc == 9) 400 ?_)
  refine And.intro rfl ?_
  exact l_rrich hW hA r n 0 _ _ (by omega) rfl rfl

theorem c_rcount (hW : fc_Wd mr) (hA : ra mi 0 n m t sm L σ) (w : Int32) : fc_R E mX11_count (d + 3) fc_sh [.ref 252, .int w] mi ml mr (fc_is (some (.int ((if w = 0 then nI m else (if w = 1 then mi 258 1 else (if w = 2 then nI n else (if w = 3 then nI t else (if w = 4 then nI sm else (if w = 5 then σ 0 0 else (if w = 6 then σ 0 1 else (if w = 7 then sp_set (sp_aw (L 7) (σ 0 1)) n else (if w = 8 then sp_sum (fun p => sp_bc (σ 4 p)) n / 2 else (if w = 9 then sp_sum (fun p => sp_bc (σ 5 p)) n / 2 else (if w = 10 then mi 265 0 else (if w = 11 then mi 268 39 else (if w = 12 then mi 252 25 else (if w = 13 then mi 252 2 else -1))))))))))))))))) (fc_u mi 252 0 0) ml mr) := by
  replace hA : ra (fc_u mi 252 0 0) 0 n m t sm L σ := hA.off rfl rfl
  obtain ⟨⟨e0, e2, e3, e4⟩, hB, hLo, hSo, hLg, hSg⟩ := id hA
  obtain ⟨h5, h7, h6, hs1, hs2, hLp, hLt⟩ := id hLo
  refine fc_met rfl (Nat.le_of_ble_eq_true rfl) (fc_run oX11_count (fun _ => false) 400 ?_)
  refine And.intro rfl ?_
  refine And.intro (fun h6 => ?_) (fun _ => And.intro (And.intro (fun h6 => ?_) (And.intro (fun h6 => ?_) (And.intro (fun h6 => ?_) (And.intro (fun h6 => ?_) (And.intro (fun h6 => ?_) (And.intro (fun h6 => ?_) (And.intro (fun h6 => ?_) (And.intro (fun h6 => ?_) (And.intro (fun h6 => ?_) (And.intro (fun h6 => ?_) (And.intro (fun h6 => ?_) (And.intro (fun h6 => ?_) (And.intro (fun h6 => ?_) (And.intro (fun h6 => ?_) trivial)))))))))))))) (by decide))
  · have n6_0 : ¬ w = 0 := by rintro rfl; revert h6; decide
    have n6_1 : ¬ w = 1 := by rintro rfl; revert h6; decide
    have n6_2 : ¬ w = 2 := by rintro rfl; revert h6; decide
    have n6_3 : ¬ w = 3 := by rintro rfl; revert h6; decide
    have n6_4 : ¬ w = 4 := by rintro rfl; revert h6; decide
    have n6_5 : ¬ w = 5 := by rintro rfl; revert h6; decide
    have n6_6 : ¬ w = 6 := by rintro rfl; revert h6; decide
    have n6_7 : ¬ w = 7 := by rintro rfl; revert h6; decide
    have n6_8 : ¬ w = 8 := by rintro rfl; revert h6; decide
    have n6_9 : ¬ w = 9 := by rintro rfl; revert h6; decide
    have n6_10 : ¬ w = 10 := by rintro rfl; revert h6; decide
    have n6_11 : ¬ w = 11 := by rintro rfl; revert h6; decide
    have n6_12 : ¬ w = 12 := by rintro rfl; revert h6; decide
    have n6_13 : ¬ w = 13 := by rintro rfl; revert h6; decide
    exact ⟨by simp [n6_0, n6_1, n6_2, n6_3, n6_4, n6_5, n6_6, n6_7, n6_8, n6_9, n6_10, n6_11, n6_12, n6_13], rfl, rfl, rfl⟩
  · replace h6 := (fc_ofI 0 (by decide)).mp h6
    subst h6
    refine And.intro rfl (Exists.intro _ (And.intro (hW 252 10 258 rfl) ?_))
    refine Exists.intro _ (Exists.intro _ (And.intro rfl (And.intro (fc_ixn (fc_nl 0) (by omega) (by decide)) ?_)))
    refine ⟨congrArg (fun q => some (Value.int q)) ?_, rfl, rfl, rfl⟩
    rw [if_pos rfl]
    exact e0.symm
  · replace h6 := (fc_ofI 1 (by decide)).mp h6
    subst h6
    refine And.intro rfl (Exists.intro _ (And.intro (hW 252 10 258 rfl) ?_))
    refine Exists.intro _ (Exists.intro _ (And.intro rfl (And.intro (fc_ixn (fc_nl 1) (by omega) (by decide)) ?_)))
    refine ⟨congrArg (fun q => some (Value.int q)) ?_, rfl, rfl, rfl⟩
    rw [if_neg (show ¬ (1 : Int32) = 0 by decide), if_pos rfl]
    rfl
  · replace h6 := (fc_ofI 2 (by decide)).mp h6
    subst h6
    refine And.intro rfl (Exists.intro _ (And.intro (hW 252 10 258 rfl) ?_))
    refine Exists.intro _ (Exists.intro _ (And.intro rfl (And.intro (fc_ixn (fc_nl 2) (by omega) (by decide)) ?_)))
    refine ⟨congrArg (fun q => some (Value.int q)) ?_, rfl, rfl, rfl⟩
    rw [if_neg (show ¬ (2 : Int32) = 0 by decide), if_neg (show ¬ (2 : Int32) = 1 by decide), if_pos rfl]
    exact e2.symm
  · replace h6 := (fc_ofI 3 (by decide)).mp h6
    subst h6
    refine And.intro rfl (Exists.intro _ (And.intro (hW 252 10 258 rfl) ?_))
    refine Exists.intro _ (Exists.intro _ (And.intro rfl (And.intro (fc_ixn (fc_nl 3) (by omega) (by decide)) ?_)))
    refine ⟨congrArg (fun q => some (Value.int q)) ?_, rfl, rfl, rfl⟩
    rw [if_neg (show ¬ (3 : Int32) = 0 by decide), if_neg (show ¬ (3 : Int32) = 1 by decide), if_neg (show ¬ (3 : Int32) = 2 by decide), if_pos rfl]
    exact e3.symm
  · replace h6 := (fc_ofI 4 (by decide)).mp h6
    subst h6
    refine And.intro rfl (Exists.intro _ (And.intro (hW 252 10 258 rfl) ?_))
    refine Exists.intro _ (Exists.intro _ (And.intro rfl (And.intro (fc_ixn (fc_nl 4) (by omega) (by decide)) ?_)))
    refine ⟨congrArg (fun q => some (Value.int q)) ?_, rfl, rfl, rfl⟩
    rw [if_neg (show ¬ (4 : Int32) = 0 by decide), if_neg (show ¬ (4 : Int32) = 1 by decide), if_neg (show ¬ (4 : Int32) = 2 by decide), if_neg (show ¬ (4 : Int32) = 3 by decide), if_pos rfl]
    exact e4.symm
  · replace h6 := (fc_ofI 5 (by decide)).mp h6
    subst h6
    refine And.intro rfl (Exists.intro _ (And.intro (hW 252 24 268 rfl) ?_))
    refine Exists.intro _ (Exists.intro _ (And.intro rfl (And.intro (fc_ixn (fc_nl 0) (by omega) (by decide)) ?_)))
    refine ⟨congrArg (fun q => some (Value.int q)) ?_, rfl, rfl, rfl⟩
    rw [if_neg (show ¬ (5 : Int32) = 0 by decide), if_neg (show ¬ (5 : Int32) = 1 by decide), if_neg (show ¬ (5 : Int32) = 2 by decide), if_neg (show ¬ (5 : Int32) = 3 by decide), if_neg (show ¬ (5 : Int32) = 4 by decide), if_pos rfl]
    exact (ra_00 hA).symm
  · replace h6 := (fc_ofI 6 (by decide)).mp h6
    subst h6
    refine And.intro rfl (Exists.intro _ (And.intro (hW 252 24 268 rfl) ?_))
    refine Exists.intro _ (Exists.intro _ (And.intro rfl (And.intro (fc_ixn (fc_nl 1) (by omega) (by decide)) ?_)))
    refine ⟨congrArg (fun q => some (Value.int q)) ?_, rfl, rfl, rfl⟩
    rw [if_neg (show ¬ (6 : Int32) = 0 by decide), if_neg (show ¬ (6 : Int32) = 1 by decide), if_neg (show ¬ (6 : Int32) = 2 by decide), if_neg (show ¬ (6 : Int32) = 3 by decide), if_neg (show ¬ (6 : Int32) = 4 by decide), if_neg (show ¬ (6 : Int32) = 5 by decide), if_pos rfl]
    exact (ra_10 hA).symm
  · replace h6 := (fc_ofI 7 (by decide)).mp h6
    subst h6
    refine And.intro rfl (Exists.intro _ (And.intro (hW 252 24 268 rfl) ?_))
    refine Exists.intro _ (Exists.intro _ (And.intro rfl (And.intro (fc_ixn (fc_nl 1) (by omega) (by decide)) ?_)))
    refine And.intro rfl (Exists.intro _ (And.intro (c_rawakeAt hW hA _) ?_))
    rintro _ _ _ _ ⟨rfl, rfl, rfl, rfl⟩
    refine ⟨congrArg (fun q => some (Value.int q)) ?_, rfl, rfl, rfl⟩
    rw [if_neg (show ¬ (7 : Int32) = 0 by decide), if_neg (show ¬ (7 : Int32) = 1 by decide), if_neg (show ¬ (7 : Int32) = 2 by decide), if_neg (show ¬ (7 : Int32) = 3 by decide), if_neg (show ¬ (7 : Int32) = 4 by decide), if_neg (show ¬ (7 : Int32) = 5 by decide), if_neg (show ¬ (7 : Int32) = 6 by decide), if_pos rfl]
    rw [ra_10 hA]
  · replace h6 := (fc_ofI 8 (by decide)).mp h6
    subst h6
    refine And.intro rfl (Exists.intro _ (And.intro (c_rpairs4 hW hA) ?_))
    rintro _ _ _ _ ⟨rfl, rfl, rfl, rfl⟩
    refine ⟨congrArg (fun q => some (Value.int q)) ?_, rfl, rfl, rfl⟩
    rw [if_neg (show ¬ (8 : Int32) = 0 by decide), if_neg (show ¬ (8 : Int32) = 1 by decide), if_neg (show ¬ (8 : Int32) = 2 by decide), if_neg (show ¬ (8 : Int32) = 3 by decide), if_neg (show ¬ (8 : Int32) = 4 by decide), if_neg (show ¬ (8 : Int32) = 5 by decide), if_neg (show ¬ (8 : Int32) = 6 by decide), if_neg (show ¬ (8 : Int32) = 7 by decide), if_pos rfl]
  · replace h6 := (fc_ofI 9 (by decide)).mp h6
    subst h6
    refine And.intro rfl (Exists.intro _ (And.intro (c_rpairs5 hW hA) ?_))
    rintro _ _ _ _ ⟨rfl, rfl, rfl, rfl⟩
    refine ⟨congrArg (fun q => some (Value.int q)) ?_, rfl, rfl, rfl⟩
    rw [if_neg (show ¬ (9 : Int32) = 0 by decide), if_neg (show ¬ (9 : Int32) = 1 by decide), if_neg (show ¬ (9 : Int32) = 2 by decide), if_neg (show ¬ (9 : Int32) = 3 by decide), if_neg (show ¬ (9 : Int32) = 4 by decide), if_neg (show ¬ (9 : Int32) = 5 by decide), if_neg (show ¬ (9 : Int32) = 6 by decide), if_neg (show ¬ (9 : Int32) = 7 by decide), if_neg (show ¬ (9 : Int32) = 8 by decide), if_pos rfl]
  · replace h6 := (fc_ofI 10 (by decide)).mp h6
    subst h6
    refine And.intro rfl (Exists.intro _ (And.intro (hW 252 21 265 rfl) ?_))
    refine Exists.intro _ (Exists.intro _ (And.intro rfl (And.intro (fc_ixn (fc_nl 0) (by omega) (by decide)) ?_)))
    refine ⟨congrArg (fun q => some (Value.int q)) ?_, rfl, rfl, rfl⟩
    rw [if_neg (show ¬ (10 : Int32) = 0 by decide), if_neg (show ¬ (10 : Int32) = 1 by decide), if_neg (show ¬ (10 : Int32) = 2 by decide), if_neg (show ¬ (10 : Int32) = 3 by decide), if_neg (show ¬ (10 : Int32) = 4 by decide), if_neg (show ¬ (10 : Int32) = 5 by decide), if_neg (show ¬ (10 : Int32) = 6 by decide), if_neg (show ¬ (10 : Int32) = 7 by decide), if_neg (show ¬ (10 : Int32) = 8 by decide), if_neg (show ¬ (10 : Int32) = 9 by decide), if_pos rfl]
    rfl
  · replace h6 := (fc_ofI 11 (by decide)).mp h6
    subst h6
    refine And.intro rfl (Exists.intro _ (And.intro (hW 252 24 268 rfl) ?_))
    refine Exists.intro _ (Exists.intro _ (And.intro rfl (And.intro (fc_ixn (fc_nl 39) (by omega) (by decide)) ?_)))
    refine ⟨congrArg (fun q => some (Value.int q)) ?_, rfl, rfl, rfl⟩
    rw [if_neg (show ¬ (11 : Int32) = 0 by decide), if_neg (show ¬ (11 : Int32) = 1 by decide), if_neg (show ¬ (11 : Int32) = 2 by decide), if_neg (show ¬ (11 : Int32) = 3 by decide), if_neg (show ¬ (11 : Int32) = 4 by decide), if_neg (show ¬ (11 : Int32) = 5 by decide), if_neg (show ¬ (11 : Int32) = 6 by decide), if_neg (show ¬ (11 : Int32) = 7 by decide), if_neg (show ¬ (11 : Int32) = 8 by decide), if_neg (show ¬ (11 : Int32) = 9 by decide), if_neg (show ¬ (11 : Int32) = 10 by decide), if_pos rfl]
    rfl
  · replace h6 := (fc_ofI 12 (by decide)).mp h6
    subst h6
    refine And.intro rfl ?_
    refine ⟨congrArg (fun q => some (Value.int q)) ?_, rfl, rfl, rfl⟩
    rw [if_neg (show ¬ (12 : Int32) = 0 by decide), if_neg (show ¬ (12 : Int32) = 1 by decide), if_neg (show ¬ (12 : Int32) = 2 by decide), if_neg (show ¬ (12 : Int32) = 3 by decide), if_neg (show ¬ (12 : Int32) = 4 by decide), if_neg (show ¬ (12 : Int32) = 5 by decide), if_neg (show ¬ (12 : Int32) = 6 by decide), if_neg (show ¬ (12 : Int32) = 7 by decide), if_neg (show ¬ (12 : Int32) = 8 by decide), if_neg (show ¬ (12 : Int32) = 9 by decide), if_neg (show ¬ (12 : Int32) = 10 by decide), if_neg (show ¬ (12 : Int32) = 11 by decide), if_pos rfl]
    rfl
  · replace h6 := (fc_ofI 13 (by decide)).mp h6
    subst h6
    refine And.intro rfl ?_
    refine ⟨congrArg (fun q => some (Value.int q)) ?_, rfl, rfl, rfl⟩
    rw [if_neg (show ¬ (13 : Int32) = 0 by decide), if_neg (show ¬ (13 : Int32) = 1 by decide), if_neg (show ¬ (13 : Int32) = 2 by decide), if_neg (show ¬ (13 : Int32) = 3 by decide), if_neg (show ¬ (13 : Int32) = 4 by decide), if_neg (show ¬ (13 : Int32) = 5 by decide), if_neg (show ¬ (13 : Int32) = 6 by decide), if_neg (show ¬ (13 : Int32) = 7 by decide), if_neg (show ¬ (13 : Int32) = 8 by decide), if_neg (show ¬ (13 : Int32) = 9 by decide), if_neg (show ¬ (13 : Int32) = 10 by decide), if_neg (show ¬ (13 : Int32) = 11 by decide), if_neg (show ¬ (13 : Int32) = 12 by decide), if_pos rfl]
    rfl

end M51
