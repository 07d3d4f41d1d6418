/-! ===== the reference: places and minutes ===== -/
section M50
variable {E : fc_E} {d : Nat} {mi : fc_Mi} {ml : fc_Ml} {mr : fc_Mr} {B n m t sm : Nat} {L σ : fc_Mi}
theorem fb_oror (x y z : Int32) : (x ||| y) ||| z = x ||| (y ||| z) := b_ext (fun i _ => by simp only [b_or, Bool.or_assoc])
theorem l_ronFrom (hW : fc_Wd mr) (hA : ra mi B n m t sm L σ) (x z : Int32) : ∀ (j i : Nat) (c : Int32) (acc : Int32), i + j = m → c = nI i → acc = x ||| sp_or (fun p => sp_in x (nI p)) (L 4) i → fc_T E mX11_onFrom (d + 1) (0, 0) fc_sh 5 [some (.ref 252), some (.int x), some (.int z), some (.int acc), some (.int c)] [] mi ml mr (fc_is (some (.int (fg_on (L 4) m z x))) mi ml mr) := by
  intro j
  induction j with
  | zero =>
    intro i c acc  hi hc h_acc
    subst hc
    obtain ⟨⟨e0, e2, e3, e4⟩, hB, hLo, hSo, hLg, hSg⟩ := id hA
    obtain ⟨h5, h7, h6, hs1, hs2, hLp, hLt⟩ := id hLo
    refine fc_run oX11_onFrom (fun pc => pc == 5) 400 ?_
    refine And.intro rfl (Exists.intro _ (And.intro (c_rplaces hW hA) ?_))
    rintro _ _ _ _ ⟨rfl, rfl, rfl, rfl⟩
    refine And.intro (fun h11 => ?_) (fun h11 => ?_)
    · exact ⟨by rw [h_acc, show i = m by omega]; rfl, rfl, rfl, rfl⟩
    · exact absurd (nI_le (by omega) (by omega)) h11
  | succ j ih =>
    intro i c acc  hi hc h_acc
    subst hc
    obtain ⟨⟨e0, e2, e3, e4⟩, hB, hLo, hSo, hLg, hSg⟩ := id hA
    obtain ⟨h5, h7, h6, hs1, hs2, hLp, hLt⟩ := id hLo
    refine fc_run oX11_onFrom (fun pc => pc == 5) 400 ?_
    refine And.intro rfl (Exists.intro _ (And.intro (c_rplaces hW hA) ?_))
    rintro _ _ _ _ ⟨rfl, rfl, rfl, rfl⟩
    refine And.intro (fun h11 => ?_) (fun h11 => ?_)
    · exact absurd h11 (nI_ge (by omega) (by omega))
    · refine And.intro (fun h22 => ?_) (fun h22 => ?_)
      · refine And.intro rfl (Exists.intro _ (And.intro (c_rpath hW hA rfl (by omega)) ?_))
        rintro _ _ _ _ ⟨rfl, rfl, rfl, rfl⟩
        exact ih (i + 1) _ _ (by omega) (fc_inc i) (by rw [h_acc, fb_oror, sp_or_t (P := fun p => sp_in x (nI p)) (f := L 4) (decide_eq_true h22)])
      · exact ih (i + 1) _ _ (by omega) (fc_inc i) (by rw [h_acc, fc_or0, ← sp_or_f (P := fun p => sp_in x (nI p)) (f := L 4) (decide_eq_false h22)])

theorem c_ronFrom (hW : fc_Wd mr) (hA : ra mi B n m t sm L σ) (x z : Int32) : fc_R E mX11_onFrom (d + 1) fc_sh [.ref 252, .int x, .int z] mi ml mr (fc_is (some (.int (fg_on (L 4) m z x))) mi ml mr) := by
  obtain ⟨⟨e0, e2, e3, e4⟩, hB, hLo, hSo, hLg, hSg⟩ := id hA
  obtain ⟨h5, h7, h6, hs1, hs2, hLp, hLt⟩ := id hLo
  refine fc_met rfl (Nat.le_of_ble_eq_true rfl) (fc_run oX11_onFrom (fun pc => pc == 5) 400 ?_)
  exact l_ronFrom hW hA x z m 0 _ _ (by omega) rfl (by rw [sp_or, fc_or0])

theorem l_rreachBy (hW : fc_Wd mr) (hA : ra mi B n m t sm L σ) (x k z : Int32) : ∀ (j i : Nat) (c : Int32) (acc : Int32), i + j = 7 → c = nI i → acc = fg_it (L 4) m z x i → fc_T E mX11_reachBy (d + 2) (0, 0) fc_sh 7 [some (.ref 252), some (.int k), some (.int z), some (.int acc), some (.int c)] [] mi ml mr (fc_is (some (.int (fg_it (L 4) m z x 7))) mi ml mr) := by
  intro j
  induction j with
  | zero =>
    intro i c acc  hi hc h_acc
    subst hc
    obtain ⟨⟨e0, e2, e3, e4⟩, hB, hLo, hSo, hLg, hSg⟩ := id hA
    obtain ⟨h5, h7, h6, hs1, hs2, hLp, hLt⟩ := id hLo
    refine fc_run oX11_reachBy (fun pc => pc == 7) 400 ?_
    refine And.intro (fun h11 => ?_) (fun h11 => ?_)
    · exact ⟨by rw [h_acc, show i = 7 by omega], rfl, rfl, rfl⟩
    · exact absurd (nI_le (a := 7) (b := i) (by omega) (by omega)) h11
  | succ j ih =>
    intro i c acc  hi hc h_acc
    subst hc
    obtain ⟨⟨e0, e2, e3, e4⟩, hB, hLo, hSo, hLg, hSg⟩ := id hA
    obtain ⟨h5, h7, h6, hs1, hs2, hLp, hLt⟩ := id hLo
    refine fc_run oX11_reachBy (fun pc => pc == 7) 400 ?_
    refine And.intro (fun h11 => ?_) (fun h11 => ?_)
    · exact absurd h11 (nI_ge (a := i) (b := 7) (by omega) (by omega))
    · refine And.intro rfl (Exists.intro _ (And.intro (c_ronFrom hW hA _ _) ?_))
      rintro _ _ _ _ ⟨rfl, rfl, rfl, rfl⟩
      exact ih (i + 1) _ _ (by omega) (fc_inc i) (by rw [h_acc]; rfl)

theorem c_rreachBy (hW : fc_Wd mr) (hA : ra mi B n m t sm L σ) {x : Int32} {k : Nat} (hx : x = nI k) (z : Int32) : fc_R E mX11_reachBy (d + 2) fc_sh [.ref 252, .int x, .int z] mi ml mr (fc_is (some (.int (fg_it (L 4) m z (sp_one k) 7))) mi ml mr) := by
  obtain ⟨⟨e0, e2, e3, e4⟩, hB, hLo, hSo, hLg, hSg⟩ := id hA
  obtain ⟨h5, h7, h6, hs1, hs2, hLp, hLt⟩ := id hLo
  refine fc_met rfl (Nat.le_of_ble_eq_true rfl) (fc_run oX11_reachBy (fun pc => pc == 7) 400 ?_)
  exact l_rreachBy hW hA (sp_one k) x z 7 0 _ _ (by omega) rfl (by rw [hx]; rfl)

theorem l_rfarOf (hW : fc_Wd mr) (hA : ra mi B n m t sm L σ) (k z : Int32) : ∀ (j i : Nat) (c acc : Int32), i + j = 7 → c = nI i → fc_T E mX11_farOf (d + 2) (0, 0) fc_sh 7 [some (.ref 252), some (.int k), some (.int z), some (.int acc), some (.int c)] [] mi ml mr (fc_is (some (.int (fg_fa (L 4) m z j i acc))) mi ml mr) := by
  intro j
  induction j with
  | zero =>
    intro i c acc hi hc
    subst hc
    obtain ⟨⟨e0, e2, e3, e4⟩, hB, hLo, hSo, hLg, hSg⟩ := id hA
    obtain ⟨h5, h7, h6, hs1, hs2, hLp, hLt⟩ := id hLo
    refine fc_run oX11_farOf (fun pc => pc == 7) 400 ?_
    refine And.intro (fun h11 => ?_) (fun h11 => ?_)
    · exact ⟨rfl, rfl, rfl, rfl⟩
    · exact absurd (nI_le (a := 7) (b := i) (by omega) (by omega)) h11
  | succ j ih =>
    intro i c acc hi hc
    subst hc
    obtain ⟨⟨e0, e2, e3, e4⟩, hB, hLo, hSo, hLg, hSg⟩ := id hA
    obtain ⟨h5, h7, h6, hs1, hs2, hLp, hLt⟩ := id hLo
    refine fc_run oX11_farOf (fun pc => pc == 7) 400 ?_
    refine And.intro (fun h11 => ?_) (fun h11 => ?_)
    · exact absurd h11 (nI_ge (a := i) (b := 7) (by omega) (by omega))
    · refine And.intro (fun h20 => ?_) (fun h20 => ?_)
      · exact ⟨by rw [fg_fa, if_pos (show sp_in acc z = true from decide_eq_true h20)], rfl, rfl, rfl⟩
      · refine And.intro rfl (Exists.intro _ (And.intro (c_ronFrom hW hA _ _) ?_))
        rintro _ _ _ _ ⟨rfl, rfl, rfl, rfl⟩
        rw [fg_fa, if_neg (by rw [sp_in, decide_eq_false h20]; decide)]
        exact ih (i + 1) _ _ (by omega) (fc_inc i)

theorem c_rfarOf (hW : fc_Wd mr) (hA : ra mi B n m t sm L σ) {x : Int32} {k : Nat} (hx : x = nI k) (z : Int32) : fc_R E mX11_farOf (d + 2) fc_sh [.ref 252, .int x, .int z] mi ml mr (fc_is (some (.int (fg_far (L 4) m k z))) mi ml mr) := by
  obtain ⟨⟨e0, e2, e3, e4⟩, hB, hLo, hSo, hLg, hSg⟩ := id hA
  obtain ⟨h5, h7, h6, hs1, hs2, hLp, hLt⟩ := id hLo
  subst hx
  refine fc_met rfl (Nat.le_of_ble_eq_true rfl) (fc_run oX11_farOf (fun pc => pc == 7) 400 ?_)
  exact l_rfarOf hW hA (nI k) z 7 0 _ _ (by omega) rfl

theorem fg_far_c {pt : Nat → Int32} {x y : Nat} (hy : y < 32) : (∃ s, s < 7 ∧ fg_far pt m x (nI y) = nI s) ∨ fg_far pt m x (nI y) = 1000 := by
  rcases fg_fa_c (pt := pt) (m := m) (x := sp_one x) (y := y) hy 7 0 with ⟨s, -, h2, -, -, h5⟩ | ⟨-, h2⟩
  · exact Or.inl ⟨s, by omega, h5⟩
  · exact Or.inr h2
theorem a_max0 (x y : Int32) : (if x < y then y else x) = (if x ≤ y then y else x) := by
  by_cases h : x < y
  · rw [if_pos h, if_pos (Int32.le_of_lt h)]
  · rw [if_neg h]
    by_cases g : x ≤ y
    · rw [if_pos g]; exact Int32.le_antisymm g (Int32.not_lt.mp h)
    · rw [if_neg g]
/-- in how many minutes one can be at a place -/
def a_mt (L σ : fc_Mi) (m p : Nat) (z : Int32) : Int32 := sp_mo (L 7) (σ 2) (L 5) (σ 0 1) p (fg_far (L 4) m (σ 1 p).toNatClampNeg z)
theorem a_rdy {w a : Int32} (h : ¬ a < 0) : (if (if 0 < w then w else 0) < a then a else (if 0 < w then w else 0)) = (if w ≤ a then a else w) := by
  have h0 : (0 : Int32).toInt = 0 := rfl
  rw [Int32.lt_iff_toInt_lt, h0] at h
  by_cases h1 : 0 < w
  · rw [if_pos h1, a_max0]
  · rw [if_neg h1]
    have h1' : w.toInt ≤ 0 := by rw [Int32.lt_iff_toInt_lt, h0] at h1; omega
    rw [if_pos (show w ≤ a by rw [Int32.le_iff_toInt_le]; omega)]
    by_cases h2 : 0 < a
    · rw [if_pos h2]
    · rw [if_neg h2]
      rw [Int32.lt_iff_toInt_lt, h0] at h2
      exact Int32.toInt_inj.mp (by rw [h0]; omega)
theorem c_rreadyIn (hW : fc_Wd mr) (hA : ra mi 0 n m t sm L σ) {x : Int32} {p : Nat} (hx : x = nI p) (hp : p < n) : fc_R E mX11_readyIn (d + 1) fc_sh [.ref 252, .int x] mi ml mr (fc_is (some (.int (if L 7 p - σ 0 1 ≤ σ 2 p then σ 2 p else L 7 p - σ 0 1))) mi ml mr) := by
  obtain ⟨⟨e0, e2, e3, e4⟩, hB, hLo, hSo, hLg, hSg⟩ := id hA
  obtain ⟨h5, h7, h6, hs1, hs2, hLp, hLt⟩ := id hLo
  refine fc_met rfl (Nat.le_of_ble_eq_true rfl) (fc_run oX11_readyIn (fun _ => false) 400 ?_)
  refine And.intro rfl (Exists.intro _ (And.intro (c_rper2 hW hA hx (by omega)) ?_))
  rintro _ _ _ _ ⟨rfl, rfl, rfl, rfl⟩
  refine And.intro rfl (Exists.intro _ (And.intro (hW 252 24 268 rfl) ?_))
  refine Exists.intro _ (Exists.intro _ (And.intro rfl (And.intro (fc_ixn (fc_nl 1) (by omega) (by decide)) ?_)))
  refine And.intro rfl (Exists.intro _ (And.intro (hW 252 24 268 rfl) ?_))
  refine Exists.intro _ (Exists.intro _ (And.intro rfl (And.intro (fc_ixn (fc_na (fc_nl 7) hx) (by omega) (by decide)) ?_)))
  refine And.intro (fun h26 => ?_) (fun h26 => ?_)
  · rw [ra_10 hA, ra_a0 hA hp] at h26
    exact ⟨by rw [ra_a0 hA hp, if_pos h26], rfl, rfl, rfl⟩
  · rw [ra_10 hA, ra_a0 hA hp] at h26
    exact ⟨by rw [ra_10 hA, if_neg h26], rfl, rfl, rfl⟩

theorem c_rpaceOf (hW : fc_Wd mr) (hA : ra mi B n m t sm L σ) {x : Int32} {p : Nat} (hx : x = nI p) (hp : p < n) : fc_R E mX11_paceOf (d + 1) fc_sh [.ref 252, .int x] mi ml mr (fc_is (some (.int (if L 5 p = 2 then 2 else 1))) mi ml mr) := by
  obtain ⟨⟨e0, e2, e3, e4⟩, hB, hLo, hSo, hLg, hSg⟩ := id hA
  obtain ⟨h5, h7, h6, hs1, hs2, hLp, hLt⟩ := id hLo
  clear h7
  refine fc_met rfl (Nat.le_of_ble_eq_true rfl) (fc_run oX11_paceOf (fun _ => false) 400 ?_)
  refine And.intro rfl (Exists.intro _ (And.intro (c_rper0 hW hA hx (by omega)) ?_))
  rintro _ _ _ _ ⟨rfl, rfl, rfl, rfl⟩
  refine And.intro (fun h7 => ?_) (fun h7 => ?_)
  · have h7' := h7
    exact ⟨by rw [if_pos h7'], rfl, rfl, rfl⟩
  · have h7' := h7
    exact ⟨by rw [if_neg h7'], rfl, rfl, rfl⟩

theorem c_rsoonOf (hW : fc_Wd mr) (hA : ra mi 0 n m t sm L σ) {x z : Int32} {p k : Nat} (hx : x = nI p) (hz : z = nI k) (hp : p < n) (hk : k < 32) : fc_R E mX11_soonOf (d + 3) fc_sh [.ref 252, .int x, .int z] mi ml mr (fc_is (some (.int (a_mt L σ m p z))) mi ml mr) := by
  obtain ⟨⟨e0, e2, e3, e4⟩, hB, hLo, hSo, hLg, hSg⟩ := id hA
  obtain ⟨h5, h7, h6, hs1, hs2, hLp, hLt⟩ := id hLo
  obtain ⟨⟨jj, hj, ej⟩, ⟨ka, hka, eka⟩, -⟩ := hSo.1 p hp
  have ej' : (σ 1 p).toNatClampNeg = jj := by rw [ej]; exact nI_clamp (by omega)
  have hac : ¬ σ 2 p < 0 := by rw [eka]; exact nI_pos (by omega)
  have hfc := fg_far_c (m := m) (pt := L 4) (x := jj) hk
  rw [← hz] at hfc
  refine fc_met rfl (Nat.le_of_ble_eq_true rfl) (fc_run oX11_soonOf (fun _ => false) 400 ?_)
  refine And.intro rfl (Exists.intro _ (And.intro (hW 252 24 268 rfl) ?_))
  refine Exists.intro _ (Exists.intro _ (And.intro rfl (And.intro (fc_ixn (fc_na (fc_nl 2) hx) (by omega) (by decide)) ?_)))
  refine And.intro rfl (Exists.intro _ (And.intro (c_rfarOf hW hA ((ra_w0 hA hp).trans ej) _) ?_))
  rintro _ _ _ _ ⟨rfl, rfl, rfl, rfl⟩
  refine And.intro (fun h15 => ?_) (fun h15 => ?_)
  · exact ⟨by rw [a_mt, ej', sp_mo, if_pos h15, h15], rfl, rfl, rfl⟩
  · refine And.intro (fun h26 => ?_) (fun h26 => ?_)
    · exact ⟨by rw [a_mt, ej', sp_mo, if_neg h15, if_neg (by rw [h26]; decide), h26], rfl, rfl, rfl⟩
    · refine And.intro rfl (Exists.intro _ (And.intro (c_rreadyIn hW hA hx (by omega)) ?_))
      rintro _ _ _ _ ⟨rfl, rfl, rfl, rfl⟩
      refine And.intro rfl (Exists.intro _ (And.intro (c_rpaceOf hW hA hx (by omega)) ?_))
      rintro _ _ _ _ ⟨rfl, rfl, rfl, rfl⟩
      refine ⟨?_, rfl, rfl, rfl⟩
      have hlt : fg_far (L 4) m jj z < 1000 := by
        rcases hfc with ⟨s, q1, q2⟩ | q2
        · rw [q2]; exact nI_lt (b := 1000) (by omega) (by omega)
        · exact absurd q2 h26
      rw [a_mt, ej', sp_mo, if_neg h15, if_pos hlt, a_rdy hac]
      congr 3
      by_cases hk : L 5 p = 2
      · rw [if_pos hk, if_pos hk, Int32.mul_comm]
      · rw [if_neg hk, if_neg hk, Int32.mul_one]

theorem sp_from2 {w : Int32} (h : sp_from 0 w 2 = true) : w = 0 ∨ w = 1 ∨ w = 2 := by
  simp only [sp_from, Bool.and_eq_true, Bool.not_eq_true', decide_eq_false_iff_not] at h
  obtain ⟨j, hj, rfl⟩ := nI_of2 (M := 2) (n := 2) rfl h.1 (Int32.not_lt.mp h.2)
  rcases (by omega : j = 0 ∨ j = 1 ∨ j = 2) with rfl | rfl | rfl
  · exact Or.inl rfl
  · exact Or.inr (Or.inl rfl)
  · exact Or.inr (Or.inr rfl)
theorem sp_from5 {w : Int32} (h : sp_from 0 w 5 = true) : w = 0 ∨ w = 1 ∨ w = 2 ∨ w = 3 ∨ w = 4 ∨ w = 5 := by
  simp only [sp_from, Bool.and_eq_true, Bool.not_eq_true', decide_eq_false_iff_not] at h
  obtain ⟨j, hj, rfl⟩ := nI_of2 (M := 5) (n := 5) rfl h.1 (Int32.not_lt.mp h.2)
  rcases (by omega : j = 0 ∨ j = 1 ∨ j = 2 ∨ j = 3 ∨ j = 4 ∨ j = 5) with rfl | rfl | rfl | rfl | rfl | rfl
  · exact Or.inl rfl
  · exact Or.inr (Or.inl rfl)
  · exact Or.inr (Or.inr (Or.inl rfl))
  · exact Or.inr (Or.inr (Or.inr (Or.inl rfl)))
  · exact Or.inr (Or.inr (Or.inr (Or.inr (Or.inl rfl))))
  · exact Or.inr (Or.inr (Or.inr (Or.inr (Or.inr rfl))))
theorem c_rplace (hW : fc_Wd mr) (hA : ra mi 0 n m t sm L σ) (x w : Int32) : fc_R E mX11_place (d + 3) fc_sh [.ref 252, .int x, .int w] mi ml mr (fc_is (some (.int (if sp_has (nI m) x then (if w = 0 then L 4 x.toNatClampNeg else if w = 1 then sp_set (fun p => decide (σ 1 p = x)) n else if w = 2 then sp_set (fun p => decide (σ 1 p = x)) n &&& sp_set (sp_aw (L 7) (σ 0 1)) n else -1) else -1))) (fc_u mi 252 0 0) ml mr) := by
  replace hA : ra (fc_u mi 252 0 0) 0 n m t sm L σ := hA.off rfl rfl
  obtain ⟨⟨e0, e2, e3, e4⟩, hB, hLo, hSo, hLg, hSg⟩ := id hA
  obtain ⟨h5, h7, h6, hs1, hs2, hLp, hLt⟩ := id hLo
  refine fc_met rfl (Nat.le_of_ble_eq_true rfl) (fc_run oX11_place (fun _ => false) 400 ?_)
  refine And.intro rfl ?_
  refine And.intro rfl (Exists.intro _ (And.intro (c_risPlace hW hA _) ?_))
  rintro _ _ _ _ ⟨rfl, rfl, rfl, rfl⟩
  refine And.intro (fun h10 => ?_) (fun h10 => ?_)
  · replace h10 := fc_b0.mp h10
    exact ⟨by simp [h10], rfl, rfl, rfl⟩
  · replace h10 := fc_b1.mp h10
    obtain ⟨p, h_p, ep⟩ := sp_hasN (by omega) h10
    have hcp : x.toNatClampNeg = p := by rw [ep]; exact nI_clamp (by omega)
    refine Exists.intro _ (And.intro (c_rwithin _ _ _) ?_)
    rintro _ _ _ _ ⟨rfl, rfl, rfl, rfl⟩
    refine And.intro (fun h19 => ?_) (fun h19 => ?_)
    · replace h19 := fc_b0.mp h19
      have hn0 : ¬ w = 0 := by rintro rfl; revert h19; decide
      have hn1 : ¬ w = 1 := by rintro rfl; revert h19; decide
      have hn2 : ¬ w = 2 := by rintro rfl; revert h19; decide
      exact ⟨by simp [h10, hcp, h19, hn0, hn1, hn2], rfl, rfl, rfl⟩
    · replace h19 := fc_b1.mp h19
      refine And.intro (fun h25 => ?_) (fun h25 => ?_)
      · refine And.intro rfl (Exists.intro _ (And.intro (c_rpath hW hA ep (by omega)) ?_))
        rintro _ _ _ _ ⟨rfl, rfl, rfl, rfl⟩
        exact ⟨by simp [h10, hcp, h19, h25], rfl, rfl, rfl⟩
      · refine And.intro (fun h38 => ?_) (fun h38 => ?_)
        · refine And.intro rfl (Exists.intro _ (And.intro (c_rwhoIn hW hA (fc_nl 0) _) ?_))
          rintro _ _ _ _ ⟨rfl, rfl, rfl, rfl⟩
          exact ⟨by simp [h10, hcp, h19, h25, h38], rfl, rfl, rfl⟩
        · have hw2 : w = 2 := (sp_from2 h19).elim (fun q => absurd q h25) (fun q => q.elim (fun q => absurd q h38) id)
          subst hw2
          refine And.intro rfl (Exists.intro _ (And.intro (c_rwhoIn hW hA (fc_nl 0) _) ?_))
          rintro _ _ _ _ ⟨rfl, rfl, rfl, rfl⟩
          refine And.intro rfl (Exists.intro _ (And.intro (hW 252 24 268 rfl) ?_))
          refine Exists.intro _ (Exists.intro _ (And.intro rfl (And.intro (fc_ixn (fc_nl 1) (by omega) (by decide)) ?_)))
          rw [ra_10 hA]
          refine And.intro rfl (Exists.intro _ (And.intro (c_rawakeAt hW hA _) ?_))
          rintro _ _ _ _ ⟨rfl, rfl, rfl, rfl⟩
          exact ⟨by simp [h10, hcp, h19, h25, h38], rfl, rfl, rfl⟩

theorem c_rthing (hW : fc_Wd mr) (hA : ra mi 0 n m t sm L σ) (x w : Int32) : fc_R E mX11_thing (d + 3) fc_sh [.ref 252, .int x, .int w] mi ml mr (fc_is (some (.int (if sp_has (nI t) x then (if w = 0 then L 8 x.toNatClampNeg else if w = 1 then σ 6 x.toNatClampNeg else if w = 2 then σ 7 x.toNatClampNeg else -1) else -1))) (fc_u mi 252 0 0) ml mr) := by
  replace hA : ra (fc_u mi 252 0 0) 0 n m t sm L σ := hA.off rfl rfl
  obtain ⟨⟨e0, e2, e3, e4⟩, hB, hLo, hSo, hLg, hSg⟩ := id hA
  obtain ⟨h5, h7, h6, hs1, hs2, hLp, hLt⟩ := id hLo
  refine fc_met rfl (Nat.le_of_ble_eq_true rfl) (fc_run oX11_thing (fun _ => false) 400 ?_)
  refine And.intro rfl ?_
  refine And.intro rfl (Exists.intro _ (And.intro (c_risThing hW hA _) ?_))
  rintro _ _ _ _ ⟨rfl, rfl, rfl, rfl⟩
  refine And.intro (fun h10 => ?_) (fun h10 => ?_)
  · replace h10 := fc_b0.mp h10
    exact ⟨by simp [h10], rfl, rfl, rfl⟩
  · replace h10 := fc_b1.mp h10
    obtain ⟨p, h_p, ep⟩ := sp_hasN (by omega) h10
    have hcp : x.toNatClampNeg = p := by rw [ep]; exact nI_clamp (by omega)
    refine Exists.intro _ (And.intro (c_rwithin _ _ _) ?_)
    rintro _ _ _ _ ⟨rfl, rfl, rfl, rfl⟩
    refine And.intro (fun h19 => ?_) (fun h19 => ?_)
    · replace h19 := fc_b0.mp h19
      have hn0 : ¬ w = 0 := by rintro rfl; revert h19; decide
      have hn1 : ¬ w = 1 := by rintro rfl; revert h19; decide
      have hn2 : ¬ w = 2 := by rintro rfl; revert h19; decide
      exact ⟨by simp [h10, hcp, h19, hn0, hn1, hn2], rfl, rfl, rfl⟩
    · replace h19 := fc_b1.mp h19
      refine And.intro (fun h25 => ?_) (fun h25 => ?_)
      · refine And.intro rfl (Exists.intro _ (And.intro (c_rthi0 hW hA ep (by omega)) ?_))
        rintro _ _ _ _ ⟨rfl, rfl, rfl, rfl⟩
        exact ⟨by simp [h10, hcp, h19, h25], rfl, rfl, rfl⟩
      · refine And.intro (fun h39 => ?_) (fun h39 => ?_)
        · refine And.intro rfl (Exists.intro _ (And.intro (hW 252 24 268 rfl) ?_))
          refine Exists.intro _ (Exists.intro _ (And.intro rfl (And.intro (fc_ixn (fc_na (fc_nl 12) ep) (by omega) (by decide)) ?_)))
          rw [ra_o0 hA h_p]
          exact ⟨by simp [h10, hcp, h19, h25, h39], rfl, rfl, rfl⟩
        · have hw2 : w = 2 := (sp_from2 h19).elim (fun q => absurd q h25) (fun q => q.elim (fun q => absurd q h39) id)
          subst hw2
          refine And.intro rfl (Exists.intro _ (And.intro (hW 252 24 268 rfl) ?_))
          refine Exists.intro _ (Exists.intro _ (And.intro rfl (And.intro (fc_ixn (fc_na (fc_nl 18) ep) (by omega) (by decide)) ?_)))
          rw [ra_r0 hA h_p]
          exact ⟨by simp [h10, hcp, h19, h25, h39], rfl, rfl, rfl⟩

theorem c_rperw (hW : fc_Wd mr) (hA : ra mi B n m t sm L σ) {x : Int32} {p : Nat} (hx : x = nI p) (hp : p < n) {w : Int32} {kw : Nat} (hw : w = nI kw) (hkw : kw < 2) : fc_R E mX11_personOf d fc_sh [.ref 252, .int x, .int w] mi ml mr (fc_is (some (.int (if w = 0 then L 5 p else L 6 p))) mi ml mr) := by
  obtain ⟨⟨e0, e2, e3, e4⟩, hB, hLo, hSo, hLg, hSg⟩ := id hA
  obtain ⟨h5, h7, h6, hs1, hs2, hLp, hLt⟩ := id hLo
  refine fc_met rfl (Nat.le_of_ble_eq_true rfl) (fc_run oX11_personOf (fun _ => false) 400 ?_)
  refine And.intro rfl (Exists.intro _ (And.intro (hW 252 10 258 rfl) ?_))
  refine Exists.intro _ (Exists.intro _ (And.intro rfl (And.intro (fc_ixn (fc_na (fc_na (fc_nl 13) (fc_nm (fc_nl 3) hx)) hw) (by omega) (by decide)) ?_)))
  refine ⟨?_, rfl, rfl, rfl⟩
  rcases (by omega : kw = 0 ∨ kw = 1) with rfl | rfl
  · rw [hw, if_pos (show nI 0 = 0 from rfl), ra_l0 hA hp]
  · rw [hw, if_neg (by decide), ra_l1 hA hp]

theorem c_rperson (hW : fc_Wd mr) (hA : ra mi 0 n m t sm L σ) (x w : Int32) : fc_R E mX11_person (d + 3) fc_sh [.ref 252, .int x, .int w] mi ml mr (fc_is (some (.int (if sp_has (nI n) x then (if w = 0 then L 5 x.toNatClampNeg else if w = 1 then L 6 x.toNatClampNeg else if w = 2 then σ 1 x.toNatClampNeg else if w = 3 then fc_b (sp_aw (L 7) (σ 0 1) x.toNatClampNeg) else if w = 4 then fc_b (sp_rd (L 7) (σ 2) (σ 0 1) x.toNatClampNeg) else if w = 5 then sp_set (fun q => decide (σ 6 q = x)) t else -1) else -1))) (fc_u mi 252 0 0) ml mr) := by
  replace hA : ra (fc_u mi 252 0 0) 0 n m t sm L σ := hA.off rfl rfl
  obtain ⟨⟨e0, e2, e3, e4⟩, hB, hLo, hSo, hLg, hSg⟩ := id hA
  obtain ⟨h5, h7, h6, hs1, hs2, hLp, hLt⟩ := id hLo
  refine fc_met rfl (Nat.le_of_ble_eq_true rfl) (fc_run oX11_person (fun _ => false) 400 ?_)
  refine And.intro rfl ?_
  refine And.intro rfl (Exists.intro _ (And.intro (c_risPerson hW hA _) ?_))
  rintro _ _ _ _ ⟨rfl, rfl, rfl, rfl⟩
  refine And.intro (fun h10 => ?_) (fun h10 => ?_)
  · replace h10 := fc_b0.mp h10
    exact ⟨by simp [fc_b, h10], rfl, rfl, rfl⟩
  · replace h10 := fc_b1.mp h10
    obtain ⟨p, h_p, ep⟩ := sp_hasN (by omega) h10
    have hcp : x.toNatClampNeg = p := by rw [ep]; exact nI_clamp (by omega)
    refine Exists.intro _ (And.intro (c_rwithin _ _ _) ?_)
    rintro _ _ _ _ ⟨rfl, rfl, rfl, rfl⟩
    refine And.intro (fun h19 => ?_) (fun h19 => ?_)
    · replace h19 := fc_b0.mp h19
      have hn0 : ¬ w = 0 := by rintro rfl; revert h19; decide
      have hn1 : ¬ w = 1 := by rintro rfl; revert h19; decide
      have hn2 : ¬ w = 2 := by rintro rfl; revert h19; decide
      have hn3 : ¬ w = 3 := by rintro rfl; revert h19; decide
      have hn4 : ¬ w = 4 := by rintro rfl; revert h19; decide
      have hn5 : ¬ w = 5 := by rintro rfl; revert h19; decide
      exact ⟨by simp [fc_b, h10, hcp, h19, hn0, hn1, hn2, hn3, hn4, hn5], rfl, rfl, rfl⟩
    · replace h19 := fc_b1.mp h19
      refine And.intro (fun h25 => ?_) (fun _ => And.intro (And.intro (fun h25 => ?_) (And.intro (fun h25 => ?_) (And.intro (fun h25 => ?_) (And.intro (fun h25 => ?_) trivial)))) (by decide))
      · have n25_0 : ¬ w = 2 := by rintro rfl; revert h25; decide
        have n25_1 : ¬ w = 3 := by rintro rfl; revert h25; decide
        have n25_2 : ¬ w = 4 := by rintro rfl; revert h25; decide
        have n25_3 : ¬ w = 5 := by rintro rfl; revert h25; decide
        have hw : w = 0 ∨ w = 1 := by
          rcases sp_from5 h19 with q | q | q | q | q | q
          · exact Or.inl q
          · exact Or.inr q
          · exact absurd q n25_0
          · exact absurd q n25_1
          · exact absurd q n25_2
          · exact absurd q n25_3
        obtain ⟨kw, hkw, ekw⟩ : ∃ kw, kw < 2 ∧ w = nI kw := by
          rcases hw with q | q
          · exact ⟨0, by omega, q⟩
          · exact ⟨1, by omega, q⟩
        refine And.intro rfl (Exists.intro _ (And.intro (c_rperw hW hA ep h_p ekw hkw) ?_))
        rintro _ _ _ _ ⟨rfl, rfl, rfl, rfl⟩
        refine ⟨?_, rfl, rfl, rfl⟩
        rcases hw with rfl | rfl <;> simp [h10, hcp]
      · replace h25 := (fc_ofI 2 (by decide)).mp h25
        refine And.intro rfl (Exists.intro _ (And.intro (hW 252 24 268 rfl) ?_))
        refine Exists.intro _ (Exists.intro _ (And.intro rfl (And.intro (fc_ixn (fc_na (fc_nl 2) ep) (by omega) (by decide)) ?_)))
        rw [ra_w0 hA h_p]
        exact ⟨by simp [fc_b, h10, hcp, h19, h25], rfl, rfl, rfl⟩
      · replace h25 := (fc_ofI 3 (by decide)).mp h25
        refine And.intro rfl (Exists.intro _ (And.intro (c_risAwake hW hA (fc_nl 0) ep (by omega)) ?_))
        rintro _ _ _ _ ⟨rfl, rfl, rfl, rfl⟩
        refine And.intro (fun h71 => ?_) (fun h71 => ?_)
        · replace h71 := fc_b0.mp h71
          exact ⟨by simp [fc_b, h10, hcp, h19, h25, h71], rfl, rfl, rfl⟩
        · replace h71 := fc_b1.mp h71
          exact ⟨by simp [fc_b, h10, hcp, h19, h25, h71], rfl, rfl, rfl⟩
      · replace h25 := (fc_ofI 4 (by decide)).mp h25
        refine And.intro rfl (Exists.intro _ (And.intro (c_risReady hW hA (fc_nl 0) ep (by omega)) ?_))
        rintro _ _ _ _ ⟨rfl, rfl, rfl, rfl⟩
        refine And.intro (fun h86 => ?_) (fun h86 => ?_)
        · replace h86 := fc_b0.mp h86
          exact ⟨by simp [fc_b, h10, hcp, h19, h25, h86], rfl, rfl, rfl⟩
        · replace h86 := fc_b1.mp h86
          exact ⟨by simp [fc_b, h10, hcp, h19, h25, h86], rfl, rfl, rfl⟩
      · replace h25 := (fc_ofI 5 (by decide)).mp h25
        refine And.intro rfl (Exists.intro _ (And.intro (c_rthingsWith hW hA (fc_nl 0) _) ?_))
        rintro _ _ _ _ ⟨rfl, rfl, rfl, rfl⟩
        exact ⟨by simp [fc_b, h10, hcp, h19, h25], rfl, rfl, rfl⟩

theorem c_rreach (hW : fc_Wd mr) (hA : ra mi 0 n m t sm L σ) (x : Int32) : fc_R E mX11_reach (d + 3) fc_sh [.ref 252, .int x] mi ml mr (fc_is (some (.int (if sp_has (nI m) x then fg_it (L 4) m 0 (sp_one x.toNatClampNeg) 7 else -1))) (fc_u mi 252 0 0) ml mr) := by
  replace hA : ra (fc_u mi 252 0 0) 0 n m t sm L σ := hA.off rfl rfl
  obtain ⟨⟨e0, e2, e3, e4⟩, hB, hLo, hSo, hLg, hSg⟩ := id hA
  obtain ⟨h5, h7, h6, hs1, hs2, hLp, hLt⟩ := id hLo
  refine fc_met rfl (Nat.le_of_ble_eq_true rfl) (fc_run oX11_reach (fun _ => false) 400 ?_)
  refine And.intro rfl ?_
  refine And.intro rfl (Exists.intro _ (And.intro (c_risPlace hW hA _) ?_))
  rintro _ _ _ _ ⟨rfl, rfl, rfl, rfl⟩
  refine And.intro (fun h10 => ?_) (fun h10 => ?_)
  · replace h10 := fc_b0.mp h10
    exact ⟨by simp [h10], rfl, rfl, rfl⟩
  · replace h10 := fc_b1.mp h10
    obtain ⟨p, h_p, ep⟩ := sp_hasN (by omega) h10
    have hcp : x.toNatClampNeg = p := by rw [ep]; exact nI_clamp (by omega)
    refine And.intro rfl (Exists.intro _ (And.intro (c_rreachBy hW hA ep _) ?_))
    rintro _ _ _ _ ⟨rfl, rfl, rfl, rfl⟩
    exact ⟨by simp [h10, hcp], rfl, rfl, rfl⟩

theorem c_rlinks (hW : fc_Wd mr) (hA : ra mi 0 n m t sm L σ) (hG : fg_ok m (L 4)) (x : Int32) : fc_R E mX11_links (d + 3) fc_sh [.ref 252, .int x] mi ml mr (fc_is (some (.int (if sp_has (nI m) x then sp_bc (L 4 x.toNatClampNeg) else -1))) (fc_u mi 252 0 0) ml mr) := by
  replace hA : ra (fc_u mi 252 0 0) 0 n m t sm L σ := hA.off rfl rfl
  obtain ⟨⟨e0, e2, e3, e4⟩, hB, hLo, hSo, hLg, hSg⟩ := id hA
  obtain ⟨h5, h7, h6, hs1, hs2, hLp, hLt⟩ := id hLo
  refine fc_met rfl (Nat.le_of_ble_eq_true rfl) (fc_run oX11_links (fun _ => false) 400 ?_)
  refine And.intro rfl ?_
  refine And.intro rfl (Exists.intro _ (And.intro (c_risPlace hW hA _) ?_))
  rintro _ _ _ _ ⟨rfl, rfl, rfl, rfl⟩
  refine And.intro (fun h10 => ?_) (fun h10 => ?_)
  · replace h10 := fc_b0.mp h10
    exact ⟨by simp [h10], rfl, rfl, rfl⟩
  · replace h10 := fc_b1.mp h10
    obtain ⟨p, h_p, ep⟩ := sp_hasN (by omega) h10
    have hcp : x.toNatClampNeg = p := by rw [ep]; exact nI_clamp (by omega)
    refine And.intro rfl (Exists.intro _ (And.intro (c_rpath hW hA ep (by omega)) ?_))
    rintro _ _ _ _ ⟨rfl, rfl, rfl, rfl⟩
    refine Exists.intro _ (And.intro (c_rbits (fun i hi q => (hG p h_p).1 i hi (by omega))) ?_)
    rintro _ _ _ _ ⟨rfl, rfl, rfl, rfl⟩
    exact ⟨by simp [h10, hcp], rfl, rfl, rfl⟩

theorem c_rheard (hW : fc_Wd mr) (hA : ra mi 0 n m t sm L σ) (x : Int32) : fc_R E mX11_heard (d + 3) fc_sh [.ref 252, .int x] mi ml mr (fc_is (some (.int (if sp_has (nI n) x then σ 3 x.toNatClampNeg else -1))) (fc_u mi 252 0 0) ml mr) := by
  replace hA : ra (fc_u mi 252 0 0) 0 n m t sm L σ := hA.off rfl rfl
  obtain ⟨⟨e0, e2, e3, e4⟩, hB, hLo, hSo, hLg, hSg⟩ := id hA
  obtain ⟨h5, h7, h6, hs1, hs2, hLp, hLt⟩ := id hLo
  refine fc_met rfl (Nat.le_of_ble_eq_true rfl) (fc_run oX11_heard (fun _ => false) 400 ?_)
  refine And.intro rfl ?_
  refine And.intro rfl (Exists.intro _ (And.intro (c_risPerson hW hA _) ?_))
  rintro _ _ _ _ ⟨rfl, rfl, rfl, rfl⟩
  refine And.intro (fun h10 => ?_) (fun h10 => ?_)
  · replace h10 := fc_b0.mp h10
    exact ⟨by simp [h10], rfl, rfl, rfl⟩
  · replace h10 := fc_b1.mp h10
    obtain ⟨p, h_p, ep⟩ := sp_hasN (by omega) h10
    have hcp : x.toNatClampNeg = p := by rw [ep]; exact nI_clamp (by omega)
    refine And.intro rfl (Exists.intro _ (And.intro (hW 252 24 268 rfl) ?_))
    refine Exists.intro _ (Exists.intro _ (And.intro rfl (And.intro (fc_ixn (fc_na (fc_nl 34) ep) (by omega) (by decide)) ?_)))
    rw [ra_h0 hA h_p]
    exact ⟨by simp [h10, hcp], rfl, rfl, rfl⟩

theorem c_rvows (hW : fc_Wd mr) (hA : ra mi 0 n m t sm L σ) (x r : Int32) : fc_R E mX11_vows (d + 3) fc_sh [.ref 252, .int x, .int r] mi ml mr (fc_is (some (.int (if sp_has (nI n) x then (if r = 0 then σ 4 x.toNatClampNeg else σ 5 x.toNatClampNeg) else -1))) (fc_u mi 252 0 0) ml mr) := by
  replace hA : ra (fc_u mi 252 0 0) 0 n m t sm L σ := hA.off rfl rfl
  obtain ⟨⟨e0, e2, e3, e4⟩, hB, hLo, hSo, hLg, hSg⟩ := id hA
  obtain ⟨h5, h7, h6, hs1, hs2, hLp, hLt⟩ := id hLo
  refine fc_met rfl (Nat.le_of_ble_eq_true rfl) (fc_run oX11_vows (fun _ => false) 400 ?_)
  refine And.intro rfl ?_
  refine And.intro rfl (Exists.intro _ (And.intro (c_risPerson hW hA _) ?_))
  rintro _ _ _ _ ⟨rfl, rfl, rfl, rfl⟩
  refine And.intro (fun h10 => ?_) (fun h10 => ?_)
  · replace h10 := fc_b0.mp h10
    exact ⟨by simp [h10], rfl, rfl, rfl⟩
  · replace h10 := fc_b1.mp h10
    obtain ⟨p, h_p, ep⟩ := sp_hasN (by omega) h10
    have hcp : x.toNatClampNeg = p := by rw [ep]; exact nI_clamp (by omega)
    refine And.intro rfl (Exists.intro _ (And.intro (hW 252 24 268 rfl) ?_))
    refine And.intro (fun h18 => ?_) (fun h18 => ?_)
    · refine Exists.intro _ (Exists.intro _ (And.intro rfl (And.intro (fc_ixn (fc_na (fc_nl 24) ep) (by omega) (by decide)) ?_)))
      first | rw [ra_v0 hA h_p] | rw [ra_b0 hA h_p]
      exact ⟨by simp [h10, hcp, h18], rfl, rfl, rfl⟩
    · refine Exists.intro _ (Exists.intro _ (And.intro rfl (And.intro (fc_ixn (fc_na (fc_nl 29) ep) (by omega) (by decide)) ?_)))
      first | rw [ra_v0 hA h_p] | rw [ra_b0 hA h_p]
      exact ⟨by simp [h10, hcp, h18], rfl, rfl, rfl⟩

theorem c_rback (hW : fc_Wd mr) (hA : ra mi 0 n m t sm L σ) : fc_R E mX11_back (d + 3) fc_sh [.ref 252] mi ml mr (fc_is (some (.int (sp_set (fun q => !decide (σ 6 q = σ 7 q)) t))) (fc_u mi 252 0 0) ml mr) := by
  replace hA : ra (fc_u mi 252 0 0) 0 n m t sm L σ := hA.off rfl rfl
  obtain ⟨⟨e0, e2, e3, e4⟩, hB, hLo, hSo, hLg, hSg⟩ := id hA
  obtain ⟨h5, h7, h6, hs1, hs2, hLp, hLt⟩ := id hLo
  refine fc_met rfl (Nat.le_of_ble_eq_true rfl) (fc_run oX11_back (fun _ => false) 400 ?_)
  refine And.intro rfl ?_
  refine And.intro rfl (Exists.intro _ (And.intro (c_rwrongThings hW hA (fc_nl 0)) ?_))
  rintro _ _ _ _ ⟨rfl, rfl, rfl, rfl⟩
  exact ⟨rfl, rfl, rfl, rfl⟩

theorem c_rfar (hW : fc_Wd mr) (hA : ra mi 0 n m t sm L σ) (x z : Int32) : fc_R E mX11_far (d + 3) fc_sh [.ref 252, .int x, .int z] mi ml mr (fc_is (some (.int (if sp_has (nI m) x && sp_has (nI m) z then sp_non (fg_far (L 4) m x.toNatClampNeg z) else -1))) (fc_u mi 252 0 0) ml mr) := by
  replace hA : ra (fc_u mi 252 0 0) 0 n m t sm L σ := hA.off rfl rfl
  obtain ⟨⟨e0, e2, e3, e4⟩, hB, hLo, hSo, hLg, hSg⟩ := id hA
  obtain ⟨h5, h7, h6, hs1, hs2, hLp, hLt⟩ := id hLo
  refine fc_met rfl (Nat.le_of_ble_eq_true rfl) (fc_run oX11_far (fun _ => false) 400 ?_)
  refine And.intro rfl ?_
  refine And.intro rfl (Exists.intro _ (And.intro (c_risPlace hW hA _) ?_))
  rintro _ _ _ _ ⟨rfl, rfl, rfl, rfl⟩
  refine And.intro (fun h10 => ?_) (fun h10 => ?_)
  · replace h10 := fc_b0.mp h10
    refine And.intro (fun h38 => ?_) (fun h38 => ?_)
    · exact ⟨by simp [h10], rfl, rfl, rfl⟩
    · exact absurd rfl h38
  · replace h10 := fc_b1.mp h10
    obtain ⟨p, h_p, ep⟩ := sp_hasN (by omega) h10
    have hcp : x.toNatClampNeg = p := by rw [ep]; exact nI_clamp (by omega)
    refine And.intro rfl (Exists.intro _ (And.intro (c_risPlace hW hA _) ?_))
    rintro _ _ _ _ ⟨rfl, rfl, rfl, rfl⟩
    refine And.intro (fun h18 => ?_) (fun h18 => ?_)
    · replace h18 := fc_b0.mp h18
      refine And.intro (fun h38 => ?_) (fun h38 => ?_)
      · exact ⟨by simp [h10, h18], rfl, rfl, rfl⟩
      · exact absurd rfl h38
    · replace h18 := fc_b1.mp h18
      obtain ⟨k, h_k, ek⟩ := sp_hasN (by omega) h18
      have hck : z.toNatClampNeg = k := by rw [ek]; exact nI_clamp (by omega)
      refine And.intro rfl (Exists.intro _ (And.intro (c_rfarOf hW hA ep _) ?_))
      rintro _ _ _ _ ⟨rfl, rfl, rfl, rfl⟩
      refine And.intro (fun h38 => ?_) (fun h38 => ?_)
      · exact ⟨by rw [h10, h18, hcp, h38]; decide, rfl, rfl, rfl⟩
      · refine ⟨?_, rfl, rfl, rfl⟩
        rw [h10, h18, hcp]
        rcases fg_far_c (m := m) (pt := L 4) (x := p) (y := k) (by omega) with ⟨s, q1, q2⟩ | q2
        · rw [← ek] at q2
          rw [q2, sp_non, if_neg (show ¬ (99 : Int32) < nI s from nI_nlt (b := s) (a := 99) (by omega) (by omega))]; rfl
        · rw [← ek] at q2; exact absurd q2 h38

theorem c_rsoon (hW : fc_Wd mr) (hA : ra mi 0 n m t sm L σ) (x z : Int32) : fc_R E mX11_soon (d + 4) fc_sh [.ref 252, .int x, .int z] mi ml mr (fc_is (some (.int (if sp_has (nI n) x && sp_has (nI m) z then sp_non (a_mt L σ m x.toNatClampNeg z) else -1))) (fc_u mi 252 0 0) ml mr) := by
  replace hA : ra (fc_u mi 252 0 0) 0 n m t sm L σ := hA.off rfl rfl
  obtain ⟨⟨e0, e2, e3, e4⟩, hB, hLo, hSo, hLg, hSg⟩ := id hA
  obtain ⟨h5, h7, h6, hs1, hs2, hLp, hLt⟩ := id hLo
  refine fc_met rfl (Nat.le_of_ble_eq_true rfl) (fc_run oX11_soon (fun _ => false) 400 ?_)
  refine And.intro rfl ?_
  refine And.intro rfl (Exists.intro _ (And.intro (c_risPerson hW hA _) ?_))
  rintro _ _ _ _ ⟨rfl, rfl, rfl, rfl⟩
  refine And.intro (fun h10 => ?_) (fun h10 => ?_)
  · replace h10 := fc_b0.mp h10
    exact ⟨by simp [h10], rfl, rfl, rfl⟩
  · replace h10 := fc_b1.mp h10
    obtain ⟨p, h_p, ep⟩ := sp_hasN (by omega) h10
    have hcp : x.toNatClampNeg = p := by rw [ep]; exact nI_clamp (by omega)
    refine And.intro rfl (Exists.intro _ (And.intro (c_risPlace hW hA _) ?_))
    rintro _ _ _ _ ⟨rfl, rfl, rfl, rfl⟩
    refine And.intro (fun h18 => ?_) (fun h18 => ?_)
    · replace h18 := fc_b0.mp h18
      exact ⟨by simp [h10, hcp, h18], rfl, rfl, rfl⟩
    · replace h18 := fc_b1.mp h18
      obtain ⟨k, h_k, ek⟩ := sp_hasN (by omega) h18
      have hck : z.toNatClampNeg = k := by rw [ek]; exact nI_clamp (by omega)
      refine And.intro rfl (Exists.intro _ (And.intro (c_rsoonOf hW hA ep ek (by omega) (by omega)) ?_))
      rintro _ _ _ _ ⟨rfl, rfl, rfl, rfl⟩
      refine Exists.intro _ (And.intro (c_rtold _) ?_)
      rintro _ _ _ _ ⟨rfl, rfl, rfl, rfl⟩
      exact ⟨by simp [h10, hcp, h18, hck], rfl, rfl, rfl⟩

theorem c_rintime (hW : fc_Wd mr) (hA : ra mi 0 n m t sm L σ) (x z : Int32) : fc_R E mX11_intime (d + 4) fc_sh [.ref 252, .int x, .int z] mi ml mr (fc_is (some (.int (fc_b ((sp_has (nI n) x && sp_has (nI m) z) && (!decide (99 < a_mt L σ m x.toNatClampNeg z) && !decide (nI sm ≤ σ 0 1 + a_mt L σ m x.toNatClampNeg z)))))) (fc_u mi 252 0 0) ml mr) := by
  replace hA : ra (fc_u mi 252 0 0) 0 n m t sm L σ := hA.off rfl rfl
  obtain ⟨⟨e0, e2, e3, e4⟩, hB, hLo, hSo, hLg, hSg⟩ := id hA
  obtain ⟨h5, h7, h6, hs1, hs2, hLp, hLt⟩ := id hLo
  refine fc_met rfl (Nat.le_of_ble_eq_true rfl) (fc_run oX11_intime (fun _ => false) 400 ?_)
  refine And.intro rfl ?_
  refine And.intro rfl (Exists.intro _ (And.intro (c_risPerson hW hA _) ?_))
  rintro _ _ _ _ ⟨rfl, rfl, rfl, rfl⟩
  refine And.intro (fun h10 => ?_) (fun h10 => ?_)
  · replace h10 := fc_b0.mp h10
    refine And.intro (by first | exact Or.inl rfl | exact Or.inr rfl | exact fc_bb _ | assumption) ?_
    exact ⟨by rw [h10]; rfl, rfl, rfl, rfl⟩
  · replace h10 := fc_b1.mp h10
    obtain ⟨p, h_p, ep⟩ := sp_hasN (by omega) h10
    have hcp : x.toNatClampNeg = p := by rw [ep]; exact nI_clamp (by omega)
    refine And.intro rfl (Exists.intro _ (And.intro (c_risPlace hW hA _) ?_))
    rintro _ _ _ _ ⟨rfl, rfl, rfl, rfl⟩
    refine And.intro (fun h18 => ?_) (fun h18 => ?_)
    · replace h18 := fc_b0.mp h18
      refine And.intro (by first | exact Or.inl rfl | exact Or.inr rfl | exact fc_bb _ | assumption) ?_
      exact ⟨by rw [h10, h18]; rfl, rfl, rfl, rfl⟩
    · replace h18 := fc_b1.mp h18
      obtain ⟨k, h_k, ek⟩ := sp_hasN (by omega) h18
      have hck : z.toNatClampNeg = k := by rw [ek]; exact nI_clamp (by omega)
      refine And.intro rfl (Exists.intro _ (And.intro (c_rsoonOf hW hA ep ek (by omega) (by omega)) ?_))
      rintro _ _ _ _ ⟨rfl, rfl, rfl, rfl⟩
      refine And.intro (fun h29 => ?_) (fun h29 => ?_)
      · refine And.intro (by first | exact Or.inl rfl | exact Or.inr rfl | exact fc_bb _ | assumption) ?_
        exact ⟨by rw [h10, h18, hcp, nd_f h29]; rfl, rfl, rfl, rfl⟩
      · refine And.intro rfl (Exists.intro _ (And.intro (hW 252 24 268 rfl) ?_))
        refine Exists.intro _ (Exists.intro _ (And.intro rfl (And.intro (fc_ixn (fc_nl 1) (by omega) (by decide)) ?_)))
        refine And.intro rfl (Exists.intro _ (And.intro (c_rsoonOf hW hA ep ek (by omega) (by omega)) ?_))
        rintro _ _ _ _ ⟨rfl, rfl, rfl, rfl⟩
        refine And.intro rfl (Exists.intro _ (And.intro (c_rsmokeAt hW hA) ?_))
        rintro _ _ _ _ ⟨rfl, rfl, rfl, rfl⟩
        refine And.intro (fun h49 => ?_) (fun h49 => ?_)
        · rw [ra_10 hA] at h49
          refine And.intro (by first | exact Or.inl rfl | exact Or.inr rfl | exact fc_bb _ | assumption) ?_
          exact ⟨by rw [h10, h18, hcp, nd_t h29, nd_f h49]; rfl, rfl, rfl, rfl⟩
        · rw [ra_10 hA] at h49
          refine And.intro (by first | exact Or.inl rfl | exact Or.inr rfl | exact fc_bb _ | assumption) ?_
          exact ⟨by rw [h10, h18, hcp, nd_t h29, nd_t h49]; rfl, rfl, rfl, rfl⟩

theorem a_slp (w : Int32) : (if 0 < w then w else 0) = (if w < 0 then 0 else w) := by
  simp only [Int32.lt_iff_toInt_lt]
  have h0 : (0 : Int32).toInt = 0 := rfl
  rw [h0]
  apply Int32.toInt_inj.mp
  by_cases h1 : 0 < w.toInt
  · rw [if_pos h1, if_neg (by omega)]
  · rw [if_neg h1]
    by_cases h2 : w.toInt < 0
    · rw [if_pos h2]
    · rw [if_neg h2, h0]; omega
theorem c_rsleeps (hW : fc_Wd mr) (hA : ra mi 0 n m t sm L σ) (x : Int32) : fc_R E mX11_sleeps (d + 3) fc_sh [.ref 252, .int x] mi ml mr (fc_is (some (.int (if sp_has (nI n) x then (if 0 < L 7 x.toNatClampNeg - σ 0 1 then L 7 x.toNatClampNeg - σ 0 1 else 0) else -1))) (fc_u mi 252 0 0) ml mr) := by
  replace hA : ra (fc_u mi 252 0 0) 0 n m t sm L σ := hA.off rfl rfl
  obtain ⟨⟨e0, e2, e3, e4⟩, hB, hLo, hSo, hLg, hSg⟩ := id hA
  obtain ⟨h5, h7, h6, hs1, hs2, hLp, hLt⟩ := id hLo
  refine fc_met rfl (Nat.le_of_ble_eq_true rfl) (fc_run oX11_sleeps (fun _ => false) 400 ?_)
  refine And.intro rfl ?_
  refine And.intro rfl (Exists.intro _ (And.intro (c_risPerson hW hA _) ?_))
  rintro _ _ _ _ ⟨rfl, rfl, rfl, rfl⟩
  refine And.intro (fun h10 => ?_) (fun h10 => ?_)
  · replace h10 := fc_b0.mp h10
    refine And.intro rfl (Exists.intro _ (And.intro (c_risPerson hW hA _) ?_))
    rintro _ _ _ _ ⟨rfl, rfl, rfl, rfl⟩
    refine And.intro (fun h36 => ?_) (fun h36 => ?_)
    · replace h36 := fc_b0.mp h36
      exact ⟨by simp [h10], rfl, rfl, rfl⟩
    · replace h36 := fc_b1.mp h36
      rw [h10] at h36; cases h36
  · replace h10 := fc_b1.mp h10
    obtain ⟨p, h_p, ep⟩ := sp_hasN (by omega) h10
    have hcp : x.toNatClampNeg = p := by rw [ep]; exact nI_clamp (by omega)
    refine And.intro rfl (Exists.intro _ (And.intro (c_rper2 hW hA ep (by omega)) ?_))
    rintro _ _ _ _ ⟨rfl, rfl, rfl, rfl⟩
    refine And.intro rfl (Exists.intro _ (And.intro (hW 252 24 268 rfl) ?_))
    refine Exists.intro _ (Exists.intro _ (And.intro rfl (And.intro (fc_ixn (fc_nl 1) (by omega) (by decide)) ?_)))
    refine And.intro rfl (Exists.intro _ (And.intro (c_risPerson hW hA _) ?_))
    rintro _ _ _ _ ⟨rfl, rfl, rfl, rfl⟩
    refine And.intro (fun h36 => ?_) (fun h36 => ?_)
    · replace h36 := fc_b0.mp h36
      rw [h10] at h36; cases h36
    · replace h36 := fc_b1.mp h36
      refine And.intro (fun h40 => ?_) (fun h40 => ?_)
      · rw [ra_10 hA] at h40
        exact ⟨by rw [if_pos h10, hcp, ra_10 hA, a_slp, if_neg (Int32.not_lt.mpr h40)], rfl, rfl, rfl⟩
      · rw [ra_10 hA] at h40
        exact ⟨by rw [if_pos h10, hcp, a_slp, if_pos (Int32.not_le.mp h40)], rfl, rfl, rfl⟩

theorem c_rhas (hW : fc_Wd mr) (hA : ra mi 0 n m t sm L σ) (x r : Int32) : fc_R E mX11_has (d + 3) fc_sh [.ref 252, .int x, .int r] mi ml mr (fc_is (some (.int (if sp_has (nI n) x then sp_sw (fun q => decide (σ (if r = 0 then 6 else 7) q = x)) (L 8) t else -1))) (fc_u mi 252 0 0) ml mr) := by
  replace hA : ra (fc_u mi 252 0 0) 0 n m t sm L σ := hA.off rfl rfl
  obtain ⟨⟨e0, e2, e3, e4⟩, hB, hLo, hSo, hLg, hSg⟩ := id hA
  obtain ⟨h5, h7, h6, hs1, hs2, hLp, hLt⟩ := id hLo
  refine fc_met rfl (Nat.le_of_ble_eq_true rfl) (fc_run oX11_has (fun _ => false) 400 ?_)
  refine And.intro rfl ?_
  refine And.intro rfl (Exists.intro _ (And.intro (c_risPerson hW hA _) ?_))
  rintro _ _ _ _ ⟨rfl, rfl, rfl, rfl⟩
  refine And.intro (fun h10 => ?_) (fun h10 => ?_)
  · replace h10 := fc_b0.mp h10
    exact ⟨by simp [h10], rfl, rfl, rfl⟩
  · replace h10 := fc_b1.mp h10
    refine And.intro rfl (Exists.intro _ (And.intro (c_rworth hW hA _ _) ?_))
    rintro _ _ _ _ ⟨rfl, rfl, rfl, rfl⟩
    exact ⟨by simp [h10], rfl, rfl, rfl⟩

end M50
