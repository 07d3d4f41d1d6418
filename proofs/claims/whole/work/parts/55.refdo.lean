/-! ===== the reference: deeds ===== -/
section M55
variable {E : fc_E} {d : Nat} {mi : fc_Mi} {ml : fc_Ml} {mr : fc_Mr} {B n m t sm : Nat} {L σ : fc_Mi}
theorem c_risGift (hW : fc_Wd mr) (hA : ra mi 0 n m t sm L σ) (x z : Int32) : fc_R E mX11_isGift (d + 2) fc_sh [.ref 252, .int x, .int z] mi ml mr (fc_is (some (.int (fc_b (sp_has (nI t) x && (sp_has (nI n) z && !decide (σ 6 x.toNatClampNeg = z)))))) mi ml mr) := by
  obtain ⟨⟨e0, e2, e3, e4⟩, hB, hLo, hSo, hLg, hSg⟩ := id hA
  obtain ⟨h5, h7, h6, hs1, hs2, hLp, hLt⟩ := id hLo
  refine fc_met rfl (Nat.le_of_ble_eq_true rfl) (fc_run oX11_isGift (fun _ => false) 400 ?_)
  refine And.intro rfl (Exists.intro _ (And.intro (c_risThing hW hA _) ?_))
  rintro _ _ _ _ ⟨rfl, rfl, rfl, rfl⟩
  refine And.intro (fun h5 => ?_) (fun h5 => ?_)
  · replace h5 := fc_b0.mp h5
    refine And.intro (by first | exact Or.inl rfl | exact Or.inr rfl | exact fc_bb _ | assumption) ?_
    exact ⟨by rw [h5]; rfl, rfl, rfl, rfl⟩
  · replace h5 := fc_b1.mp h5
    obtain ⟨p, h_p, ep⟩ := sp_hasN (by omega) h5
    have hcp : x.toNatClampNeg = p := by rw [ep]; exact nI_clamp (by omega)
    refine And.intro rfl (Exists.intro _ (And.intro (c_risPerson hW hA _) ?_))
    rintro _ _ _ _ ⟨rfl, rfl, rfl, rfl⟩
    refine And.intro (fun h13 => ?_) (fun h13 => ?_)
    · replace h13 := fc_b0.mp h13
      refine And.intro (by first | exact Or.inl rfl | exact Or.inr rfl | exact fc_bb _ | assumption) ?_
      exact ⟨by rw [h5, h13]; rfl, rfl, rfl, rfl⟩
    · replace h13 := fc_b1.mp h13
      refine And.intro rfl (Exists.intro _ (And.intro (hW 252 24 268 rfl) ?_))
      refine Exists.intro _ (Exists.intro _ (And.intro rfl (And.intro (fc_ixn (fc_na (fc_nl 12) ep) (by omega) (by decide)) ?_)))
      refine And.intro (fun h26 => ?_) (fun h26 => ?_)
      · rw [ra_o0 hA h_p] at h26
        refine And.intro (by first | exact Or.inl rfl | exact Or.inr rfl | exact fc_bb _ | assumption) ?_
        exact ⟨by rw [h5, h13, hcp, nd_f h26]; rfl, rfl, rfl, rfl⟩
      · rw [ra_o0 hA h_p] at h26
        refine And.intro (by first | exact Or.inl rfl | exact Or.inr rfl | exact fc_bb _ | assumption) ?_
        exact ⟨by rw [h5, h13, hcp, nd_t h26]; rfl, rfl, rfl, rfl⟩

theorem c_rwouldBind (hW : fc_Wd mr) (hA : ra mi 0 n m t sm L σ) {ev : fc_Ev} (hE : rlw mi ev) {x z : Int32} {q o : Nat} (hx : x = nI q) (hz : z = nI o) (hq : q < t) (ho : o < n) (ck : Int32) : fc_R E mX11_wouldBind (d + 3) fc_sh [.ref 252, .int x, .int z, .int ck] mi ml mr (rqw (fc_b (as_bd L σ n ev (L 8 q) ck (σ 6 q).toNatClampNeg o)) mi ml mr) := by
  obtain ⟨⟨e0, e2, e3, e4⟩, hB, hLo, hSo, hLg, hSg⟩ := id hA
  obtain ⟨h5, h7, h6, hs1, hs2, hLp, hLt⟩ := id hLo
  obtain ⟨⟨pp, hpp, ep⟩, -⟩ := hSo.2.1 q hq
  have hcl : (σ 6 q).toNatClampNeg = pp := by rw [ep]; exact nI_clamp (by omega)
  refine fc_met rfl (Nat.le_of_ble_eq_true rfl) (fc_run oX11_wouldBind (fun _ => false) 400 ?_)
  refine And.intro rfl (Exists.intro _ (And.intro (hW 252 24 268 rfl) ?_))
  refine Exists.intro _ (Exists.intro _ (And.intro rfl (And.intro (fc_ixn (fc_na (fc_nl 12) hx) (by omega) (by decide)) ?_)))
  refine And.intro rfl (Exists.intro _ (And.intro (c_rthi0 hW hA hx hq) ?_))
  rintro _ _ _ _ ⟨rfl, rfl, rfl, rfl⟩
  refine And.intro rfl (Exists.intro _ (And.intro (c_rdoesBind hW hA hE (fc_nl 0) ((ra_o0 hA hq).trans ep) hz (by omega) (by omega) _ _) ?_))
  rintro _ m1 _ _ ⟨rfl, F1, rfl, rfl⟩
  refine And.intro (by first | exact Or.inl rfl | exact Or.inr rfl | exact fc_bb _ | assumption) ?_
  rw [hcl]
  exact ⟨rfl, F1, rfl, rfl⟩

theorem c_rwould (hW : fc_Wd mr) (hA : ra mi 0 n m t sm L σ) {ev : fc_Ev} (hE : rlw mi ev) (x z : Int32) : fc_R E mX11_would (d + 4) fc_sh [.ref 252, .int x, .int z] mi ml mr (rqw (fc_b ((sp_has (nI t) x && (sp_has (nI n) z && !decide (σ 6 x.toNatClampNeg = z))) && as_bd L σ n ev (L 8 x.toNatClampNeg) (σ 0 1) (σ 6 x.toNatClampNeg).toNatClampNeg z.toNatClampNeg)) (fc_u mi 252 0 0) ml mr) := by
  replace hA : ra (fc_u mi 252 0 0) 0 n m t sm L σ := hA.off rfl rfl
  obtain ⟨⟨e0, e2, e3, e4⟩, hB, hLo, hSo, hLg, hSg⟩ := id hA
  obtain ⟨h5, h7, h6, hs1, hs2, hLp, hLt⟩ := id hLo
  replace hE : rlw (fc_u mi 252 0 0) ev := hE.off rfl rfl rfl
  refine fc_met rfl (Nat.le_of_ble_eq_true rfl) (fc_run oX11_would (fun _ => false) 400 ?_)
  refine And.intro rfl ?_
  refine And.intro rfl (Exists.intro _ (And.intro (c_risGift hW hA _ _) ?_))
  rintro _ _ _ _ ⟨rfl, rfl, rfl, rfl⟩
  refine And.intro (fun h11 => ?_) (fun h11 => ?_)
  · replace h11 := fc_b0.mp h11
    refine And.intro (by first | exact Or.inl rfl | exact Or.inr rfl | exact fc_bb _ | assumption) ?_
    exact ⟨by rw [h11]; rfl, fun w _ _ => rfl, rfl, rfl⟩
  · replace h11 := fc_b1.mp h11
    have hgg := h11
    rw [Bool.and_eq_true, Bool.and_eq_true] at hgg
    obtain ⟨g1, g2, g3⟩ := hgg
    obtain ⟨p, h_p, ep⟩ := sp_hasN (by omega) g1
    obtain ⟨k, h_k, ek⟩ := sp_hasN (by omega) g2
    have hcp : x.toNatClampNeg = p := by rw [ep]; exact nI_clamp (by omega)
    have hck : z.toNatClampNeg = k := by rw [ek]; exact nI_clamp (by omega)
    refine And.intro rfl (Exists.intro _ (And.intro (hW 252 24 268 rfl) ?_))
    refine Exists.intro _ (Exists.intro _ (And.intro rfl (And.intro (fc_ixn (fc_nl 1) (by omega) (by decide)) ?_)))
    rw [ra_10 hA]
    refine And.intro rfl (Exists.intro _ (And.intro (c_rwouldBind hW hA hE ep ek h_p h_k _) ?_))
    rintro _ m1 _ _ ⟨rfl, F1, rfl, rfl⟩
    refine And.intro (fun h26 => ?_) (fun h26 => ?_)
    · replace h26 := fc_b0.mp h26
      refine And.intro (by first | exact Or.inl rfl | exact Or.inr rfl | exact fc_bb _ | assumption) ?_
      exact ⟨by rw [h11, hcp, hck, h26]; rfl, F1, rfl, rfl⟩
    · replace h26 := fc_b1.mp h26
      refine And.intro (by first | exact Or.inl rfl | exact Or.inr rfl | exact fc_bb _ | assumption) ?_
      exact ⟨by rw [h11, hcp, hck, h26]; rfl, F1, rfl, rfl⟩

theorem l_rwhen (hW : fc_Wd mr) (hA : ra mi 0 n m t sm L σ) {ev : fc_Ev} (hE : rlw mi ev) {x z : Int32} {q o : Nat} (hx : x = nI q) (hz : z = nI o) (hq : q < t) (ho : o < n) (hgf : (sp_has (nI t) x && (sp_has (nI n) z && !decide (σ 6 x.toNatClampNeg = z))) = true) : ∀ (j i : Nat) (c : Int32) (mm : fc_Mi), i + j = sm → c = nI i → (∀ w, w ≠ 266 → w ≠ 267 → mm w = mi w) → fc_T E mX11_when (d + 4) (0, 0) fc_sh 12 [some (.ref 252), some (.int x), some (.int z), some (.int c)] [] mm ml mr (rqw (sp_wn (fun ck => as_bd L σ n ev (L 8 q) ck (σ 6 q).toNatClampNeg o) j i) mi ml mr) := by
  intro j
  induction j with
  | zero =>
    intro i c mm hi hc hm
    subst hc
    have hA' : ra mm 0 n m t sm L σ := hA.off (hm 258 (by decide) (by decide)) (hm 268 (by decide) (by decide))
    have hE' : rlw mm ev := hE.off (hm 258 (by decide) (by decide)) (hm 259 (by decide) (by decide)) (hm 260 (by decide) (by decide))
    obtain ⟨⟨e0, e2, e3, e4⟩, hB, hLo, hSo, hLg, hSg⟩ := id hA
    obtain ⟨h5, h7, h6, hs1, hs2, hLp, hLt⟩ := id hLo
    refine fc_run oX11_when (fun pc => pc == 12) 400 ?_
    refine And.intro rfl (Exists.intro _ (And.intro (c_rsmokeAt hW hA') ?_))
    rintro _ _ _ _ ⟨rfl, rfl, rfl, rfl⟩
    refine And.intro (fun h17 => ?_) (fun h17 => ?_)
    · exact ⟨rfl, hm, rfl, rfl⟩
    · exact absurd (nI_le (by omega) (by omega)) h17
  | succ j ih =>
    intro i c mm hi hc hm
    subst hc
    have hA' : ra mm 0 n m t sm L σ := hA.off (hm 258 (by decide) (by decide)) (hm 268 (by decide) (by decide))
    have hE' : rlw mm ev := hE.off (hm 258 (by decide) (by decide)) (hm 259 (by decide) (by decide)) (hm 260 (by decide) (by decide))
    obtain ⟨⟨e0, e2, e3, e4⟩, hB, hLo, hSo, hLg, hSg⟩ := id hA
    obtain ⟨h5, h7, h6, hs1, hs2, hLp, hLt⟩ := id hLo
    refine fc_run oX11_when (fun pc => pc == 12) 400 ?_
    refine And.intro rfl (Exists.intro _ (And.intro (c_rsmokeAt hW hA') ?_))
    rintro _ _ _ _ ⟨rfl, rfl, rfl, rfl⟩
    refine And.intro (fun h17 => ?_) (fun h17 => ?_)
    · exact absurd h17 (nI_ge (by omega) (by omega))
    · refine And.intro rfl (Exists.intro _ (And.intro (c_risGift hW hA' _ _) ?_))
      rintro _ _ _ _ ⟨rfl, rfl, rfl, rfl⟩
      refine And.intro (fun h26 => ?_) (fun h26 => ?_)
      · rw [hgf] at h26; cases h26
      · replace h26 := fc_b1.mp h26
        refine And.intro rfl (Exists.intro _ (And.intro (c_rwouldBind hW hA' hE' hx hz hq ho _) ?_))
        rintro _ m1 _ _ ⟨rfl, F1, rfl, rfl⟩
        refine And.intro (fun h36 => ?_) (fun h36 => ?_)
        · replace h36 := fc_b0.mp h36
          rw [sp_wn, if_neg (by rw [h36]; decide)]
          exact ih (i + 1) _ _ (by omega) (fc_inc i) (fun w q1 q2 => (F1 w q1 q2).trans (hm w q1 q2))
        · replace h36 := fc_b1.mp h36
          exact ⟨by rw [sp_wn, if_pos h36], fun w q1 q2 => (F1 w q1 q2).trans (hm w q1 q2), rfl, rfl⟩

theorem sp_wn_x {P P' : Int32 → Bool} (h : ∀ c, P c = P' c) : ∀ j i, sp_wn P j i = sp_wn P' j i
  | 0, _ => rfl
  | j + 1, i => by rw [sp_wn, sp_wn, h, sp_wn_x h j (i + 1)]
theorem c_rwhen (hW : fc_Wd mr) (hA : ra mi 0 n m t sm L σ) {ev : fc_Ev} (hE : rlw mi ev) {mn : Nat} (hmn : σ 0 1 = nI mn) (hms : mn < sm) (x z : Int32) : fc_R E mX11_when (d + 4) fc_sh [.ref 252, .int x, .int z] mi ml mr (rqw (if (sp_has (nI t) x && (sp_has (nI n) z && !decide (σ 6 x.toNatClampNeg = z))) then sp_wn (fun ck => as_bd L σ n ev (L 8 x.toNatClampNeg) ck (σ 6 x.toNatClampNeg).toNatClampNeg z.toNatClampNeg) (sm - mn) mn else -1) (fc_u mi 252 0 0) ml mr) := by
  replace hA : ra (fc_u mi 252 0 0) 0 n m t sm L σ := hA.off rfl rfl
  obtain ⟨⟨e0, e2, e3, e4⟩, hB, hLo, hSo, hLg, hSg⟩ := id hA
  obtain ⟨h5, h7, h6, hs1, hs2, hLp, hLt⟩ := id hLo
  replace hE : rlw (fc_u mi 252 0 0) ev := hE.off rfl rfl rfl
  by_cases h0 : (sp_has (nI t) x && (sp_has (nI n) z && !decide (σ 6 x.toNatClampNeg = z))) = true
  · have hgg := h0
    rw [Bool.and_eq_true, Bool.and_eq_true] at hgg
    obtain ⟨g1, g2, g3⟩ := hgg
    obtain ⟨p, h_p, ep⟩ := sp_hasN (by omega) g1
    obtain ⟨k, h_k, ek⟩ := sp_hasN (by omega) g2
    have hcp : x.toNatClampNeg = p := by rw [ep]; exact nI_clamp (by omega)
    have hck : z.toNatClampNeg = k := by rw [ek]; exact nI_clamp (by omega)
    rw [if_pos h0, hcp, hck]
    refine fc_met rfl (Nat.le_of_ble_eq_true rfl) (fc_run oX11_when (fun pc => pc == 12) 400 ?_)
    refine And.intro rfl ?_
    refine And.intro rfl (Exists.intro _ (And.intro (hW 252 24 268 rfl) ?_))
    refine Exists.intro _ (Exists.intro _ (And.intro rfl (And.intro (fc_ixn (fc_nl 1) (by omega) (by decide)) ?_)))
    rw [ra_10 hA, hmn]
    exact l_rwhen hW hA hE ep ek h_p h_k h0 (sm - mn) mn _ _ (by omega) rfl (fun w _ _ => rfl)
  rw [if_neg h0]
  refine fc_met rfl (Nat.le_of_ble_eq_true rfl) (fc_run oX11_when (fun _ => false) 400 ?_)
  refine And.intro rfl ?_
  refine And.intro rfl (Exists.intro _ (And.intro (hW 252 24 268 rfl) ?_))
  refine Exists.intro _ (Exists.intro _ (And.intro rfl (And.intro (fc_ixn (fc_nl 1) (by omega) (by decide)) ?_)))
  rw [ra_10 hA, hmn]
  refine And.intro rfl (Exists.intro _ (And.intro (c_rsmokeAt hW hA) ?_))
  rintro _ _ _ _ ⟨rfl, rfl, rfl, rfl⟩
  refine And.intro (fun h17 => ?_) (fun h17 => ?_)
  · exact absurd h17 (nI_ge (by omega) (by omega))
  · refine And.intro rfl (Exists.intro _ (And.intro (c_risGift hW hA _ _) ?_))
    rintro _ _ _ _ ⟨rfl, rfl, rfl, rfl⟩
    refine And.intro (fun h26 => ?_) (fun h26 => ?_)
    · replace h26 := fc_b0.mp h26
      exact ⟨rfl, fun w _ _ => rfl, rfl, rfl⟩
    · exact absurd (fc_b1.mp h26) h0

/-- what is kept, moved down by one, so far: k blocks -/
def shd (r : Nat → Int32) : Nat → Nat → Int32
  | 0 => r
  | k + 1 => cpr (shd r k) (64 * (5 + (k + 1))) (64 * (5 + k)) 39
def kpt (r : Nat → Int32) (kp : Nat) : Nat → Int32 := if kp = 16 then cpr (shd r 15) 0 (64 * (5 + 15)) 39 else cpr r 0 (64 * (5 + kp)) 39
def rkp (mi : fc_Mi) (kp : Nat) : fc_Mi := fc_u (fc_ur mi 268 (kpt (mi 268) kp)) 252 25 (nI (if kp = 16 then 16 else kp + 1))
theorem shd_c (r : Nat → Int32) : ∀ k j, shd r k j = if 320 ≤ j ∧ j < 320 + 64 * k ∧ j % 64 < 39 then r (j + 64) else r j
  | 0, j => by rw [shd, if_neg (by omega)]
  | k + 1, j => by
    rw [shd, cpr]
    by_cases h : 64 * (5 + k) ≤ j ∧ j < 64 * (5 + k) + 39
    · rw [if_pos h, shd_c r k, if_neg (by omega), if_pos (by omega)]
      exact congrArg r (by omega)
    · rw [if_neg h, shd_c r k]
      by_cases g : 320 ≤ j ∧ j < 320 + 64 * k ∧ j % 64 < 39
      · rw [if_pos g, if_pos (by omega)]
      · rw [if_neg g, if_neg (by omega)]
theorem kpt_lo (r : Nat → Int32) {kp j : Nat} (hk : kp ≤ 16) (h : j < 320 ∨ 1344 ≤ j) : kpt r kp j = r j := by
  unfold kpt
  by_cases e : kp = 16
  · rw [if_pos e, cpr, if_neg (by omega), shd_c, if_neg (by omega)]
  · rw [if_neg e, cpr, if_neg (by omega)]
theorem kpt_at (r : Nat → Int32) {kp u q : Nat} (hk : kp ≤ 16) (hu : u < (if kp = 16 then 16 else kp + 1)) (hq : q < 39) : kpt r kp (64 * (5 + u) + q) = if u + 1 = (if kp = 16 then 16 else kp + 1) then r q else if kp = 16 then r (64 * (5 + (u + 1)) + q) else r (64 * (5 + u) + q) := by
  unfold kpt
  by_cases e : kp = 16
  · rw [if_pos e] at hu
    rw [if_pos e, if_pos e, if_pos e]
    by_cases g : u + 1 = 16
    · rw [if_pos g, cpr, if_pos (by omega), shd_c, if_neg (by omega)]
      exact congrArg r (by omega)
    · rw [if_neg g, cpr, if_neg (by omega), shd_c, if_pos (by omega)]
      exact congrArg r (by omega)
  · rw [if_neg e] at hu
    rw [if_neg e, if_neg e, if_neg e]
    by_cases g : u + 1 = kp + 1
    · rw [if_pos g, cpr, if_pos (by omega)]
      exact congrArg r (by omega)
    · rw [if_neg g, cpr, if_neg (by omega)]
theorem l_rkeeps (hW : fc_Wd mr) (h16 : mi 252 25 = 16) : ∀ (j i : Nat) (c : Int32) (mm : fc_Mi), i + j = 15 → c = nI (i + 1) → mm = fc_ur mi 268 (shd (mi 268) i) → fc_T E mX11_keeps (d + 1) (0, 0) fc_sh 11 [some (.ref 252), some (.int c)] [] mm ml mr (fc_is none (rkp mi 16) ml mr) := by
  intro j
  induction j with
  | zero =>
    intro i c mm hi hc hm
    subst hc
    refine fc_run oX11_keeps (fun pc => pc == 11) 400 ?_
    refine And.intro (fun h14 => ?_) (fun h14 => ?_)
    · refine And.intro rfl ?_
      rw [hm, show (fc_ur mi 268 (shd (mi 268) i)) 252 25 = 16 from h16]
      refine And.intro rfl ?_
      rw [show (16 : Int32) - 1 = nI 15 from rfl]
      refine And.intro rfl ?_
      rw [show (fc_u (fc_ur mi 268 (shd (mi 268) i)) 252 25 (nI 15)) 252 25 = nI 15 from rfl]
      refine And.intro rfl (Exists.intro _ (And.intro (c_rcopies hW (fc_nl 0) (fc_nm (fc_nl 64) (fc_na (fc_nl 5) rfl)) (fc_nl 39) (by omega) (by omega) (by omega)) ?_))
      rintro _ _ _ _ ⟨rfl, rfl, rfl, rfl⟩
      refine And.intro rfl ?_
      refine And.intro rfl ?_
      refine ⟨rfl, ?_, rfl, rfl⟩
      have hi15 : i = 15 := by omega
      subst hi15
      funext x
      unfold rkp kpt
      rw [if_pos rfl, if_pos rfl]
      by_cases e : x = 252
      · subst e; funext j
        by_cases e2 : j = 25
        · subst e2; rfl
        · simp [fc_u, fc_ur, e2]
      · by_cases e3 : x = 268
        · subst e3; simp [fc_u, fc_ur]
        · simp [fc_u, fc_ur, e, e3]
    · exact absurd (nI_le (a := 16) (b := i + 1) (by omega) (by omega)) h14
  | succ j ih =>
    intro i c mm hi hc hm
    subst hc
    refine fc_run oX11_keeps (fun pc => pc == 11) 400 ?_
    refine And.intro (fun h14 => ?_) (fun h14 => ?_)
    · exact absurd h14 (nI_ge (a := i + 1) (b := 16) (by omega) (by omega))
    · refine And.intro rfl (Exists.intro _ (And.intro (c_rcopies hW (fc_nm (fc_nl 64) (fc_na (fc_nl 5) rfl)) (b := 64 * (5 + i)) (by rw [show (5 : Int32) = nI 5 from rfl, nI_add, show (64 : Int32) = nI 64 from rfl, show nI (5 + (i + 1)) - 1 = nI (5 + i) from nI_pred (5 + i), pk_mul]) (fc_nl 39) (by omega) (by omega) (by omega)) ?_))
      rintro _ _ _ _ ⟨rfl, rfl, rfl, rfl⟩
      exact ih (i + 1) _ _ (by omega) (fc_inc (i + 1)) (by rw [hm, fc_ur_row, fc_ur_ur]; rfl)

theorem c_rkeeps (hW : fc_Wd mr) {kp : Nat} (hkp : mi 252 25 = nI kp) (hk : kp ≤ 16) : fc_R E mX11_keeps (d + 1) fc_sh [.ref 252] mi ml mr (fc_is none (rkp mi kp) ml mr) := by
  refine fc_met rfl (Nat.le_of_ble_eq_true rfl) (fc_run oX11_keeps (fun pc => pc == 11) 400 ?_)
  refine And.intro rfl ?_
  refine And.intro (fun h6 => ?_) (fun h6 => ?_)
  · have e16 : kp = 16 := by rw [hkp] at h6; exact (nI_eq (by omega) (by omega)).mp h6
    subst e16
    exact l_rkeeps hW h6 15 0 _ _ (by omega) rfl (by rw [shd, fc_ur_self])
  · have e16 : ¬ kp = 16 := fun q => h6 (by rw [hkp, q]; rfl)
    refine And.intro rfl ?_
    rw [hkp]
    refine And.intro rfl (Exists.intro _ (And.intro (c_rcopies hW (fc_nl 0) (fc_nm (fc_nl 64) (fc_na (fc_nl 5) rfl)) (fc_nl 39) (by omega) (by omega) (by omega)) ?_))
    rintro _ _ _ _ ⟨rfl, rfl, rfl, rfl⟩
    refine And.intro rfl ?_
    rw [show (fc_ur mi 268 (cpr (mi 268) 0 (64 * (5 + kp)) 39)) 252 25 = nI kp from hkp]
    refine And.intro rfl ?_
    refine ⟨rfl, ?_, rfl, rfl⟩
    unfold rkp kpt
    rw [if_neg e16, if_neg e16, nI_1 kp]

theorem rkp_ra {kp : Nat} (h : ra mi 0 n m t sm L σ) (hk : kp ≤ 16) : ra (rkp mi kp) 0 n m t sm L σ := by
  obtain ⟨h1, h2, h3, h4, h5, h6⟩ := id h
  refine ⟨h1, h2, h3, h4, h5, ?_⟩
  have e : ∀ j, j < 39 → (rkp mi kp) 268 j = mi 268 j := fun j hj => by
    show kpt (mi 268) kp j = mi 268 j
    exact kpt_lo _ hk (by omega)
  have hn := h3.1
  have ht := h3.2.2.1
  refine ⟨⟨?_, ?_⟩, fun p hp => ⟨?_, ?_, ?_, ?_, ?_⟩, fun q hq => ⟨?_, ?_⟩⟩
  · exact h6.1.1.trans (e 0 (by omega)).symm
  · exact h6.1.2.trans (e 1 (by omega)).symm
  · exact (h6.2.1 p hp).1.trans (e (0 + 2 + p) (by omega)).symm
  · exact (h6.2.1 p hp).2.1.trans (e (0 + 7 + p) (by omega)).symm
  · exact (h6.2.1 p hp).2.2.1.trans (e (0 + 34 + p) (by omega)).symm
  · exact (h6.2.1 p hp).2.2.2.1.trans (e (0 + 24 + p) (by omega)).symm
  · exact (h6.2.1 p hp).2.2.2.2.trans (e (0 + 29 + p) (by omega)).symm
  · exact (h6.2.2 q hq).1.trans (e (0 + 12 + q) (by omega)).symm
  · exact (h6.2.2 q hq).2.trans (e (0 + 18 + q) (by omega)).symm
theorem c_rwalk (hW : fc_Wd mr) (hA : ra mi 0 n m t sm L σ) {kp : Nat} (hkp : mi 252 25 = nI kp) (hk : kp ≤ 16) (x z : Int32) : fc_R E mX11_walk (d + 4) fc_sh [.ref 252, .int x, .int z] mi ml mr (if sp_cw (nI n) (nI m) (L 7) (σ 2) (σ 1) (L 4) (σ 0 1) x z then rq 0 n t (some (.int 1)) (as_wk L σ x.toNatClampNeg z) (rkp (fc_u mi 252 0 0) kp) ml mr else fc_is (some (.int 0)) (fc_u mi 252 0 0) ml mr) := by
  replace hA : ra (fc_u mi 252 0 0) 0 n m t sm L σ := hA.off rfl rfl
  obtain ⟨⟨e0, e2, e3, e4⟩, hB, hLo, hSo, hLg, hSg⟩ := id hA
  obtain ⟨h5, h7, h6, hs1, hs2, hLp, hLt⟩ := id hLo
  replace hkp : (fc_u mi 252 0 0) 252 25 = nI kp := hkp
  refine fc_met rfl (Nat.le_of_ble_eq_true rfl) (fc_run oX11_walk (fun _ => false) 400 ?_)
  refine And.intro rfl ?_
  refine And.intro rfl (Exists.intro _ (And.intro (c_risPerson hW hA _) ?_))
  rintro _ _ _ _ ⟨rfl, rfl, rfl, rfl⟩
  refine And.intro (fun h10 => ?_) (fun h10 => ?_)
  · replace h10 := fc_b0.mp h10
    refine And.intro (by first | exact Or.inl rfl | exact Or.inr rfl | exact fc_bb _ | assumption) ?_
    rw [if_neg (by rw [sp_cw, h10]; exact Bool.false_ne_true)]
    exact ⟨rfl, rfl, rfl, rfl⟩
  · replace h10 := fc_b1.mp h10
    obtain ⟨p, h_p, ep⟩ := sp_hasN (by omega) h10
    have hcp : x.toNatClampNeg = p := by rw [ep]; exact nI_clamp (by omega)
    refine And.intro rfl (Exists.intro _ (And.intro (c_risPlace hW hA _) ?_))
    rintro _ _ _ _ ⟨rfl, rfl, rfl, rfl⟩
    refine And.intro (fun h18 => ?_) (fun h18 => ?_)
    · replace h18 := fc_b0.mp h18
      refine And.intro (by first | exact Or.inl rfl | exact Or.inr rfl | exact fc_bb _ | assumption) ?_
      rw [if_neg (by rw [sp_cw, h10, h18]; exact Bool.false_ne_true)]
      exact ⟨rfl, rfl, rfl, rfl⟩
    · replace h18 := fc_b1.mp h18
      obtain ⟨k, h_k, ek⟩ := sp_hasN (by omega) h18
      have hck : z.toNatClampNeg = k := by rw [ek]; exact nI_clamp (by omega)
      refine And.intro rfl (Exists.intro _ (And.intro (c_rmayWalk hW hA (fc_nl 0) ep (by omega) _) ?_))
      rintro _ _ _ _ ⟨rfl, rfl, rfl, rfl⟩
      refine And.intro (fun h28 => ?_) (fun h28 => ?_)
      · replace h28 := fc_b0.mp h28
        refine And.intro (by first | exact Or.inl rfl | exact Or.inr rfl | exact fc_bb _ | assumption) ?_
        rw [if_neg (by rw [sp_cw, h10, h18, hcp]; simp only [Bool.true_and]; rw [h28]; decide)]
        exact ⟨rfl, rfl, rfl, rfl⟩
      · replace h28 := fc_b1.mp h28
        refine And.intro rfl (Exists.intro _ (And.intro (c_rkeeps hW hkp hk) ?_))
        rintro _ _ _ _ ⟨rfl, rfl, rfl, rfl⟩
        refine And.intro rfl (Exists.intro _ (And.intro (c_rwalks hW (rkp_ra hA hk) (fc_nl 0) ep h_p _) ?_))
        rintro _ m1 _ _ ⟨rfl, g1, g2, rfl, rfl⟩
        refine And.intro (by first | exact Or.inl rfl | exact Or.inr rfl | exact fc_bb _ | assumption) ?_
        rw [if_pos (by rw [sp_cw, h10, h18, hcp]; simp only [Bool.true_and]; exact h28)]
        rw [hcp]
        exact ⟨rfl, g1, g2, rfl, rfl⟩

theorem c_rgive (hW : fc_Wd mr) (hA : ra mi 0 n m t sm L σ) {kp : Nat} (hkp : mi 252 25 = nI kp) (hk : kp ≤ 16) {ev : fc_Ev} (hE : rlw mi ev) (x z : Int32) : fc_R E mX11_give (d + 4) fc_sh [.ref 252, .int x, .int z] mi ml mr (if sp_cg (nI t) (nI n) (σ 6) (L 7) (σ 2) (σ 1) (σ 0 1) x z then rq 0 n t (some (.int (fc_b (as_bd L σ n ev (L 8 x.toNatClampNeg) (σ 0 1) (σ 6 x.toNatClampNeg).toNatClampNeg z.toNatClampNeg)))) (as_gv σ x.toNatClampNeg (σ 6 x.toNatClampNeg).toNatClampNeg z (as_bd L σ n ev (L 8 x.toNatClampNeg) (σ 0 1) (σ 6 x.toNatClampNeg).toNatClampNeg z.toNatClampNeg)) (rkp (fc_u mi 252 0 0) kp) ml mr else fc_is (some (.int (-1))) (fc_u mi 252 0 0) ml mr) := by
  replace hA : ra (fc_u mi 252 0 0) 0 n m t sm L σ := hA.off rfl rfl
  obtain ⟨⟨e0, e2, e3, e4⟩, hB, hLo, hSo, hLg, hSg⟩ := id hA
  obtain ⟨h5, h7, h6, hs1, hs2, hLp, hLt⟩ := id hLo
  replace hkp : (fc_u mi 252 0 0) 252 25 = nI kp := hkp
  replace hE : rlw (fc_u mi 252 0 0) ev := hE.off rfl rfl rfl
  refine fc_met rfl (Nat.le_of_ble_eq_true rfl) (fc_run oX11_give (fun _ => false) 400 ?_)
  refine And.intro rfl ?_
  refine And.intro rfl (Exists.intro _ (And.intro (c_risThing hW hA _) ?_))
  rintro _ _ _ _ ⟨rfl, rfl, rfl, rfl⟩
  refine And.intro (fun h10 => ?_) (fun h10 => ?_)
  · replace h10 := fc_b0.mp h10
    rw [if_neg (by rw [sp_cg, h10]; exact Bool.false_ne_true)]
    exact ⟨rfl, rfl, rfl, rfl⟩
  · replace h10 := fc_b1.mp h10
    obtain ⟨p, h_p, ep⟩ := sp_hasN (by omega) h10
    have hcp : x.toNatClampNeg = p := by rw [ep]; exact nI_clamp (by omega)
    refine And.intro rfl (Exists.intro _ (And.intro (c_risPerson hW hA _) ?_))
    rintro _ _ _ _ ⟨rfl, rfl, rfl, rfl⟩
    refine And.intro (fun h18 => ?_) (fun h18 => ?_)
    · replace h18 := fc_b0.mp h18
      rw [if_neg (by rw [sp_cg, h10, h18]; exact Bool.false_ne_true)]
      exact ⟨rfl, rfl, rfl, rfl⟩
    · replace h18 := fc_b1.mp h18
      obtain ⟨k, h_k, ek⟩ := sp_hasN (by omega) h18
      have hck : z.toNatClampNeg = k := by rw [ek]; exact nI_clamp (by omega)
      refine And.intro rfl (Exists.intro _ (And.intro (c_rmayGive hW hA (fc_nl 0) ep ek (by omega) (by omega)) ?_))
      rintro _ _ _ _ ⟨rfl, rfl, rfl, rfl⟩
      refine And.intro (fun h28 => ?_) (fun h28 => ?_)
      · replace h28 := fc_b0.mp h28
        rw [if_neg (by rw [sp_cg, h10, h18, hcp, hck]; simp only [Bool.true_and]; rw [h28]; decide)]
        exact ⟨rfl, rfl, rfl, rfl⟩
      · replace h28 := fc_b1.mp h28
        refine And.intro rfl (Exists.intro _ (And.intro (c_rkeeps hW hkp hk) ?_))
        rintro _ _ _ _ ⟨rfl, rfl, rfl, rfl⟩
        refine And.intro rfl (Exists.intro _ (And.intro (c_rgives hW (rkp_ra hA hk) (hE.off (by rfl) (by rfl) (by rfl)) (fc_nl 0) ep ek h_p h_k) ?_))
        rintro _ m1 _ _ ⟨rfl, g1, g2, rfl, rfl⟩
        refine And.intro (fun h44 => ?_) (fun h44 => ?_)
        · replace h44 := fc_b0.mp h44
          rw [if_pos (by rw [sp_cg, h10, h18, hcp, hck]; simp only [Bool.true_and]; exact h28)]
          rw [hcp, hck]
          exact ⟨by rw [h44]; rfl, g1, g2, rfl, rfl⟩
        · replace h44 := fc_b1.mp h44
          rw [if_pos (by rw [sp_cg, h10, h18, hcp, hck]; simp only [Bool.true_and]; exact h28)]
          rw [hcp, hck]
          exact ⟨by rw [h44]; rfl, g1, g2, rfl, rfl⟩

theorem c_rvow (hW : fc_Wd mr) (hA : ra mi 0 n m t sm L σ) {kp : Nat} (hkp : mi 252 25 = nI kp) (hk : kp ≤ 16) {ev : fc_Ev} (hE : rlw mi ev) (x z : Int32) : fc_R E mX11_vow (d + 4) fc_sh [.ref 252, .int x, .int z] mi ml mr (if sp_cv (nI n) (L 7) (σ 2) (σ 1) (L 5) (σ 4) (σ 0 1) x z then rq 0 n t (some (.int (fc_b (as_bd L σ n ev 0 (σ 0 1) x.toNatClampNeg z.toNatClampNeg)))) (as_vw σ x.toNatClampNeg z.toNatClampNeg (as_bd L σ n ev 0 (σ 0 1) x.toNatClampNeg z.toNatClampNeg)) (rkp (fc_u mi 252 0 0) kp) ml mr else fc_is (some (.int (-1))) (fc_u mi 252 0 0) ml mr) := by
  replace hA : ra (fc_u mi 252 0 0) 0 n m t sm L σ := hA.off rfl rfl
  obtain ⟨⟨e0, e2, e3, e4⟩, hB, hLo, hSo, hLg, hSg⟩ := id hA
  obtain ⟨h5, h7, h6, hs1, hs2, hLp, hLt⟩ := id hLo
  replace hkp : (fc_u mi 252 0 0) 252 25 = nI kp := hkp
  replace hE : rlw (fc_u mi 252 0 0) ev := hE.off rfl rfl rfl
  refine fc_met rfl (Nat.le_of_ble_eq_true rfl) (fc_run oX11_vow (fun _ => false) 400 ?_)
  refine And.intro rfl ?_
  refine And.intro rfl (Exists.intro _ (And.intro (c_risPerson hW hA _) ?_))
  rintro _ _ _ _ ⟨rfl, rfl, rfl, rfl⟩
  refine And.intro (fun h10 => ?_) (fun h10 => ?_)
  · replace h10 := fc_b0.mp h10
    rw [if_neg (by rw [sp_cv, h10]; exact Bool.false_ne_true)]
    exact ⟨rfl, rfl, rfl, rfl⟩
  · replace h10 := fc_b1.mp h10
    obtain ⟨p, h_p, ep⟩ := sp_hasN (by omega) h10
    have hcp : x.toNatClampNeg = p := by rw [ep]; exact nI_clamp (by omega)
    refine And.intro rfl (Exists.intro _ (And.intro (c_risPerson hW hA _) ?_))
    rintro _ _ _ _ ⟨rfl, rfl, rfl, rfl⟩
    refine And.intro (fun h18 => ?_) (fun h18 => ?_)
    · replace h18 := fc_b0.mp h18
      rw [if_neg (by rw [sp_cv, h10, h18]; exact Bool.false_ne_true)]
      exact ⟨rfl, rfl, rfl, rfl⟩
    · replace h18 := fc_b1.mp h18
      obtain ⟨k, h_k, ek⟩ := sp_hasN (by omega) h18
      have hck : z.toNatClampNeg = k := by rw [ek]; exact nI_clamp (by omega)
      refine And.intro rfl (Exists.intro _ (And.intro (c_rmayVow hW hA (fc_nl 0) ep ek (by omega) (by omega)) ?_))
      rintro _ _ _ _ ⟨rfl, rfl, rfl, rfl⟩
      refine And.intro (fun h28 => ?_) (fun h28 => ?_)
      · replace h28 := fc_b0.mp h28
        rw [if_neg (by rw [sp_cv, h10, h18, hcp, hck]; simp only [Bool.true_and]; rw [h28]; decide)]
        exact ⟨rfl, rfl, rfl, rfl⟩
      · replace h28 := fc_b1.mp h28
        refine And.intro rfl (Exists.intro _ (And.intro (c_rkeeps hW hkp hk) ?_))
        rintro _ _ _ _ ⟨rfl, rfl, rfl, rfl⟩
        refine And.intro rfl (Exists.intro _ (And.intro (c_rvowsBy hW (rkp_ra hA hk) (hE.off (by rfl) (by rfl) (by rfl)) (fc_nl 0) ep ek h_p h_k (by rintro rfl; rw [Bool.and_eq_true, ek, ← ep] at h28; exact absurd h28.1 (by rw [nd_f rfl]; decide))) ?_))
        rintro _ m1 _ _ ⟨rfl, g1, g2, rfl, rfl⟩
        refine And.intro (fun h44 => ?_) (fun h44 => ?_)
        · replace h44 := fc_b0.mp h44
          rw [if_pos (by rw [sp_cv, h10, h18, hcp, hck]; simp only [Bool.true_and]; exact h28)]
          rw [hcp, hck]
          exact ⟨by rw [h44]; rfl, g1, g2, rfl, rfl⟩
        · replace h44 := fc_b1.mp h44
          rw [if_pos (by rw [sp_cv, h10, h18, hcp, hck]; simp only [Bool.true_and]; exact h28)]
          rw [hcp, hck]
          exact ⟨by rw [h44]; rfl, g1, g2, rfl, rfl⟩

theorem c_rminute (hW : fc_Wd mr) (hA : ra mi 0 n m t sm L σ) {kp : Nat} (hkp : mi 252 25 = nI kp) (hk : kp ≤ 16) : fc_R E mX11_minute (d + 4) fc_sh [.ref 252] mi ml mr (rq 0 n t (some (.int (if nI sm ≤ σ 0 1 + 1 then 1 else 0))) (as_pass L σ n m (nI sm)) (rkp (fc_u mi 252 0 0) kp) ml mr) := by
  replace hA : ra (fc_u mi 252 0 0) 0 n m t sm L σ := hA.off rfl rfl
  obtain ⟨⟨e0, e2, e3, e4⟩, hB, hLo, hSo, hLg, hSg⟩ := id hA
  obtain ⟨h5, h7, h6, hs1, hs2, hLp, hLt⟩ := id hLo
  replace hkp : (fc_u mi 252 0 0) 252 25 = nI kp := hkp
  refine fc_met rfl (Nat.le_of_ble_eq_true rfl) (fc_run oX11_minute (fun _ => false) 400 ?_)
  refine And.intro rfl ?_
  refine And.intro rfl (Exists.intro _ (And.intro (c_rkeeps hW hkp hk) ?_))
  rintro _ _ _ _ ⟨rfl, rfl, rfl, rfl⟩
  refine And.intro rfl (Exists.intro _ (And.intro (c_rpasses hW (rkp_ra hA hk) (fc_nl 0)) ?_))
  rintro _ m1 _ _ ⟨rfl, g1, g2, rfl, rfl⟩
  refine And.intro (by split <;> first | exact Or.inl rfl | exact Or.inr rfl) ?_
  exact ⟨rfl, g1, g2, rfl, rfl⟩

theorem c_rundo (hW : fc_Wd mr) (hA : ra mi 0 n m t sm L σ) {kp : Nat} (hkp : mi 252 25 = nI kp) (hk : kp ≤ 16) : fc_R E mX11_undo (d + 4) fc_sh [.ref 252] mi ml mr (if kp = 0 then fc_is (some (.int 0)) (fc_u mi 252 0 0) ml mr else fc_is (some (.int 1)) (fc_ur (fc_u (fc_u mi 252 0 0) 252 25 (nI (kp - 1))) 268 (cpr (mi 268) (64 * (5 + (kp - 1))) 0 39)) ml mr) := by
  replace hA : ra (fc_u mi 252 0 0) 0 n m t sm L σ := hA.off rfl rfl
  obtain ⟨⟨e0, e2, e3, e4⟩, hB, hLo, hSo, hLg, hSg⟩ := id hA
  obtain ⟨h5, h7, h6, hs1, hs2, hLp, hLt⟩ := id hLo
  replace hkp : (fc_u mi 252 0 0) 252 25 = nI kp := hkp
  refine fc_met rfl (Nat.le_of_ble_eq_true rfl) (fc_run oX11_undo (fun _ => false) 400 ?_)
  refine And.intro rfl ?_
  refine And.intro rfl ?_
  refine And.intro (fun h9 => ?_) (fun h9 => ?_)
  · have e0k : kp = 0 := by rw [hkp] at h9; exact (nI_eq (a := kp) (b := 0) (by omega) (by omega)).mp h9
    rw [if_pos e0k]
    refine And.intro (by first | exact Or.inl rfl | exact Or.inr rfl | exact fc_bb _ | assumption) ?_
    exact ⟨rfl, rfl, rfl, rfl⟩
  · have e0k : ¬ kp = 0 := fun q => h9 (by rw [hkp, q]; rfl)
    rw [if_neg e0k]
    refine And.intro rfl ?_
    rw [hkp]
    refine And.intro rfl ?_
    rw [fc_pm (show 1 ≤ kp by omega)]
    refine And.intro rfl ?_
    rw [show (fc_u (fc_u mi 252 0 0) 252 25 (nI (kp - 1))) 252 25 = nI (kp - 1) from rfl]
    refine And.intro rfl (Exists.intro _ (And.intro (c_rcopies hW (fc_nm (fc_nl 64) (fc_na (fc_nl 5) rfl)) (fc_nl 0) (fc_nl 39) (by omega) (by omega) (by omega)) ?_))
    rintro _ _ _ _ ⟨rfl, rfl, rfl, rfl⟩
    refine And.intro (by first | exact Or.inl rfl | exact Or.inr rfl | exact fc_bb _ | assumption) ?_
    exact ⟨rfl, rfl, rfl, rfl⟩

theorem c_rsee (hW : fc_Wd mr) (hA : ra mi 0 n m t sm L σ) {k : Nat} (hk3 : mi 268 39 = nI k) (hk8 : k ≤ 8) (x z r : Int32) : fc_R E mX11_see (d + 2) fc_sh [.ref 252, .int x, .int z, .int r] mi ml mr (if sp_has (nI m) x && (sp_from 0 z 99 && !decide (k = 8)) then fc_is (some (.int 1)) (fc_u (fc_u (fc_u (fc_u (fc_u mi 252 0 0) 268 (40 + 3 * k) x) 268 (40 + 3 * k + 1) z) 268 (40 + 3 * k + 2) (if r = 0 then 0 else 1)) 268 39 (nI (k + 1))) ml mr else fc_is (some (.int 0)) (fc_u mi 252 0 0) ml mr) := by
  replace hA : ra (fc_u mi 252 0 0) 0 n m t sm L σ := hA.off rfl rfl
  obtain ⟨⟨e0, e2, e3, e4⟩, hB, hLo, hSo, hLg, hSg⟩ := id hA
  obtain ⟨h5, h7, h6, hs1, hs2, hLp, hLt⟩ := id hLo
  replace hk3 : (fc_u mi 252 0 0) 268 39 = nI k := hk3
  refine fc_met rfl (Nat.le_of_ble_eq_true rfl) (fc_run oX11_see (fun _ => false) 400 ?_)
  refine And.intro rfl ?_
  refine And.intro rfl (Exists.intro _ (And.intro (c_risPlace hW hA _) ?_))
  rintro _ _ _ _ ⟨rfl, rfl, rfl, rfl⟩
  refine And.intro (fun h10 => ?_) (fun h10 => ?_)
  · replace h10 := fc_b0.mp h10
    refine And.intro (by first | exact Or.inl rfl | exact Or.inr rfl | exact fc_bb _ | assumption) ?_
    rw [if_neg (by rw [h10]; exact Bool.false_ne_true)]
    exact ⟨rfl, rfl, rfl, rfl⟩
  · replace h10 := fc_b1.mp h10
    refine Exists.intro _ (And.intro (c_rwithin _ _ _) ?_)
    rintro _ _ _ _ ⟨rfl, rfl, rfl, rfl⟩
    refine And.intro (fun h20 => ?_) (fun h20 => ?_)
    · replace h20 := fc_b0.mp h20
      refine And.intro (by first | exact Or.inl rfl | exact Or.inr rfl | exact fc_bb _ | assumption) ?_
      rw [if_neg (by rw [h10, h20]; exact Bool.false_ne_true)]
      exact ⟨rfl, rfl, rfl, rfl⟩
    · replace h20 := fc_b1.mp h20
      refine And.intro rfl (Exists.intro _ (And.intro (hW 252 24 268 rfl) ?_))
      refine Exists.intro _ (Exists.intro _ (And.intro rfl (And.intro (fc_ixn (fc_nl 39) (by omega) (by decide)) ?_)))
      refine And.intro (fun h32 => ?_) (fun h32 => ?_)
      · have e8 : k = 8 := by rw [hk3] at h32; exact (nI_eq (a := k) (b := 8) (by omega) (by omega)).mp h32
        refine And.intro (by first | exact Or.inl rfl | exact Or.inr rfl | exact fc_bb _ | assumption) ?_
        rw [if_neg (by rw [h10, h20, nd_f e8]; decide)]
        exact ⟨rfl, rfl, rfl, rfl⟩
      · have e8 : ¬ k = 8 := fun q => h32 (by rw [hk3, q]; rfl)
        refine And.intro rfl (Exists.intro _ (And.intro (hW 252 24 268 rfl) ?_))
        refine Exists.intro _ (Exists.intro _ (And.intro rfl (And.intro (fc_ixn (fc_nl 39) (by omega) (by decide)) ?_)))
        rw [hk3]
        refine And.intro rfl (Exists.intro _ (And.intro (hW 252 24 268 rfl) ?_))
        refine Exists.intro _ (Exists.intro _ (And.intro rfl (And.intro (fc_ixn (fc_na (fc_nl 40) (fc_nm (fc_nl 3) rfl)) (by omega) (by decide)) ?_)))
        refine And.intro rfl (Exists.intro _ (And.intro (hW 252 24 268 rfl) ?_))
        refine Exists.intro _ (Exists.intro _ (And.intro rfl (And.intro (fc_ixn (fc_na (fc_na (fc_nl 40) (fc_nm (fc_nl 3) rfl)) (fc_nl 1)) (by omega) (by decide)) ?_)))
        refine And.intro rfl (Exists.intro _ (And.intro (hW 252 24 268 rfl) ?_))
        refine And.intro (fun h78 => ?_) (fun h78 => ?_)
        · refine Exists.intro _ (Exists.intro _ (And.intro rfl (And.intro (fc_ixn (fc_na (fc_na (fc_nl 40) (fc_nm (fc_nl 3) rfl)) (fc_nl 2)) (by omega) (by decide)) ?_)))
          refine And.intro rfl (Exists.intro _ (And.intro (hW 252 24 268 rfl) ?_))
          refine Exists.intro _ (Exists.intro _ (And.intro rfl (And.intro (fc_ixn (fc_nl 39) (by omega) (by decide)) ?_)))
          refine Exists.intro _ (Exists.intro _ (And.intro rfl (And.intro (fc_ixn (fc_nl 39) (by omega) (by decide)) ?_)))
          refine And.intro (by first | exact Or.inl rfl | exact Or.inr rfl | exact fc_bb _ | assumption) ?_
          rw [if_pos (by rw [h10, h20, nd_t e8]; rfl), if_pos h78]
          refine ⟨rfl, ?_, rfl, rfl⟩
          rw [fc_u_nj _ _ _ _ (show 39 ≠ 40 + 3 * k + 2 by omega), fc_u_nj _ _ _ _ (show 39 ≠ 40 + 3 * k + 1 by omega), fc_u_nj _ _ _ _ (show 39 ≠ 40 + 3 * k by omega), hk3, nI_1 k]
        · refine Exists.intro _ (Exists.intro _ (And.intro rfl (And.intro (fc_ixn (fc_na (fc_na (fc_nl 40) (fc_nm (fc_nl 3) rfl)) (fc_nl 2)) (by omega) (by decide)) ?_)))
          refine And.intro rfl (Exists.intro _ (And.intro (hW 252 24 268 rfl) ?_))
          refine Exists.intro _ (Exists.intro _ (And.intro rfl (And.intro (fc_ixn (fc_nl 39) (by omega) (by decide)) ?_)))
          refine Exists.intro _ (Exists.intro _ (And.intro rfl (And.intro (fc_ixn (fc_nl 39) (by omega) (by decide)) ?_)))
          refine And.intro (by first | exact Or.inl rfl | exact Or.inr rfl | exact fc_bb _ | assumption) ?_
          rw [if_pos (by rw [h10, h20, nd_t e8]; rfl), if_neg h78]
          refine ⟨rfl, ?_, rfl, rfl⟩
          rw [fc_u_nj _ _ _ _ (show 39 ≠ 40 + 3 * k + 2 by omega), fc_u_nj _ _ _ _ (show 39 ≠ 40 + 3 * k + 1 by omega), fc_u_nj _ _ _ _ (show 39 ≠ 40 + 3 * k by omega), hk3, nI_1 k]

theorem sp_from3 {w : Int32} (h : sp_from 0 w 3 = true) : ∃ p, p < 4 ∧ w = nI p := by
  simp only [sp_from, Bool.and_eq_true, Bool.not_eq_true', decide_eq_false_iff_not] at h
  obtain ⟨j, hj, e⟩ := nI_of2 (M := 3) (n := 3) rfl h.1 (Int32.not_lt.mp h.2)
  exact ⟨j, by omega, e⟩
theorem c_rmark (hW : fc_Wd mr) (x bk : Int32) : fc_R E mX11_mark (d + 2) fc_sh [.ref 252, .int x, .int bk] mi ml mr (if sp_from 0 x 3 then (if bk = 0 then fc_is (some (.int 1)) (fc_ur (fc_u (fc_u mi 252 0 0) 269 x.toNatClampNeg (vp_nar .boolean 1)) 268 (cpr (mi 268) 0 (64 * (1 + x.toNatClampNeg)) 64)) ml mr else if mi 269 x.toNatClampNeg = 0 then fc_is (some (.int 0)) (fc_u mi 252 0 0) ml mr else fc_is (some (.int 1)) (fc_u (fc_ur (fc_u (fc_u mi 252 0 0) 269 x.toNatClampNeg (vp_nar .boolean 1)) 268 (cpr (mi 268) (64 * (1 + x.toNatClampNeg)) 0 64)) 252 25 0) ml mr) else fc_is (some (.int 0)) (fc_u mi 252 0 0) ml mr) := by
  refine fc_met rfl (Nat.le_of_ble_eq_true rfl) (fc_run oX11_mark (fun _ => false) 400 ?_)
  refine And.intro rfl ?_
  refine Exists.intro _ (And.intro (c_rwithin _ _ _) ?_)
  rintro _ _ _ _ ⟨rfl, rfl, rfl, rfl⟩
  refine And.intro (fun h11 => ?_) (fun h11 => ?_)
  · replace h11 := fc_b0.mp h11
    refine And.intro (by first | exact Or.inl rfl | exact Or.inr rfl | exact fc_bb _ | assumption) ?_
    rw [if_neg (by rw [h11]; decide)]
    exact ⟨rfl, rfl, rfl, rfl⟩
  · replace h11 := fc_b1.mp h11
    obtain ⟨p, h_p, ep⟩ := sp_from3 h11
    have hcp : x.toNatClampNeg = p := by rw [ep]; exact nI_clamp (by omega)
    refine And.intro (fun h15 => ?_) (fun h15 => ?_)
    · refine And.intro rfl (Exists.intro _ (And.intro (hW 252 26 269 rfl) ?_))
      refine Exists.intro _ (Exists.intro _ (And.intro rfl (And.intro (fc_ixn ep (by omega) (by decide)) ?_)))
      refine And.intro (fun h38 => ?_) (fun h38 => ?_)
      · refine And.intro (fun h52 => ?_) (fun h52 => ?_)
        · refine And.intro rfl (Exists.intro _ (And.intro (c_rcopies hW (fc_nl 0) (fc_nm (fc_nl 64) (fc_na (fc_nl 1) ep)) (fc_nl 64) (by omega) (by omega) (by omega)) ?_))
          rintro _ _ _ _ ⟨rfl, rfl, rfl, rfl⟩
          refine And.intro (fun h72 => ?_) (fun h72 => ?_)
          · refine And.intro rfl ?_
            refine And.intro rfl ?_
            refine And.intro (by first | exact Or.inl rfl | exact Or.inr rfl | exact fc_bb _ | assumption) ?_
            rw [if_pos h11, if_pos h15, hcp]
            refine ⟨rfl, ?_, rfl, rfl⟩
            exact (fc_u_self _ _ _).symm
          · exact absurd h15 h72
        · exact absurd h15 h52
      · exact absurd h15 h38
    · refine And.intro rfl (Exists.intro _ (And.intro (hW 252 26 269 rfl) ?_))
      refine Exists.intro _ (Exists.intro _ (And.intro rfl (And.intro (fc_ixn ep (by omega) (by decide)) ?_)))
      refine And.intro (fun h24 => ?_) (fun h24 => ?_)
      · refine And.intro (by first | exact Or.inl rfl | exact Or.inr rfl | exact fc_bb _ | assumption) ?_
        rw [if_pos h11, if_neg h15, hcp, if_pos (show mi 269 p = 0 from h24)]
        exact ⟨rfl, rfl, rfl, rfl⟩
      · refine And.intro rfl (Exists.intro _ (And.intro (hW 252 26 269 rfl) ?_))
        refine Exists.intro _ (Exists.intro _ (And.intro rfl (And.intro (fc_ixn ep (by omega) (by decide)) ?_)))
        refine And.intro (fun h38 => ?_) (fun h38 => ?_)
        · exact absurd h38 h15
        · refine And.intro (fun h52 => ?_) (fun h52 => ?_)
          · exact absurd h52 h15
          · refine And.intro rfl (Exists.intro _ (And.intro (c_rcopies hW (fc_nm (fc_nl 64) (fc_na (fc_nl 1) ep)) (fc_nl 0) (fc_nl 64) (by omega) (by omega) (by omega)) ?_))
            rintro _ _ _ _ ⟨rfl, rfl, rfl, rfl⟩
            refine And.intro (fun h72 => ?_) (fun h72 => ?_)
            · exact absurd h72 h15
            · refine And.intro rfl ?_
              refine And.intro (by first | exact Or.inl rfl | exact Or.inr rfl | exact fc_bb _ | assumption) ?_
              rw [if_pos h11, if_neg h15, hcp, if_neg (show ¬ mi 269 p = 0 from h24)]
              exact ⟨rfl, rfl, rfl, rfl⟩

end M55
