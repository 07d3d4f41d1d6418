/-! ===== mornings by draws ===== -/
section M47
variable {E : fc_E} {d : Nat} {mi : fc_Mi} {ml : fc_Ml} {mr : fc_Mr} {a b sc n m t sm g : Nat} {L σ : fc_Mi} {s : Int32} {ev : fc_Ev} {G : Nat → Nat} {V : Nat → Nat → Nat}
def dg (g : Nat) : Nat := (g * 1103515245 + 12345) % 2147483648
def dv (g k : Nat) : Nat := (g / 65536) % k
theorem dg_lt (g : Nat) : dg g < 2147483648 := Nat.mod_lt _ (by decide)
theorem dv_lt (g : Nat) {k : Nat} (h : 0 < k) : dv g k < k := Nat.mod_lt _ h
theorem dg_eq {g : Nat} (h : g < 2147483648) : lN g * 1103515245 + 12345 - (lN g * 1103515245 + 12345) / 2147483648 * 2147483648 = lN (dg g) := by
  rw [show lN g * 1103515245 + 12345 = lN (g * 1103515245 + 12345) from by rw [show lN g * 1103515245 = lN (g * 1103515245) from lN_mul g 1103515245]; exact lN_add _ 12345]
  exact pk_lRem (a := g * 1103515245 + 12345) (b := 2147483648) (by omega) (by decide) (by decide)
theorem dv_eq {g k : Nat} (h : g < 2147483648) (h0 : 0 < k) (hk : k < 2 ^ 31) : (lN g / 65536 - lN g / 65536 / (nI k).toInt64 * (nI k).toInt64).toInt32 = nI (dv g k) := by
  rw [nI_l hk, show lN g / 65536 = lN (g / 65536) from pk_lDiv (a := g) (b := 65536) (by omega) (by decide) (by decide), pk_lRem (a := g / 65536) (b := k) (by have := Nat.div_le_self g 65536; omega) h0 (by omega), lN_i]
  rfl
theorem dv_nz {k : Nat} (h0 : 0 < k) (hk : k < 2 ^ 31) : ¬ (nI k).toInt64 = 0 := by
  rw [nI_l hk]
  exact fun q => absurd ((pk_lEQ (a := k) (b := 0) (by omega) (by decide)).mp q) (by omega)
theorem c_draw (hg : ml 0 11 = lN g) (hg2 : g < 2147483648) {k : Nat} (hk : 0 < k) (hk2 : k < 2 ^ 31) : fc_R E mX10_drawBelow d fc_sh [.ref 0, .int (nI k)] mi ml mr (fc_is (some (.int (nI (dv (dg g) k)))) mi (fc_u ml 0 11 (lN (dg g))) mr) := by
  refine fc_met rfl (Nat.le_of_ble_eq_true rfl) (fc_run oX10_drawBelow (fun _ => false) 400 ?_)
  refine And.intro rfl ?_
  rw [hg]
  refine And.intro (by decide) ?_
  rw [dg_eq hg2]
  refine And.intro rfl ?_
  refine And.intro (fun h21 => ?_) (fun h21 => ?_)
  · exact absurd h21 (nI_nle hk hk2)
  · refine And.intro rfl ?_
    rw [fc_u_at]
    refine And.intro (by decide) ?_
    refine And.intro (dv_nz hk hk2) ?_
    exact ⟨by rw [dv_eq (dg_lt g) hk hk2], rfl, rfl, rfl⟩

theorem as_play_w1 {x z : Int32} (h : sp_cw (nI n) (nI m) (L 7) (σ 2) (σ 1) (L 4) (σ 0 1) x z = true) : as_play L σ n m t s ev 139 x z = (as_wk L σ x.toNatClampNeg z, 0) := by rw [as_play, if_pos rfl, if_pos h]
theorem as_play_w0 {x z : Int32} (h : sp_cw (nI n) (nI m) (L 7) (σ 2) (σ 1) (L 4) (σ 0 1) x z = false) : as_play L σ n m t s ev 139 x z = (σ, -1) := by rw [as_play, if_pos rfl, if_neg (by rw [h]; decide)]
theorem as_play_g1 {x z : Int32} (h : sp_cg (nI t) (nI n) (σ 6) (L 7) (σ 2) (σ 1) (σ 0 1) x z = true) : as_play L σ n m t s ev 140 x z = (as_gv σ x.toNatClampNeg (σ 6 x.toNatClampNeg).toNatClampNeg z (as_bd L σ n ev (L 8 x.toNatClampNeg) (σ 0 1) (σ 6 x.toNatClampNeg).toNatClampNeg z.toNatClampNeg), fc_b (as_bd L σ n ev (L 8 x.toNatClampNeg) (σ 0 1) (σ 6 x.toNatClampNeg).toNatClampNeg z.toNatClampNeg)) := by rw [as_play, if_neg (by decide), if_pos rfl, if_pos h]
theorem as_play_g0 {x z : Int32} (h : sp_cg (nI t) (nI n) (σ 6) (L 7) (σ 2) (σ 1) (σ 0 1) x z = false) : as_play L σ n m t s ev 140 x z = (σ, -1) := by rw [as_play, if_neg (by decide), if_pos rfl, if_neg (by rw [h]; decide)]
theorem as_play_v1 {x z : Int32} (h : sp_cv (nI n) (L 7) (σ 2) (σ 1) (L 5) (σ 4) (σ 0 1) x z = true) : as_play L σ n m t s ev 141 x z = (as_vw σ x.toNatClampNeg z.toNatClampNeg (as_bd L σ n ev 0 (σ 0 1) x.toNatClampNeg z.toNatClampNeg), fc_b (as_bd L σ n ev 0 (σ 0 1) x.toNatClampNeg z.toNatClampNeg)) := by rw [as_play, if_neg (by decide), if_neg (by decide), if_pos rfl, if_pos h]
theorem as_play_v0 {x z : Int32} (h : sp_cv (nI n) (L 7) (σ 2) (σ 1) (L 5) (σ 4) (σ 0 1) x z = false) : as_play L σ n m t s ev 141 x z = (σ, -1) := by rw [as_play, if_neg (by decide), if_neg (by decide), if_pos rfl, if_neg (by rw [h]; decide)]
theorem as_play_m {dd x z : Int32} (h1 : ¬ dd = 139) (h2 : ¬ dd = 140) (h3 : ¬ dd = 141) : as_play L σ n m t s ev dd x z = (as_pass L σ n m s, 0) := by rw [as_play, if_neg h1, if_neg h2, if_neg h3]
/-- what one minute's draws bring: the state, the draws' number, whether it was a gift or a vow -/
def as_dd (G : Nat → Nat) (V : Nat → Nat → Nat) (L σ : fc_Mi) (n m t : Nat) (s : Int32) (ev : fc_Ev) (g : Nat) : fc_Mi × Nat × Bool :=
  if V (G (G (G g))) 5 ≤ 1 then ((as_play L σ n m t s ev 139 (nI (V (G g) n)) (nI (V (G (G g)) m))).1, G (G (G g)), false)
  else if V (G (G (G g))) 5 = 2 ∧ 0 < t then ((as_play L σ n m t s ev 140 (nI (V (G (G (G (G g)))) t)) (nI (V (G g) n))).1, G (G (G (G g))), !decide ((as_play L σ n m t s ev 140 (nI (V (G (G (G (G g)))) t)) (nI (V (G g) n))).2 = -1))
  else if V (G (G (G g))) 5 = 3 then ((as_play L σ n m t s ev 141 (nI (V (G g) n)) (nI (V (G (G (G (G g)))) n))).1, G (G (G (G g))), !decide ((as_play L σ n m t s ev 141 (nI (V (G g) n)) (nI (V (G (G (G (G g)))) n))).2 = -1))
  else (σ, G (G (G g)), false)
theorem as_dd_ok (hL : as_lok n m t sm L) (h : as_ok n m t sm σ) : as_ok n m t sm (as_dd G V L σ n m t (nI sm) ev g).1 := by
  unfold as_dd
  split
  · exact as_play_ok hL h
  · split
    · exact as_play_ok hL h
    · split
      · exact as_play_ok hL h
      · exact h
theorem as_dd_lt (hG : ∀ g, G g < 2147483648) : (as_dd G V L σ n m t s ev g).2.1 < 2147483648 := by
  unfold as_dd
  split
  · exact hG _
  · split
    · exact hG _
    · split
      · exact hG _
      · exact hG _
/-- the draws: G the next number, V what it gives -/
def fc_Dr (E : fc_E) (G : Nat → Nat) (V : Nat → Nat → Nat) : Prop := (∀ g, G g < 2147483648) ∧ (∀ g k, 0 < k → V g k < k) ∧ ∀ (d : Nat) (mi : fc_Mi) (ml : fc_Ml) (mr : fc_Mr) (g k : Nat), ml 0 11 = lN g → g < 2147483648 → 0 < k → k < 2 ^ 31 → fc_R E mX10_drawBelow d fc_sh [.ref 0, .int (nI k)] mi ml mr (fc_is (some (.int (nI (V (G g) k)))) mi (fc_u ml 0 11 (lN (G g))) mr)
theorem fc_Dr_ok : fc_Dr E dg dv := ⟨dg_lt, fun g k h => dv_lt g h, fun d mi ml mr g k h1 h2 h3 h4 => c_draw h1 h2 h3 h4⟩
theorem fc_bne (x : Bool) : (!decide (fc_b x = -1)) = true := by cases x <;> decide
def fc_ddq (b : Nat) (mi : fc_Mi) (ml : fc_Ml) (mr : fc_Mr) (r : fc_Mi × Nat × Bool) : fc_Q := fun v mi' ml' mr' => v = some (.int (fc_b r.2.2)) ∧ cv mi' 25 = r.1 ∧ fc_dm 25 b mi mi' ∧ ml' = fc_u ml 0 11 (lN r.2.1) ∧ mr = mr'
set_option maxHeartbeats 4000000 in
theorem c_playDrawn (hH : fc_H mi mr b sc n m t) (hDr : fc_Dr E G V) {len : Nat} (hA : fc_La mi b len) (hok : fc_SV mi 25 n m t) (hn0 : 0 < n) (hm0 : 0 < m) (hg : ml 0 11 = lN g) (hg2 : g < 2147483648) : fc_R E mX10_playDrawn (d + 5) fc_sh [.ref 0] mi ml mr (fc_ddq b mi ml mr (as_dd G V (cl mi b) (cv mi 25) n m t (mi b 14) (cw mi b len) g)) := by
  obtain ⟨hW, hB, hL, hb, hN, hV, hC, hQ, hsc⟩ := id hH
  obtain ⟨hN1, hN2, hN3, hN4, hN5, hN6⟩ := id hN
  obtain ⟨hA1, hA2, hA3⟩ := id hA
  have hp := hDr.2.1 (G g) n hn0
  have hkk := hDr.2.1 (G (G g)) m hm0
  have ho := hDr.2.1 (G (G (G (G g)))) n hn0
  refine fc_met rfl (Nat.le_of_ble_eq_true rfl) (fc_run oX10_playDrawn (fun _ => false) 400 ?_)
  refine And.intro rfl (Exists.intro _ (And.intro hB ?_))
  refine And.intro (fc_L_0 hL) ?_
  rw [hN1]
  refine And.intro rfl (Exists.intro _ (And.intro (hDr.2.2 _ _ _ _ g n hg hg2 hn0 (by omega)) ?_))
  rintro _ _ _ _ ⟨rfl, rfl, rfl, rfl⟩
  refine And.intro rfl (Exists.intro _ (And.intro hB ?_))
  refine And.intro (fc_L_0 hL) ?_
  rw [hN3]
  refine And.intro rfl (Exists.intro _ (And.intro (hDr.2.2 _ _ _ _ (G g) m (fc_u_at _ _ _ _) (hDr.1 _) hm0 (by omega)) ?_))
  rintro _ _ _ _ ⟨rfl, rfl, rfl, rfl⟩
  refine And.intro rfl (Exists.intro _ (And.intro (hDr.2.2 _ _ _ _ (G (G g)) 5 (fc_u_at _ _ _ _) (hDr.1 _) (by omega) (by omega)) ?_))
  rintro _ _ _ _ ⟨rfl, rfl, rfl, rfl⟩
  refine And.intro (fun h32 => ?_) (fun h32 => ?_)
  · refine And.intro (fun h68 => ?_) (fun h68 => ?_)
    · refine And.intro rfl (Exists.intro _ (And.intro hB ?_))
      refine And.intro (fc_L_0 hL) ?_
      refine And.intro (fun h78 => ?_) (fun h78 => ?_)
      · refine And.intro (fun h130 => ?_) (fun h130 => ?_)
        · exact absurd (h68.symm.trans h130) (by decide)
        · refine And.intro (by first | exact Or.inl rfl | exact Or.inr rfl | exact fc_bb _ | assumption) ?_
          have e32 : ¬ V (G (G (G g))) 5 ≤ 1 := fun z => absurd h32 (nI_nlt (b := V (G (G (G g))) 5) (a := 1) z (by omega))
          have e68 : V (G (G (G g))) 5 = 2 := (nI_eq (b := 2) (by have := hDr.2.1 (G (G (G g))) 5 (by omega); omega) (by omega)).mp h68
          have e78 : ¬ 0 < t := fun z => absurd h78 (by rw [hN5]; exact nI_nle z (by omega))
          refine ⟨?_, ?_, fc_dm.rf, ?_, rfl⟩
          · rw [as_dd, if_neg e32, if_neg (fun q => e78 q.2), if_neg (by omega)]; rfl
          · rw [as_dd, if_neg e32, if_neg (fun q => e78 q.2), if_neg (by omega)]
          · rw [as_dd, if_neg e32, if_neg (fun q => e78 q.2), if_neg (by omega), fc_u_u, fc_u_u]
      · have t0 : 0 < t := by
          rcases Nat.eq_zero_or_pos t with z | z
          · exact absurd (by rw [hN5, z]; decide) h78
          · exact z
        have ht := hDr.2.1 (G (G (G (G g)))) t t0
        obtain ⟨pp, hpp, hh⟩ := hok.2.1 _ ht
        refine And.intro rfl (Exists.intro _ (And.intro hB ?_))
        refine And.intro (fc_L_0 hL) ?_
        rw [hN5]
        refine And.intro rfl (Exists.intro _ (And.intro (hDr.2.2 _ _ _ _ (G (G (G g))) t (fc_u_at _ _ _ _) (hDr.1 _) t0 (by omega)) ?_))
        rintro _ _ _ _ ⟨rfl, rfl, rfl, rfl⟩
        refine And.intro rfl (Exists.intro _ (And.intro (hW 0 4 25 rfl) ?_))
        refine And.intro rfl (Exists.intro _ (And.intro hB ?_))
        refine And.intro (fc_S_0 (fc_S_at25 hW)) (Exists.intro _ (And.intro (c_canGive (fc_S_at25 hW) hL hN hok _ _) ?_))
        rintro _ _ _ _ ⟨rfl, rfl, rfl, rfl⟩
        refine And.intro (fun h108 => ?_) (fun h108 => ?_)
        · replace h108 := fc_b0.mp h108
          refine And.intro (fun h130 => ?_) (fun h130 => ?_)
          · exact absurd (h68.symm.trans h130) (by decide)
          · refine And.intro (by first | exact Or.inl rfl | exact Or.inr rfl | exact fc_bb _ | assumption) ?_
            have e32 : ¬ V (G (G (G g))) 5 ≤ 1 := fun z => absurd h32 (nI_nlt (b := V (G (G (G g))) 5) (a := 1) z (by omega))
            have e68 : V (G (G (G g))) 5 = 2 := (nI_eq (b := 2) (by have := hDr.2.1 (G (G (G g))) 5 (by omega); omega) (by omega)).mp h68
            rw [hN1, hN5] at h108
            refine ⟨?_, ?_, fc_dm.rf, ?_, rfl⟩
            · rw [as_dd, if_neg e32, if_pos ⟨e68, t0⟩, as_play_g0 (L := cl mi b) (σ := cv mi 25) h108]; rfl
            · rw [as_dd, if_neg e32, if_pos ⟨e68, t0⟩, as_play_g0 (L := cl mi b) (σ := cv mi 25) h108]
            · rw [as_dd, if_neg e32, if_pos ⟨e68, t0⟩, as_play_g0 (L := cl mi b) (σ := cv mi 25) h108, fc_u_u, fc_u_u, fc_u_u]
        · replace h108 := fc_b1.mp h108
          refine And.intro rfl (Exists.intro _ (And.intro (hW 0 4 25 rfl) ?_))
          refine And.intro rfl (Exists.intro _ (And.intro hB ?_))
          refine And.intro (fc_S_0 (fc_S_at25 hW)) (Exists.intro _ (And.intro (c_handOver (fc_S_at25 hW) hL hN1 hN2 hA1 hA2 (k := V (G (G (G (G g)))) t) (q := V (G g) n) (by omega) hh (by omega) (by omega)) ?_))
          rintro _ _ _ _ ⟨rfl, rfl, rfl, rfl⟩
          refine And.intro (by first | exact Or.inl rfl | exact Or.inr rfl | exact fc_bb _ | assumption) ?_
          have e32 : ¬ V (G (G (G g))) 5 ≤ 1 := fun z => absurd h32 (nI_nlt (b := V (G (G (G g))) 5) (a := 1) z (by omega))
          have e68 : V (G (G (G g))) 5 = 2 := (nI_eq (b := 2) (by have := hDr.2.1 (G (G (G g))) 5 (by omega); omega) (by omega)).mp h68
          rw [hN1, hN5] at h108
          obtain ⟨c1, c2⟩ := sp_gv_cv (mi := mi) (a := 25) (b := b) (q := V (G (G (G (G g)))) t) (p := pp) (z := nI (V (G g) n)) (st := sp_bd n (mi (25 + 1)) (mi (b + 7)) (mi (b + 5)) (mi (b + 11)) (mi (b + 12)) len (mi (b + 8) (V (G (G (G (G g)))) t)) (mi 25 1) pp (V (G g) n)) (by omega)
          have e6 : cv mi 25 6 (V (G (G (G (G g)))) t) = nI pp := hh
          refine ⟨?_, ?_, c2, ?_, rfl⟩
          · rw [as_dd, if_neg e32, if_pos ⟨e68, t0⟩, as_play_g1 (L := cl mi b) (σ := cv mi 25) h108, fc_bne]; rfl
          · rw [as_dd, if_neg e32, if_pos ⟨e68, t0⟩, as_play_g1 (L := cl mi b) (σ := cv mi 25) h108, c1, as_bd_cw hA, nI_clamp (show V (G (G (G (G g)))) t < 2 ^ 31 by omega), e6, nI_clamp (show pp < 2 ^ 31 by omega), nI_clamp (show V (G g) n < 2 ^ 31 by omega)]; rfl
          · rw [as_dd, if_neg e32, if_pos ⟨e68, t0⟩, as_play_g1 (L := cl mi b) (σ := cv mi 25) h108, fc_u_u, fc_u_u, fc_u_u]
    · refine And.intro (fun h130 => ?_) (fun h130 => ?_)
      · refine And.intro rfl (Exists.intro _ (And.intro hB ?_))
        refine And.intro (fc_L_0 hL) ?_
        rw [hN1]
        refine And.intro rfl (Exists.intro _ (And.intro (hDr.2.2 _ _ _ _ (G (G (G g))) n (fc_u_at _ _ _ _) (hDr.1 _) hn0 (by omega)) ?_))
        rintro _ _ _ _ ⟨rfl, rfl, rfl, rfl⟩
        refine And.intro rfl (Exists.intro _ (And.intro (hW 0 4 25 rfl) ?_))
        refine And.intro rfl (Exists.intro _ (And.intro hB ?_))
        refine And.intro (fc_S_0 (fc_S_at25 hW)) (Exists.intro _ (And.intro (c_canVow (fc_S_at25 hW) hL hN _ _) ?_))
        rintro _ _ _ _ ⟨rfl, rfl, rfl, rfl⟩
        refine And.intro (fun h160 => ?_) (fun h160 => ?_)
        · replace h160 := fc_b0.mp h160
          refine And.intro (by first | exact Or.inl rfl | exact Or.inr rfl | exact fc_bb _ | assumption) ?_
          have e32 : ¬ V (G (G (G g))) 5 ≤ 1 := fun z => absurd h32 (nI_nlt (b := V (G (G (G g))) 5) (a := 1) z (by omega))
          have e68 : ¬ V (G (G (G g))) 5 = 2 := fun z => h68 (by rw [z]; rfl)
          have e130 : V (G (G (G g))) 5 = 3 := (nI_eq (b := 3) (by have := hDr.2.1 (G (G (G g))) 5 (by omega); omega) (by omega)).mp h130
          rw [hN1] at h160
          refine ⟨?_, ?_, fc_dm.rf, ?_, rfl⟩
          · rw [as_dd, if_neg e32, if_neg (fun q => e68 q.1), if_pos e130, as_play_v0 (L := cl mi b) (σ := cv mi 25) h160]; rfl
          · rw [as_dd, if_neg e32, if_neg (fun q => e68 q.1), if_pos e130, as_play_v0 (L := cl mi b) (σ := cv mi 25) h160]
          · rw [as_dd, if_neg e32, if_neg (fun q => e68 q.1), if_pos e130, as_play_v0 (L := cl mi b) (σ := cv mi 25) h160, fc_u_u, fc_u_u, fc_u_u]
        · replace h160 := fc_b1.mp h160
          refine And.intro rfl (Exists.intro _ (And.intro (hW 0 4 25 rfl) ?_))
          refine And.intro rfl (Exists.intro _ (And.intro hB ?_))
          refine And.intro (fc_S_0 (fc_S_at25 hW)) (Exists.intro _ (And.intro (c_pledge (fc_S_at25 hW) hL hN1 hN2 hA1 hA2 (p := V (G g) n) (q := V (G (G (G (G g)))) n) (by omega) (by omega)) ?_))
          rintro _ _ _ _ ⟨rfl, rfl, rfl, rfl⟩
          refine And.intro (by first | exact Or.inl rfl | exact Or.inr rfl | exact fc_bb _ | assumption) ?_
          have e32 : ¬ V (G (G (G g))) 5 ≤ 1 := fun z => absurd h32 (nI_nlt (b := V (G (G (G g))) 5) (a := 1) z (by omega))
          have e68 : ¬ V (G (G (G g))) 5 = 2 := fun z => h68 (by rw [z]; rfl)
          have e130 : V (G (G (G g))) 5 = 3 := (nI_eq (b := 3) (by have := hDr.2.1 (G (G (G g))) 5 (by omega); omega) (by omega)).mp h130
          rw [hN1] at h160
          obtain ⟨c1, c2⟩ := sp_vw_cv (mi := mi) (a := 25) (b := b) (p := V (G g) n) (q := V (G (G (G (G g)))) n) (st := sp_bd n (mi (25 + 1)) (mi (b + 7)) (mi (b + 5)) (mi (b + 11)) (mi (b + 12)) len 0 (mi 25 1) (V (G g) n) (V (G (G (G (G g)))) n)) (by omega)
          refine ⟨?_, ?_, c2, ?_, rfl⟩
          · rw [as_dd, if_neg e32, if_neg (fun q => e68 q.1), if_pos e130, as_play_v1 (L := cl mi b) (σ := cv mi 25) h160, fc_bne]; rfl
          · rw [as_dd, if_neg e32, if_neg (fun q => e68 q.1), if_pos e130, as_play_v1 (L := cl mi b) (σ := cv mi 25) h160, c1, as_bd_cw hA, nI_clamp (show V (G g) n < 2 ^ 31 by omega), nI_clamp (show V (G (G (G (G g)))) n < 2 ^ 31 by omega)]; rfl
          · rw [as_dd, if_neg e32, if_neg (fun q => e68 q.1), if_pos e130, as_play_v1 (L := cl mi b) (σ := cv mi 25) h160, fc_u_u, fc_u_u, fc_u_u]
      · refine And.intro (by first | exact Or.inl rfl | exact Or.inr rfl | exact fc_bb _ | assumption) ?_
        have e32 : ¬ V (G (G (G g))) 5 ≤ 1 := fun z => absurd h32 (nI_nlt (b := V (G (G (G g))) 5) (a := 1) z (by omega))
        have e68 : ¬ V (G (G (G g))) 5 = 2 := fun z => h68 (by rw [z]; rfl)
        have e130 : ¬ V (G (G (G g))) 5 = 3 := fun z => h130 (by rw [z]; rfl)
        refine ⟨?_, ?_, fc_dm.rf, ?_, rfl⟩
        · rw [as_dd, if_neg e32, if_neg (fun q => e68 q.1), if_neg e130]; rfl
        · rw [as_dd, if_neg e32, if_neg (fun q => e68 q.1), if_neg e130]
        · rw [as_dd, if_neg e32, if_neg (fun q => e68 q.1), if_neg e130, fc_u_u, fc_u_u]
  · refine And.intro rfl (Exists.intro _ (And.intro (hW 0 4 25 rfl) ?_))
    refine And.intro rfl (Exists.intro _ (And.intro hB ?_))
    refine And.intro (fc_S_0 (fc_S_at25 hW)) (Exists.intro _ (And.intro (c_canWalk (fc_S_at25 hW) hL hN hok _ _) ?_))
    rintro _ _ _ _ ⟨rfl, rfl, rfl, rfl⟩
    refine And.intro (fun h48 => ?_) (fun h48 => ?_)
    · replace h48 := fc_b0.mp h48
      refine And.intro (by first | exact Or.inl rfl | exact Or.inr rfl | exact fc_bb _ | assumption) ?_
      have e32 : V (G (G (G g))) 5 ≤ 1 := by
        rcases Nat.lt_or_ge 1 (V (G (G (G g))) 5) with z | z
        · exact absurd (nI_lt (a := 1) z (by have := hDr.2.1 (G (G (G g))) 5 (by omega); omega)) h32
        · exact z
      rw [hN1, hN3] at h48
      refine ⟨?_, ?_, fc_dm.rf, ?_, rfl⟩
      · rw [as_dd, if_pos e32]; rfl
      · rw [as_dd, if_pos e32, as_play_w0 (L := cl mi b) (σ := cv mi 25) h48]
      · rw [as_dd, if_pos e32, fc_u_u, fc_u_u]
    · replace h48 := fc_b1.mp h48
      refine And.intro rfl (Exists.intro _ (And.intro (hW 0 4 25 rfl) ?_))
      refine And.intro rfl (Exists.intro _ (And.intro hB ?_))
      refine And.intro (fc_S_0 (fc_S_at25 hW)) (Exists.intro _ (And.intro (c_goTo (fc_S_at25 hW) hL (by omega) (p := V (G g) n) (by omega) _) ?_))
      rintro _ _ _ _ ⟨rfl, rfl, rfl, rfl⟩
      refine And.intro (by first | exact Or.inl rfl | exact Or.inr rfl | exact fc_bb _ | assumption) ?_
      have e32 : V (G (G (G g))) 5 ≤ 1 := by
        rcases Nat.lt_or_ge 1 (V (G (G (G g))) 5) with z | z
        · exact absurd (nI_lt (a := 1) z (by have := hDr.2.1 (G (G (G g))) 5 (by omega); omega)) h32
        · exact z
      rw [hN1, hN3] at h48
      refine ⟨?_, ?_, ((fc_dm.rf).u (by omega)).u (by omega), ?_, rfl⟩
      · rw [as_dd, if_pos e32]; rfl
      · rw [as_dd, if_pos e32, as_play_w1 (L := cl mi b) (σ := cv mi 25) h48, nI_clamp (by omega), cv_u _ _ (by omega), cv_u _ _ (by omega)]; rfl
      · rw [as_dd, if_pos e32, fc_u_u, fc_u_u]

/-- i minutes of draws: the state, the draws' number, how many gifts and vows -/
def as_mn (G : Nat → Nat) (V : Nat → Nat → Nat) (L σ : fc_Mi) (n m t : Nat) (s : Int32) (ev : fc_Ev) (g : Nat) : Nat → fc_Mi × Nat × Int32
  | 0 => (σ, g, 0)
  | i + 1 => (as_pass L (if 0 < n then as_dd G V L (as_mn G V L σ n m t s ev g i).1 n m t s ev (as_mn G V L σ n m t s ev g i).2.1 else ((as_mn G V L σ n m t s ev g i).1, (as_mn G V L σ n m t s ev g i).2.1, false)).1 n m s,
      (if 0 < n then as_dd G V L (as_mn G V L σ n m t s ev g i).1 n m t s ev (as_mn G V L σ n m t s ev g i).2.1 else ((as_mn G V L σ n m t s ev g i).1, (as_mn G V L σ n m t s ev g i).2.1, false)).2.1,
      if (if 0 < n then as_dd G V L (as_mn G V L σ n m t s ev g i).1 n m t s ev (as_mn G V L σ n m t s ev g i).2.1 else ((as_mn G V L σ n m t s ev g i).1, (as_mn G V L σ n m t s ev g i).2.1, false)).2.2 then (as_mn G V L σ n m t s ev g i).2.2 + 1 else (as_mn G V L σ n m t s ev g i).2.2)
theorem as_mn_ok (hG : ∀ g, G g < 2147483648) (hL : as_lok n m t sm L) (h : as_ok n m t sm σ) (hg : g < 2147483648) : ∀ i, as_ok n m t sm (as_mn G V L σ n m t (nI sm) ev g i).1 ∧ (as_mn G V L σ n m t (nI sm) ev g i).2.1 < 2147483648
  | 0 => ⟨h, hg⟩
  | i + 1 => by
    obtain ⟨h1, h2⟩ := as_mn_ok hG hL h hg i
    rw [as_mn]
    simp only
    split
    · exact ⟨as_pass_ok hL (as_dd_ok hL h1), as_dd_lt hG⟩
    · exact ⟨as_pass_ok hL h1, h2⟩
def as_mo (σ : fc_Mi) (n t : Nat) (k w : Int32) : Int32 := if w = 0 then k else if w = 1 then sp_set (fun q => !decide (σ 6 q = σ 7 q)) t else sp_sum (fun p => sp_bc (σ 3 p)) n
def fc_mnq (b : Nat) (x : Int32) (mi : fc_Mi) (ml : fc_Ml) (mr : fc_Mr) : fc_Q := fun v mi' ml' mr' => v = some (.int x) ∧ fc_dm 25 b mi mi' ∧ (∃ z, ml' = fc_u ml 0 11 z) ∧ mr = mr'
set_option maxHeartbeats 2000000 in
theorem l_mornings (hH : fc_H mi mr b sc n m t) (hDr : fc_Dr E G V) {len : Nat} (hA : fc_La mi b len) (hG2 : as_lok n m t sm (cl mi b)) (hs : mi b 14 = nI sm) {σ : fc_Mi} (h0 : as_ok n m t sm σ) (hg2 : g < 2147483648) {k : Nat} (hk4 : k ≤ 99) (sd w : Int32) : ∀ (j i : Nat) (c x4 : Int32) (mm : fc_Mi) (mlm : fc_Ml), i + j = k → c = nI i → fc_dm 25 b mi mm → cv mm 25 = (as_mn G V (cl mi b) σ n m t (nI sm) (cw mi b len) g i).1 → mlm = fc_u ml 0 11 (lN (as_mn G V (cl mi b) σ n m t (nI sm) (cw mi b len) g i).2.1) → x4 = (as_mn G V (cl mi b) σ n m t (nI sm) (cw mi b len) g i).2.2 → fc_T E mX10_mornings (d + 6) (0, 0) fc_sh 55 [some (.ref 0), some (.int sd), some (.int (nI k)), some (.int w), some (.int x4), some (.int c)] [] mm mlm mr (fc_mnq b (as_mo (as_mn G V (cl mi b) σ n m t (nI sm) (cw mi b len) g k).1 n t (as_mn G V (cl mi b) σ n m t (nI sm) (cw mi b len) g k).2.2 w) mi ml mr) := by
  intro j
  induction j with
  | zero =>
    intro i c x4 mm mlm hi hc hD hR hml h4
    subst hc
    subst hml
    have hHm := hH.dm hD
    obtain ⟨hW, hB, hL, hb, hN, hV, hC, hQ, hsc⟩ := id hHm
    obtain ⟨hN1, hN2, hN3, hN4, hN5, hN6⟩ := id hN
    obtain ⟨ho1, ho2⟩ := as_mn_ok (ev := cw mi b len) hDr.1 hG2 h0 hg2 i
    rw [← hR] at ho1
    refine fc_run oX10_mornings (fun pc => pc == 55) 400 ?_
    refine And.intro (fun h58 => ?_) (fun h58 => ?_)
    · refine And.intro (fun h100 => ?_) (fun h100_0 => And.intro (fun h100 => ?_) (fun h100_1 => ?_))
      · replace h100 := (fc_toI 0 (by decide)).mp h100
        exact ⟨by rw [as_mo, if_pos h100, h4, show i = k by omega], hD, ⟨_, rfl⟩, rfl⟩
      · replace h100_0 : ¬ w = 0 := fun q => h100_0 ((fc_toI 0 (by decide)).mpr q)
        replace h100 := (fc_toI 1 (by decide)).mp h100
        refine And.intro rfl (Exists.intro _ (And.intro (hW 0 4 25 rfl) ?_))
        refine And.intro rfl (Exists.intro _ (And.intro hB ?_))
        refine And.intro (fc_S_0 (fc_S_at25 hW)) (Exists.intro _ (And.intro (c_stray (fc_S_at25 hW) hL hN5 hN6) ?_))
        rintro _ _ _ _ ⟨rfl, rfl, rfl, rfl⟩
        exact ⟨by rw [as_mo, if_neg (by rw [h100]; decide), if_pos h100, ← show i = k by omega, ← hR]; rfl, hD, ⟨_, rfl⟩, rfl⟩
      · replace h100_0 : ¬ w = 0 := fun q => h100_0 ((fc_toI 0 (by decide)).mpr q)
        replace h100_1 : ¬ w = 1 := fun q => h100_1 ((fc_toI 1 (by decide)).mpr q)
        refine And.intro rfl (Exists.intro _ (And.intro (hW 0 4 25 rfl) ?_))
        refine And.intro rfl (Exists.intro _ (And.intro hB ?_))
        refine And.intro (fc_S_0 (fc_S_at25 hW)) (Exists.intro _ (And.intro (c_newsOfAll (fc_S_at25 hW) hL hN1 hN2) ?_))
        rintro _ _ _ _ ⟨rfl, rfl, rfl, rfl⟩
        exact ⟨by rw [as_mo, if_neg h100_0, if_neg h100_1, ← show i = k by omega, ← hR]; rfl, hD, ⟨_, rfl⟩, rfl⟩
    · exact absurd (nI_le (by omega) (by omega)) h58
  | succ j ih =>
    intro i c x4 mm mlm hi hc hD hR hml h4
    subst hc
    subst hml
    have hHm := hH.dm hD
    obtain ⟨hW, hB, hL, hb, hN, hV, hC, hQ, hsc⟩ := id hHm
    obtain ⟨hN1, hN2, hN3, hN4, hN5, hN6⟩ := id hN
    obtain ⟨ho1, ho2⟩ := as_mn_ok (ev := cw mi b len) hDr.1 hG2 h0 hg2 i
    rw [← hR] at ho1
    refine fc_run oX10_mornings (fun pc => pc == 55) 400 ?_
    refine And.intro (fun h58 => ?_) (fun h58 => ?_)
    · exact absurd h58 (nI_ge (by omega) (by omega))
    · refine And.intro rfl (Exists.intro _ (And.intro hB ?_))
      refine And.intro (fc_L_0 hL) ?_
      refine And.intro (fun h68 => ?_) (fun h68 => ?_)
      · refine And.intro rfl (Exists.intro _ (And.intro (hW 0 4 25 rfl) ?_))
        refine And.intro rfl (Exists.intro _ (And.intro hB ?_))
        refine And.intro (fc_S_0 (fc_S_at25 hW)) (Exists.intro _ (And.intro (c_pass (t := t) (fc_S_at25 hW) hL (by omega) (by first | exact hN.off (D72 b (by omega) (by omega)) | exact hN) (by first | exact ho3.sv.1 | exact ho1.sv.1)) ?_))
        intro v m89 l89 r89 q89
        obtain ⟨rfl, C89, D89, rfl, rfl⟩ := sp_pass_cv (by omega) q89
        have n0 : ¬ 0 < n := fun z => absurd h68 (by rw [hN1]; exact nI_nle z (by omega))
        refine ih (i + 1) _ _ _ _ (by omega) (fc_inc i) (hD.tr D89) ?_ ?_ ?_
        · rw [C89, as_mn]; simp only; rw [if_neg n0, cl_dm (by omega) hD, hD b (by omega) (by omega), hs, hR]
        · rw [as_mn]; simp only; rw [if_neg n0]
        · rw [as_mn]; simp only; rw [if_neg n0, h4]; rfl
      · have n0 : 0 < n := by
          rcases Nat.eq_zero_or_pos n with z | z
          · exact absurd (by rw [hN1, z]; decide) h68
          · exact z
        obtain ⟨j0, hj0, -⟩ := (ho1.1 0 n0).1
        have m0 : 0 < m := by omega
        refine And.intro rfl (Exists.intro _ (And.intro (c_playDrawn hHm hDr (hA.dm (by omega) hD) ho1.sv n0 m0 (fc_u_at _ _ _ _) ho2) ?_))
        rintro _ m72 _ _ ⟨rfl, C72, D72, rfl, rfl⟩
        have eM : as_dd G V (cl mm b) (cv mm 25) n m t (mm b 14) (cw mm b len) (as_mn G V (cl mi b) σ n m t (nI sm) (cw mi b len) g i).2.1 = as_dd G V (cl mi b) (as_mn G V (cl mi b) σ n m t (nI sm) (cw mi b len) g i).1 n m t (nI sm) (cw mi b len) (as_mn G V (cl mi b) σ n m t (nI sm) (cw mi b len) g i).2.1 := by
          rw [hR, cl_dm (by omega) hD, cw_dm (by omega) hD, hD b (by omega) (by omega), hs]
        have ho3 : as_ok n m t sm (cv m72 25) := by rw [C72, eM]; rw [hR] at ho1; exact as_dd_ok hG2 ho1
        refine And.intro (fun h75 => ?_) (fun h75 => ?_)
        · replace h75 := fc_b0.mp h75
          refine And.intro rfl (Exists.intro _ (And.intro (hW 0 4 25 rfl) ?_))
          refine And.intro rfl (Exists.intro _ (And.intro hB ?_))
          refine And.intro (fc_S_0 (fc_S_at25 hW)) (Exists.intro _ (And.intro (c_pass (t := t) (fc_S_at25 hW) hL (by omega) (by first | exact hN.off (D72 b (by omega) (by omega)) | exact hN) (by first | exact ho3.sv.1 | exact ho1.sv.1)) ?_))
          intro v m89 l89 r89 q89
          obtain ⟨rfl, C89, D89, rfl, rfl⟩ := sp_pass_cv (by omega) q89
          refine ih (i + 1) _ _ _ _ (by omega) (fc_inc i) ((hD.tr D72).tr D89) ?_ ?_ ?_
          · rw [C89, as_mn]; simp only; rw [if_pos n0, cl_dm (by omega) (hD.tr D72), (hD.tr D72) b (by omega) (by omega), hs, C72, eM]
          · rw [as_mn]; simp only; rw [if_pos n0, eM, fc_u_u]
          · rw [as_mn]; simp only; rw [if_pos n0, ← eM, h75, h4]; rfl
        · replace h75 := fc_b1.mp h75
          refine And.intro rfl (Exists.intro _ (And.intro (hW 0 4 25 rfl) ?_))
          refine And.intro rfl (Exists.intro _ (And.intro hB ?_))
          refine And.intro (fc_S_0 (fc_S_at25 hW)) (Exists.intro _ (And.intro (c_pass (t := t) (fc_S_at25 hW) hL (by omega) (by first | exact hN.off (D72 b (by omega) (by omega)) | exact hN) (by first | exact ho3.sv.1 | exact ho1.sv.1)) ?_))
          intro v m89 l89 r89 q89
          obtain ⟨rfl, C89, D89, rfl, rfl⟩ := sp_pass_cv (by omega) q89
          refine ih (i + 1) _ _ _ _ (by omega) (fc_inc i) ((hD.tr D72).tr D89) ?_ ?_ ?_
          · rw [C89, as_mn]; simp only; rw [if_pos n0, cl_dm (by omega) (hD.tr D72), (hD.tr D72) b (by omega) (by omega), hs, C72, eM]
          · rw [as_mn]; simp only; rw [if_pos n0, eM, fc_u_u]
          · rw [as_mn]; simp only; rw [if_pos n0, ← eM, h75, h4]; rfl

theorem c_mornings (hH : fc_H mi mr b sc n m t) (hDr : fc_Dr E G V) {len : Nat} (hA : fc_La mi b len) (hG : fc_Gd mi b n m t sm) (x k w : Int32) : fc_R E mX10_mornings (d + 6) fc_sh [.ref 0, .int x, .int k, .int w] mi ml mr (fun v mi' ml' mr' => ((sp_from 0 x 9999 && (sp_from 1 k 99 && sp_from 0 w 2)) = false ∧ fc_is (some (.int (-1))) mi ml mr v mi' ml' mr') ∨ ((sp_from 0 x 9999 && (sp_from 1 k 99 && sp_from 0 w 2)) = true ∧ (fun r => fc_mnq b (as_mo r.1 n t r.2.2 w) mi ml mr v mi' ml' mr') (as_mn G V (cl mi b) (cv (sp_cp mi 25 17) 25) n m t (nI sm) (cw mi b len) x.toNatClampNeg k.toNatClampNeg))) := by
  obtain ⟨hW, hB, hL, hb, hN, hV, hC, hQ, hsc⟩ := id hH
  obtain ⟨hN1, hN2, hN3, hN4, hN5, hN6⟩ := id hN
  obtain ⟨hG1, hG2, hG3⟩ := id hG
  refine fc_met rfl (Nat.le_of_ble_eq_true rfl) (fc_run oX10_mornings (fun pc => pc == 55) 400 ?_)
  refine Exists.intro _ (And.intro (c_isFrom _ _ _) ?_)
  rintro _ _ _ _ ⟨rfl, rfl, rfl, rfl⟩
  refine And.intro (fun h8 => ?_) (fun h8 => ?_)
  · replace h8 := fc_b0.mp h8
    exact Or.inl ⟨by simp [h8], rfl, rfl, rfl, rfl⟩
  · replace h8 := fc_b1.mp h8
    obtain ⟨x0, hx0, rfl⟩ : ∃ j : Nat, j ≤ 9999 ∧ x = nI j := by
      unfold sp_from at h8
      simp only [Bool.and_eq_true, Bool.not_eq_true', decide_eq_false_iff_not] at h8
      exact nI_of2 (M := 9999) (n := 9999) rfl h8.1 (Int32.not_lt.mp h8.2)
    refine Exists.intro _ (And.intro (c_isFrom _ _ _) ?_)
    rintro _ _ _ _ ⟨rfl, rfl, rfl, rfl⟩
    refine And.intro (fun h18 => ?_) (fun h18 => ?_)
    · replace h18 := fc_b0.mp h18
      exact Or.inl ⟨by simp [h8, h18], rfl, rfl, rfl, rfl⟩
    · replace h18 := fc_b1.mp h18
      obtain ⟨k0, hk0, rfl⟩ : ∃ j : Nat, j ≤ 99 ∧ k = nI j := by
        unfold sp_from at h18
        simp only [Bool.and_eq_true, Bool.not_eq_true', decide_eq_false_iff_not] at h18
        exact nI_of2 (M := 99) (n := 99) rfl (fun q => h18.1 (Int32.lt_trans q (by decide))) (Int32.not_lt.mp h18.2)
      refine Exists.intro _ (And.intro (c_isFrom _ _ _) ?_)
      rintro _ _ _ _ ⟨rfl, rfl, rfl, rfl⟩
      refine And.intro (fun h27 => ?_) (fun h27 => ?_)
      · replace h27 := fc_b0.mp h27
        exact Or.inl ⟨by simp [h8, h18, h27], rfl, rfl, rfl, rfl⟩
      · replace h27 := fc_b1.mp h27
        refine And.intro rfl ?_
        refine And.intro rfl (Exists.intro _ (And.intro (hW 0 4 25 rfl) ?_))
        refine And.intro rfl (Exists.intro _ (And.intro (hW 0 3 17 rfl) ?_))
        refine And.intro (fc_S_0 (fc_S_at25 hW)) (Exists.intro _ (And.intro (c_copy (fc_S_at25 hW) (fc_S_at17 hW) (Or.inr (by omega))) ?_))
        rintro _ _ _ _ ⟨rfl, rfl, rfl, rfl⟩
        have hcx := nI_clamp (show x0 < 2 ^ 31 by omega)
        have hck := nI_clamp (show k0 < 2 ^ 31 by omega)
        refine fc_conT (l_mornings (ml := ml) (hH.dm sp_cp_dm) hDr (hA.dm (by omega) sp_cp_dm) (by rw [cl_dm (a := 25) (by omega) sp_cp_dm]; exact hG2) (by rw [sp_cp_dm (b := b) b (by omega) (by omega)]; exact hG1) (σ := cv (sp_cp mi 25 17) 25) (hG3.ag (sp_cp_cv hN2 hN6).sy) (g := x0) (by omega) hk0 (nI x0) w k0 0 _ _ _ _ (by omega) rfl fc_dm.rf rfl (by rw [nI_l (by omega)]; rfl) rfl) ?_
        rintro v a1 a2 a3 ⟨q1, q2, q3, rfl⟩
        refine Or.inr ⟨by rw [h8, h18, h27]; rfl, ?_⟩
        rw [hcx, hck]
        refine ⟨?_, sp_cp_dm.tr q2, q3, rfl⟩
        rw [q1, cl_dm (a := 25) (by omega) sp_cp_dm, cw_dm (a := 25) (by omega) sp_cp_dm]

def sp_gt (bo lo ga x z : Int32) : Int32 := if x = 1 then (if z = 1 then -bo else -lo) else (if z = 1 then ga else 0)
theorem c_gets (bo lo ga x z : Int32) : fc_R E mX10_gets d fc_sh [.int bo, .int lo, .int ga, .int x, .int z] mi ml mr (fc_is (some (.int (sp_gt bo lo ga x z))) mi ml mr) := by
  refine fc_met rfl (Nat.le_of_ble_eq_true rfl) (fc_run oX10_gets (fun _ => false) 400 ?_)
  refine And.intro (fun h2 => ?_) (fun h2 => ?_)
  · refine And.intro (fun h8 => ?_) (fun h8 => ?_)
    · exact ⟨by simp [sp_gt, h2, h8], rfl, rfl, rfl⟩
    · exact ⟨by simp [sp_gt, h2, h8], rfl, rfl, rfl⟩
  · refine And.intro (fun h22 => ?_) (fun h22 => ?_)
    · exact ⟨by simp [sp_gt, h2, h22], rfl, rfl, rfl⟩
    · exact ⟨by simp [sp_gt, h2, h22], rfl, rfl, rfl⟩

def sp_rst (bo lo ga c : Int32) : Bool := !decide (sp_gt bo lo ga (c / 2) (c - c / 2 * 2) < sp_gt bo lo ga (1 - c / 2) (c - c / 2 * 2)) && !decide (sp_gt bo lo ga (c - c / 2 * 2) (c / 2) < sp_gt bo lo ga (1 - (c - c / 2 * 2)) (c / 2))
theorem c_isRest (bo lo ga c : Int32) : fc_R E mX10_isRest (d + 1) fc_sh [.int bo, .int lo, .int ga, .int c] mi ml mr (fc_is (some (.int (fc_b (sp_rst bo lo ga c)))) mi ml mr) := by
  refine fc_met rfl (Nat.le_of_ble_eq_true rfl) (fc_run oX10_isRest (fun _ => false) 400 ?_)
  refine And.intro (by decide) ?_
  refine And.intro (by decide) ?_
  refine Exists.intro _ (And.intro (c_gets _ _ _ _ _) ?_)
  rintro _ _ _ _ ⟨rfl, rfl, rfl, rfl⟩
  refine Exists.intro _ (And.intro (c_gets _ _ _ _ _) ?_)
  rintro _ _ _ _ ⟨rfl, rfl, rfl, rfl⟩
  refine And.intro (fun h32 => ?_) (fun h32 => ?_)
  · refine And.intro (by first | exact Or.inl rfl | exact Or.inr rfl | exact fc_bb _ | assumption) ?_
    exact ⟨by simp [sp_rst, fc_b, h32], rfl, rfl, rfl⟩
  · refine Exists.intro _ (And.intro (c_gets _ _ _ _ _) ?_)
    rintro _ _ _ _ ⟨rfl, rfl, rfl, rfl⟩
    refine Exists.intro _ (And.intro (c_gets _ _ _ _ _) ?_)
    rintro _ _ _ _ ⟨rfl, rfl, rfl, rfl⟩
    refine And.intro (fun h57 => ?_) (fun h57 => ?_)
    · refine And.intro (by first | exact Or.inl rfl | exact Or.inr rfl | exact fc_bb _ | assumption) ?_
      exact ⟨by simp [sp_rst, fc_b, h32, h57], rfl, rfl, rfl⟩
    · refine And.intro (by first | exact Or.inl rfl | exact Or.inr rfl | exact fc_bb _ | assumption) ?_
      exact ⟨by simp [sp_rst, fc_b, h32, h57], rfl, rfl, rfl⟩

end M47
