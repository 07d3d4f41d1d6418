/-! ===== the reference: mornings by draws ===== -/
section M57
variable {E : fc_E} {d : Nat} {mi : fc_Mi} {ml : fc_Ml} {mr : fc_Mr} {B n m t sm g : Nat} {L σ : fc_Mi} {G : Nat → Nat} {V : Nat → Nat → Nat}
theorem c_rdraw (hg : ml 252 29 = lN g) (hg2 : g < 2147483648) {x : Int32} {k : Nat} (hx : x = nI k) (hk : 0 < k) (hk2 : k < 2 ^ 31) : fc_R E mX11_draw d fc_sh [.ref 252, .int x] mi ml mr (fc_is (some (.int (nI (dv (dg g) k)))) mi (fc_u ml 252 29 (lN (dg g))) mr) := by
  subst hx
  refine fc_met rfl (Nat.le_of_ble_eq_true rfl) (fc_run oX11_draw (fun _ => false) 400 ?_)
  refine And.intro rfl ?_
  rw [hg]
  refine And.intro (by decide) ?_
  refine And.intro rfl ?_
  rw [dg_eq hg2]
  refine And.intro rfl ?_
  rw [fc_u_at]
  refine And.intro (by decide) ?_
  refine And.intro (dv_nz hk hk2) ?_
  exact ⟨by rw [dv_eq (dg_lt g) hk hk2], rfl, rfl, rfl⟩

/-- the reference's draws -/
def fc_Drr (E : fc_E) (G : Nat → Nat) (V : Nat → Nat → Nat) : Prop := (∀ g, G g < 2147483648) ∧ (∀ g k, 0 < k → V g k < k) ∧ ∀ (d : Nat) (mi : fc_Mi) (ml : fc_Ml) (mr : fc_Mr) (g : Nat) (x : Int32) (k : Nat), ml 252 29 = lN g → g < 2147483648 → x = nI k → 0 < k → k < 2 ^ 31 → fc_R E mX11_draw d fc_sh [.ref 252, .int x] mi ml mr (fc_is (some (.int (nI (V (G g) k)))) mi (fc_u ml 252 29 (lN (G g))) mr)
theorem fc_Drr_dg : fc_Drr E dg dv := ⟨dg_lt, fun g k h => dv_lt g h, fun d mi ml mr g x k h1 h2 h3 h4 h5 => c_rdraw h1 h2 h3 h4 h5⟩
theorem l_rdd (hW : fc_Wd mr) (hDr : fc_Drr E G V) {τ : fc_Mi} (hA : ra mi 1408 n m t sm L τ) {ev : fc_Ev} (hE : rlw mi ev) (hn0 : 0 < n) (hm0 : 0 < m) (hg : ml 252 29 = lN g) (hg2 : g < 2147483648) {x4 : Option Value} : fc_T E mX11_drawsDeed (d + 5) (0, 0) fc_sh 24 [some (.ref 252), some (.int (nI (V (G g) n))), some (.int (nI (V (G (G g)) m))), some (.int (nI (V (G (G (G g))) 5))), x4] [] mi (fc_u ml 252 29 (lN (G (G (G g))))) mr (fun v mi' ml' mr' => v = some (.int (fc_b (as_dd G V L τ n m t (nI sm) ev g).2.2)) ∧ as_ag n t (as_dd G V L τ n m t (nI sm) ev g).1 (rv (mi' 268) 1408) ∧ rf 1408 mi mi' ∧ ml' = fc_u ml 252 29 (lN (as_dd G V L τ n m t (nI sm) ev g).2.1) ∧ mr = mr') := by
  obtain ⟨⟨e0, e2, e3, e4⟩, hB, hLo, hSo, hLg, hSg⟩ := id hA
  obtain ⟨h5, h7, h6, hs1, hs2, hLp, hLt⟩ := id hLo
  have hZ := hA.z
  have hp := hDr.2.1 (G g) n hn0
  have hk := hDr.2.1 (G (G g)) m hm0
  have hw := hDr.2.1 (G (G (G g))) 5 (show 0 < 5 by omega)
  have ho := hDr.2.1 (G (G (G (G g)))) n hn0
  refine fc_run oX11_drawsDeed (fun _ => false) 400 ?_
  refine And.intro (fun h26 => ?_) (fun h26 => ?_)
  · refine And.intro (fun h55 => ?_) (fun h55 => ?_)
    · refine And.intro rfl (Exists.intro _ (And.intro (c_rthings hW hA) ?_))
      rintro _ _ _ _ ⟨rfl, rfl, rfl, rfl⟩
      refine And.intro (fun h62 => ?_) (fun h62 => ?_)
      · refine And.intro (fun h106 => ?_) (fun h106 => ?_)
        · rw [h55] at h106; exact absurd h106 (by decide)
        · refine And.intro (by first | exact Or.inl rfl | exact Or.inr rfl | exact fc_bb _ | assumption) ?_
          have hle : ¬ (V (G (G (G g))) 5) ≤ 1 := by have := nI_leI (a := 2) (b := (V (G (G (G g))) 5)) (by omega) (by omega); have := this.mp h26; omega
          have h2 : (V (G (G (G g))) 5) = 2 := (nI_eq (b := 2) (by omega) (by omega)).mp h55
          have eD : as_dd G V L τ n m t (nI sm) ev g = (τ, G (G (G g)), false) := by rw [as_dd, if_neg hle, if_neg (fun q => absurd h62 (nI_nle q.2 (by omega))), if_neg (by omega)]
          exact ⟨by rw [eD]; rfl, by rw [eD]; exact hSg, rf.rf', by rw [eD], rfl⟩
      · have ht0 : 0 < t := by
          by_cases q : t = 0
          · exact absurd (show nI t ≤ 0 by rw [q]; decide) h62
          · omega
        have hq := hDr.2.1 (G (G (G (G g)))) t ht0
        refine And.intro rfl (Exists.intro _ (And.intro (c_rthings hW hA) ?_))
        rintro _ _ _ _ ⟨rfl, rfl, rfl, rfl⟩
        refine And.intro rfl (Exists.intro _ (And.intro (hDr.2.2 _ _ _ _ (G (G (G g))) _ _ (fc_u_at _ _ _ _) (hDr.1 _) rfl ht0 (by omega)) ?_))
        rintro _ _ _ _ ⟨rfl, rfl, rfl, rfl⟩
        rw [fc_u_u]
        refine And.intro rfl (Exists.intro _ (And.intro (c_rmayGive hW hA (fc_nl 1408) rfl rfl hq hp) ?_))
        rintro _ _ _ _ ⟨rfl, rfl, rfl, rfl⟩
        refine And.intro (fun h85 => ?_) (fun h85 => ?_)
        · replace h85 := fc_b0.mp h85
          refine And.intro (by first | exact Or.inl rfl | exact Or.inr rfl | exact fc_bb _ | assumption) ?_
          have hle : ¬ (V (G (G (G g))) 5) ≤ 1 := by have := nI_leI (a := 2) (b := (V (G (G (G g))) 5)) (by omega) (by omega); have := this.mp h26; omega
          have h2 : (V (G (G (G g))) 5) = 2 := (nI_eq (b := 2) (by omega) (by omega)).mp h55
          have ht0 : 0 < t := ht0
          have hcw : sp_cg (nI t) (nI n) (τ 6) (L 7) (τ 2) (τ 1) (τ 0 1) (nI (V (G (G (G (G g)))) t)) (nI (V (G g) n)) = false := by rw [sp_cg, sp_has_nI (n := t) (p := (V (G (G (G (G g)))) t)) hq (by omega), sp_has_nI (n := n) (p := (V (G g) n)) hp (by omega), show (nI (V (G (G (G (G g)))) t)).toNatClampNeg = (V (G (G (G (G g)))) t) from nI_clamp (by omega), show (nI (V (G g) n)).toNatClampNeg = (V (G g) n) from nI_clamp (by omega)]; exact h85
          have eD : as_dd G V L τ n m t (nI sm) ev g = (τ, G (G (G (G g))), false) := by rw [as_dd, if_neg hle, if_pos ⟨h2, ht0⟩, as_play_g0 hcw]; rfl
          exact ⟨by rw [eD]; rfl, by rw [eD]; exact hSg, rf.rf', by rw [eD], rfl⟩
        · replace h85 := fc_b1.mp h85
          refine And.intro rfl (Exists.intro _ (And.intro (c_rgives hW hA hE (fc_nl 1408) rfl rfl hq hp) ?_))
          rintro _ m1 _ _ ⟨rfl, g1, g2, rfl, rfl⟩
          refine And.intro (by first | exact Or.inl rfl | exact Or.inr rfl | exact fc_bb _ | assumption) ?_
          have hle : ¬ (V (G (G (G g))) 5) ≤ 1 := by have := nI_leI (a := 2) (b := (V (G (G (G g))) 5)) (by omega) (by omega); have := this.mp h26; omega
          have h2 : (V (G (G (G g))) 5) = 2 := (nI_eq (b := 2) (by omega) (by omega)).mp h55
          have ht0 : 0 < t := ht0
          have hcw : sp_cg (nI t) (nI n) (τ 6) (L 7) (τ 2) (τ 1) (τ 0 1) (nI (V (G (G (G (G g)))) t)) (nI (V (G g) n)) = true := by rw [sp_cg, sp_has_nI (n := t) (p := (V (G (G (G (G g)))) t)) hq (by omega), sp_has_nI (n := n) (p := (V (G g) n)) hp (by omega), show (nI (V (G (G (G (G g)))) t)).toNatClampNeg = (V (G (G (G (G g)))) t) from nI_clamp (by omega), show (nI (V (G g) n)).toNatClampNeg = (V (G g) n) from nI_clamp (by omega)]; exact h85
          have eD : as_dd G V L τ n m t (nI sm) ev g = (as_gv τ (V (G (G (G (G g)))) t) (τ 6 (V (G (G (G (G g)))) t)).toNatClampNeg (nI (V (G g) n)) (as_bd L τ n ev (L 8 (V (G (G (G (G g)))) t)) (τ 0 1) (τ 6 (V (G (G (G (G g)))) t)).toNatClampNeg (V (G g) n)), G (G (G (G g))), true) := by rw [as_dd, if_neg hle, if_pos ⟨h2, ht0⟩, as_play_g1 hcw, show (nI (V (G (G (G (G g)))) t)).toNatClampNeg = (V (G (G (G (G g)))) t) from nI_clamp (by omega), show (nI (V (G g) n)).toNatClampNeg = (V (G g) n) from nI_clamp (by omega)]; rw [nd_t (fc_b_m1 _)]
          exact ⟨by rw [eD]; rfl, by rw [eD]; exact g1, g2, by rw [eD], rfl⟩
    · refine And.intro (fun h106 => ?_) (fun h106 => ?_)
      · refine And.intro rfl (Exists.intro _ (And.intro (c_rpersons hW hA) ?_))
        rintro _ _ _ _ ⟨rfl, rfl, rfl, rfl⟩
        refine And.intro rfl (Exists.intro _ (And.intro (hDr.2.2 _ _ _ _ (G (G (G g))) _ _ (fc_u_at _ _ _ _) (hDr.1 _) rfl hn0 (by omega)) ?_))
        rintro _ _ _ _ ⟨rfl, rfl, rfl, rfl⟩
        rw [fc_u_u]
        refine And.intro rfl (Exists.intro _ (And.intro (c_rmayVow hW hA (fc_nl 1408) rfl rfl hp ho) ?_))
        rintro _ _ _ _ ⟨rfl, rfl, rfl, rfl⟩
        refine And.intro (fun h129 => ?_) (fun h129 => ?_)
        · replace h129 := fc_b0.mp h129
          refine And.intro (by first | exact Or.inl rfl | exact Or.inr rfl | exact fc_bb _ | assumption) ?_
          have hle : ¬ (V (G (G (G g))) 5) ≤ 1 := by have := nI_leI (a := 2) (b := (V (G (G (G g))) 5)) (by omega) (by omega); have := this.mp h26; omega
          have h2 : ¬ (V (G (G (G g))) 5) = 2 := fun q => h55 (by rw [q]; rfl)
          have h3 : (V (G (G (G g))) 5) = 3 := (nI_eq (b := 3) (by omega) (by omega)).mp h106
          have hcw : sp_cv (nI n) (L 7) (τ 2) (τ 1) (L 5) (τ 4) (τ 0 1) (nI (V (G g) n)) (nI (V (G (G (G (G g)))) n)) = false := by rw [sp_cv, sp_has_nI (n := n) (p := (V (G g) n)) hp (by omega), sp_has_nI (n := n) (p := (V (G (G (G (G g)))) n)) ho (by omega), show (nI (V (G g) n)).toNatClampNeg = (V (G g) n) from nI_clamp (by omega), show (nI (V (G (G (G (G g)))) n)).toNatClampNeg = (V (G (G (G (G g)))) n) from nI_clamp (by omega)]; exact h129
          have eD : as_dd G V L τ n m t (nI sm) ev g = (τ, G (G (G (G g))), false) := by rw [as_dd, if_neg hle, if_neg (fun q => h2 q.1), if_pos h3, as_play_v0 hcw]; rfl
          exact ⟨by rw [eD]; rfl, by rw [eD]; exact hSg, rf.rf', by rw [eD], rfl⟩
        · replace h129 := fc_b1.mp h129
          refine And.intro rfl (Exists.intro _ (And.intro (c_rvowsBy hW hA hE (fc_nl 1408) rfl rfl hp ho (by intro e; rw [Bool.and_eq_true] at h129; exact absurd h129.1 (by rw [e, nd_f rfl]; decide))) ?_))
          rintro _ m1 _ _ ⟨rfl, g1, g2, rfl, rfl⟩
          refine And.intro (by first | exact Or.inl rfl | exact Or.inr rfl | exact fc_bb _ | assumption) ?_
          have hle : ¬ (V (G (G (G g))) 5) ≤ 1 := by have := nI_leI (a := 2) (b := (V (G (G (G g))) 5)) (by omega) (by omega); have := this.mp h26; omega
          have h2 : ¬ (V (G (G (G g))) 5) = 2 := fun q => h55 (by rw [q]; rfl)
          have h3 : (V (G (G (G g))) 5) = 3 := (nI_eq (b := 3) (by omega) (by omega)).mp h106
          have hcw : sp_cv (nI n) (L 7) (τ 2) (τ 1) (L 5) (τ 4) (τ 0 1) (nI (V (G g) n)) (nI (V (G (G (G (G g)))) n)) = true := by rw [sp_cv, sp_has_nI (n := n) (p := (V (G g) n)) hp (by omega), sp_has_nI (n := n) (p := (V (G (G (G (G g)))) n)) ho (by omega), show (nI (V (G g) n)).toNatClampNeg = (V (G g) n) from nI_clamp (by omega), show (nI (V (G (G (G (G g)))) n)).toNatClampNeg = (V (G (G (G (G g)))) n) from nI_clamp (by omega)]; exact h129
          have eD : as_dd G V L τ n m t (nI sm) ev g = (as_vw τ (V (G g) n) (V (G (G (G (G g)))) n) (as_bd L τ n ev 0 (τ 0 1) (V (G g) n) (V (G (G (G (G g)))) n)), G (G (G (G g))), true) := by rw [as_dd, if_neg hle, if_neg (fun q => h2 q.1), if_pos h3, as_play_v1 hcw, show (nI (V (G g) n)).toNatClampNeg = (V (G g) n) from nI_clamp (by omega), show (nI (V (G (G (G (G g)))) n)).toNatClampNeg = (V (G (G (G (G g)))) n) from nI_clamp (by omega)]; rw [nd_t (fc_b_m1 _)]
          exact ⟨by rw [eD]; rfl, by rw [eD]; exact g1, g2, by rw [eD], rfl⟩
      · refine And.intro (by first | exact Or.inl rfl | exact Or.inr rfl | exact fc_bb _ | assumption) ?_
        have hle : ¬ (V (G (G (G g))) 5) ≤ 1 := by have := nI_leI (a := 2) (b := (V (G (G (G g))) 5)) (by omega) (by omega); have := this.mp h26; omega
        have h2 : ¬ (V (G (G (G g))) 5) = 2 := fun q => h55 (by rw [q]; rfl)
        have h3 : ¬ (V (G (G (G g))) 5) = 3 := fun q => h106 (by rw [q]; rfl)
        have eD : as_dd G V L τ n m t (nI sm) ev g = (τ, G (G (G g)), false) := by rw [as_dd, if_neg hle, if_neg (fun q => h2 q.1), if_neg h3]
        exact ⟨by rw [eD]; rfl, by rw [eD]; exact hSg, rf.rf', by rw [eD], rfl⟩
  · refine And.intro rfl (Exists.intro _ (And.intro (c_rmayWalk hW hA (fc_nl 1408) rfl hp _) ?_))
    rintro _ _ _ _ ⟨rfl, rfl, rfl, rfl⟩
    refine And.intro (fun h38 => ?_) (fun h38 => ?_)
    · replace h38 := fc_b0.mp h38
      refine And.intro (fun h55 => ?_) (fun h55 => ?_)
      · rw [h55] at h26; exact absurd (by decide) h26
      · refine And.intro (fun h106 => ?_) (fun h106 => ?_)
        · rw [h106] at h26; exact absurd (by decide) h26
        · refine And.intro (by first | exact Or.inl rfl | exact Or.inr rfl | exact fc_bb _ | assumption) ?_
          have hle : (V (G (G (G g))) 5) ≤ 1 := by have := nI_ltI (a := (V (G (G (G g))) 5)) (b := 2) (by omega) (by omega); exact Nat.le_of_lt_succ (this.mp (Int32.not_le.mp h26))
          have hcw : sp_cw (nI n) (nI m) (L 7) (τ 2) (τ 1) (L 4) (τ 0 1) (nI (V (G g) n)) (nI (V (G (G g)) m)) = false := by rw [sp_cw, sp_has_nI (n := n) (p := (V (G g) n)) hp (by omega), sp_has_nI (n := m) (p := (V (G (G g)) m)) hk (by omega), show (nI (V (G g) n)).toNatClampNeg = (V (G g) n) from nI_clamp (by omega)]; exact h38
          have eD : as_dd G V L τ n m t (nI sm) ev g = (τ, G (G (G g)), false) := by rw [as_dd, if_pos hle, as_play_w0 hcw]
          exact ⟨by rw [eD]; rfl, by rw [eD]; exact hSg, rf.rf', by rw [eD], rfl⟩
    · replace h38 := fc_b1.mp h38
      refine And.intro rfl (Exists.intro _ (And.intro (c_rwalks hW hA (fc_nl 1408) rfl hp _) ?_))
      rintro _ m1 _ _ ⟨rfl, g1, g2, rfl, rfl⟩
      refine And.intro (by first | exact Or.inl rfl | exact Or.inr rfl | exact fc_bb _ | assumption) ?_
      have hle : (V (G (G (G g))) 5) ≤ 1 := by have := nI_ltI (a := (V (G (G (G g))) 5)) (b := 2) (by omega) (by omega); exact Nat.le_of_lt_succ (this.mp (Int32.not_le.mp h26))
      have hcw : sp_cw (nI n) (nI m) (L 7) (τ 2) (τ 1) (L 4) (τ 0 1) (nI (V (G g) n)) (nI (V (G (G g)) m)) = true := by rw [sp_cw, sp_has_nI (n := n) (p := (V (G g) n)) hp (by omega), sp_has_nI (n := m) (p := (V (G (G g)) m)) hk (by omega), show (nI (V (G g) n)).toNatClampNeg = (V (G g) n) from nI_clamp (by omega)]; exact h38
      have eD : as_dd G V L τ n m t (nI sm) ev g = (as_wk L τ (V (G g) n) (nI (V (G (G g)) m)), G (G (G g)), false) := by rw [as_dd, if_pos hle, as_play_w1 hcw, show (nI (V (G g) n)).toNatClampNeg = (V (G g) n) from nI_clamp (by omega)]
      exact ⟨by rw [eD]; rfl, by rw [eD]; exact g1, g2, by rw [eD], rfl⟩
theorem c_rdrawsDeed (hW : fc_Wd mr) (hDr : fc_Drr E G V) {τ : fc_Mi} (hA : ra mi 1408 n m t sm L τ) {ev : fc_Ev} (hE : rlw mi ev) (hn0 : 0 < n) (hm0 : 0 < m) (hg : ml 252 29 = lN g) (hg2 : g < 2147483648) : fc_R E mX11_drawsDeed (d + 5) fc_sh [.ref 252] mi ml mr (fun v mi' ml' mr' => v = some (.int (fc_b (as_dd G V L τ n m t (nI sm) ev g).2.2)) ∧ as_ag n t (as_dd G V L τ n m t (nI sm) ev g).1 (rv (mi' 268) 1408) ∧ rf 1408 mi mi' ∧ ml' = fc_u ml 252 29 (lN (as_dd G V L τ n m t (nI sm) ev g).2.1) ∧ mr = mr') := by
  obtain ⟨⟨e0, e2, e3, e4⟩, hB, hLo, hSo, hLg, hSg⟩ := id hA
  obtain ⟨h5, h7, h6, hs1, hs2, hLp, hLt⟩ := id hLo
  have hZ := hA.z
  have hp := hDr.2.1 (G g) n hn0
  have hk := hDr.2.1 (G (G g)) m hm0
  have hw := hDr.2.1 (G (G (G g))) 5 (show 0 < 5 by omega)
  have ho := hDr.2.1 (G (G (G (G g)))) n hn0
  refine fc_met rfl (Nat.le_of_ble_eq_true rfl) (fc_run oX11_drawsDeed (fun pc => pc == 24) 400 ?_)
  refine And.intro rfl (Exists.intro _ (And.intro (c_rpersons hW hA) ?_))
  rintro _ _ _ _ ⟨rfl, rfl, rfl, rfl⟩
  refine And.intro rfl (Exists.intro _ (And.intro (hDr.2.2 _ _ _ _ _ _ _ hg hg2 rfl hn0 (by omega)) ?_))
  rintro _ _ _ _ ⟨rfl, rfl, rfl, rfl⟩
  refine And.intro rfl (Exists.intro _ (And.intro (c_rplaces hW hA) ?_))
  rintro _ _ _ _ ⟨rfl, rfl, rfl, rfl⟩
  refine And.intro rfl (Exists.intro _ (And.intro (hDr.2.2 _ _ _ _ (G g) _ _ (fc_u_at _ _ _ _) (hDr.1 _) rfl hm0 (by omega)) ?_))
  rintro _ _ _ _ ⟨rfl, rfl, rfl, rfl⟩
  rw [fc_u_u]
  refine And.intro rfl (Exists.intro _ (And.intro (hDr.2.2 _ _ _ _ (G (G g)) _ _ (fc_u_at _ _ _ _) (hDr.1 _) (fc_nl 5) (by omega) (by omega)) ?_))
  rintro _ _ _ _ ⟨rfl, rfl, rfl, rfl⟩
  rw [fc_u_u]
  exact l_rdd hW hDr hA hE hn0 hm0 hg hg2

theorem l_rmorn (hW : fc_Wd mr) (hZ : rz mi n m t sm L) (hDr : fc_Drr E G V) {ev : fc_Ev} (hE : rlw mi ev) (h0 : as_ok n m t sm σ) (hg2 : g < 2147483648) (hm0 : 0 < n → 0 < m) (x w : Int32) {kk : Int32} {k : Nat} (hkk : kk = nI k) (hk9 : k ≤ 99) : ∀ (j i : Nat) (c x4 : Int32) (y : Int64) (mm : fc_Mi), i + j = k → c = nI i → rf 1408 mi mm → as_ag n t (as_mn G V L σ n m t (nI sm) ev g i).1 (rv (mm 268) 1408) → y = lN (as_mn G V L σ n m t (nI sm) ev g i).2.1 → x4 = (as_mn G V L σ n m t (nI sm) ev g i).2.2 → fc_T E mX11_mornings (d + 6) (0, 0) fc_sh 59 [some (.ref 252), some (.int x), some (.int kk), some (.int w), some (.int x4), some (.int c)] [] mm (fc_u ml 252 29 y) mr (fun v mi' ml' mr' => v = some (.int (as_mo (as_mn G V L σ n m t (nI sm) ev g k).1 n t (as_mn G V L σ n m t (nI sm) ev g k).2.2 w)) ∧ rf 1408 mi mi' ∧ (∃ y, ml' = fc_u ml 252 29 y) ∧ mr = mr') := by
  intro j
  induction j with
  | zero =>
    intro i c x4 y mm hi hc hf hg hy h4
    subst hc
    have hZm := hZ.rf hf
    obtain ⟨hok, hgl⟩ := as_mn_ok (G := G) (V := V) (ev := ev) hDr.1 hZ.2.1 h0 hg2 i
    have hA : ra mm 1408 n m t sm L (as_mn G V L σ n m t (nI sm) ev g i).1 := hZm.ra (by omega) hok hg
    obtain ⟨⟨e0, e2, e3, e4⟩, hLo, hLg⟩ := id hZm
    obtain ⟨h5, h7, h6, hs1, hs2, hLp, hLt⟩ := id hLo
    have hEm := hE.rf hf
    subst hy
    refine fc_run oX11_mornings (fun pc => pc == 59) 400 ?_
    refine And.intro (fun h62 => ?_) (fun h62 => ?_)
    · refine And.intro (fun h104 => ?_) (fun h104 => ?_)
      · refine ⟨?_, hf, ⟨_, rfl⟩, rfl⟩
        rw [as_mo, ← show i = k by omega, if_pos h104, h4]
      · refine And.intro (fun h114 => ?_) (fun h114 => ?_)
        · refine And.intro rfl (Exists.intro _ (And.intro (c_rwrongThings hW hA (fc_nl 1408)) ?_))
          rintro _ _ _ _ ⟨rfl, rfl, rfl, rfl⟩
          refine ⟨?_, hf, ⟨_, rfl⟩, rfl⟩
          rw [as_mo, ← show i = k by omega, if_neg h104, if_pos h114]
        · refine And.intro rfl (Exists.intro _ (And.intro (c_rheardAll hW hA (fc_nl 1408)) ?_))
          rintro _ _ _ _ ⟨rfl, rfl, rfl, rfl⟩
          refine ⟨?_, hf, ⟨_, rfl⟩, rfl⟩
          rw [as_mo, ← show i = k by omega, if_neg h104, if_neg h114]
    · exact absurd (by rw [hkk]; exact nI_le (by omega) (by omega)) h62
  | succ j ih =>
    intro i c x4 y mm hi hc hf hg hy h4
    subst hc
    have hZm := hZ.rf hf
    obtain ⟨hok, hgl⟩ := as_mn_ok (G := G) (V := V) (ev := ev) hDr.1 hZ.2.1 h0 hg2 i
    have hA : ra mm 1408 n m t sm L (as_mn G V L σ n m t (nI sm) ev g i).1 := hZm.ra (by omega) hok hg
    obtain ⟨⟨e0, e2, e3, e4⟩, hLo, hLg⟩ := id hZm
    obtain ⟨h5, h7, h6, hs1, hs2, hLp, hLt⟩ := id hLo
    have hEm := hE.rf hf
    subst hy
    refine fc_run oX11_mornings (fun pc => pc == 59) 400 ?_
    refine And.intro (fun h62 => ?_) (fun h62 => ?_)
    · exact absurd h62 (by rw [hkk]; exact nI_ge (by omega) (by omega))
    · refine And.intro rfl (Exists.intro _ (And.intro (c_rpersons hW hA) ?_))
      rintro _ _ _ _ ⟨rfl, rfl, rfl, rfl⟩
      refine And.intro (fun h71 => ?_) (fun h71 => ?_)
      · refine And.intro rfl (Exists.intro _ (And.intro (c_rpasses hW hA (fc_nl 1408)) ?_))
        rintro _ m1 _ _ ⟨rfl, g1, g2, rfl, rfl⟩
        have hn0 : ¬ 0 < n := fun q => absurd h71 (nI_nle q (by omega))
        have eM : as_mn G V L σ n m t (nI sm) ev g (i + 1) = (as_pass L (as_mn G V L σ n m t (nI sm) ev g i).1 n m (nI sm), (as_mn G V L σ n m t (nI sm) ev g i).2.1, (as_mn G V L σ n m t (nI sm) ev g i).2.2) := by rw [as_mn]; simp only [if_neg hn0]; rfl
        exact ih (i + 1) _ _ _ _ (by omega) (fc_inc i) (hf.tr g2) (by rw [eM]; exact g1) (by rw [eM]) (by rw [eM, h4, Int32.add_zero])
      · have hn0 : 0 < n := by
          by_cases q : n = 0
          · exact absurd (show nI n ≤ 0 by rw [q]; decide) h71
          · omega
        refine And.intro rfl (Exists.intro _ (And.intro (c_rdrawsDeed hW hDr hA hEm hn0 (hm0 hn0) (fc_u_at _ _ _ _) hgl) ?_))
        rintro _ md _ _ ⟨rfl, gd1, gd2, rfl, rfl⟩
        refine And.intro (fun h78 => ?_) (fun h78 => ?_)
        · replace h78 := fc_b0.mp h78
          refine And.intro rfl (Exists.intro _ (And.intro (c_rpasses hW ((hZm.rf gd2).ra (by omega) (as_dd_ok hLo hok) gd1) (fc_nl 1408)) ?_))
          rintro _ m1 _ _ ⟨rfl, g1, g2, rfl, rfl⟩
          have eM : as_mn G V L σ n m t (nI sm) ev g (i + 1) = (as_pass L (as_dd G V L (as_mn G V L σ n m t (nI sm) ev g i).1 n m t (nI sm) ev (as_mn G V L σ n m t (nI sm) ev g i).2.1).1 n m (nI sm), (as_dd G V L (as_mn G V L σ n m t (nI sm) ev g i).1 n m t (nI sm) ev (as_mn G V L σ n m t (nI sm) ev g i).2.1).2.1, if (as_dd G V L (as_mn G V L σ n m t (nI sm) ev g i).1 n m t (nI sm) ev (as_mn G V L σ n m t (nI sm) ev g i).2.1).2.2 then (as_mn G V L σ n m t (nI sm) ev g i).2.2 + 1 else (as_mn G V L σ n m t (nI sm) ev g i).2.2) := by rw [as_mn]; simp only [if_pos hn0]
          rw [fc_u_u]
          exact ih (i + 1) _ _ _ _ (by omega) (fc_inc i) ((hf.tr gd2).tr g2) (by rw [eM]; exact g1) (by rw [eM]) (by rw [eM]; simp only [h78, Bool.false_eq_true, if_false]; rw [h4, Int32.add_zero])
        · replace h78 := fc_b1.mp h78
          refine And.intro rfl (Exists.intro _ (And.intro (c_rpasses hW ((hZm.rf gd2).ra (by omega) (as_dd_ok hLo hok) gd1) (fc_nl 1408)) ?_))
          rintro _ m1 _ _ ⟨rfl, g1, g2, rfl, rfl⟩
          have eM : as_mn G V L σ n m t (nI sm) ev g (i + 1) = (as_pass L (as_dd G V L (as_mn G V L σ n m t (nI sm) ev g i).1 n m t (nI sm) ev (as_mn G V L σ n m t (nI sm) ev g i).2.1).1 n m (nI sm), (as_dd G V L (as_mn G V L σ n m t (nI sm) ev g i).1 n m t (nI sm) ev (as_mn G V L σ n m t (nI sm) ev g i).2.1).2.1, if (as_dd G V L (as_mn G V L σ n m t (nI sm) ev g i).1 n m t (nI sm) ev (as_mn G V L σ n m t (nI sm) ev g i).2.1).2.2 then (as_mn G V L σ n m t (nI sm) ev g i).2.2 + 1 else (as_mn G V L σ n m t (nI sm) ev g i).2.2) := by rw [as_mn]; simp only [if_pos hn0]
          rw [fc_u_u]
          exact ih (i + 1) _ _ _ _ (by omega) (fc_inc i) ((hf.tr gd2).tr g2) (by rw [eM]; exact g1) (by rw [eM]) (by rw [eM]; simp only [h78, if_true]; rw [h4])

theorem sp_from9999 {w : Int32} (h : sp_from 0 w 9999 = true) : ∃ p, p < 10000 ∧ w = nI p := by
  simp only [sp_from, Bool.and_eq_true, Bool.not_eq_true', decide_eq_false_iff_not] at h
  obtain ⟨j, hj, e⟩ := nI_of2 (M := 9999) (n := 9999) rfl h.1 (Int32.not_lt.mp h.2)
  exact ⟨j, by omega, e⟩
theorem sp_from199 {w : Int32} (h : sp_from 1 w 99 = true) : ∃ p, p ≤ 99 ∧ w = nI p := by
  simp only [sp_from, Bool.and_eq_true, Bool.not_eq_true', decide_eq_false_iff_not] at h
  have h0 : ¬ w < 0 := fun q => h.1 (Int32.lt_trans q (by decide))
  exact nI_of2 (M := 99) (n := 99) rfl h0 (Int32.not_lt.mp h.2)
theorem c_rmornings (hW : fc_Wd mr) (hA : ra mi 0 n m t sm L σ) (hDr : fc_Drr E G V) {ev : fc_Ev} (hE : rlw mi ev) (hm0 : 0 < n → 0 < m) {τ : fc_Mi} (hτ : as_ok n m t sm τ) (hτg : as_ag n t τ σ) (x k w : Int32) : fc_R E mX11_mornings (d + 6) fc_sh [.ref 252, .int x, .int k, .int w] mi ml mr (if (sp_from 0 x 9999 && (sp_from 1 k 99 && sp_from 0 w 2)) then (fun v mi' ml' mr' => v = some (.int (as_mo (as_mn G V L τ n m t (nI sm) ev x.toNatClampNeg k.toNatClampNeg).1 n t (as_mn G V L τ n m t (nI sm) ev x.toNatClampNeg k.toNatClampNeg).2.2 w)) ∧ rf 1408 (fc_u mi 252 0 0) mi' ∧ (∃ y, ml' = fc_u ml 252 29 y) ∧ mr = mr') else fc_is (some (.int (-1))) (fc_u mi 252 0 0) ml mr) := by
  replace hA : ra (fc_u mi 252 0 0) 0 n m t sm L σ := hA.off rfl rfl
  obtain ⟨⟨e0, e2, e3, e4⟩, hB, hLo, hSo, hLg, hSg⟩ := id hA
  obtain ⟨h5, h7, h6, hs1, hs2, hLp, hLt⟩ := id hLo
  replace hE : rlw (fc_u mi 252 0 0) ev := hE.off rfl rfl rfl
  refine fc_met rfl (Nat.le_of_ble_eq_true rfl) (fc_run oX11_mornings (fun pc => pc == 59) 400 ?_)
  refine And.intro rfl ?_
  refine Exists.intro _ (And.intro (c_rwithin _ _ _) ?_)
  rintro _ _ _ _ ⟨rfl, rfl, rfl, rfl⟩
  refine And.intro (fun h13 => ?_) (fun h13 => ?_)
  · replace h13 := fc_b0.mp h13
    rw [if_neg (by rw [h13]; exact Bool.false_ne_true)]
    exact ⟨rfl, rfl, rfl, rfl⟩
  · replace h13 := fc_b1.mp h13
    refine Exists.intro _ (And.intro (c_rwithin _ _ _) ?_)
    rintro _ _ _ _ ⟨rfl, rfl, rfl, rfl⟩
    refine And.intro (fun h23 => ?_) (fun h23 => ?_)
    · replace h23 := fc_b0.mp h23
      rw [if_neg (by rw [h13, h23]; exact Bool.false_ne_true)]
      exact ⟨rfl, rfl, rfl, rfl⟩
    · replace h23 := fc_b1.mp h23
      refine Exists.intro _ (And.intro (c_rwithin _ _ _) ?_)
      rintro _ _ _ _ ⟨rfl, rfl, rfl, rfl⟩
      refine And.intro (fun h32 => ?_) (fun h32 => ?_)
      · replace h32 := fc_b0.mp h32
        rw [if_neg (by rw [h13, h23, h32]; exact Bool.false_ne_true)]
        exact ⟨rfl, rfl, rfl, rfl⟩
      · replace h32 := fc_b1.mp h32
        refine And.intro rfl (Exists.intro _ (And.intro (c_rcopies hW (fc_nl 0) (fc_nl 1408) (fc_nl 39) (by omega) (by omega) (by omega)) ?_))
        rintro _ _ _ _ ⟨rfl, rfl, rfl, rfl⟩
        refine And.intro rfl ?_
        rw [if_pos (by rw [h13, h23, h32]; rfl)]
        obtain ⟨gx, hgx, egx⟩ := sp_from9999 h13
        obtain ⟨kx, hkx, ekx⟩ := sp_from199 h23
        have e1 : x.toNatClampNeg = gx := by rw [egx]; exact nI_clamp (by omega)
        have e2' : k.toNatClampNeg = kx := by rw [ekx]; exact nI_clamp (by omega)
        rw [e1, e2']
        refine fc_conT (l_rmorn hW (hA.z.rf cpr_rf) hDr (hE.rf cpr_rf) hτ (g := gx) (by omega) hm0 x w ekx hkx kx 0 _ _ _ _ (by omega) rfl rf.rf' (hτg.tr (cpr_ag h5 h6 hSg)) (by rw [egx]; exact nI_l (by omega)) rfl) ?_
        rintro v a1 a2 a3 ⟨q1, q2, q3, rfl⟩
        exact ⟨q1, cpr_rf.tr q2, q3, rfl⟩

end M57
