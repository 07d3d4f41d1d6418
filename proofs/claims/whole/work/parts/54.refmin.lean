/-! ===== the reference: giving, vowing, a minute ===== -/
section M54
variable {E : fc_E} {d : Nat} {mi : fc_Mi} {ml : fc_Ml} {mr : fc_Mr} {B n m t sm : Nat} {L σ : fc_Mi}
theorem gv_ag {q p : Nat} {z v : Int32} (bd : Bool) (hv : v = if bd then z else σ 7 q) : as_ag n t (as_gv σ q p z bd) (fc_u (fc_u (fc_u σ 6 q z) 7 q v) 2 p 1) := by
  subst hv
  refine ⟨⟨?_, ?_⟩, fun k hk => ⟨?_, ?_, ?_, ?_, ?_⟩, fun k hk => ⟨?_, ?_⟩⟩
  · cases bd <;> simp [as_gv, fc_u]
  · cases bd <;> simp [as_gv, fc_u]
  · cases bd <;> simp [as_gv, fc_u]
  · cases bd <;> simp [as_gv, fc_u]
  · cases bd <;> simp [as_gv, fc_u]
  · cases bd <;> simp [as_gv, fc_u]
  · cases bd <;> simp [as_gv, fc_u]
  · cases bd <;> simp [as_gv, fc_u]
  · cases bd
    · by_cases e : k = q
      · subst e; simp [as_gv, fc_u]
      · simp [as_gv, fc_u, e]
    · simp [as_gv, fc_u]
def vw_t (σ : fc_Mi) (p o : Nat) (bd : Bool) : fc_Mi := fc_u (fc_u (fc_u (fc_u (fc_u (fc_u σ 4 p (σ 4 p ||| sp_one o)) 4 o (σ 4 o ||| sp_one p)) 5 p (σ 5 p ||| (if bd then sp_one o else 0))) 5 o (σ 5 o ||| (if bd then sp_one p else 0))) 2 p 1) 2 o 1
theorem vw_ag {p o : Nat} (bd : Bool) (hne : ¬ p = o) : as_ag n t (as_vw σ p o bd) (vw_t σ p o bd) := by
  have hne' : ¬ o = p := fun e => hne e.symm
  refine ⟨⟨?_, ?_⟩, fun k hk => ⟨?_, ?_, ?_, ?_, ?_⟩, fun k hk => ⟨?_, ?_⟩⟩
  · cases bd <;> simp [as_vw, vw_t, sp_vw0, sp_vw1, fc_u]
  · cases bd <;> simp [as_vw, vw_t, sp_vw0, sp_vw1, fc_u]
  · cases bd <;> simp [as_vw, vw_t, sp_vw0, sp_vw1, fc_u]
  · cases bd <;> simp [as_vw, vw_t, sp_vw0, sp_vw1, fc_u]
  · cases bd <;> simp [as_vw, vw_t, sp_vw0, sp_vw1, fc_u]
  · cases bd <;> simp [as_vw, vw_t, sp_vw0, sp_vw1, fc_u, sp_one, hne']
  · cases bd
    · by_cases e : k = p
      · subst e; simp [as_vw, vw_t, sp_vw0, sp_vw1, fc_u, fc_or0, hne]
      · by_cases e2 : k = o
        · subst e2; simp [as_vw, vw_t, sp_vw0, sp_vw1, fc_u, fc_or0]
        · simp [as_vw, vw_t, sp_vw0, sp_vw1, fc_u, e, e2]
    · simp [as_vw, vw_t, sp_vw0, sp_vw1, fc_u, sp_one, hne']
  · cases bd <;> simp [as_vw, vw_t, sp_vw0, sp_vw1, fc_u]
  · cases bd <;> simp [as_vw, vw_t, sp_vw0, sp_vw1, fc_u]
theorem c_rgives (hW : fc_Wd mr) (hA : ra mi B n m t sm L σ) {ev : fc_Ev} (hE : rlw mi ev) {y : Int32} (hy : y = nI B) {x z : Int32} {q o : Nat} (hx : x = nI q) (hz : z = nI o) (hq : q < t) (ho : o < n) : fc_R E mX11_gives (d + 3) fc_sh [.ref 252, .int y, .int x, .int z] mi ml mr (rq B n t (some (.int (fc_b (as_bd L σ n ev (L 8 q) (σ 0 1) (σ 6 q).toNatClampNeg o)))) (as_gv σ q (σ 6 q).toNatClampNeg z (as_bd L σ n ev (L 8 q) (σ 0 1) (σ 6 q).toNatClampNeg o)) mi ml mr) := by
  obtain ⟨⟨e0, e2, e3, e4⟩, hB, hLo, hSo, hLg, hSg⟩ := id hA
  obtain ⟨h5, h7, h6, hs1, hs2, hLp, hLt⟩ := id hLo
  obtain ⟨⟨pp, hpp, ep⟩, -⟩ := hSo.2.1 q hq
  have hcl : (σ 6 q).toNatClampNeg = pp := by rw [ep]; exact nI_clamp (by omega)
  refine fc_met rfl (Nat.le_of_ble_eq_true rfl) (fc_run oX11_gives (fun _ => false) 400 ?_)
  refine And.intro rfl (Exists.intro _ (And.intro (hW 252 24 268 rfl) ?_))
  refine Exists.intro _ (Exists.intro _ (And.intro rfl (And.intro (fc_ixn (fc_na (fc_na hy (fc_nl 12)) hx) (by omega) (by decide)) ?_)))
  refine And.intro rfl (Exists.intro _ (And.intro (c_rthi0 hW hA hx hq) ?_))
  rintro _ _ _ _ ⟨rfl, rfl, rfl, rfl⟩
  refine And.intro rfl (Exists.intro _ (And.intro (hW 252 24 268 rfl) ?_))
  refine Exists.intro _ (Exists.intro _ (And.intro rfl (And.intro (fc_ixn (fc_na hy (fc_nl 1)) (by omega) (by decide)) ?_)))
  rw [ra_1 hA]
  refine And.intro rfl (Exists.intro _ (And.intro (c_rdoesBind hW hA hE hy ((ra_o hA hq).trans ep) hz (by omega) (by omega) _ _) ?_))
  rintro _ m1 _ _ ⟨rfl, F1, rfl, rfl⟩
  have hg0 : as_ag n t σ (rv (m1 268) B) := by rw [F1 268 (by decide) (by decide)]; exact hSg
  rw [hcl]
  refine And.intro rfl (Exists.intro _ (And.intro (hW 252 24 268 rfl) ?_))
  refine Exists.intro _ (Exists.intro _ (And.intro rfl (And.intro (fc_ixn (fc_na (fc_na hy (fc_nl 12)) hx) (by omega) (by decide)) ?_)))
  refine And.intro rfl (Exists.intro _ (And.intro (hW 252 24 268 rfl) ?_))
  refine And.intro (fun h61 => ?_) (fun h61 => ?_)
  · replace h61 := fc_b0.mp h61
    refine And.intro rfl (Exists.intro _ (And.intro (hW 252 24 268 rfl) ?_))
    refine Exists.intro _ (Exists.intro _ (And.intro rfl (And.intro (fc_ixn (fc_na (fc_na hy (fc_nl 18)) hx) (by omega) (by decide)) ?_)))
    refine Exists.intro _ (Exists.intro _ (And.intro rfl (And.intro (fc_ixn (fc_na (fc_na hy (fc_nl 18)) hx) (by omega) (by decide)) ?_)))
    refine And.intro rfl (Exists.intro _ (And.intro (hW 252 24 268 rfl) ?_))
    refine Exists.intro _ (Exists.intro _ (And.intro rfl (And.intro (fc_ixn (fc_na (fc_na hy (fc_nl 7)) ((ra_o hA hq).trans ep)) (by omega) (by decide)) ?_)))
    refine And.intro (by first | exact Or.inl rfl | exact Or.inr rfl | exact fc_bb _ | assumption) ?_
    refine ⟨rfl, ?_, ⟨fun w q1 q2 q3 _ => ?_, fun j q => ?_⟩, rfl, rfl⟩
    · refine as_ag.tr ?_ (ag_u2 (p := pp) h5 h6 (by omega) (ag_u7 (p := q) h5 h6 (by omega) (ag_u6 (p := q) h5 h6 (by omega) hg0)))
      refine gv_ag _ ?_
      rw [h61]
      show fc_u m1 268 (B + 12 + q) z 268 (B + 18 + q) = σ 7 q; rw [fc_u_nj _ _ _ _ (by omega)]; exact (hg0.2.2 q hq).2.symm
    · rw [fc_u_off _ _ _ q3, fc_u_off _ _ _ q3, fc_u_off _ _ _ q3, F1 w q1 q2]
    · rw [fc_u_nj _ _ _ _ (by omega), fc_u_nj _ _ _ _ (by omega), fc_u_nj _ _ _ _ (by omega), F1 268 (by decide) (by decide)]
  · replace h61 := fc_b1.mp h61
    refine Exists.intro _ (Exists.intro _ (And.intro rfl (And.intro (fc_ixn (fc_na (fc_na hy (fc_nl 18)) hx) (by omega) (by decide)) ?_)))
    refine And.intro rfl (Exists.intro _ (And.intro (hW 252 24 268 rfl) ?_))
    refine Exists.intro _ (Exists.intro _ (And.intro rfl (And.intro (fc_ixn (fc_na (fc_na hy (fc_nl 7)) ((ra_o hA hq).trans ep)) (by omega) (by decide)) ?_)))
    refine And.intro (by first | exact Or.inl rfl | exact Or.inr rfl | exact fc_bb _ | assumption) ?_
    refine ⟨rfl, ?_, ⟨fun w q1 q2 q3 _ => ?_, fun j q => ?_⟩, rfl, rfl⟩
    · refine as_ag.tr ?_ (ag_u2 (p := pp) h5 h6 (by omega) (ag_u7 (p := q) h5 h6 (by omega) (ag_u6 (p := q) h5 h6 (by omega) hg0)))
      refine gv_ag _ ?_
      rw [h61]
      rfl
    · rw [fc_u_off _ _ _ q3, fc_u_off _ _ _ q3, fc_u_off _ _ _ q3, F1 w q1 q2]
    · rw [fc_u_nj _ _ _ _ (by omega), fc_u_nj _ _ _ _ (by omega), fc_u_nj _ _ _ _ (by omega), F1 268 (by decide) (by decide)]

theorem c_rvowsBy (hW : fc_Wd mr) (hA : ra mi B n m t sm L σ) {ev : fc_Ev} (hE : rlw mi ev) {y : Int32} (hy : y = nI B) {x z : Int32} {p o : Nat} (hx : x = nI p) (hz : z = nI o) (hp : p < n) (ho : o < n) (hne : ¬ p = o) : fc_R E mX11_vowsBy (d + 3) fc_sh [.ref 252, .int y, .int x, .int z] mi ml mr (rq B n t (some (.int (fc_b (as_bd L σ n ev 0 (σ 0 1) p o)))) (as_vw σ p o (as_bd L σ n ev 0 (σ 0 1) p o)) mi ml mr) := by
  obtain ⟨⟨e0, e2, e3, e4⟩, hB, hLo, hSo, hLg, hSg⟩ := id hA
  obtain ⟨h5, h7, h6, hs1, hs2, hLp, hLt⟩ := id hLo
  subst hx hz
  refine fc_met rfl (Nat.le_of_ble_eq_true rfl) (fc_run oX11_vowsBy (fun _ => false) 400 ?_)
  refine And.intro rfl (Exists.intro _ (And.intro (hW 252 24 268 rfl) ?_))
  refine Exists.intro _ (Exists.intro _ (And.intro rfl (And.intro (fc_ixn (fc_na hy (fc_nl 1)) (by omega) (by decide)) ?_)))
  rw [ra_1 hA]
  refine And.intro rfl (Exists.intro _ (And.intro (c_rdoesBind hW hA hE hy rfl rfl hp ho _ _) ?_))
  rintro _ m1 _ _ ⟨rfl, F1, rfl, rfl⟩
  have hg0 : as_ag n t σ (rv (m1 268) B) := by rw [F1 268 (by decide) (by decide)]; exact hSg
  have E1 : m1 268 (B + 24 + p) = σ 4 p := (hg0.2.1 p hp).2.2.2.1.symm
  have E2 : m1 268 (B + 24 + o) = σ 4 o := (hg0.2.1 o ho).2.2.2.1.symm
  have E3 : m1 268 (B + 29 + p) = σ 5 p := (hg0.2.1 p hp).2.2.2.2.symm
  have E4 : m1 268 (B + 29 + o) = σ 5 o := (hg0.2.1 o ho).2.2.2.2.symm
  refine And.intro rfl (Exists.intro _ (And.intro (hW 252 24 268 rfl) ?_))
  refine Exists.intro _ (Exists.intro _ (And.intro rfl (And.intro (fc_ixn (fc_na (fc_na hy (fc_nl 24)) rfl) (by omega) (by decide)) ?_)))
  refine Exists.intro _ (Exists.intro _ (And.intro rfl (And.intro (fc_ixn (fc_na (fc_na hy (fc_nl 24)) rfl) (by omega) (by decide)) ?_)))
  refine And.intro rfl (Exists.intro _ (And.intro (hW 252 24 268 rfl) ?_))
  refine Exists.intro _ (Exists.intro _ (And.intro rfl (And.intro (fc_ixn (fc_na (fc_na hy (fc_nl 24)) rfl) (by omega) (by decide)) ?_)))
  refine Exists.intro _ (Exists.intro _ (And.intro rfl (And.intro (fc_ixn (fc_na (fc_na hy (fc_nl 24)) rfl) (by omega) (by decide)) ?_)))
  refine And.intro rfl (Exists.intro _ (And.intro (hW 252 24 268 rfl) ?_))
  refine Exists.intro _ (Exists.intro _ (And.intro rfl (And.intro (fc_ixn (fc_na (fc_na hy (fc_nl 29)) rfl) (by omega) (by decide)) ?_)))
  refine And.intro (fun h66 => ?_) (fun h66 => ?_)
  · replace h66 := fc_b0.mp h66
    refine Exists.intro _ (Exists.intro _ (And.intro rfl (And.intro (fc_ixn (fc_na (fc_na hy (fc_nl 29)) rfl) (by omega) (by decide)) ?_)))
    refine And.intro rfl (Exists.intro _ (And.intro (hW 252 24 268 rfl) ?_))
    refine Exists.intro _ (Exists.intro _ (And.intro rfl (And.intro (fc_ixn (fc_na (fc_na hy (fc_nl 29)) rfl) (by omega) (by decide)) ?_)))
    refine And.intro (fun h92 => ?_) (fun h92 => ?_)
    · replace h92 := fc_b0.mp h92
      refine Exists.intro _ (Exists.intro _ (And.intro rfl (And.intro (fc_ixn (fc_na (fc_na hy (fc_nl 29)) rfl) (by omega) (by decide)) ?_)))
      refine And.intro rfl (Exists.intro _ (And.intro (hW 252 24 268 rfl) ?_))
      refine Exists.intro _ (Exists.intro _ (And.intro rfl (And.intro (fc_ixn (fc_na (fc_na hy (fc_nl 7)) rfl) (by omega) (by decide)) ?_)))
      refine And.intro rfl (Exists.intro _ (And.intro (hW 252 24 268 rfl) ?_))
      refine Exists.intro _ (Exists.intro _ (And.intro rfl (And.intro (fc_ixn (fc_na (fc_na hy (fc_nl 7)) rfl) (by omega) (by decide)) ?_)))
      refine And.intro (by first | exact Or.inl rfl | exact Or.inr rfl | exact fc_bb _ | assumption) ?_
      refine ⟨rfl, ?_, ⟨fun w q1 q2 q3 _ => ?_, fun j q => ?_⟩, rfl, rfl⟩
      · refine as_ag.tr ?_ (ag_u2 (p := o) h5 h6 (by omega) (ag_u2 (p := p) h5 h6 (by omega) (ag_u5 (p := o) h5 h6 (by omega) (ag_u5 (p := p) h5 h6 (by omega) (ag_u4 (p := o) h5 h6 (by omega) (ag_u4 (p := p) h5 h6 (by omega) hg0))))))
        rw [fc_u_nj _ _ _ _ (show B + 29 + o ≠ B + 29 + p by omega), fc_u_nj _ _ _ _ (show B + 29 + o ≠ B + 24 + o by omega), fc_u_nj _ _ _ _ (show B + 29 + o ≠ B + 24 + p by omega), fc_u_nj _ _ _ _ (show B + 29 + p ≠ B + 24 + o by omega), fc_u_nj _ _ _ _ (show B + 29 + p ≠ B + 24 + p by omega), fc_u_nj _ _ _ _ (show B + 24 + o ≠ B + 24 + p by omega), E1, E2, E3, E4]
        have := vw_ag (n := n) (t := t) (σ := σ) (as_bd L σ n ev 0 (σ 0 1) p o) hne
        rw [h66] at this ⊢
        exact this
      · rw [fc_u_off _ _ _ q3, fc_u_off _ _ _ q3, fc_u_off _ _ _ q3, fc_u_off _ _ _ q3, fc_u_off _ _ _ q3, fc_u_off _ _ _ q3, F1 w q1 q2]
      · rw [fc_u_nj _ _ _ _ (by omega), fc_u_nj _ _ _ _ (by omega), fc_u_nj _ _ _ _ (by omega), fc_u_nj _ _ _ _ (by omega), fc_u_nj _ _ _ _ (by omega), fc_u_nj _ _ _ _ (by omega), F1 268 (by decide) (by decide)]
    · replace h92 := fc_b1.mp h92
      rw [h66] at h92; cases h92
  · replace h66 := fc_b1.mp h66
    refine Exists.intro _ (Exists.intro _ (And.intro rfl (And.intro (fc_ixn (fc_na (fc_na hy (fc_nl 29)) rfl) (by omega) (by decide)) ?_)))
    refine And.intro rfl (Exists.intro _ (And.intro (hW 252 24 268 rfl) ?_))
    refine Exists.intro _ (Exists.intro _ (And.intro rfl (And.intro (fc_ixn (fc_na (fc_na hy (fc_nl 29)) rfl) (by omega) (by decide)) ?_)))
    refine And.intro (fun h92 => ?_) (fun h92 => ?_)
    · replace h92 := fc_b0.mp h92
      rw [h66] at h92; cases h92
    · replace h92 := fc_b1.mp h92
      refine Exists.intro _ (Exists.intro _ (And.intro rfl (And.intro (fc_ixn (fc_na (fc_na hy (fc_nl 29)) rfl) (by omega) (by decide)) ?_)))
      refine And.intro rfl (Exists.intro _ (And.intro (hW 252 24 268 rfl) ?_))
      refine Exists.intro _ (Exists.intro _ (And.intro rfl (And.intro (fc_ixn (fc_na (fc_na hy (fc_nl 7)) rfl) (by omega) (by decide)) ?_)))
      refine And.intro rfl (Exists.intro _ (And.intro (hW 252 24 268 rfl) ?_))
      refine Exists.intro _ (Exists.intro _ (And.intro rfl (And.intro (fc_ixn (fc_na (fc_na hy (fc_nl 7)) rfl) (by omega) (by decide)) ?_)))
      refine And.intro (by first | exact Or.inl rfl | exact Or.inr rfl | exact fc_bb _ | assumption) ?_
      refine ⟨rfl, ?_, ⟨fun w q1 q2 q3 _ => ?_, fun j q => ?_⟩, rfl, rfl⟩
      · refine as_ag.tr ?_ (ag_u2 (p := o) h5 h6 (by omega) (ag_u2 (p := p) h5 h6 (by omega) (ag_u5 (p := o) h5 h6 (by omega) (ag_u5 (p := p) h5 h6 (by omega) (ag_u4 (p := o) h5 h6 (by omega) (ag_u4 (p := p) h5 h6 (by omega) hg0))))))
        rw [fc_u_nj _ _ _ _ (show B + 29 + o ≠ B + 29 + p by omega), fc_u_nj _ _ _ _ (show B + 29 + o ≠ B + 24 + o by omega), fc_u_nj _ _ _ _ (show B + 29 + o ≠ B + 24 + p by omega), fc_u_nj _ _ _ _ (show B + 29 + p ≠ B + 24 + o by omega), fc_u_nj _ _ _ _ (show B + 29 + p ≠ B + 24 + p by omega), fc_u_nj _ _ _ _ (show B + 24 + o ≠ B + 24 + p by omega), E1, E2, E3, E4]
        have := vw_ag (n := n) (t := t) (σ := σ) (as_bd L σ n ev 0 (σ 0 1) p o) hne
        rw [h66] at this ⊢
        exact this
      · rw [fc_u_off _ _ _ q3, fc_u_off _ _ _ q3, fc_u_off _ _ _ q3, fc_u_off _ _ _ q3, fc_u_off _ _ _ q3, fc_u_off _ _ _ q3, F1 w q1 q2]
      · rw [fc_u_nj _ _ _ _ (by omega), fc_u_nj _ _ _ _ (by omega), fc_u_nj _ _ _ _ (by omega), fc_u_nj _ _ _ _ (by omega), fc_u_nj _ _ _ _ (by omega), fc_u_nj _ _ _ _ (by omega), F1 268 (by decide) (by decide)]

/-- a minute, so far as it has gone: i persons -/
def tk_b (L σ : fc_Mi) (n m i : Nat) : fc_Mi := fc_ur (fc_ur σ 3 (fun p => if p < i then sp_nw n (σ 1) (L 7) (σ 3) (σ 0 1) m p else σ 3 p)) 2 (fun p => if p < i then (if 0 < σ 2 p - 1 then σ 2 p - 1 else 0) else σ 2 p)
theorem tk_b_0 (L σ : fc_Mi) (n m : Nat) : tk_b L σ n m 0 = σ := by
  funext x j
  unfold tk_b fc_ur
  by_cases h : x = 2
  · subst h; simp
  · by_cases h3 : x = 3
    · subst h3; simp
    · simp [h, h3]
theorem tk_b_s (L σ : fc_Mi) (n m i : Nat) : fc_u (fc_u (tk_b L σ n m i) 3 i (sp_nw n (σ 1) (L 7) (σ 3) (σ 0 1) m i)) 2 i (if 0 < σ 2 i - 1 then σ 2 i - 1 else 0) = tk_b L σ n m (i + 1) := by
  funext x j
  unfold tk_b fc_ur fc_u
  by_cases h : x = 2
  · subst h
    by_cases e : j = i
    · subst e; simp
    · by_cases g : j < i
      · simp [e, g, show j < i + 1 by omega]
      · simp [e, g, show ¬ j < i + 1 by omega]
  · by_cases h3 : x = 3
    · subst h3
      by_cases e : j = i
      · subst e; simp
      · by_cases g : j < i
        · simp [e, g, show j < i + 1 by omega]
        · simp [e, g, show ¬ j < i + 1 by omega]
    · simp [h, h3]
theorem tk_b_ag (hn : n ≤ 5) (L σ : fc_Mi) : as_ag n t (as_tick L σ n m) (fc_u (tk_b L σ n m n) 0 1 (σ 0 1 + 1)) := by
  unfold as_tick tk_b
  refine ⟨⟨?_, ?_⟩, fun p hp => ⟨?_, ?_, ?_, ?_, ?_⟩, fun q hq => ⟨?_, ?_⟩⟩
  · simp [fc_u, fc_ur]
  · simp [fc_u, fc_ur]
  · simp [fc_u, fc_ur]
  · simp [fc_u, fc_ur, sp_ac, hp, show p < 5 by omega]
  · simp [fc_u, fc_ur, hp]
  · simp [fc_u, fc_ur]
  · simp [fc_u, fc_ur]
  · simp [fc_u, fc_ur]
  · simp [fc_u, fc_ur]
theorem or_in {P : Nat → Bool} {f : Nat → Int32} {i : Nat} (hi : i < n) (hP : P i = true) : f i ||| sp_or P f n = sp_or P f n := by
  apply b_ext
  intro k hk
  rw [b_or]
  cases h : bt (f i) k with
  | false => simp
  | true => rw [fg_or_bt.mpr ⟨i, hi, hP, h⟩]; rfl
theorem nw_eq {i jj : Nat} {r : Nat → Int32} (hi : i < n) (hm : m ≤ 7) (hj : jj < m) (ej : σ 1 i = nI jj) (hr : r jj = sp_or (fun q => decide (σ 1 q = nI jj) && sp_aw (L 7) (σ 0 1) q) (σ 3) n) : sp_nw n (σ 1) (L 7) (σ 3) (σ 0 1) m i = σ 3 i ||| (if sp_aw (L 7) (σ 0 1) i then r jj else 0) := by
  have hc : (σ 1 i).toNatClampNeg = jj := by rw [ej]; exact nI_clamp (by omega)
  rw [sp_nw, decide_eq_true hi, hc, decide_eq_true hj]
  cases h : sp_aw (L 7) (σ 0 1) i with
  | false => simp [fc_or0]
  | true =>
    rw [hr, if_pos rfl, ej, or_in hi]
    · rfl
    · rw [ej, h]; simp
theorem ac_eq {x : Int32} {k : Nat} (hk : k ≤ 2) (hx : x = nI k) : (if 0 < x - 1 then x - 1 else 0) = x - (if x ≤ 0 then 0 else 1) := by
  subst hx
  rcases (by omega : k = 0 ∨ k = 1 ∨ k = 2) with rfl | rfl | rfl <;> decide
theorem l_rpassE (hW : fc_Wd mr) (hA : ra mi B n m t sm L σ) {y : Int32} (hy : y = nI B) {rt r : Nat → Int32} {c : Option Value} (hg : as_ag n t (tk_b L σ n m n) (rv r B)) (hr : ∀ j, (j < B ∨ B + 39 ≤ j) → r j = mi 268 j) : fc_T E mX11_passes (d + 2) (0, 0) fc_sh 185 [some (.ref 252), some (.int y), some (.int (sp_set (sp_aw (L 7) (σ 0 1)) n)), c] [] (fc_ur (fc_ur mi 270 rt) 268 r) ml mr (rq B n t (some (.int (if nI sm ≤ σ 0 1 + 1 then 1 else 0))) (as_pass L σ n m (nI sm)) mi ml mr) := by
  obtain ⟨⟨e0, e2, e3, e4⟩, hB, hLo, hSo, hLg, hSg⟩ := id hA
  obtain ⟨h5, h7, h6, hs1, hs2, hLp, hLt⟩ := id hLo
  have hZ := hA.z
  obtain ⟨-, -, mn, hmn, emn⟩ := id hSo
  have e1 : (fc_ur (fc_ur mi 270 rt) 268 r) 268 (B + 1) = σ 0 1 := hg.1.2.symm
  have hg2 : as_ag n t (as_tick L σ n m) (rv (fun j => if j = B + 1 then σ 0 1 + 1 else r j) B) := (tk_b_ag h5 L σ).tr (ag_z1 h5 h6 hg)
  have hrf : rf B mi (fc_ur (fc_ur mi 270 rt) 268 (fun j => if j = B + 1 then σ 0 1 + 1 else r j)) := ⟨fun w _ _ q3 q4 => by rw [fc_ur_off _ _ q3, fc_ur_off _ _ q4], fun j q => by show (if j = B + 1 then _ else r j) = _; rw [if_neg (by omega)]; exact hr j q⟩
  refine fc_run oX11_passes (fun _ => false) 400 ?_
  refine And.intro rfl (Exists.intro _ (And.intro (hW 252 24 268 rfl) ?_))
  refine Exists.intro _ (Exists.intro _ (And.intro rfl (And.intro (fc_ixn (fc_na hy (fc_nl 1)) (by omega) (by decide)) ?_)))
  rw [e1]
  refine Exists.intro _ (Exists.intro _ (And.intro rfl (And.intro (fc_ixn (fc_na hy (fc_nl 1)) (by omega) (by decide)) ?_)))
  rw [fc_u_ur]
  refine And.intro rfl (Exists.intro _ (And.intro (hW 252 24 268 rfl) ?_))
  refine Exists.intro _ (Exists.intro _ (And.intro rfl (And.intro (fc_ixn (fc_na hy (fc_nl 1)) (by omega) (by decide)) ?_)))
  rw [show (fc_ur (fc_ur mi 270 rt) 268 (fun j => if j = B + 1 then σ 0 1 + 1 else r j)) 268 (B + 1) = σ 0 1 + 1 from if_pos rfl]
  refine And.intro rfl (Exists.intro _ (And.intro (c_zsmokeAt hW (hZ.off (by rfl))) ?_))
  rintro _ _ _ _ ⟨rfl, rfl, rfl, rfl⟩
  refine And.intro (fun h209 => ?_) (fun h209 => ?_)
  · refine And.intro (fun h219 => ?_) (fun h219 => ?_)
    · exact absurd h219 (by decide)
    · refine And.intro rfl (Exists.intro _ (And.intro (c_rsmokes (σ := as_tick L σ n m) hW (hZ.off (by rfl)) hy hB hg2) ?_))
      rintro _ m2 _ _ ⟨rfl, g2, g3, rfl, rfl⟩
      refine And.intro (by first | exact Or.inl rfl | exact Or.inr rfl | exact fc_bb _ | assumption) ?_
      have hle : nI sm ≤ σ 0 1 + 1 := by rw [h209]; exact Int32.le_refl _
      exact ⟨by rw [if_pos hle], by rw [as_pass, if_pos hle]; exact g2, hrf.tr g3, rfl, rfl⟩
  · refine And.intro (fun h219 => ?_) (fun h219 => ?_)
    · refine And.intro (by first | exact Or.inl rfl | exact Or.inr rfl | exact fc_bb _ | assumption) ?_
      have hnle : ¬ nI sm ≤ σ 0 1 + 1 := by
        rw [emn] at h209 ⊢
        rw [show nI mn + 1 = nI (mn + 1) from nI_1 mn] at h209 ⊢
        have : ¬ mn + 1 = sm := fun q => h209 (by rw [q])
        exact nI_ge (by omega) (by omega)
      exact ⟨by rw [if_neg hnle], by rw [as_pass, if_neg hnle]; exact hg2, hrf, rfl, rfl⟩
    · exact absurd rfl h219
theorem l_rpass3 (hW : fc_Wd mr) (hA : ra mi B n m t sm L σ) {y : Int32} (hy : y = nI B) {rt : Nat → Int32} (hrt : (∀ k, k < m → rt k = sp_or (fun q => decide (σ 1 q = nI k) && sp_aw (L 7) (σ 0 1) q) (σ 3) n)) : ∀ (j i : Nat) (c : Int32) (r : Nat → Int32), i + j = n → c = nI i → as_ag n t (tk_b L σ n m i) (rv r B) → (∀ j, (j < B ∨ B + 39 ≤ j) → r j = mi 268 j) → fc_T E mX11_passes (d + 2) (0, 0) fc_sh 96 [some (.ref 252), some (.int y), some (.int (sp_set (sp_aw (L 7) (σ 0 1)) n)), some (.int c)] [] (fc_ur (fc_ur mi 270 rt) 268 r) ml mr (rq B n t (some (.int (if nI sm ≤ σ 0 1 + 1 then 1 else 0))) (as_pass L σ n m (nI sm)) mi ml mr) := by
  intro j
  induction j with
  | zero =>
    intro i c r hi hc hg hr
    subst hc
    obtain ⟨⟨e0, e2, e3, e4⟩, hB, hLo, hSo, hLg, hSg⟩ := id hA
    obtain ⟨h5, h7, h6, hs1, hs2, hLp, hLt⟩ := id hLo
    have hZ := hA.z
    refine fc_run oX11_passes (fun pc => pc == 96 || pc == 185) 400 ?_
    refine And.intro rfl (Exists.intro _ (And.intro (c_zpersons hW (hZ.off (by rfl))) ?_))
    rintro _ _ _ _ ⟨rfl, rfl, rfl, rfl⟩
    refine And.intro (fun h101 => ?_) (fun h101 => ?_)
    · rw [show i = n by omega] at hg
      exact l_rpassE hW hA hy hg hr
    · exact absurd (nI_le (by omega) (by omega)) h101
  | succ j ih =>
    intro i c r hi hc hg hr
    subst hc
    obtain ⟨⟨e0, e2, e3, e4⟩, hB, hLo, hSo, hLg, hSg⟩ := id hA
    obtain ⟨h5, h7, h6, hs1, hs2, hLp, hLt⟩ := id hLo
    have hZ := hA.z
    obtain ⟨⟨jj, hj, ej⟩, ⟨ka, hka, eka⟩, -⟩ := hSo.1 i (by omega)
    have q1 : r (B + 2 + i) = σ 1 i := (hg.2.1 i (by omega)).1.symm
    have q2 : r (B + 7 + i) = σ 2 i := by
      have := (hg.2.1 i (by omega)).2.1
      exact (show rv r B 2 i = _ from this.symm).trans (show (if i < i then _ else σ 2 i) = σ 2 i by rw [if_neg (by omega)])
    have q3 : r (B + 34 + i) = σ 3 i := by
      have := (hg.2.1 i (by omega)).2.2.1
      exact (show rv r B 3 i = _ from this.symm).trans (show (if i < i then _ else σ 3 i) = σ 3 i by rw [if_neg (by omega)])
    have hin : sp_in (sp_set (sp_aw (L 7) (σ 0 1)) n) (nI i) = sp_aw (L 7) (σ 0 1) i := by rw [fb_in _ (by omega), fb_set (by omega) (by omega), decide_eq_true (show i < n by omega)]; rfl
    refine fc_run oX11_passes (fun pc => pc == 96 || pc == 185) 400 ?_
    refine And.intro rfl (Exists.intro _ (And.intro (c_zpersons hW (hZ.off (by rfl))) ?_))
    rintro _ _ _ _ ⟨rfl, rfl, rfl, rfl⟩
    refine And.intro (fun h101 => ?_) (fun h101 => ?_)
    · exact absurd h101 (nI_ge (by omega) (by omega))
    · refine And.intro rfl (Exists.intro _ (And.intro (hW 252 24 268 rfl) ?_))
      refine Exists.intro _ (Exists.intro _ (And.intro rfl (And.intro (fc_ixn (fc_na (fc_na hy (fc_nl 34)) rfl) (by omega) (by decide)) ?_)))
      refine And.intro (fun h122 => ?_) (fun h122 => ?_)
      · refine And.intro rfl (Exists.intro _ (And.intro (hW 252 27 270 rfl) ?_))
        refine And.intro rfl (Exists.intro _ (And.intro (hW 252 24 268 rfl) ?_))
        refine Exists.intro _ (Exists.intro _ (And.intro rfl (And.intro (fc_ixn (fc_na (fc_na hy (fc_nl 2)) rfl) (by omega) (by decide)) ?_)))
        refine Exists.intro _ (Exists.intro _ (And.intro rfl (And.intro (fc_ixn (q1.trans ej) (by omega) (by decide)) ?_)))
        refine Exists.intro _ (Exists.intro _ (And.intro rfl (And.intro (fc_ixn (fc_na (fc_na hy (fc_nl 34)) rfl) (by omega) (by decide)) ?_)))
        refine And.intro rfl (Exists.intro _ (And.intro (hW 252 24 268 rfl) ?_))
        refine Exists.intro _ (Exists.intro _ (And.intro rfl (And.intro (fc_ixn (fc_na (fc_na hy (fc_nl 7)) rfl) (by omega) (by decide)) ?_)))
        refine And.intro rfl (Exists.intro _ (And.intro (hW 252 24 268 rfl) ?_))
        refine Exists.intro _ (Exists.intro _ (And.intro rfl (And.intro (fc_ixn (fc_na (fc_na hy (fc_nl 7)) rfl) (by omega) (by decide)) ?_)))
        refine And.intro (fun h169 => ?_) (fun h169 => ?_)
        · refine Exists.intro _ (Exists.intro _ (And.intro rfl (And.intro (fc_ixn (fc_na (fc_na hy (fc_nl 7)) rfl) (by omega) (by decide)) ?_)))
          rw [fc_u_ur, fc_u_ur]
          have haw : sp_aw (L 7) (σ 0 1) i = true := by rw [← hin]; exact decide_eq_true h122
          have hb7 : ∀ v : Int32, (fc_u (fc_ur (fc_ur mi 270 rt) 268 r) 268 (B + 34 + i) v) 268 (B + 7 + i) = σ 2 i := fun v => (fc_u_nj _ _ _ _ (show B + 7 + i ≠ B + 34 + i by omega)).trans q2
          rw [hb7] at h169
          have hb8 : ∀ v : Int32, (fc_ur (fc_ur mi 270 rt) 268 (fun j => if j = B + 34 + i then v else r j)) 268 (B + 7 + i) = σ 2 i := fun v => by show (if B + 7 + i = B + 34 + i then v else r (B + 7 + i)) = σ 2 i; rw [if_neg (by omega)]; exact q2
          refine ih (i + 1) _ _ (by omega) (fc_inc i) ?_ (fun j q => ?_)
          · rw [← tk_b_s, nw_eq (r := rt) (show i < n by omega) h7 hj ej (hrt jj hj), haw, ac_eq hka eka, if_pos h169]
            have g := ag_u2 (v := σ 2 i - 0) (p := i) h5 h6 (by omega) (ag_u3 (v := σ 3 i ||| rt jj) (p := i) h5 h6 (by omega) hg)
            rw [hb8]
            rw [show (fc_ur (fc_ur mi 270 rt) 268 r) 268 (B + 34 + i) = σ 3 i from q3]
            exact g
          · rw [if_neg (by omega), if_neg (by omega)]; exact hr j q
        · refine Exists.intro _ (Exists.intro _ (And.intro rfl (And.intro (fc_ixn (fc_na (fc_na hy (fc_nl 7)) rfl) (by omega) (by decide)) ?_)))
          rw [fc_u_ur, fc_u_ur]
          have haw : sp_aw (L 7) (σ 0 1) i = true := by rw [← hin]; exact decide_eq_true h122
          have hb7 : ∀ v : Int32, (fc_u (fc_ur (fc_ur mi 270 rt) 268 r) 268 (B + 34 + i) v) 268 (B + 7 + i) = σ 2 i := fun v => (fc_u_nj _ _ _ _ (show B + 7 + i ≠ B + 34 + i by omega)).trans q2
          rw [hb7] at h169
          have hb8 : ∀ v : Int32, (fc_ur (fc_ur mi 270 rt) 268 (fun j => if j = B + 34 + i then v else r j)) 268 (B + 7 + i) = σ 2 i := fun v => by show (if B + 7 + i = B + 34 + i then v else r (B + 7 + i)) = σ 2 i; rw [if_neg (by omega)]; exact q2
          refine ih (i + 1) _ _ (by omega) (fc_inc i) ?_ (fun j q => ?_)
          · rw [← tk_b_s, nw_eq (r := rt) (show i < n by omega) h7 hj ej (hrt jj hj), haw, ac_eq hka eka, if_neg h169]
            have g := ag_u2 (v := σ 2 i - 1) (p := i) h5 h6 (by omega) (ag_u3 (v := σ 3 i ||| rt jj) (p := i) h5 h6 (by omega) hg)
            rw [hb8]
            rw [show (fc_ur (fc_ur mi 270 rt) 268 r) 268 (B + 34 + i) = σ 3 i from q3]
            exact g
          · rw [if_neg (by omega), if_neg (by omega)]; exact hr j q
      · refine Exists.intro _ (Exists.intro _ (And.intro rfl (And.intro (fc_ixn (fc_na (fc_na hy (fc_nl 34)) rfl) (by omega) (by decide)) ?_)))
        refine And.intro rfl (Exists.intro _ (And.intro (hW 252 24 268 rfl) ?_))
        refine Exists.intro _ (Exists.intro _ (And.intro rfl (And.intro (fc_ixn (fc_na (fc_na hy (fc_nl 7)) rfl) (by omega) (by decide)) ?_)))
        refine And.intro rfl (Exists.intro _ (And.intro (hW 252 24 268 rfl) ?_))
        refine Exists.intro _ (Exists.intro _ (And.intro rfl (And.intro (fc_ixn (fc_na (fc_na hy (fc_nl 7)) rfl) (by omega) (by decide)) ?_)))
        refine And.intro (fun h169 => ?_) (fun h169 => ?_)
        · refine Exists.intro _ (Exists.intro _ (And.intro rfl (And.intro (fc_ixn (fc_na (fc_na hy (fc_nl 7)) rfl) (by omega) (by decide)) ?_)))
          rw [fc_u_ur, fc_u_ur]
          have haw : sp_aw (L 7) (σ 0 1) i = false := by rw [← hin]; exact decide_eq_false h122
          have hb7 : ∀ v : Int32, (fc_u (fc_ur (fc_ur mi 270 rt) 268 r) 268 (B + 34 + i) v) 268 (B + 7 + i) = σ 2 i := fun v => (fc_u_nj _ _ _ _ (show B + 7 + i ≠ B + 34 + i by omega)).trans q2
          rw [hb7] at h169
          have hb8 : ∀ v : Int32, (fc_ur (fc_ur mi 270 rt) 268 (fun j => if j = B + 34 + i then v else r j)) 268 (B + 7 + i) = σ 2 i := fun v => by show (if B + 7 + i = B + 34 + i then v else r (B + 7 + i)) = σ 2 i; rw [if_neg (by omega)]; exact q2
          refine ih (i + 1) _ _ (by omega) (fc_inc i) ?_ (fun j q => ?_)
          · rw [← tk_b_s, nw_eq (r := rt) (show i < n by omega) h7 hj ej (hrt jj hj), haw, ac_eq hka eka, if_pos h169]
            have g := ag_u2 (v := σ 2 i - 0) (p := i) h5 h6 (by omega) (ag_u3 (v := σ 3 i ||| 0) (p := i) h5 h6 (by omega) hg)
            rw [hb8]
            rw [show (fc_ur (fc_ur mi 270 rt) 268 r) 268 (B + 34 + i) = σ 3 i from q3]
            exact g
          · rw [if_neg (by omega), if_neg (by omega)]; exact hr j q
        · refine Exists.intro _ (Exists.intro _ (And.intro rfl (And.intro (fc_ixn (fc_na (fc_na hy (fc_nl 7)) rfl) (by omega) (by decide)) ?_)))
          rw [fc_u_ur, fc_u_ur]
          have haw : sp_aw (L 7) (σ 0 1) i = false := by rw [← hin]; exact decide_eq_false h122
          have hb7 : ∀ v : Int32, (fc_u (fc_ur (fc_ur mi 270 rt) 268 r) 268 (B + 34 + i) v) 268 (B + 7 + i) = σ 2 i := fun v => (fc_u_nj _ _ _ _ (show B + 7 + i ≠ B + 34 + i by omega)).trans q2
          rw [hb7] at h169
          have hb8 : ∀ v : Int32, (fc_ur (fc_ur mi 270 rt) 268 (fun j => if j = B + 34 + i then v else r j)) 268 (B + 7 + i) = σ 2 i := fun v => by show (if B + 7 + i = B + 34 + i then v else r (B + 7 + i)) = σ 2 i; rw [if_neg (by omega)]; exact q2
          refine ih (i + 1) _ _ (by omega) (fc_inc i) ?_ (fun j q => ?_)
          · rw [← tk_b_s, nw_eq (r := rt) (show i < n by omega) h7 hj ej (hrt jj hj), haw, ac_eq hka eka, if_neg h169]
            have g := ag_u2 (v := σ 2 i - 1) (p := i) h5 h6 (by omega) (ag_u3 (v := σ 3 i ||| 0) (p := i) h5 h6 (by omega) hg)
            rw [hb8]
            rw [show (fc_ur (fc_ur mi 270 rt) 268 r) 268 (B + 34 + i) = σ 3 i from q3]
            exact g
          · rw [if_neg (by omega), if_neg (by omega)]; exact hr j q

theorem l_rpass2 (hW : fc_Wd mr) (hA : ra mi B n m t sm L σ) {y : Int32} (hy : y = nI B) : ∀ (j i : Nat) (c : Int32) (rt : Nat → Int32), i + j = n → c = nI i → (∀ k, k < m → rt k = sp_or (fun q => decide (σ 1 q = nI k) && sp_aw (L 7) (σ 0 1) q) (σ 3) i) → fc_T E mX11_passes (d + 2) (0, 0) fc_sh 38 [some (.ref 252), some (.int y), some (.int (sp_set (sp_aw (L 7) (σ 0 1)) n)), some (.int c)] [] (fc_ur mi 270 rt) ml mr (rq B n t (some (.int (if nI sm ≤ σ 0 1 + 1 then 1 else 0))) (as_pass L σ n m (nI sm)) mi ml mr) := by
  intro j
  induction j with
  | zero =>
    intro i c rt hi hc ht
    subst hc
    obtain ⟨⟨e0, e2, e3, e4⟩, hB, hLo, hSo, hLg, hSg⟩ := id hA
    obtain ⟨h5, h7, h6, hs1, hs2, hLp, hLt⟩ := id hLo
    have hZ := hA.z
    refine fc_run oX11_passes (fun pc => pc == 38 || pc == 96) 400 ?_
    refine And.intro rfl (Exists.intro _ (And.intro (c_zpersons hW (hZ.off (by rfl))) ?_))
    rintro _ _ _ _ ⟨rfl, rfl, rfl, rfl⟩
    refine And.intro (fun h43 => ?_) (fun h43 => ?_)
    · rw [show i = n by omega] at ht
      have h := l_rpass3 (E := E) (d := d) (ml := ml) hW hA hy ht n 0 _ (mi 268) (by omega) rfl (by rw [tk_b_0]; exact hSg) (fun j _ => rfl)
      rw [show fc_ur (fc_ur mi 270 rt) 268 (mi 268) = fc_ur mi 270 rt from fc_ur_self (fc_ur mi 270 rt) 268] at h
      exact h
    · exact absurd (nI_le (by omega) (by omega)) h43
  | succ j ih =>
    intro i c rt hi hc ht
    subst hc
    obtain ⟨⟨e0, e2, e3, e4⟩, hB, hLo, hSo, hLg, hSg⟩ := id hA
    obtain ⟨h5, h7, h6, hs1, hs2, hLp, hLt⟩ := id hLo
    have hZ := hA.z
    obtain ⟨⟨jj, hj, ej⟩, -⟩ := hSo.1 i (by omega)
    have hin : sp_in (sp_set (sp_aw (L 7) (σ 0 1)) n) (nI i) = sp_aw (L 7) (σ 0 1) i := by rw [fb_in _ (by omega), fb_set (by omega) (by omega), decide_eq_true (show i < n by omega)]; rfl
    refine fc_run oX11_passes (fun pc => pc == 38 || pc == 96) 400 ?_
    refine And.intro rfl (Exists.intro _ (And.intro (c_zpersons hW (hZ.off (by rfl))) ?_))
    rintro _ _ _ _ ⟨rfl, rfl, rfl, rfl⟩
    refine And.intro (fun h43 => ?_) (fun h43 => ?_)
    · exact absurd h43 (nI_ge (by omega) (by omega))
    · refine And.intro rfl (Exists.intro _ (And.intro (hW 252 27 270 rfl) ?_))
      refine And.intro rfl (Exists.intro _ (And.intro (hW 252 24 268 rfl) ?_))
      refine Exists.intro _ (Exists.intro _ (And.intro rfl (And.intro (fc_ixn (fc_na (fc_na hy (fc_nl 2)) rfl) (by omega) (by decide)) ?_)))
      refine Exists.intro _ (Exists.intro _ (And.intro rfl (And.intro (fc_ixn ((ra_w hA (show i < n by omega)).trans ej) (by omega) (by decide)) ?_)))
      refine And.intro (fun h68 => ?_) (fun h68 => ?_)
      · refine And.intro rfl (Exists.intro _ (And.intro (hW 252 24 268 rfl) ?_))
        refine Exists.intro _ (Exists.intro _ (And.intro rfl (And.intro (fc_ixn (fc_na (fc_na hy (fc_nl 34)) rfl) (by omega) (by decide)) ?_)))
        refine Exists.intro _ (Exists.intro _ (And.intro rfl (And.intro (fc_ixn ((ra_w hA (show i < n by omega)).trans ej) (by omega) (by decide)) ?_)))
        rw [fc_u_ur]
        have haw : sp_aw (L 7) (σ 0 1) i = true := by rw [← hin]; exact decide_eq_true h68
        refine ih (i + 1) _ _ (by omega) (fc_inc i) (fun k hk => ?_)
        show (if k = jj then rt jj ||| mi 268 (B + 34 + i) else rt k) = _
        by_cases e : k = jj
        · subst e
          rw [if_pos rfl, ht k hk]
          rw [ra_h hA (show i < n by omega)]
          exact sp_or_t (P := fun q => decide (σ 1 q = nI k) && sp_aw (L 7) (σ 0 1) q) (by show (decide (σ 1 i = nI k) && sp_aw (L 7) (σ 0 1) i) = true; rw [haw, decide_eq_true ej]; rfl)
        · rw [if_neg e, ht k hk]
          exact sp_or_f (P := fun q => decide (σ 1 q = nI k) && sp_aw (L 7) (σ 0 1) q) (by show (decide (σ 1 i = nI k) && sp_aw (L 7) (σ 0 1) i) = false; rw [ej, decide_eq_false (fun q => e ((nI_eq (by omega) (by omega)).mp q).symm)]; rfl)
      · refine Exists.intro _ (Exists.intro _ (And.intro rfl (And.intro (fc_ixn ((ra_w hA (show i < n by omega)).trans ej) (by omega) (by decide)) ?_)))
        rw [fc_u_ur]
        have haw : sp_aw (L 7) (σ 0 1) i = false := by rw [← hin]; exact decide_eq_false h68
        refine ih (i + 1) _ _ (by omega) (fc_inc i) (fun k hk => ?_)
        show (if k = jj then rt jj ||| 0 else rt k) = _
        by_cases e : k = jj
        · subst e
          rw [if_pos rfl, ht k hk]
          rw [fc_or0]
          exact sp_or_f (P := fun q => decide (σ 1 q = nI k) && sp_aw (L 7) (σ 0 1) q) (by show (decide (σ 1 i = nI k) && sp_aw (L 7) (σ 0 1) i) = false; rw [haw]; simp)
        · rw [if_neg e, ht k hk]
          exact sp_or_f (P := fun q => decide (σ 1 q = nI k) && sp_aw (L 7) (σ 0 1) q) (by show (decide (σ 1 i = nI k) && sp_aw (L 7) (σ 0 1) i) = false; rw [ej, decide_eq_false (fun q => e ((nI_eq (by omega) (by omega)).mp q).symm)]; rfl)

theorem l_rpass1 (hW : fc_Wd mr) (hA : ra mi B n m t sm L σ) {y : Int32} (hy : y = nI B) : ∀ (j i : Nat) (c : Int32) (rt : Nat → Int32), i + j = m → c = nI i → (∀ k, k < i → rt k = 0) → fc_T E mX11_passes (d + 2) (0, 0) fc_sh 15 [some (.ref 252), some (.int y), some (.int (sp_set (sp_aw (L 7) (σ 0 1)) n)), some (.int c)] [] (fc_ur mi 270 rt) ml mr (rq B n t (some (.int (if nI sm ≤ σ 0 1 + 1 then 1 else 0))) (as_pass L σ n m (nI sm)) mi ml mr) := by
  intro j
  induction j with
  | zero =>
    intro i c rt hi hc ht
    subst hc
    obtain ⟨⟨e0, e2, e3, e4⟩, hB, hLo, hSo, hLg, hSg⟩ := id hA
    obtain ⟨h5, h7, h6, hs1, hs2, hLp, hLt⟩ := id hLo
    have hZ := hA.z
    refine fc_run oX11_passes (fun pc => pc == 15 || pc == 38) 400 ?_
    refine And.intro rfl (Exists.intro _ (And.intro (c_zplaces hW (hZ.off (by rfl))) ?_))
    rintro _ _ _ _ ⟨rfl, rfl, rfl, rfl⟩
    refine And.intro (fun h20 => ?_) (fun h20 => ?_)
    · exact l_rpass2 hW hA hy n 0 _ _ (by omega) rfl (fun k hk => ht k (by omega))
    · exact absurd (nI_le (by omega) (by omega)) h20
  | succ j ih =>
    intro i c rt hi hc ht
    subst hc
    obtain ⟨⟨e0, e2, e3, e4⟩, hB, hLo, hSo, hLg, hSg⟩ := id hA
    obtain ⟨h5, h7, h6, hs1, hs2, hLp, hLt⟩ := id hLo
    have hZ := hA.z
    refine fc_run oX11_passes (fun pc => pc == 15 || pc == 38) 400 ?_
    refine And.intro rfl (Exists.intro _ (And.intro (c_zplaces hW (hZ.off (by rfl))) ?_))
    rintro _ _ _ _ ⟨rfl, rfl, rfl, rfl⟩
    refine And.intro (fun h20 => ?_) (fun h20 => ?_)
    · exact absurd h20 (nI_ge (by omega) (by omega))
    · refine And.intro rfl (Exists.intro _ (And.intro (hW 252 27 270 rfl) ?_))
      refine Exists.intro _ (Exists.intro _ (And.intro rfl (And.intro (fc_ixn rfl (by omega) (by decide)) ?_)))
      rw [fc_u_ur]
      refine ih (i + 1) _ _ (by omega) (fc_inc i) (fun k hk => ?_)
      show (if k = i then 0 else rt k) = 0
      by_cases e : k = i
      · rw [if_pos e]
      · rw [if_neg e]; exact ht k (by omega)

theorem c_rpasses (hW : fc_Wd mr) (hA : ra mi B n m t sm L σ) {y : Int32} (hy : y = nI B) : fc_R E mX11_passes (d + 2) fc_sh [.ref 252, .int y] mi ml mr (rq B n t (some (.int (if nI sm ≤ σ 0 1 + 1 then 1 else 0))) (as_pass L σ n m (nI sm)) mi ml mr) := by
  obtain ⟨⟨e0, e2, e3, e4⟩, hB, hLo, hSo, hLg, hSg⟩ := id hA
  obtain ⟨h5, h7, h6, hs1, hs2, hLp, hLt⟩ := id hLo
  have hZ := hA.z
  refine fc_met rfl (Nat.le_of_ble_eq_true rfl) (fc_run oX11_passes (fun pc => pc == 15) 400 ?_)
  refine And.intro rfl (Exists.intro _ (And.intro (hW 252 24 268 rfl) ?_))
  refine Exists.intro _ (Exists.intro _ (And.intro rfl (And.intro (fc_ixn (fc_na hy (fc_nl 1)) (by omega) (by decide)) ?_)))
  rw [ra_1 hA]
  refine And.intro rfl (Exists.intro _ (And.intro (c_rawakeAt hW hA _) ?_))
  rintro _ _ _ _ ⟨rfl, rfl, rfl, rfl⟩
  have h := l_rpass1 (E := E) (d := d) (ml := ml) hW hA hy m 0 _ (mi 270) (by omega) rfl (fun k hk => absurd hk (Nat.not_lt_zero k))
  rw [fc_ur_self] at h
  exact h

end M54
