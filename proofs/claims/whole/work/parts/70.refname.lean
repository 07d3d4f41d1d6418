/-! ===== the reference: a land under its reading ===== -/
/-- the law told so far -/
def rLW (A : fc_Ab) (mi : fc_Mi) : Prop := (A.1 5 = 0 → mi 252 13 = 0 ∧ mi 258 55 = -1) ∧ (A.1 5 = 1 → mi 258 55 = 0 ∧ mi 252 13 = nI (A.1 6 + 1) ∧ A.1 6 ≤ 1000 ∧ (∀ j, j < A.1 6 → lwr (A.2.1 11 j) (mi 259 (1100 + j)) (mi 260 (1100 + j))) ∧ mi 259 (1100 + A.1 6) = 0)
/-- the land read so far, with what np persons and nt things are -/
def rRA (A : fc_Ab) (np nt : Nat) (mi : fc_Mi) (ml : fc_Ml) : Prop :=
  (mi 258 50 = nI (A.1 0) ∧ mi 258 51 = nI (A.1 1) ∧ mi 258 52 = nI (A.1 2) ∧ mi 258 53 = nI (A.1 3) ∧ mi 258 54 = A.2.1 0 14) ∧ mi 252 20 = nI (A.1 4 + 2 * A.1 5) ∧
  ((∀ k, k < 7 → mi 258 (56 + k) = A.2.1 4 k) ∧ (∀ p, p < np → mi 258 (63 + 3 * p) = A.2.1 5 p ∧ mi 258 (63 + 3 * p + 1) = A.2.1 6 p ∧ mi 258 (63 + 3 * p + 2) = A.2.1 7 p) ∧ ∀ q, q < nt → mi 258 (78 + 2 * q) = A.2.1 8 q ∧ mi 258 (78 + 2 * q + 1) = A.2.1 9 q) ∧
  (mi 252 19 = nI (A.1 0 + A.1 2 + A.1 3) ∧ nmr A (ml 262) (mi 264) (A.1 0 + A.1 2 + A.1 3)) ∧ rLW A mi
/-- what a reading of a land may move -/
def rFL (mi mi' : fc_Mi) (ml ml' : fc_Ml) : Prop := (∀ x, x ≠ 252 → x ≠ 258 → x ≠ 259 → x ≠ 260 → x ≠ 264 → mi' x = mi x) ∧ (∀ k, k < 50 → mi' 258 k = mi 258 k) ∧ (∀ k, k < 1100 → mi' 259 k = mi 259 k ∧ mi' 260 k = mi 260 k) ∧ (∀ k, k ≠ 7 → k ≠ 8 → k ≠ 13 → k ≠ 19 → k ≠ 20 → mi' 252 k = mi 252 k) ∧ ∀ x, x ≠ 262 → ml' x = ml x
theorem rFL.tr {a b c : fc_Mi} {la lb lc : fc_Ml} (h : rFL a b la lb) (g : rFL b c lb lc) : rFL a c la lc := ⟨fun x q1 q2 q3 q4 q5 => (g.1 x q1 q2 q3 q4 q5).trans (h.1 x q1 q2 q3 q4 q5), fun k q => (g.2.1 k q).trans (h.2.1 k q), fun k q => ⟨(g.2.2.1 k q).1.trans (h.2.2.1 k q).1, (g.2.2.1 k q).2.trans (h.2.2.1 k q).2⟩, fun k q1 q2 q3 q4 q5 => (g.2.2.2.1 k q1 q2 q3 q4 q5).trans (h.2.2.2.1 k q1 q2 q3 q4 q5), fun x q => (g.2.2.2.2 x q).trans (h.2.2.2.2 x q)⟩
theorem rfr.fl {mi mm : fc_Mi} {ml : fc_Ml} (h : rfr mi mm) : rFL mi mm ml ml := ⟨fun x q _ _ _ _ => h.1 x q, fun k _ => by rw [h.1 258 (by decide)], fun k _ => ⟨by rw [h.1 259 (by decide)], by rw [h.1 260 (by decide)]⟩, fun k q1 q2 _ _ _ => h.2 k q1 q2, fun _ _ => rfl⟩
theorem rLW.fr {A : fc_Ab} {mi mm : fc_Mi} (h : rLW A mi) (g : rfr mi mm) : rLW A mm := by
  unfold rLW at *
  rw [g.2 13 (by decide) (by decide), g.1 258 (by decide), g.1 259 (by decide), g.1 260 (by decide)]
  exact h
theorem rRA.fr {A : fc_Ab} {np nt : Nat} {mi mm : fc_Mi} {ml : fc_Ml} (h : rRA A np nt mi ml) (g : rfr mi mm) : rRA A np nt mm ml := by
  obtain ⟨h1, h2, h3, h4, h5⟩ := h
  refine ⟨?_, ?_, ?_, ?_, h5.fr g⟩
  · rw [g.1 258 (by decide)]; exact h1
  · rw [g.2 20 (by decide) (by decide)]; exact h2
  · rw [g.1 258 (by decide)]; exact h3
  · rw [g.2 19 (by decide) (by decide), g.1 264 (by decide)]; exact h4
/-- how a line, or a piece of one, ends -/
def rpq (s : Nat → Int32) (n N np nt : Nat) (mi : fc_Mi) (ml : fc_Ml) (mr : fc_Mr) (r : Except Int32 (fc_Ab × Nat)) : fc_Q := fun v mi' ml' mr' => v = none ∧ mr = mr' ∧ rFL mi mi' ml ml' ∧ (match r with | .error e => ¬ e = 0 ∧ ∃ j, rst s n N j e mi' ml' | .ok q => rst s n N q.2 0 mi' ml' ∧ rRA q.1 np nt mi' ml')
section M70
variable {E : fc_E} {d : Nat} {mi : fc_Mi} {ml : fc_Ml} {mr : fc_Mr} {n N i : Nat} {s : Nat → Int32} {A : fc_Ab}
/-- a name here: the class's number and the reference's -/
theorem rst.name {f : Int32} (h : rst s n N i f mi ml) (g : tK s n i = 4) : wpr (tW s n i) (rw_ s n (tS s n i)) := by
  have ht := h.tkc i
  rcases ht with ⟨-, -, h1⟩ | ⟨-, -, h1⟩ | ⟨-, -, a, ha, h1, -⟩ | ⟨-, -, -, -, h1, -⟩ | ⟨-, -, h1, -⟩ | ⟨-, -, a, ha, h1, h2, -⟩
  · rw [tK] at g; rw [g] at h1; exact absurd h1 (by decide)
  · rw [tK] at g; rw [g] at h1; exact absurd h1 (by decide)
  · rw [tK] at g; rw [g] at h1; exact absurd (nIn (a := 4) (by omega) (by omega) h1) (by omega)
  · exact h1
  · rw [tK] at g; rw [g] at h1; exact absurd h1 (by decide)
  · rw [tK] at g; rw [g] at h1; exact absurd (nIn (a := 4) (by omega) (by omega) h1) (by have := isg_n a ha h2; omega)
theorem rst.rows {f : Int32} {mm : fc_Mi} {mq : fc_Ml} (h : rst s n N i f mi ml) (h1 : mm 254 = mi 254) (h2 : mm 255 = mi 255) (h3 : mm 252 7 = mi 252 7) (h4 : mm 252 8 = mi 252 8) (h5 : mq 256 = ml 256) (h6 : mq 257 = ml 257) : rst s n N i f mm mq := by
  unfold rst rtk rtj at *
  rw [h1, h2, h3, h4, h5, h6]; exact h
/-- a name of one more: places x = 1, persons 2, things 3 -/
def rnm (s : Nat → Int32) (n : Nat) (A : fc_Ab) (ci x most i : Nat) : Except Int32 (fc_Ab × Nat) :=
  if most ≤ A.1 ci then .error (tF s n 5 i) else if tK s n (i + 1) = 4 then (if ps_tl A (tW s n (i + 1)) = true then .error (tF s n 3 (i + 1)) else .ok ((fc_an A.1 ci (A.1 ci + 1), A.2.1, fc_u A.2.2 x (A.1 ci) (tW s n (i + 1))), i + 2)) else .error (tF s n 1 (i + 1))
theorem c_rreadName1 (hW : fc_Wd mr) (hS : rst s n N i 0 mi ml) (hiL : i < N) (hB : fc_AB A) {np nt : Nat} (hnp : np ≤ 5) (hnt : nt ≤ 6) (hR : rRA A np nt mi ml) : fc_R E mX11_readName (d + 3) fc_sh [.ref 252, .int 0, .int 7, .int 0] mi ml mr (rpq s n N np nt mi ml mr (rnm s n A 0 1 7 i)) := by
  obtain ⟨⟨k1, k2, k3, k4, k5, k6⟩, hiN, hat, hfa, hkw, hok⟩ := id hS
  obtain ⟨r1, r2, r3, r4, r5⟩ := id hR
  obtain ⟨b_0, b_1, b_2, b_3, -⟩ := id hB
  have hS1 : rst s n N (i + 1) 0 (fc_u mi 252 7 (nI (i + 1))) ml := hS.next hiL
  have hcn : mi 258 50 = nI (A.1 0) := r1.1
  refine fc_met rfl (Nat.le_of_ble_eq_true rfl) (fc_run oX11_readName (fun _ => false) 400 ?_)
  refine And.intro rfl (Exists.intro _ (And.intro (hW 252 10 258 rfl) ?_))
  refine Exists.intro _ (Exists.intro _ (And.intro rfl (And.intro (fc_ixn (fc_na (fc_nl 50) (fc_nl 0)) (by omega) (by decide)) ?_)))
  rw [hcn]
  refine And.intro (fun h14 => ?_) (fun h14 => ?_)
  · have hce : A.1 0 = 7 := nIn (b := 7) (by omega) (by omega) h14
    refine And.intro rfl (Exists.intro _ (And.intro (c_rwrong hW hS _) ?_))
    rintro _ m1 _ _ ⟨rfl, g1, g2, rfl, rfl⟩
    have hge : 7 ≤ A.1 0 := by omega
    rw [rnm, if_pos hge]
    rw [p_wr, if_pos rfl] at g1
    exact ⟨rfl, rfl, g2.fl, tF_ne (c := 5) (by omega) (by omega) k3 i, i, g1⟩
  · have hce : ¬ A.1 0 = 7 := fun q => h14 (by rw [q]; rfl)
    refine And.intro rfl ?_
    rw [hat]
    refine And.intro rfl ?_
    rw [nI_1 i]
    refine And.intro rfl (Exists.intro _ (And.intro (c_risName hW hS1) ?_))
    rintro _ _ _ _ ⟨rfl, rfl, rfl, rfl⟩
    refine And.intro (fun h37 => ?_) (fun h37 => ?_)
    · replace h37 := fc_b0.mp h37
      have hk4 : ¬ tK s n (i + 1) = 4 := fun q => by rw [decide_eq_true rfl, decide_eq_true q] at h37; cases h37
      refine And.intro rfl (Exists.intro _ (And.intro (c_rwrong hW hS1 _) ?_))
      rintro _ m1 _ _ ⟨rfl, g1, g2, rfl, rfl⟩
      refine And.intro rfl ?_
      refine And.intro (fun h65 => ?_) (fun h65 => ?_)
      · have hz : m1 252 8 = tF s n 1 (i + 1) := by rw [p_wr, if_pos rfl] at g1; exact g1.2.2.2.1
        rw [hz] at h65; exact absurd h65 (tF_ne (c := 1) (by omega) (by omega) k3 (i + 1))
      · rw [rnm, if_neg (show ¬ 7 ≤ A.1 0 by omega)]
        rw [if_neg hk4]
        rw [p_wr, if_pos rfl] at g1
        exact ⟨rfl, rfl, ((rfr_at _).tr g2).fl, tF_ne (c := 1) (by omega) (by omega) k3 (i + 1), i + 1, g1⟩
    · replace h37 := fc_b1.mp h37
      have hk4 : tK s n (i + 1) = 4 := by rw [Bool.and_eq_true] at h37; exact of_decide_eq_true h37.2
      have hi1L := nm_lt hS1 hk4
      refine And.intro rfl (Exists.intro _ (And.intro (c_rnameAt1 hW hS1 (K := A.1 0 + A.1 2 + A.1 3) r4.1 (by omega) (nm_lt hS1 hk4)) ?_))
      rintro _ _ _ _ ⟨rfl, rfl, rfl, rfl⟩
      rw [show na (ml 262) ((fc_u mi 252 7 (nI (i + 1))) 264) (rw_ s n (tS s n (i + 1))) (A.1 0 + A.1 2 + A.1 3) 0 = nk A (tW s n (i + 1)) from r4.2.1 _ _ (hS1.name hk4)]
      have hntl := nk_tl hB (tW s n (i + 1))
      refine And.intro (fun h53 => ?_) (fun h53 => ?_)
      · have hnk : nk A (tW s n (i + 1)) = -1 := by
          by_cases q : nk A (tW s n (i + 1)) = -1
          · exact q
          · obtain ⟨z, hz, e⟩ := hntl.2 q
            rw [e] at h53; exact absurd h53 (nI_pos (by omega))
        have htl := hntl.1.mp hnk
        refine And.intro rfl ?_
        refine And.intro (fun h65 => ?_) (fun h65 => ?_)
        · refine And.intro rfl (Exists.intro _ (And.intro (hW 252 15 262 rfl) ?_))
          refine And.intro rfl ?_
          rw [show (fc_u mi 252 7 (nI (i + 1))) 252 19 = nI (A.1 0 + A.1 2 + A.1 3) from r4.1]
          refine And.intro rfl (Exists.intro _ (And.intro (hW 252 6 256 rfl) ?_))
          refine And.intro rfl ?_
          rw [show (fc_u mi 252 7 (nI (i + 1))) 252 7 = nI (i + 1) from fc_u_at _ _ _ _]
          refine Exists.intro _ (Exists.intro _ (And.intro rfl (And.intro (fc_ixn rfl (by omega) (by decide)) ?_)))
          refine Exists.intro _ (Exists.intro _ (And.intro rfl (And.intro (fc_ixn rfl (by omega) (by decide)) ?_)))
          refine And.intro rfl (Exists.intro _ (And.intro (hW 252 17 264 rfl) ?_))
          refine And.intro rfl ?_
          rw [show (fc_u mi 252 7 (nI (i + 1))) 252 19 = nI (A.1 0 + A.1 2 + A.1 3) from r4.1]
          refine Exists.intro _ (Exists.intro _ (And.intro rfl (And.intro (fc_ixn rfl (by omega) (by decide)) ?_)))
          refine And.intro rfl ?_
          rw [show (fc_u (fc_u mi 252 7 (nI (i + 1))) 264 (A.1 0 + A.1 2 + A.1 3) _) 252 19 = nI (A.1 0 + A.1 2 + A.1 3) from r4.1]
          refine And.intro rfl ?_
          refine And.intro rfl ?_
          skip
          refine And.intro rfl ?_
          refine And.intro rfl (Exists.intro _ (And.intro (hW 252 10 258 rfl) ?_))
          refine Exists.intro _ (Exists.intro _ (And.intro rfl (And.intro (fc_ixn (fc_na (fc_nl 50) (fc_nl 0)) (by omega) (by decide)) ?_)))
          skip
          refine Exists.intro _ (Exists.intro _ (And.intro rfl (And.intro (fc_ixn (fc_na (fc_nl 50) (fc_nl 0)) (by omega) (by decide)) ?_)))
          rw [rnm, if_neg (show ¬ 7 ≤ A.1 0 by omega)]
          rw [if_pos hk4, if_neg (by rw [htl]; decide)]
          refine ⟨rfl, rfl, ⟨fun y q1 q2 q3 q4 q5 => ?_, fun k q => ?_, fun k q => ⟨rfl, rfl⟩, fun k q1 q2 q3 q4 q5 => ?_, fun y q => fc_u_off _ _ _ q⟩, ?_, ?_⟩
          · rw [fc_u_off _ _ _ q2, fc_u_off _ _ _ q1, fc_u_off _ _ _ q1, fc_u_off _ _ _ q5, fc_u_off _ _ _ q1]
          · rw [fc_u_nj _ _ _ _ (show k ≠ 50 by omega)]; rfl
          · rw [fc_u_off _ _ _ (by decide), fc_u_nj _ _ _ _ q1, fc_u_nj _ _ _ _ q4, fc_u_off _ _ _ (by decide), fc_u_nj _ _ _ _ q1]
          · have hn2 := hS1.next hi1L
            refine hn2.rows rfl rfl ?_ rfl rfl rfl
            show nI (i + 1) + 1 = nI (i + 1 + 1)
            exact nI_1 (i + 1)
          · refine ⟨?_, r2, ⟨fun k hk => ?_, fun p hp => ?_, fun q hq => ?_⟩, ⟨?_, ?_⟩, ?_⟩
            · dsimp only
              refine ⟨?_, ?_, ?_, ?_, ?_⟩
              · rw [fc_an_at]; refine (fc_u_at _ _ _ _).trans ?_; exact (congrArg (· + 1) hcn).trans (nI_1 _)
              · rw [fc_an_ne _ _ (by decide), fc_u_nj _ _ _ _ (by decide)]; exact r1.2.1
              · rw [fc_an_ne _ _ (by decide), fc_u_nj _ _ _ _ (by decide)]; exact r1.2.2.1
              · rw [fc_an_ne _ _ (by decide), fc_u_nj _ _ _ _ (by decide)]; exact r1.2.2.2.1
              · rw [fc_u_nj _ _ _ _ (by decide)]; exact r1.2.2.2.2
            · rw [fc_u_nj _ _ _ _ (show 56 + k ≠ 50 by omega)]; exact r3.1 k hk
            · rw [fc_u_nj _ _ _ _ (show 63 + 3 * p ≠ 50 by omega), fc_u_nj _ _ _ _ (show 63 + 3 * p + 1 ≠ 50 by omega), fc_u_nj _ _ _ _ (show 63 + 3 * p + 2 ≠ 50 by omega)]; exact r3.2.1 p hp
            · rw [fc_u_nj _ _ _ _ (show 78 + 2 * q ≠ 50 by omega), fc_u_nj _ _ _ _ (show 78 + 2 * q + 1 ≠ 50 by omega)]; exact r3.2.2 q hq
            · dsimp only
              rw [fc_an_at, fc_an_ne _ _ (show 2 ≠ 0 by decide), fc_an_ne _ _ (show 3 ≠ 0 by decide), fc_u_off _ _ _ (by decide), fc_u_nj _ _ _ _ (by decide), fc_u_at, nI_1]
              exact congrArg nI (by omega)
            · dsimp only
              rw [fc_an_at, fc_an_ne _ _ (show 2 ≠ 0 by decide), fc_an_ne _ _ (show 3 ≠ 0 by decide), show A.1 0 + 1 + A.1 2 + A.1 3 = (A.1 0 + A.1 2 + A.1 3) + 1 by omega]
              refine nmr_add1 hB r4.2 (hS1.name hk4) hnk (fun k hk => ⟨?_, ?_⟩) ?_ ?_
              · rw [fc_u_nj _ _ _ _ (by omega)]
              · rw [fc_u_off _ _ _ (by decide), fc_u_off _ _ _ (by decide), fc_u_off _ _ _ (by decide), fc_u_nj _ _ _ _ (by omega), fc_u_off _ _ _ (by decide)]
              · rw [fc_u_at]; exact hS1.value hi1L
              · rw [fc_u_off _ _ _ (by decide), fc_u_off _ _ _ (by decide), fc_u_off _ _ _ (by decide), fc_u_at]
                exact fc_na (fc_nl 0) rfl
            · exact r5
        · exact absurd hS1.2.2.2.1 h65
      · have htl : ps_tl A (tW s n (i + 1)) = true := by
          cases q : ps_tl A (tW s n (i + 1)) with
          | true => rfl
          | false => rw [hntl.1.mpr q] at h53; exact absurd (by decide) h53
        refine And.intro rfl (Exists.intro _ (And.intro (c_rwrong hW hS1 _) ?_))
        rintro _ m1 _ _ ⟨rfl, g1, g2, rfl, rfl⟩
        refine And.intro rfl ?_
        refine And.intro (fun h65 => ?_) (fun h65 => ?_)
        · have hz : m1 252 8 = tF s n 3 (i + 1) := by rw [p_wr, if_pos rfl] at g1; exact g1.2.2.2.1
          rw [hz] at h65; exact absurd h65 (tF_ne (c := 3) (by omega) (by omega) k3 (i + 1))
        · rw [rnm, if_neg (show ¬ 7 ≤ A.1 0 by omega)]
          rw [if_pos hk4, if_pos htl]
          rw [p_wr, if_pos rfl] at g1
          exact ⟨rfl, rfl, ((rfr_at _).tr g2).fl, tF_ne (c := 3) (by omega) (by omega) k3 (i + 1), i + 1, g1⟩

theorem c_rreadName2 (hW : fc_Wd mr) (hS : rst s n N i 0 mi ml) (hiL : i < N) (hB : fc_AB A) {np nt : Nat} (hnp : np ≤ 5) (hnt : nt ≤ 6) (hR : rRA A np nt mi ml) : fc_R E mX11_readName (d + 3) fc_sh [.ref 252, .int 2, .int 5, .int 20] mi ml mr (rpq s n N np nt mi ml mr (rnm s n A 2 2 5 i)) := by
  obtain ⟨⟨k1, k2, k3, k4, k5, k6⟩, hiN, hat, hfa, hkw, hok⟩ := id hS
  obtain ⟨r1, r2, r3, r4, r5⟩ := id hR
  obtain ⟨b_0, b_1, b_2, b_3, -⟩ := id hB
  have hS1 : rst s n N (i + 1) 0 (fc_u mi 252 7 (nI (i + 1))) ml := hS.next hiL
  have hcn : mi 258 52 = nI (A.1 2) := r1.2.2.1
  refine fc_met rfl (Nat.le_of_ble_eq_true rfl) (fc_run oX11_readName (fun _ => false) 400 ?_)
  refine And.intro rfl (Exists.intro _ (And.intro (hW 252 10 258 rfl) ?_))
  refine Exists.intro _ (Exists.intro _ (And.intro rfl (And.intro (fc_ixn (fc_na (fc_nl 50) (fc_nl 2)) (by omega) (by decide)) ?_)))
  rw [hcn]
  refine And.intro (fun h14 => ?_) (fun h14 => ?_)
  · have hce : A.1 2 = 5 := nIn (b := 5) (by omega) (by omega) h14
    refine And.intro rfl (Exists.intro _ (And.intro (c_rwrong hW hS _) ?_))
    rintro _ m1 _ _ ⟨rfl, g1, g2, rfl, rfl⟩
    have hge : 5 ≤ A.1 2 := by omega
    rw [rnm, if_pos hge]
    rw [p_wr, if_pos rfl] at g1
    exact ⟨rfl, rfl, g2.fl, tF_ne (c := 5) (by omega) (by omega) k3 i, i, g1⟩
  · have hce : ¬ A.1 2 = 5 := fun q => h14 (by rw [q]; rfl)
    refine And.intro rfl ?_
    rw [hat]
    refine And.intro rfl ?_
    rw [nI_1 i]
    refine And.intro rfl (Exists.intro _ (And.intro (c_risName hW hS1) ?_))
    rintro _ _ _ _ ⟨rfl, rfl, rfl, rfl⟩
    refine And.intro (fun h37 => ?_) (fun h37 => ?_)
    · replace h37 := fc_b0.mp h37
      have hk4 : ¬ tK s n (i + 1) = 4 := fun q => by rw [decide_eq_true rfl, decide_eq_true q] at h37; cases h37
      refine And.intro rfl (Exists.intro _ (And.intro (c_rwrong hW hS1 _) ?_))
      rintro _ m1 _ _ ⟨rfl, g1, g2, rfl, rfl⟩
      refine And.intro rfl ?_
      refine And.intro (fun h65 => ?_) (fun h65 => ?_)
      · have hz : m1 252 8 = tF s n 1 (i + 1) := by rw [p_wr, if_pos rfl] at g1; exact g1.2.2.2.1
        rw [hz] at h65; exact absurd h65 (tF_ne (c := 1) (by omega) (by omega) k3 (i + 1))
      · rw [rnm, if_neg (show ¬ 5 ≤ A.1 2 by omega)]
        rw [if_neg hk4]
        rw [p_wr, if_pos rfl] at g1
        exact ⟨rfl, rfl, ((rfr_at _).tr g2).fl, tF_ne (c := 1) (by omega) (by omega) k3 (i + 1), i + 1, g1⟩
    · replace h37 := fc_b1.mp h37
      have hk4 : tK s n (i + 1) = 4 := by rw [Bool.and_eq_true] at h37; exact of_decide_eq_true h37.2
      have hi1L := nm_lt hS1 hk4
      refine And.intro rfl (Exists.intro _ (And.intro (c_rnameAt1 hW hS1 (K := A.1 0 + A.1 2 + A.1 3) r4.1 (by omega) (nm_lt hS1 hk4)) ?_))
      rintro _ _ _ _ ⟨rfl, rfl, rfl, rfl⟩
      rw [show na (ml 262) ((fc_u mi 252 7 (nI (i + 1))) 264) (rw_ s n (tS s n (i + 1))) (A.1 0 + A.1 2 + A.1 3) 0 = nk A (tW s n (i + 1)) from r4.2.1 _ _ (hS1.name hk4)]
      have hntl := nk_tl hB (tW s n (i + 1))
      refine And.intro (fun h53 => ?_) (fun h53 => ?_)
      · have hnk : nk A (tW s n (i + 1)) = -1 := by
          by_cases q : nk A (tW s n (i + 1)) = -1
          · exact q
          · obtain ⟨z, hz, e⟩ := hntl.2 q
            rw [e] at h53; exact absurd h53 (nI_pos (by omega))
        have htl := hntl.1.mp hnk
        refine And.intro rfl ?_
        refine And.intro (fun h65 => ?_) (fun h65 => ?_)
        · refine And.intro rfl (Exists.intro _ (And.intro (hW 252 15 262 rfl) ?_))
          refine And.intro rfl ?_
          rw [show (fc_u mi 252 7 (nI (i + 1))) 252 19 = nI (A.1 0 + A.1 2 + A.1 3) from r4.1]
          refine And.intro rfl (Exists.intro _ (And.intro (hW 252 6 256 rfl) ?_))
          refine And.intro rfl ?_
          rw [show (fc_u mi 252 7 (nI (i + 1))) 252 7 = nI (i + 1) from fc_u_at _ _ _ _]
          refine Exists.intro _ (Exists.intro _ (And.intro rfl (And.intro (fc_ixn rfl (by omega) (by decide)) ?_)))
          refine Exists.intro _ (Exists.intro _ (And.intro rfl (And.intro (fc_ixn rfl (by omega) (by decide)) ?_)))
          refine And.intro rfl (Exists.intro _ (And.intro (hW 252 17 264 rfl) ?_))
          refine And.intro rfl ?_
          rw [show (fc_u mi 252 7 (nI (i + 1))) 252 19 = nI (A.1 0 + A.1 2 + A.1 3) from r4.1]
          refine Exists.intro _ (Exists.intro _ (And.intro rfl (And.intro (fc_ixn rfl (by omega) (by decide)) ?_)))
          refine And.intro rfl ?_
          rw [show (fc_u (fc_u mi 252 7 (nI (i + 1))) 264 (A.1 0 + A.1 2 + A.1 3) _) 252 19 = nI (A.1 0 + A.1 2 + A.1 3) from r4.1]
          refine And.intro rfl ?_
          refine And.intro rfl ?_
          skip
          refine And.intro rfl ?_
          refine And.intro rfl (Exists.intro _ (And.intro (hW 252 10 258 rfl) ?_))
          refine Exists.intro _ (Exists.intro _ (And.intro rfl (And.intro (fc_ixn (fc_na (fc_nl 50) (fc_nl 2)) (by omega) (by decide)) ?_)))
          skip
          refine Exists.intro _ (Exists.intro _ (And.intro rfl (And.intro (fc_ixn (fc_na (fc_nl 50) (fc_nl 2)) (by omega) (by decide)) ?_)))
          rw [rnm, if_neg (show ¬ 5 ≤ A.1 2 by omega)]
          rw [if_pos hk4, if_neg (by rw [htl]; decide)]
          refine ⟨rfl, rfl, ⟨fun y q1 q2 q3 q4 q5 => ?_, fun k q => ?_, fun k q => ⟨rfl, rfl⟩, fun k q1 q2 q3 q4 q5 => ?_, fun y q => fc_u_off _ _ _ q⟩, ?_, ?_⟩
          · rw [fc_u_off _ _ _ q2, fc_u_off _ _ _ q1, fc_u_off _ _ _ q1, fc_u_off _ _ _ q5, fc_u_off _ _ _ q1]
          · rw [fc_u_nj _ _ _ _ (show k ≠ 52 by omega)]; rfl
          · rw [fc_u_off _ _ _ (by decide), fc_u_nj _ _ _ _ q1, fc_u_nj _ _ _ _ q4, fc_u_off _ _ _ (by decide), fc_u_nj _ _ _ _ q1]
          · have hn2 := hS1.next hi1L
            refine hn2.rows rfl rfl ?_ rfl rfl rfl
            show nI (i + 1) + 1 = nI (i + 1 + 1)
            exact nI_1 (i + 1)
          · refine ⟨?_, r2, ⟨fun k hk => ?_, fun p hp => ?_, fun q hq => ?_⟩, ⟨?_, ?_⟩, ?_⟩
            · dsimp only
              refine ⟨?_, ?_, ?_, ?_, ?_⟩
              · rw [fc_an_ne _ _ (by decide), fc_u_nj _ _ _ _ (by decide)]; exact r1.1
              · rw [fc_an_ne _ _ (by decide), fc_u_nj _ _ _ _ (by decide)]; exact r1.2.1
              · rw [fc_an_at]; refine (fc_u_at _ _ _ _).trans ?_; exact (congrArg (· + 1) hcn).trans (nI_1 _)
              · rw [fc_an_ne _ _ (by decide), fc_u_nj _ _ _ _ (by decide)]; exact r1.2.2.2.1
              · rw [fc_u_nj _ _ _ _ (by decide)]; exact r1.2.2.2.2
            · rw [fc_u_nj _ _ _ _ (show 56 + k ≠ 52 by omega)]; exact r3.1 k hk
            · rw [fc_u_nj _ _ _ _ (show 63 + 3 * p ≠ 52 by omega), fc_u_nj _ _ _ _ (show 63 + 3 * p + 1 ≠ 52 by omega), fc_u_nj _ _ _ _ (show 63 + 3 * p + 2 ≠ 52 by omega)]; exact r3.2.1 p hp
            · rw [fc_u_nj _ _ _ _ (show 78 + 2 * q ≠ 52 by omega), fc_u_nj _ _ _ _ (show 78 + 2 * q + 1 ≠ 52 by omega)]; exact r3.2.2 q hq
            · dsimp only
              rw [fc_an_at, fc_an_ne _ _ (show 0 ≠ 2 by decide), fc_an_ne _ _ (show 3 ≠ 2 by decide), fc_u_off _ _ _ (by decide), fc_u_nj _ _ _ _ (by decide), fc_u_at, nI_1]
              exact congrArg nI (by omega)
            · dsimp only
              rw [fc_an_at, fc_an_ne _ _ (show 0 ≠ 2 by decide), fc_an_ne _ _ (show 3 ≠ 2 by decide), show A.1 0 + (A.1 2 + 1) + A.1 3 = (A.1 0 + A.1 2 + A.1 3) + 1 by omega]
              refine nmr_add2 hB r4.2 (hS1.name hk4) hnk (fun k hk => ⟨?_, ?_⟩) ?_ ?_
              · rw [fc_u_nj _ _ _ _ (by omega)]
              · rw [fc_u_off _ _ _ (by decide), fc_u_off _ _ _ (by decide), fc_u_off _ _ _ (by decide), fc_u_nj _ _ _ _ (by omega), fc_u_off _ _ _ (by decide)]
              · rw [fc_u_at]; exact hS1.value hi1L
              · rw [fc_u_off _ _ _ (by decide), fc_u_off _ _ _ (by decide), fc_u_off _ _ _ (by decide), fc_u_at]
                exact fc_na (fc_nl 20) rfl
            · exact r5
        · exact absurd hS1.2.2.2.1 h65
      · have htl : ps_tl A (tW s n (i + 1)) = true := by
          cases q : ps_tl A (tW s n (i + 1)) with
          | true => rfl
          | false => rw [hntl.1.mpr q] at h53; exact absurd (by decide) h53
        refine And.intro rfl (Exists.intro _ (And.intro (c_rwrong hW hS1 _) ?_))
        rintro _ m1 _ _ ⟨rfl, g1, g2, rfl, rfl⟩
        refine And.intro rfl ?_
        refine And.intro (fun h65 => ?_) (fun h65 => ?_)
        · have hz : m1 252 8 = tF s n 3 (i + 1) := by rw [p_wr, if_pos rfl] at g1; exact g1.2.2.2.1
          rw [hz] at h65; exact absurd h65 (tF_ne (c := 3) (by omega) (by omega) k3 (i + 1))
        · rw [rnm, if_neg (show ¬ 5 ≤ A.1 2 by omega)]
          rw [if_pos hk4, if_pos htl]
          rw [p_wr, if_pos rfl] at g1
          exact ⟨rfl, rfl, ((rfr_at _).tr g2).fl, tF_ne (c := 3) (by omega) (by omega) k3 (i + 1), i + 1, g1⟩

theorem c_rreadName3 (hW : fc_Wd mr) (hS : rst s n N i 0 mi ml) (hiL : i < N) (hB : fc_AB A) {np nt : Nat} (hnp : np ≤ 5) (hnt : nt ≤ 6) (hR : rRA A np nt mi ml) : fc_R E mX11_readName (d + 3) fc_sh [.ref 252, .int 3, .int 6, .int 40] mi ml mr (rpq s n N np nt mi ml mr (rnm s n A 3 3 6 i)) := by
  obtain ⟨⟨k1, k2, k3, k4, k5, k6⟩, hiN, hat, hfa, hkw, hok⟩ := id hS
  obtain ⟨r1, r2, r3, r4, r5⟩ := id hR
  obtain ⟨b_0, b_1, b_2, b_3, -⟩ := id hB
  have hS1 : rst s n N (i + 1) 0 (fc_u mi 252 7 (nI (i + 1))) ml := hS.next hiL
  have hcn : mi 258 53 = nI (A.1 3) := r1.2.2.2.1
  refine fc_met rfl (Nat.le_of_ble_eq_true rfl) (fc_run oX11_readName (fun _ => false) 400 ?_)
  refine And.intro rfl (Exists.intro _ (And.intro (hW 252 10 258 rfl) ?_))
  refine Exists.intro _ (Exists.intro _ (And.intro rfl (And.intro (fc_ixn (fc_na (fc_nl 50) (fc_nl 3)) (by omega) (by decide)) ?_)))
  rw [hcn]
  refine And.intro (fun h14 => ?_) (fun h14 => ?_)
  · have hce : A.1 3 = 6 := nIn (b := 6) (by omega) (by omega) h14
    refine And.intro rfl (Exists.intro _ (And.intro (c_rwrong hW hS _) ?_))
    rintro _ m1 _ _ ⟨rfl, g1, g2, rfl, rfl⟩
    have hge : 6 ≤ A.1 3 := by omega
    rw [rnm, if_pos hge]
    rw [p_wr, if_pos rfl] at g1
    exact ⟨rfl, rfl, g2.fl, tF_ne (c := 5) (by omega) (by omega) k3 i, i, g1⟩
  · have hce : ¬ A.1 3 = 6 := fun q => h14 (by rw [q]; rfl)
    refine And.intro rfl ?_
    rw [hat]
    refine And.intro rfl ?_
    rw [nI_1 i]
    refine And.intro rfl (Exists.intro _ (And.intro (c_risName hW hS1) ?_))
    rintro _ _ _ _ ⟨rfl, rfl, rfl, rfl⟩
    refine And.intro (fun h37 => ?_) (fun h37 => ?_)
    · replace h37 := fc_b0.mp h37
      have hk4 : ¬ tK s n (i + 1) = 4 := fun q => by rw [decide_eq_true rfl, decide_eq_true q] at h37; cases h37
      refine And.intro rfl (Exists.intro _ (And.intro (c_rwrong hW hS1 _) ?_))
      rintro _ m1 _ _ ⟨rfl, g1, g2, rfl, rfl⟩
      refine And.intro rfl ?_
      refine And.intro (fun h65 => ?_) (fun h65 => ?_)
      · have hz : m1 252 8 = tF s n 1 (i + 1) := by rw [p_wr, if_pos rfl] at g1; exact g1.2.2.2.1
        rw [hz] at h65; exact absurd h65 (tF_ne (c := 1) (by omega) (by omega) k3 (i + 1))
      · rw [rnm, if_neg (show ¬ 6 ≤ A.1 3 by omega)]
        rw [if_neg hk4]
        rw [p_wr, if_pos rfl] at g1
        exact ⟨rfl, rfl, ((rfr_at _).tr g2).fl, tF_ne (c := 1) (by omega) (by omega) k3 (i + 1), i + 1, g1⟩
    · replace h37 := fc_b1.mp h37
      have hk4 : tK s n (i + 1) = 4 := by rw [Bool.and_eq_true] at h37; exact of_decide_eq_true h37.2
      have hi1L := nm_lt hS1 hk4
      refine And.intro rfl (Exists.intro _ (And.intro (c_rnameAt1 hW hS1 (K := A.1 0 + A.1 2 + A.1 3) r4.1 (by omega) (nm_lt hS1 hk4)) ?_))
      rintro _ _ _ _ ⟨rfl, rfl, rfl, rfl⟩
      rw [show na (ml 262) ((fc_u mi 252 7 (nI (i + 1))) 264) (rw_ s n (tS s n (i + 1))) (A.1 0 + A.1 2 + A.1 3) 0 = nk A (tW s n (i + 1)) from r4.2.1 _ _ (hS1.name hk4)]
      have hntl := nk_tl hB (tW s n (i + 1))
      refine And.intro (fun h53 => ?_) (fun h53 => ?_)
      · have hnk : nk A (tW s n (i + 1)) = -1 := by
          by_cases q : nk A (tW s n (i + 1)) = -1
          · exact q
          · obtain ⟨z, hz, e⟩ := hntl.2 q
            rw [e] at h53; exact absurd h53 (nI_pos (by omega))
        have htl := hntl.1.mp hnk
        refine And.intro rfl ?_
        refine And.intro (fun h65 => ?_) (fun h65 => ?_)
        · refine And.intro rfl (Exists.intro _ (And.intro (hW 252 15 262 rfl) ?_))
          refine And.intro rfl ?_
          rw [show (fc_u mi 252 7 (nI (i + 1))) 252 19 = nI (A.1 0 + A.1 2 + A.1 3) from r4.1]
          refine And.intro rfl (Exists.intro _ (And.intro (hW 252 6 256 rfl) ?_))
          refine And.intro rfl ?_
          rw [show (fc_u mi 252 7 (nI (i + 1))) 252 7 = nI (i + 1) from fc_u_at _ _ _ _]
          refine Exists.intro _ (Exists.intro _ (And.intro rfl (And.intro (fc_ixn rfl (by omega) (by decide)) ?_)))
          refine Exists.intro _ (Exists.intro _ (And.intro rfl (And.intro (fc_ixn rfl (by omega) (by decide)) ?_)))
          refine And.intro rfl (Exists.intro _ (And.intro (hW 252 17 264 rfl) ?_))
          refine And.intro rfl ?_
          rw [show (fc_u mi 252 7 (nI (i + 1))) 252 19 = nI (A.1 0 + A.1 2 + A.1 3) from r4.1]
          refine Exists.intro _ (Exists.intro _ (And.intro rfl (And.intro (fc_ixn rfl (by omega) (by decide)) ?_)))
          refine And.intro rfl ?_
          rw [show (fc_u (fc_u mi 252 7 (nI (i + 1))) 264 (A.1 0 + A.1 2 + A.1 3) _) 252 19 = nI (A.1 0 + A.1 2 + A.1 3) from r4.1]
          refine And.intro rfl ?_
          refine And.intro rfl ?_
          skip
          refine And.intro rfl ?_
          refine And.intro rfl (Exists.intro _ (And.intro (hW 252 10 258 rfl) ?_))
          refine Exists.intro _ (Exists.intro _ (And.intro rfl (And.intro (fc_ixn (fc_na (fc_nl 50) (fc_nl 3)) (by omega) (by decide)) ?_)))
          skip
          refine Exists.intro _ (Exists.intro _ (And.intro rfl (And.intro (fc_ixn (fc_na (fc_nl 50) (fc_nl 3)) (by omega) (by decide)) ?_)))
          rw [rnm, if_neg (show ¬ 6 ≤ A.1 3 by omega)]
          rw [if_pos hk4, if_neg (by rw [htl]; decide)]
          refine ⟨rfl, rfl, ⟨fun y q1 q2 q3 q4 q5 => ?_, fun k q => ?_, fun k q => ⟨rfl, rfl⟩, fun k q1 q2 q3 q4 q5 => ?_, fun y q => fc_u_off _ _ _ q⟩, ?_, ?_⟩
          · rw [fc_u_off _ _ _ q2, fc_u_off _ _ _ q1, fc_u_off _ _ _ q1, fc_u_off _ _ _ q5, fc_u_off _ _ _ q1]
          · rw [fc_u_nj _ _ _ _ (show k ≠ 53 by omega)]; rfl
          · rw [fc_u_off _ _ _ (by decide), fc_u_nj _ _ _ _ q1, fc_u_nj _ _ _ _ q4, fc_u_off _ _ _ (by decide), fc_u_nj _ _ _ _ q1]
          · have hn2 := hS1.next hi1L
            refine hn2.rows rfl rfl ?_ rfl rfl rfl
            show nI (i + 1) + 1 = nI (i + 1 + 1)
            exact nI_1 (i + 1)
          · refine ⟨?_, r2, ⟨fun k hk => ?_, fun p hp => ?_, fun q hq => ?_⟩, ⟨?_, ?_⟩, ?_⟩
            · dsimp only
              refine ⟨?_, ?_, ?_, ?_, ?_⟩
              · rw [fc_an_ne _ _ (by decide), fc_u_nj _ _ _ _ (by decide)]; exact r1.1
              · rw [fc_an_ne _ _ (by decide), fc_u_nj _ _ _ _ (by decide)]; exact r1.2.1
              · rw [fc_an_ne _ _ (by decide), fc_u_nj _ _ _ _ (by decide)]; exact r1.2.2.1
              · rw [fc_an_at]; refine (fc_u_at _ _ _ _).trans ?_; exact (congrArg (· + 1) hcn).trans (nI_1 _)
              · rw [fc_u_nj _ _ _ _ (by decide)]; exact r1.2.2.2.2
            · rw [fc_u_nj _ _ _ _ (show 56 + k ≠ 53 by omega)]; exact r3.1 k hk
            · rw [fc_u_nj _ _ _ _ (show 63 + 3 * p ≠ 53 by omega), fc_u_nj _ _ _ _ (show 63 + 3 * p + 1 ≠ 53 by omega), fc_u_nj _ _ _ _ (show 63 + 3 * p + 2 ≠ 53 by omega)]; exact r3.2.1 p hp
            · rw [fc_u_nj _ _ _ _ (show 78 + 2 * q ≠ 53 by omega), fc_u_nj _ _ _ _ (show 78 + 2 * q + 1 ≠ 53 by omega)]; exact r3.2.2 q hq
            · dsimp only
              rw [fc_an_at, fc_an_ne _ _ (show 0 ≠ 3 by decide), fc_an_ne _ _ (show 2 ≠ 3 by decide), fc_u_off _ _ _ (by decide), fc_u_nj _ _ _ _ (by decide), fc_u_at, nI_1]
              exact congrArg nI (by omega)
            · dsimp only
              rw [fc_an_at, fc_an_ne _ _ (show 0 ≠ 3 by decide), fc_an_ne _ _ (show 2 ≠ 3 by decide), show A.1 0 + A.1 2 + (A.1 3 + 1) = (A.1 0 + A.1 2 + A.1 3) + 1 by omega]
              refine nmr_add3 hB r4.2 (hS1.name hk4) hnk (fun k hk => ⟨?_, ?_⟩) ?_ ?_
              · rw [fc_u_nj _ _ _ _ (by omega)]
              · rw [fc_u_off _ _ _ (by decide), fc_u_off _ _ _ (by decide), fc_u_off _ _ _ (by decide), fc_u_nj _ _ _ _ (by omega), fc_u_off _ _ _ (by decide)]
              · rw [fc_u_at]; exact hS1.value hi1L
              · rw [fc_u_off _ _ _ (by decide), fc_u_off _ _ _ (by decide), fc_u_off _ _ _ (by decide), fc_u_at]
                exact fc_na (fc_nl 40) rfl
            · exact r5
        · exact absurd hS1.2.2.2.1 h65
      · have htl : ps_tl A (tW s n (i + 1)) = true := by
          cases q : ps_tl A (tW s n (i + 1)) with
          | true => rfl
          | false => rw [hntl.1.mpr q] at h53; exact absurd (by decide) h53
        refine And.intro rfl (Exists.intro _ (And.intro (c_rwrong hW hS1 _) ?_))
        rintro _ m1 _ _ ⟨rfl, g1, g2, rfl, rfl⟩
        refine And.intro rfl ?_
        refine And.intro (fun h65 => ?_) (fun h65 => ?_)
        · have hz : m1 252 8 = tF s n 3 (i + 1) := by rw [p_wr, if_pos rfl] at g1; exact g1.2.2.2.1
          rw [hz] at h65; exact absurd h65 (tF_ne (c := 3) (by omega) (by omega) k3 (i + 1))
        · rw [rnm, if_neg (show ¬ 6 ≤ A.1 3 by omega)]
          rw [if_pos hk4, if_pos htl]
          rw [p_wr, if_pos rfl] at g1
          exact ⟨rfl, rfl, ((rfr_at _).tr g2).fl, tF_ne (c := 3) (by omega) (by omega) k3 (i + 1), i + 1, g1⟩

end M70
