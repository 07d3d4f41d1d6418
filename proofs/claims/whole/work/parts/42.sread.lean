/-! ===== a morning read ===== -/
section M42
variable {E : fc_E} {d : Nat} {mi : fc_Mi} {ml : fc_Ml} {mr : fc_Mr} {s : Nat → Int32} {n i b sc m k t : Nat}
theorem ms_line_L {N : fc_Ml} {L : Nat} {a : fc_Mi} {q : fc_Mi × Nat} (h : ms_line s n N m k t i L a = .ok q) : L < 40 := by
  unfold ms_line at h
  split at h
  · split at h
    · cases h
    · omega
  · cases h
def fc_sq (sc : Nat) (mi : fc_Mi) (ml : fc_Ml) (mr : fc_Mr) (r : Except Int32 (Nat × fc_Mi)) : fc_Q := fun v mi' ml' mr' => mr = mr' ∧ fc_Fs sc mi mi' ml ml' ∧ (match r with | .error f => v = some (.int f) | .ok q => v = some (.int 0) ∧ mi' sc 3 = nI q.1 ∧ q.1 ≤ 40 ∧ fc_RS q.1 q.2 mi' sc)
theorem l_sread (hW : fc_Wd mr) (hL : fc_L mr b) (hQ : fc_Qs mr sc) (hb : 200 ≤ b) (hbs : b + 12 < sc) (hN : fc_LN mi b k m t) : ∀ (j kk : Nat) (x3 : Int32) (i L : Nat) (a : fc_Mi) (mm : fc_Mi) (mlm : fc_Ml), kk + j = 1000 → x3 = nI kk → L ≤ 40 → fc_Fs sc mi mm ml mlm → mm sc 3 = nI L → fc_RS L a mm sc → fc_Tk s mm mlm n i → fc_T E mX5_read (d + 9) (0, 0) fc_sh 11 [some (.ref sc), some (.ref 1), some (.ref b), some (.int x3)] [] mm mlm mr (fc_sq sc mi ml mr (ms_rd s n (fun x => ml (b + x)) m k t j i L a)) := by
  intro j
  induction j with
  | zero =>
    intro kk x3 i L a mm mlm hj hx hL4 hF h3 hA hk
    subst hx
    refine fc_run oX5_read (fun pc => pc == 11) 400 ?_
    refine And.intro (fun h15 => ?_) (fun h15 => ?_)
    · exact ⟨rfl, hF, rfl, h3, hL4, hA⟩
    · exact absurd (show (1000 : Int32) ≤ nI kk from nI_le (a := 1000) (by omega) (by omega)) h15
  | succ j ih =>
    intro kk x3 i L a mm mlm hj hx hL4 hF h3 hA hk
    subst hx
    have Nm : fc_LN mm b k m t := hN.off (hF.1 b (by omega) (by omega))
    have eN : ms_line s n (fun x => mlm (b + x)) m k t i L a = ms_line s n (fun x => ml (b + x)) m k t i L a := by
      have q : ∀ x, mlm (b + x) = ml (b + x) := fun x => hF.2.1 _ (by omega)
      simp only [q]
    refine fc_run oX5_read (fun pc => pc == 11) 400 ?_
    refine And.intro (fun h15 => ?_) (fun h15 => ?_)
    · exact absurd h15 (nI_ge (b := 1000) (by omega) (by omega))
    · refine And.intro rfl ?_
      rw [hk.2.2.2.2.2.1]
      refine And.intro (fun h23 => ?_) (fun h23 => ?_)
      · rw [ms_rd, if_pos h23]
        exact ⟨rfl, hF, rfl, h3, hL4, hA⟩
      · refine And.intro (fc_Q_0 hQ) (Exists.intro _ (And.intro (c_readLine hW hL hQ hb hbs Nm hk h3 hL4 hA) ?_))
        rintro _ m29 l29 _ ⟨z29, rfl, rfl, F29, y29, n29⟩
        refine And.intro (fun h32 => ?_) (fun h32 => ?_)
        · replace h32 := fc_b0.mp h32
          refine And.intro rfl ?_
          obtain ⟨f, e, e7⟩ := n29 h32
          rw [eN] at e
          rw [ms_rd, if_neg h23, e]
          exact ⟨rfl, hF.tr F29, congrArg (fun z => some (Value.int z)) e7⟩
        · replace h32 := fc_b1.mp h32
          obtain ⟨q, e, s9, A9, k9⟩ := y29 h32
          rw [eN] at e
          refine And.intro rfl (Exists.intro _ (And.intro (c_take hW k9 59) ?_))
          rintro _ m38 l38 _ ⟨z38, rfl, rfl, y38, n38⟩
          refine And.intro (fun h41 => ?_) (fun h41 => ?_)
          · replace h41 := fc_b0.mp h41
            refine And.intro rfl ?_
            obtain ⟨g1, ff⟩ := n38 h41
            rw [ms_rd, if_neg h23, e]
            simp only
            rw [if_neg g1]
            exact ⟨rfl, (hF.tr F29).ff ff, congrArg (fun z => some (Value.int z)) ff.2.2.2⟩
          · replace h41 := fc_b1.mp h41
            obtain ⟨g1, t1, k1⟩ := y38 h41
            rw [ms_rd, if_neg h23, e]
            simp only
            rw [if_pos g1]
            have h40 := ms_line_L e
            refine ih (kk + 1) _ (q.2 + 1) (L + 1) q.1 _ _ (by omega) (fc_inc kk) (by omega) ((hF.tr F29).tm t1) (by rw [t1.1 sc (by omega)]; exact s9) (fun j hj => ?_) k1
            rw [t1.1 _ (by omega), t1.1 _ (by omega), t1.1 _ (by omega)]
            exact A9 j hj

theorem c_sread (hW : fc_Wd mr) (hL : fc_L mr b) (hQ : fc_Qs mr sc) (hb : 200 ≤ b) (hbs : b + 12 < sc) (hN : fc_LN mi b k m t) (hT : fc_Tp mi n) (hs : mi 2 = s) : fc_R E mX5_read (d + 9) fc_sh [.ref sc, .ref 1, .ref b] mi ml mr (fc_sq sc mi ml mr (ms_rd s n (fun x => ml (b + x)) m k t 1000 0 0 (fun _ _ => 0))) := by
  refine fc_met rfl (Nat.le_of_ble_eq_true rfl) (fc_run oX5_read (fun pc => pc == 11) 400 ?_)
  refine And.intro (fc_Q_0 hQ) ?_
  refine And.intro rfl (Exists.intro _ (And.intro (c_topen hW (n := n) (s := s) ⟨by rw [fc_u_off _ _ _ (by omega)]; exact hT.1, hT.2⟩ (by rw [fc_u_off _ _ _ (by omega)]; exact hs)) ?_))
  rintro _ m6 l6 _ ⟨rfl, rfl, f6, g6, e6, k6⟩
  have F6 : fc_Fs sc mi m6 ml l6 := ⟨fun x a1 a5 => by rw [f6 x a1, fc_u_off _ _ _ (by omega)], fun x a1 => g6 x a1, by rw [k6.2.1, hT.1]⟩
  exact l_sread hW hL hQ hb hbs hN 1000 0 _ 0 0 _ _ _ (by omega) rfl (by omega) F6 (by rw [f6 sc (by omega), fc_u_at]; rfl) (fun j hj => absurd hj (by omega)) k6

/-- behind morning(): the tape is empty, the spare morning is of no use, or in use -/
def fc_mq (b sc sc2 : Nat) (mi : fc_Mi) (ml : fc_Ml) (mr : fc_Mr) (r : Except Int32 (Nat × fc_Mi)) : fc_Q := fun v mi' ml' mr' =>
  (∀ x, x ≠ 1 → (x < sc2 ∨ sc2 + 3 < x) → mi' x = mi x) ∧ (∀ x, x ≠ 1 → ml' x = ml x) ∧ mi' 1 1 = 0 ∧
  (match r with | .error f => v = some (.int f) ∧ mr = mr' | .ok q => v = some (.int 0) ∧ fc_u (fc_u mr 0 10 (some sc)) 0 9 (some sc2) = mr' ∧ mi' sc2 3 = nI q.1 ∧ q.1 ≤ 40 ∧ fc_RS q.1 q.2 mi' sc2)
/-- a fault is no 0 -/
def fc_nz (r : Except Int32 (Nat × fc_Mi)) : Prop := ∀ f, r = .error f → ¬ f = 0
theorem c_morning (hH : fc_H mi mr b sc k m t) {sc2 : Nat} (hC2 : mr 0 10 = some sc2) (hQ2 : fc_Qs mr sc2) (hb2 : b + 12 < sc2) (hT : fc_Tp mi n) (hs : mi 2 = s) (hz : fc_nz (ms_rd s n (fun x => ml (b + x)) m k t 1000 0 0 (fun _ _ => 0))) : fc_R E mX10_morning (d + 10) fc_sh [.ref 0] mi ml mr (fc_mq b sc sc2 mi ml mr (ms_rd s n (fun x => ml (b + x)) m k t 1000 0 0 (fun _ _ => 0))) := by
  obtain ⟨hW, hB, hL, hb, hN, hV, hC, hQ, hsc⟩ := id hH
  refine fc_met rfl (Nat.le_of_ble_eq_true rfl) (fc_run oX10_morning (fun _ => false) 400 ?_)
  refine And.intro rfl (Exists.intro _ (And.intro hC2 ?_))
  refine And.intro rfl (Exists.intro _ (And.intro (hW 0 0 1 rfl) ?_))
  refine And.intro rfl (Exists.intro _ (And.intro hB ?_))
  refine And.intro (fc_Q_0 hQ2) (Exists.intro _ (And.intro (c_sread hW hL hQ2 (by omega) hb2 hN hT hs) ?_))
  rintro v12 m12 l12 _ ⟨rfl, F12, q12⟩
  obtain ⟨x12, rfl⟩ : ∃ x, v12 = some (.int x) := by
    revert q12
    rcases ms_rd s n (fun x => ml (b + x)) m k t 1000 0 0 (fun _ _ => 0) with f | q
    · exact fun h => ⟨_, h⟩
    · exact fun h => ⟨_, h.1⟩
  refine And.intro rfl (Exists.intro _ (And.intro (hW 0 0 1 rfl) ?_))
  refine And.intro rfl (Exists.intro _ (And.intro (c_tclear hW) ?_))
  rintro _ _ _ _ ⟨rfl, rfl, rfl, rfl⟩
  refine And.intro (fun h24 => ?_) (fun h24 => ?_)
  · refine And.intro rfl (Exists.intro _ (And.intro hC2 ?_))
    refine And.intro rfl (Exists.intro _ (And.intro hC ?_))
    refine And.intro rfl ?_
    refine And.intro rfl ?_
    rcases e : ms_rd s n (fun x => ml (b + x)) m k t 1000 0 0 (fun _ _ => 0) with f | q
    · rw [e] at q12
      exact absurd ((Value.int.inj (Option.some.inj q12)).symm.trans h24) (hz f e)
    · rw [e] at q12
      obtain ⟨q1, q2, q3, q4⟩ := q12
      refine ⟨fun x a1 a2 => by rw [fc_u_off _ _ _ a1]; exact F12.1 x a1 a2, F12.2.1, fc_u_at _ _ _ _, ⟨?_, rfl, ?_, q3, ?_⟩⟩
      · rfl
      · rw [fc_u_off _ _ _ (by omega)]; exact q2
      · intro j hj
        rw [fc_u_off _ _ _ (by omega), fc_u_off _ _ _ (by omega), fc_u_off _ _ _ (by omega)]
        exact q4 j hj
  · rcases e : ms_rd s n (fun x => ml (b + x)) m k t 1000 0 0 (fun _ _ => 0) with f | q
    · rw [e] at q12
      exact ⟨fun x a1 a2 => by rw [fc_u_off _ _ _ a1]; exact F12.1 x a1 a2, F12.2.1, fc_u_at _ _ _ _, ⟨q12, rfl⟩⟩
    · rw [e] at q12
      exact absurd (Value.int.inj (Option.some.inj q12.1)) h24

end M42
