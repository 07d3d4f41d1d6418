/-! ===== a law read, a land read ===== -/
section M40
variable {E : fc_E} {d : Nat} {mi : fc_Mi} {ml : fc_Ml} {mr : fc_Mr} {s : Nat → Int32} {n i b : Nat}
def ps_lr (s : Nat → Int32) (n : Nat) : Nat → Nat → fc_Lc → Except Int32 (List Int32 × Nat)
  | 0, i, _ => .error (tF s n 1 i)
  | k + 1, i, c => if c.2.2.1 = false ∧ c.2.1 = 0 ∧ tK s n (i + 1) = 59 then .ok ((ps_wd 1 c.1 c.2.2.2).2, i + 1) else
    match (if c.2.2.1 = true then ps_part s n (i + 1) c.1 c.2.1 c.2.2.2 else ps_beh s n (i + 1) c.1 c.2.1 c.2.2.2) with
    | .error f => .error f
    | .ok c' => ps_lr s n k (i + 1) c'
theorem ps_lr_e {k : Nat} {w o : List Int32} {dp : Int32} (h0 : dp = 0) (h : tK s n (i + 1) = 59) : ps_lr s n (k + 1) i (w, dp, false, o) = .ok ((ps_wd 1 w o).2, i + 1) := by
  simp [ps_lr, h0, h]
theorem ps_lr_p {k : Nat} {w o : List Int32} {dp : Int32} : ps_lr s n (k + 1) i (w, dp, true, o) = (match ps_part s n (i + 1) w dp o with | .error f => .error f | .ok c' => ps_lr s n k (i + 1) c') := by
  simp [ps_lr]
theorem ps_lr_b {k : Nat} {w o : List Int32} {dp : Int32} (h : ¬ dp = 0 ∨ ¬ tK s n (i + 1) = 59) : ps_lr s n (k + 1) i (w, dp, false, o) = (match ps_beh s n (i + 1) w dp o with | .error f => .error f | .ok c' => ps_lr s n k (i + 1) c') := by
  rw [ps_lr]
  simp only
  rw [if_neg (fun q => h.elim (fun z => z q.2.1) (fun z => z q.2.2))]
  simp
def fc_vq (s : Nat → Int32) (n b : Nat) (mi : fc_Mi) (ml : fc_Ml) (mr : fc_Mr) (r : Except Int32 (List Int32 × Nat)) : fc_Q := fun v mi' ml' mr' => mr = mr' ∧ fc_Ft b mi mi' ml ml' ∧ (match r with | .error f => v = some (.int (fc_b false)) ∧ mi' 1 7 = f | .ok q => v = some (.int (fc_b true)) ∧ fc_Lo q.1 mi' b ∧ fc_Tk s mi' ml' n q.2)
theorem fc_vq.bq {mi' : fc_Mi} {ml' : fc_Ml} {mr' : fc_Mr} {v : Option Value} {r : Except Int32 (List Int32 × Nat)} (h : fc_vq s n b mi ml mr r v mi' ml' mr') : ∃ z : Bool, v = some (.int (fc_b z)) ∧ mr = mr' ∧ fc_Ft b mi mi' ml ml' ∧ (z = true → ∃ q, r = .ok q ∧ fc_Lo q.1 mi' b ∧ fc_Tk s mi' ml' n q.2) ∧ (z = false → ∃ f, r = .error f ∧ mi' 1 7 = f) := by
  cases r with
  | error f => exact ⟨false, h.2.2.1, h.1, h.2.1, fun q => absurd q (by decide), fun _ => ⟨f, rfl, h.2.2.2⟩⟩
  | ok c => exact ⟨true, h.2.2.1, h.1, h.2.1, fun _ => ⟨c, rfl, h.2.2.2⟩, fun q => absurd q (by decide)⟩
theorem fc_RL.tm {c : fc_Lc} {mm : fc_Mi} {mlm : fc_Ml} (h : fc_RL c mi b) (hb : 200 ≤ b) (t : fc_tm mi mm ml mlm) : fc_RL c mm b := by
  obtain ⟨⟨w1, w2, w3⟩, ⟨p1, p2⟩, ⟨o1, o2, o3⟩⟩ := h
  have e4 := t.1 4 (by decide)
  have e5 := t.1 5 (by decide)
  have e6 := t.1 (b + 10) (by omega)
  have e7 := t.1 (b + 11) (by omega)
  exact ⟨⟨by rw [e4]; exact w1, w2, by rw [e5]; exact w3⟩, ⟨by rw [e4]; exact p1, by rw [e4]; exact p2⟩, ⟨by rw [e6]; exact o1, o2, by rw [e7]; exact o3⟩⟩
theorem l_lread (hW : fc_Wd mr) (hL : fc_L mr b) (hb : 200 ≤ b) : ∀ (j k : Nat) (x3 : Int32) (i : Nat) (c : fc_Lc) (mm : fc_Mi) (mlm : fc_Ml), k + j = 1000 → x3 = nI k → fc_Ft b mi mm ml mlm → fc_RL c mm b → fc_Tk s mm mlm n i → fc_T E mX3_read (d + 7) (0, 0) fc_sh 17 [some (.ref 4), some (.ref 1), some (.ref (b + 10)), some (.int x3)] [] mm mlm mr (fc_vq s n b mi ml mr (ps_lr s n j i c)) := by
  intro j
  induction j with
  | zero =>
    intro k x3 i c mm mlm hj hx hF hR hk
    subst hx
    obtain ⟨w, dp, du, o⟩ := c
    refine fc_run oX3_read (fun pc => pc == 17) 400 ?_
    refine And.intro (fun h21 => ?_) (fun h21 => ?_)
    · refine And.intro rfl (Exists.intro _ (And.intro (c_failk hW hk 1) ?_))
      rintro _ m97 l97 _ ⟨rfl, rfl, ff97⟩
      refine And.intro (by first | exact Or.inl rfl | exact Or.inr rfl | exact fc_bb _ | assumption) ?_
      exact ⟨rfl, hF.ff ff97, rfl, ff97.2.2.2⟩
    · exact absurd (show (1000 : Int32) ≤ nI k from nI_le (a := 1000) (by omega) (by omega)) h21
  | succ j ih =>
    intro k x3 i c mm mlm hj hx hF hR hk
    subst hx
    obtain ⟨w, dp, du, o⟩ := c
    refine fc_run oX3_read (fun pc => pc == 17) 400 ?_
    refine And.intro (fun h21 => ?_) (fun h21 => ?_)
    · exact absurd h21 (nI_ge (b := 1000) (by omega) (by omega))
    · refine And.intro rfl (Exists.intro _ (And.intro (c_next hW hk) ?_))
      rintro _ m25 l25 _ ⟨rfl, rfl, t25, k25⟩
      have R25 := hR.tm hb t25
      have F25 := hF.tm t25
      refine And.intro rfl ?_
      rw [R25.2.1.2]
      refine And.intro (fun h32 => ?_) (fun h32 => ?_)
      · replace h32 := fc_b0.mp h32
        subst h32
        refine And.intro rfl ?_
        rw [R25.2.1.1]
        refine And.intro (fun h39 => ?_) (fun h39 => ?_)
        · refine And.intro rfl ?_
          rw [k25.2.2.2.2.2.1]
          refine And.intro (fun h48 => ?_) (fun h48 => ?_)
          · refine And.intro rfl (Exists.intro _ (And.intro (c_writeDown hW hL hb _ R25) ?_))
            rintro _ m54 l54 _ ⟨rfl, rfl, rfl, g54, r54⟩
            refine And.intro (by first | exact Or.inl rfl | exact Or.inr rfl | exact fc_bb _ | assumption) ?_
            rw [ps_lr_e h39 h48]
            exact ⟨rfl, F25.fl hb g54, rfl, r54.2.2, k25.off (g54 1 (by decide) (by decide) (by omega) (by omega)) (g54 2 (by decide) (by decide) (by omega) (by omega)) rfl⟩
          · refine And.intro rfl ?_
            rw [R25.2.1.2]
            refine And.intro (fun h63 => ?_) (fun h63 => ?_)
            · replace h63 := fc_b0.mp h63
              refine And.intro rfl (Exists.intro _ (And.intro (c_readBehind hW hL hb k25 R25) ?_))
              rintro v81 m81 l81 r81 q81
              obtain ⟨z81, rfl, rfl, rfl, F81, y81, n81⟩ := q81.bq
              refine And.intro (fun h84 => ?_) (fun h84 => ?_)
              · replace h84 := fc_b0.mp h84
                refine And.intro (by first | exact Or.inl rfl | exact Or.inr rfl | exact fc_bb _ | assumption) ?_
                obtain ⟨f, e, e7⟩ := n81 h84
                rw [ps_lr_b (Or.inr h48), e]
                exact ⟨rfl, F25.tr F81, rfl, e7⟩
              · replace h84 := fc_b1.mp h84
                obtain ⟨c', e, e1, R'⟩ := y81 h84
                rw [ps_lr_b (Or.inr h48), e]
                exact ih (k + 1) _ (i + 1) c' _ _ (by omega) (fc_inc k) (F25.tr F81) R' (k25.off e1 (F81.1 2 (by decide) (by decide) (by decide) (by omega) (by omega)) rfl)
            · replace h63 := fc_b1.mp h63
              exact absurd (show false = true from h63) (by decide)
        · refine And.intro rfl ?_
          rw [R25.2.1.2]
          refine And.intro (fun h63 => ?_) (fun h63 => ?_)
          · replace h63 := fc_b0.mp h63
            refine And.intro rfl (Exists.intro _ (And.intro (c_readBehind hW hL hb k25 R25) ?_))
            rintro v81 m81 l81 r81 q81
            obtain ⟨z81, rfl, rfl, rfl, F81, y81, n81⟩ := q81.bq
            refine And.intro (fun h84 => ?_) (fun h84 => ?_)
            · replace h84 := fc_b0.mp h84
              refine And.intro (by first | exact Or.inl rfl | exact Or.inr rfl | exact fc_bb _ | assumption) ?_
              obtain ⟨f, e, e7⟩ := n81 h84
              rw [ps_lr_b (Or.inl h39), e]
              exact ⟨rfl, F25.tr F81, rfl, e7⟩
            · replace h84 := fc_b1.mp h84
              obtain ⟨c', e, e1, R'⟩ := y81 h84
              rw [ps_lr_b (Or.inl h39), e]
              exact ih (k + 1) _ (i + 1) c' _ _ (by omega) (fc_inc k) (F25.tr F81) R' (k25.off e1 (F81.1 2 (by decide) (by decide) (by decide) (by omega) (by omega)) rfl)
          · replace h63 := fc_b1.mp h63
            exact absurd (show false = true from h63) (by decide)
      · replace h32 := fc_b1.mp h32
        subst h32
        refine And.intro rfl ?_
        rw [R25.2.1.2]
        refine And.intro (fun h63 => ?_) (fun h63 => ?_)
        · replace h63 := fc_b0.mp h63
          exact absurd (show true = false from h63) (by decide)
        · replace h63 := fc_b1.mp h63
          refine And.intro rfl (Exists.intro _ (And.intro (c_readPart hW hL hb k25 R25) ?_))
          rintro v69 m69 l69 r69 q69
          obtain ⟨z69, rfl, rfl, rfl, F69, y69, n69⟩ := q69.bq
          refine And.intro (fun h72 => ?_) (fun h72 => ?_)
          · replace h72 := fc_b0.mp h72
            refine And.intro (by first | exact Or.inl rfl | exact Or.inr rfl | exact fc_bb _ | assumption) ?_
            obtain ⟨f, e, e7⟩ := n69 h72
            rw [ps_lr_p, e]
            exact ⟨rfl, F25.tr F69, rfl, e7⟩
          · replace h72 := fc_b1.mp h72
            obtain ⟨c', e, e1, R'⟩ := y69 h72
            rw [ps_lr_p, e]
            exact ih (k + 1) _ (i + 1) c' _ _ (by omega) (fc_inc k) (F25.tr F69) R' (k25.off e1 (F69.1 2 (by decide) (by decide) (by decide) (by omega) (by omega)) rfl)

theorem c_lread (hW : fc_Wd mr) (hL : fc_L mr b) (hb : 200 ≤ b) (hk : fc_Tk s mi ml n i) (hO : mi (b + 10) 2 = 0) : fc_R E mX3_read (d + 7) fc_sh [.ref 4, .ref 1, .ref (b + 10)] mi ml mr (fc_vq s n b mi ml mr (ps_lr s n 1000 i ([], 0, true, []))) := by
  refine fc_met rfl (Nat.le_of_ble_eq_true rfl) (fc_run oX3_read (fun pc => pc == 17) 400 ?_)
  refine And.intro rfl ?_
  refine And.intro rfl ?_
  refine And.intro rfl (And.intro (by first | exact Or.inl rfl | exact Or.inr rfl | exact fc_bb _ | assumption) ?_)
  refine l_lread hW hL hb 1000 0 _ i ([], 0, true, []) _ _ (by omega) rfl ?_ ?_ ?_
  · exact fc_Ft.rf.fl hb (((fc_Fl.rf.u).u).u)
  · refine ⟨⟨?_, by simp, trivial⟩, ⟨?_, ?_⟩, ?_, by simp, trivial⟩
    · rw [fc_u_ne _ _ _ (by decide), fc_u_ne _ _ _ (by decide), fc_u_at]; rfl
    · rw [fc_u_ne _ _ _ (by decide), fc_u_at]
    · rw [fc_u_at]; rfl
    · rw [fc_u_off _ _ _ (by omega), fc_u_off _ _ _ (by omega), fc_u_off _ _ _ (by omega), hO]; rfl
  · exact hk.off (by rw [fc_u_off _ _ _ (by decide), fc_u_off _ _ _ (by decide), fc_u_off _ _ _ (by decide)]) (by rw [fc_u_off _ _ _ (by decide), fc_u_off _ _ _ (by decide), fc_u_off _ _ _ (by decide)]) rfl

def ps_binds (s : Nat → Int32) (n : Nat) (A : fc_Ab) (i : Nat) : Except Int32 (fc_Ab × Nat) :=
  if A.1 5 = 0 then (match ps_lr s n 1000 i ([], 0, true, []) with | .error f => .error f | .ok q => .ok ((fc_an (fc_an A.1 5 1) 6 q.1.length, fc_ur A.2.1 11 (fun j => q.1.reverse.getD j 0), A.2.2), q.2)) else .error (tF s n 3 i)
theorem fc_RC.law {A : fc_Ab} {mm : fc_Mi} {mlm : fc_Ml} {o : List Int32} (h : fc_RC A mi ml b) (hb : 200 ≤ b) (hF : fc_Ft b mi mm ml mlm) (ho : fc_Lo o mm b) : fc_RC (fc_an A.1 6 o.length, fc_ur A.2.1 11 (fun j => o.reverse.getD j 0), A.2.2) mm mlm b := by
  obtain ⟨⟨a1, a2, a3, a4, a5⟩, ⟨b1, b2, b3⟩, ⟨c1, c2, c3, c4⟩, ⟨d1, d2, d3⟩⟩ := h
  have r : ∀ x, x ≠ 1 → x ≠ 4 → x ≠ 5 → x ≠ b + 10 → x ≠ b + 11 → mm x = mi x := hF.1
  have r0 := r b (by omega) (by omega) (by omega) (by omega) (by omega)
  have r3 := r 3 (by omega) (by omega) (by omega) (by omega) (by omega)
  have r4 := r (b + 4) (by omega) (by omega) (by omega) (by omega) (by omega)
  have r5 := r (b + 5) (by omega) (by omega) (by omega) (by omega) (by omega)
  have r6 := r (b + 6) (by omega) (by omega) (by omega) (by omega) (by omega)
  have r7 := r (b + 7) (by omega) (by omega) (by omega) (by omega) (by omega)
  have r8 := r (b + 8) (by omega) (by omega) (by omega) (by omega) (by omega)
  have r9 := r (b + 9) (by omega) (by omega) (by omega) (by omega) (by omega)
  refine ⟨⟨?_, ?_, ?_, ?_, ?_⟩, ⟨?_, ?_, ?_⟩, ⟨?_, ?_, ?_, ?_⟩, ?_, ?_, ?_⟩
  all_goals try dsimp only
  · rw [r0, fc_an_ne _ _ (by decide)]; exact a1
  · rw [r0, fc_an_ne _ _ (by decide)]; exact a2
  · rw [r0, fc_an_ne _ _ (by decide)]; exact a3
  · rw [r0, fc_an_ne _ _ (by decide)]; exact a4
  · rw [r0, fc_ur_off _ _ (by decide)]; exact a5
  · rw [r3, fc_an_ne _ _ (by decide)]; exact b1
  · rw [r3, fc_an_ne _ _ (by decide)]; exact b2
  · rw [fc_an_at]; exact ho.1
  · rw [r4, fc_ur_off _ _ (by decide)]; exact c1
  · rw [r5, r6, r7, fc_ur_off _ _ (by decide), fc_ur_off _ _ (by decide), fc_ur_off _ _ (by decide), fc_an_ne _ _ (by decide)]; exact c2
  · rw [r8, r9, fc_ur_off _ _ (by decide), fc_ur_off _ _ (by decide), fc_an_ne _ _ (by decide)]; exact c3
  · rw [fc_an_at, fc_ur_row]
    exact fun j hj => ho.2.2.get j hj
  · rw [hF.2.1 _ (by omega), fc_an_ne _ _ (by decide)]; exact d1
  · rw [hF.2.1 _ (by omega), fc_an_ne _ _ (by decide)]; exact d2
  · rw [hF.2.1 _ (by omega), fc_an_ne _ _ (by decide)]; exact d3
theorem fc_Fm.ft {m1 m2 : fc_Mi} {l1 l2 : fc_Ml} (h : fc_Fm b mi m1 ml l1) (h2 : fc_Ft b m1 m2 l1 l2) : fc_Fm b mi m2 ml l2 :=
  h.tr ⟨fun x a1 _ a3 a4 a5 => h2.1 x a1 a3 a4 (by omega) (by omega), fun x a1 _ => h2.2.1 x a1, h2.2.2⟩
def fc_AI (A : fc_Ab) : Prop := fc_AB A ∧ (A.1 5 = 0 → A.1 6 = 0)
theorem c_readBinds (hW : fc_Wd mr) (hL : fc_L mr b) (hb : 200 ≤ b) {A : fc_Ab} (hI : fc_AI A) (hR : fc_RC A mi ml b) (hk : fc_Tk s mi ml n i) : fc_R E mX1_readBinds (d + 8) fc_sh [.ref 3, .ref 1, .ref b] mi ml mr (fc_pr s n b mi ml mr (ps_binds s n A i)) := by
  have hB := hI.1
  obtain ⟨hB0, hB1, hB2, hB3, hB4, hB5, hB6⟩ := id hB
  have F0 := fc_Fm.rf (b := b) (mi := mi) (ml := ml)
  refine fc_met rfl (Nat.le_of_ble_eq_true rfl) (fc_run oX1_readBinds (fun _ => false) 400 ?_)
  refine And.intro rfl ?_
  rw [hR.2.1.2.1, fc_b01 hB5]
  refine And.intro (fun h4 => ?_) (fun h4 => ?_)
  · replace h4 := fc_b0.mp h4
    refine And.intro rfl (And.intro (by first | exact Or.inl rfl | exact Or.inr rfl | exact fc_bb _ | assumption) ?_)
    refine And.intro rfl (Exists.intro _ (And.intro (hW 3 0 4 rfl) ?_))
    refine And.intro (fc_L_0 hL) (Exists.intro _ (And.intro (fc_L_r9 hL) ?_))
    refine And.intro rfl (Exists.intro _ (And.intro (c_lread hW hL hb (hk.off (fc_u_off _ _ _ (by decide)) (fc_u_off _ _ _ (by decide)) rfl) (by rw [fc_u_off _ _ _ (by omega), hR.2.1.2.2, hI.2 (by have := of_decide_eq_false h4; omega)]; rfl)) ?_))
    rintro v27 m27 l27 r27 q27
    obtain ⟨z27, rfl, rfl, F27, y27, n27⟩ := q27.bq
    refine And.intro (by first | exact Or.inl rfl | exact Or.inr rfl | exact fc_bb _ | assumption) ?_
    have q : A.1 5 = 0 := by have := of_decide_eq_false h4; omega
    rw [ps_binds, if_pos q]
    cases z27
    · obtain ⟨f, e, e7⟩ := n27 rfl
      rw [e]
      exact ⟨rfl, (F0.u (Or.inl rfl) hb).ft F27, rfl, e7⟩
    · obtain ⟨z, e, O27, k27⟩ := y27 rfl
      rw [e]
      exact ⟨rfl, (F0.u (Or.inl rfl) hb).ft F27, rfl, (hR.bi0 hb).law hb F27 O27, k27⟩
  · replace h4 := fc_b1.mp h4
    refine And.intro rfl (Exists.intro _ (And.intro (c_failk hW hk 3) ?_))
    rintro _ m9 l9 _ ⟨rfl, rfl, ff9⟩
    refine And.intro (by first | exact Or.inl rfl | exact Or.inr rfl | exact fc_bb _ | assumption) ?_
    have q : ¬ A.1 5 = 0 := by have := of_decide_eq_true h4; omega
    rw [ps_binds, if_neg q]
    exact ⟨rfl, F0.ff ff9, rfl, ff9.2.2.2⟩

def ps_line (s : Nat → Int32) (n : Nat) (A : fc_Ab) (i : Nat) : Except Int32 (fc_Ab × Nat) :=
  if tK s n i = 128 then ps_place s n A i else if tK s n i = 129 then ps_path s n A i else if tK s n i = 130 then ps_person s n A i else if tK s n i = 133 then ps_thing s n A i else if tK s n i = 136 then ps_smoke s n A i else if tK s n i = 137 then ps_binds s n A i else .error (tF s n 1 i)
def ps_ld (s : Nat → Int32) (n : Nat) : Nat → Nat → fc_Ab → Except Int32 fc_Ab
  | 0, _, A => .ok A
  | j + 1, i, A => if tK s n i = 1 then .ok A else match ps_line s n A i with
    | .error f => .error f
    | .ok q => if tK s n q.2 = 59 then ps_ld s n j (q.2 + 1) q.1 else .error (tF s n 1 q.2)
theorem ps_wr_l (z : Int32) (o : List Int32) (h : o.length ≤ 1000) : (ps_wr o z).length ≤ 1000 := by
  unfold ps_wr
  split
  · rw [List.length_cons]; omega
  · exact h
theorem ps_cn_l : ∀ (w : List Int32) (dp : Int32) (o : List Int32), o.length ≤ 1000 → (ps_cn w dp o).2.2.length ≤ 1000
  | [], _, _, h => h
  | x :: w, dp, o, h => by
    unfold ps_cn
    split
    · exact ps_cn_l w _ _ (ps_wr_l _ _ h)
    · exact h
theorem ps_wd_l (k : Int32) : ∀ (w o : List Int32), o.length ≤ 1000 → (ps_wd k w o).2.length ≤ 1000
  | [], _, h => h
  | x :: w, o, h => by
    unfold ps_wd
    split
    · exact h
    · exact ps_wd_l k w _ (ps_wr_l _ _ h)
theorem ps_part_l {w o : List Int32} {dp : Int32} {c : fc_Lc} (h : o.length ≤ 1000) (e : ps_part s n i w dp o = .ok c) : c.2.2.2.length ≤ 1000 := by
  unfold ps_part at e
  repeat' split at e
  all_goals first
    | (cases e; first | exact h | exact ps_cn_l _ _ _ (ps_wr_l _ _ h))
    | cases e
theorem ps_beh_l {w o : List Int32} {dp : Int32} {c : fc_Lc} (h : o.length ≤ 1000) (e : ps_beh s n i w dp o = .ok c) : c.2.2.2.length ≤ 1000 := by
  unfold ps_beh at e
  repeat' split at e
  all_goals first
    | (cases e; first | exact ps_wd_l _ _ _ h | exact ps_cn_l _ _ _ (ps_wd_l _ _ _ h))
    | cases e
theorem ps_lr_l : ∀ (k i : Nat) (c : fc_Lc) (q : List Int32 × Nat), c.2.2.2.length ≤ 1000 → ps_lr s n k i c = .ok q → q.1.length ≤ 1000
  | 0, _, _, _, _, e => by simp [ps_lr] at e
  | k + 1, i, (w, dp, du, o), q, h, e => by
    cases du with
    | true =>
      rw [ps_lr_p] at e
      rcases z : ps_part s n (i + 1) w dp o with f | c
      · rw [z] at e; cases e
      · rw [z] at e; exact ps_lr_l k (i + 1) c q (ps_part_l h z) e
    | false =>
      by_cases hz : dp = 0 ∧ tK s n (i + 1) = 59
      · rw [ps_lr_e hz.1 hz.2] at e; cases e; exact ps_wd_l _ _ _ h
      · rw [ps_lr_b (by by_cases h0 : dp = 0
                        · exact Or.inr (fun h1 => hz ⟨h0, h1⟩)
                        · exact Or.inl h0)] at e
        rcases z : ps_beh s n (i + 1) w dp o with f | c
        · rw [z] at e; cases e
        · rw [z] at e; exact ps_lr_l k (i + 1) c q (ps_beh_l h z) e
theorem ps_line_I {A : fc_Ab} {q : fc_Ab × Nat} (h : fc_AI A) (e : ps_line s n A i = .ok q) : fc_AI q.1 := by
  obtain ⟨⟨h0, h1, h2, h3, h4, h5, h6⟩, h7⟩ := h
  unfold ps_line at e
  split at e
  · unfold ps_place at e
    repeat' split at e
    all_goals cases e
    exact ⟨⟨by simp [fc_an]; omega, by simpa [fc_an] using h1, by simpa [fc_an] using h2, by simpa [fc_an] using h3, by simpa [fc_an] using h4, by simpa [fc_an] using h5, by simpa [fc_an] using h6⟩, by simpa [fc_an] using h7⟩
  split at e
  · unfold ps_path at e
    repeat' split at e
    all_goals cases e
    exact ⟨⟨by simpa [fc_an] using h0, by simp [fc_an]; omega, by simpa [fc_an] using h2, by simpa [fc_an] using h3, by simpa [fc_an] using h4, by simpa [fc_an] using h5, by simpa [fc_an] using h6⟩, by simpa [fc_an] using h7⟩
  split at e
  · unfold ps_person at e
    repeat' split at e
    all_goals cases e
    exact ⟨⟨by simpa [fc_an, ps_pa] using h0, by simpa [fc_an, ps_pa] using h1, by simp [fc_an, ps_pa]; omega, by simpa [fc_an, ps_pa] using h3, by simpa [fc_an, ps_pa] using h4, by simpa [fc_an, ps_pa] using h5, by simpa [fc_an, ps_pa] using h6⟩, by simpa [fc_an, ps_pa] using h7⟩
  split at e
  · unfold ps_thing at e
    repeat' split at e
    all_goals cases e
    exact ⟨⟨by simpa [fc_an, ps_ta] using h0, by simpa [fc_an, ps_ta] using h1, by simpa [fc_an, ps_ta] using h2, by simp [fc_an, ps_ta]; omega, by simpa [fc_an, ps_ta] using h4, by simpa [fc_an, ps_ta] using h5, by simpa [fc_an, ps_ta] using h6⟩, by simpa [fc_an, ps_ta] using h7⟩
  split at e
  · unfold ps_smoke at e
    repeat' split at e
    all_goals cases e
    exact ⟨⟨by simpa [fc_an] using h0, by simpa [fc_an] using h1, by simpa [fc_an] using h2, by simpa [fc_an] using h3, by simp [fc_an], by simpa [fc_an] using h5, by simpa [fc_an] using h6⟩, by simpa [fc_an] using h7⟩
  split at e
  · unfold ps_binds at e
    split at e
    · rcases z : ps_lr s n 1000 i ([], 0, true, []) with f | c
      · rw [z] at e; cases e
      · rw [z] at e
        cases e
        have := ps_lr_l 1000 i ([], 0, true, []) c (by simp) z
        exact ⟨⟨by simpa [fc_an] using h0, by simpa [fc_an] using h1, by simpa [fc_an] using h2, by simpa [fc_an] using h3, by simpa [fc_an] using h4, by simp [fc_an], by simpa [fc_an] using this⟩, by simp [fc_an]⟩
    · cases e
  · cases e
def fc_dq (b : Nat) (mi : fc_Mi) (ml : fc_Ml) (mr : fc_Mr) (r : Except Int32 fc_Ab) : fc_Q := fun v mi' ml' mr' => mr = mr' ∧ fc_Fm b mi mi' ml ml' ∧ (match r with | .error f => v = some (.int f) | .ok A => v = some (.int 0) ∧ fc_AI A ∧ fc_RC A mi' ml' b)
theorem l_landread (hW : fc_Wd mr) (hL : fc_L mr b) (hb : 200 ≤ b) : ∀ (j k : Nat) (x3 : Int32) (x4 : Option Value) (i : Nat) (A : fc_Ab) (mm : fc_Mi) (mlm : fc_Ml), k + j = 1000 → x3 = nI k → fc_AI A → fc_Fm b mi mm ml mlm → fc_RC A mm mlm b → fc_Tk s mm mlm n i → fc_T E mX1_read (d + 9) (0, 0) fc_sh 20 [some (.ref 3), some (.ref 1), some (.ref b), some (.int x3), x4] [] mm mlm mr (fc_dq b mi ml mr (ps_ld s n j i A)) := by
  intro j
  induction j with
  | zero =>
    intro k x3 x4 i A mm mlm hj hx hI hF hR hk
    subst hx
    have hB := hI.1
    refine fc_run oX1_read (fun pc => pc == 20) 400 ?_
    refine And.intro (fun h24 => ?_) (fun h24 => ?_)
    · exact ⟨rfl, hF, rfl, hI, hR⟩
    · exact absurd (show (1000 : Int32) ≤ nI k from nI_le (a := 1000) (by omega) (by omega)) h24
  | succ j ih =>
    intro k x3 x4 i A mm mlm hj hx hI hF hR hk
    subst hx
    have hB := hI.1
    refine fc_run oX1_read (fun pc => pc == 20) 400 ?_
    refine And.intro (fun h24 => ?_) (fun h24 => ?_)
    · exact absurd h24 (nI_ge (b := 1000) (by omega) (by omega))
    · refine And.intro rfl ?_
      rw [hk.2.2.2.2.2.1]
      refine And.intro (fun h32 => ?_) (fun h32 => ?_)
      · rw [ps_ld, if_pos h32]
        exact ⟨rfl, hF, rfl, hI, hR⟩
      · refine And.intro rfl ?_
        rw [hk.2.2.2.2.2.1]
        refine And.intro (fun h42 => ?_) (fun _ => And.intro (And.intro (fun h42 => ?_) (And.intro (fun h42 => ?_) (And.intro (fun h42 => ?_) (And.intro (fun h42 => ?_) (And.intro (fun h42 => ?_) (And.intro (fun h42 => ?_) (And.intro (fun h42 => ?_) (And.intro (fun h42 => ?_) (And.intro (fun h42 => ?_) (And.intro (fun h42 => ?_) trivial)))))))))) (by decide))
        · have n42_0 : ¬ tK s n i = 128 := by intro q; rw [q] at h42; revert h42; decide
          have n42_1 : ¬ tK s n i = 129 := by intro q; rw [q] at h42; revert h42; decide
          have n42_2 : ¬ tK s n i = 130 := by intro q; rw [q] at h42; revert h42; decide
          have n42_3 : ¬ tK s n i = 131 := by intro q; rw [q] at h42; revert h42; decide
          have n42_4 : ¬ tK s n i = 132 := by intro q; rw [q] at h42; revert h42; decide
          have n42_5 : ¬ tK s n i = 133 := by intro q; rw [q] at h42; revert h42; decide
          have n42_6 : ¬ tK s n i = 134 := by intro q; rw [q] at h42; revert h42; decide
          have n42_7 : ¬ tK s n i = 135 := by intro q; rw [q] at h42; revert h42; decide
          have n42_8 : ¬ tK s n i = 136 := by intro q; rw [q] at h42; revert h42; decide
          have n42_9 : ¬ tK s n i = 137 := by intro q; rw [q] at h42; revert h42; decide
          refine And.intro rfl (Exists.intro _ (And.intro (c_failk hW hk 1) ?_))
          rintro _ m164 l164 _ ⟨rfl, rfl, ff164⟩
          refine And.intro (fun h170 => ?_) (fun h170 => ?_)
          · refine And.intro rfl ?_
            have el : ps_line s n A i = .error (tF s n 1 i) := by rw [ps_line, if_neg n42_0, if_neg n42_1, if_neg n42_2, if_neg n42_5, if_neg n42_8, if_neg n42_9]
            rw [ps_ld, if_neg h32, el]
            exact ⟨rfl, hF.ff ff164, congrArg (fun z => some (Value.int z)) ff164.2.2.2⟩
          · exact absurd rfl h170
        · replace h42 := (fc_ofI 128 (by decide)).mp h42
          refine And.intro rfl (Exists.intro _ (And.intro (c_readPlace hW hL hb hB hR hk) ?_))
          rintro v99 m99 l99 r99 q99
          obtain ⟨z99, rfl, rfl, F99, y99, n99⟩ := q99.bq
          refine And.intro (fun h170 => ?_) (fun h170 => ?_)
          · replace h170 := fc_b0.mp h170
            refine And.intro rfl ?_
            have el : ps_line s n A i = ps_place s n A i := by rw [ps_line, if_pos h42]
            obtain ⟨f, e, e7⟩ := n99 h170
            rw [ps_ld, if_neg h32, el, e]
            exact ⟨rfl, hF.tr F99, congrArg (fun z => some (Value.int z)) e7⟩
          · replace h170 := fc_b1.mp h170
            obtain ⟨q, e, R9, k9⟩ := y99 h170
            refine And.intro rfl (Exists.intro _ (And.intro (c_take hW k9 59) ?_))
            rintro _ m176 l176 _ ⟨z176, rfl, rfl, y176, n176⟩
            refine And.intro (fun h179 => ?_) (fun h179 => ?_)
            · replace h179 := fc_b0.mp h179
              refine And.intro rfl ?_
              have el : ps_line s n A i = ps_place s n A i := by rw [ps_line, if_pos h42]
              obtain ⟨g1, ff⟩ := n176 h179
              rw [ps_ld, if_neg h32, el, e]
              simp only
              rw [if_neg g1]
              exact ⟨rfl, (hF.tr F99).ff ff, congrArg (fun z => some (Value.int z)) ff.2.2.2⟩
            · replace h179 := fc_b1.mp h179
              have el : ps_line s n A i = ps_place s n A i := by rw [ps_line, if_pos h42]
              obtain ⟨g1, t1, k1⟩ := y176 h179
              rw [ps_ld, if_neg h32, el, e]
              simp only
              rw [if_pos g1]
              exact ih (k + 1) _ _ (q.2 + 1) q.1 _ _ (by omega) (fc_inc k) (ps_line_I hI (el.trans e)) ((hF.tr F99).tm t1) (R9.tm hb t1) k1
        · replace h42 := (fc_ofI 129 (by decide)).mp h42
          refine And.intro rfl (Exists.intro _ (And.intro (c_readPath hW hL hb hB hR hk) ?_))
          rintro v110 m99 l99 r110 q110
          obtain ⟨z99, rfl, rfl, F99, y99, n99⟩ := q110.bq
          refine And.intro (fun h170 => ?_) (fun h170 => ?_)
          · replace h170 := fc_b0.mp h170
            refine And.intro rfl ?_
            have el : ps_line s n A i = ps_path s n A i := by rw [ps_line, if_neg (by rw [h42]; decide), if_pos h42]
            obtain ⟨f, e, e7⟩ := n99 h170
            rw [ps_ld, if_neg h32, el, e]
            exact ⟨rfl, hF.tr F99, congrArg (fun z => some (Value.int z)) e7⟩
          · replace h170 := fc_b1.mp h170
            obtain ⟨q, e, R9, k9⟩ := y99 h170
            refine And.intro rfl (Exists.intro _ (And.intro (c_take hW k9 59) ?_))
            rintro _ m176 l176 _ ⟨z176, rfl, rfl, y176, n176⟩
            refine And.intro (fun h179 => ?_) (fun h179 => ?_)
            · replace h179 := fc_b0.mp h179
              refine And.intro rfl ?_
              have el : ps_line s n A i = ps_path s n A i := by rw [ps_line, if_neg (by rw [h42]; decide), if_pos h42]
              obtain ⟨g1, ff⟩ := n176 h179
              rw [ps_ld, if_neg h32, el, e]
              simp only
              rw [if_neg g1]
              exact ⟨rfl, (hF.tr F99).ff ff, congrArg (fun z => some (Value.int z)) ff.2.2.2⟩
            · replace h179 := fc_b1.mp h179
              have el : ps_line s n A i = ps_path s n A i := by rw [ps_line, if_neg (by rw [h42]; decide), if_pos h42]
              obtain ⟨g1, t1, k1⟩ := y176 h179
              rw [ps_ld, if_neg h32, el, e]
              simp only
              rw [if_pos g1]
              exact ih (k + 1) _ _ (q.2 + 1) q.1 _ _ (by omega) (fc_inc k) (ps_line_I hI (el.trans e)) ((hF.tr F99).tm t1) (R9.tm hb t1) k1
        · replace h42 := (fc_ofI 130 (by decide)).mp h42
          refine And.intro rfl (Exists.intro _ (And.intro (c_readPerson hW hL hb hB hR hk) ?_))
          rintro v121 m99 l99 r121 q121
          obtain ⟨z99, rfl, rfl, F99, y99, n99⟩ := q121.bq
          refine And.intro (fun h170 => ?_) (fun h170 => ?_)
          · replace h170 := fc_b0.mp h170
            refine And.intro rfl ?_
            have el : ps_line s n A i = ps_person s n A i := by rw [ps_line, if_neg (by rw [h42]; decide), if_neg (by rw [h42]; decide), if_pos h42]
            obtain ⟨f, e, e7⟩ := n99 h170
            rw [ps_ld, if_neg h32, el, e]
            exact ⟨rfl, hF.tr F99, congrArg (fun z => some (Value.int z)) e7⟩
          · replace h170 := fc_b1.mp h170
            obtain ⟨q, e, R9, k9⟩ := y99 h170
            refine And.intro rfl (Exists.intro _ (And.intro (c_take hW k9 59) ?_))
            rintro _ m176 l176 _ ⟨z176, rfl, rfl, y176, n176⟩
            refine And.intro (fun h179 => ?_) (fun h179 => ?_)
            · replace h179 := fc_b0.mp h179
              refine And.intro rfl ?_
              have el : ps_line s n A i = ps_person s n A i := by rw [ps_line, if_neg (by rw [h42]; decide), if_neg (by rw [h42]; decide), if_pos h42]
              obtain ⟨g1, ff⟩ := n176 h179
              rw [ps_ld, if_neg h32, el, e]
              simp only
              rw [if_neg g1]
              exact ⟨rfl, (hF.tr F99).ff ff, congrArg (fun z => some (Value.int z)) ff.2.2.2⟩
            · replace h179 := fc_b1.mp h179
              have el : ps_line s n A i = ps_person s n A i := by rw [ps_line, if_neg (by rw [h42]; decide), if_neg (by rw [h42]; decide), if_pos h42]
              obtain ⟨g1, t1, k1⟩ := y176 h179
              rw [ps_ld, if_neg h32, el, e]
              simp only
              rw [if_pos g1]
              exact ih (k + 1) _ _ (q.2 + 1) q.1 _ _ (by omega) (fc_inc k) (ps_line_I hI (el.trans e)) ((hF.tr F99).tm t1) (R9.tm hb t1) k1
        · replace h42 := (fc_ofI 131 (by decide)).mp h42
          refine And.intro rfl (Exists.intro _ (And.intro (c_failk hW hk 1) ?_))
          rintro _ m164 l164 _ ⟨rfl, rfl, ff164⟩
          refine And.intro (fun h170 => ?_) (fun h170 => ?_)
          · refine And.intro rfl ?_
            have el : ps_line s n A i = .error (tF s n 1 i) := by rw [ps_line, if_neg (by rw [h42]; decide), if_neg (by rw [h42]; decide), if_neg (by rw [h42]; decide), if_neg (by rw [h42]; decide), if_neg (by rw [h42]; decide), if_neg (by rw [h42]; decide)]
            rw [ps_ld, if_neg h32, el]
            exact ⟨rfl, hF.ff ff164, congrArg (fun z => some (Value.int z)) ff164.2.2.2⟩
          · exact absurd rfl h170
        · replace h42 := (fc_ofI 132 (by decide)).mp h42
          refine And.intro rfl (Exists.intro _ (And.intro (c_failk hW hk 1) ?_))
          rintro _ m164 l164 _ ⟨rfl, rfl, ff164⟩
          refine And.intro (fun h170 => ?_) (fun h170 => ?_)
          · refine And.intro rfl ?_
            have el : ps_line s n A i = .error (tF s n 1 i) := by rw [ps_line, if_neg (by rw [h42]; decide), if_neg (by rw [h42]; decide), if_neg (by rw [h42]; decide), if_neg (by rw [h42]; decide), if_neg (by rw [h42]; decide), if_neg (by rw [h42]; decide)]
            rw [ps_ld, if_neg h32, el]
            exact ⟨rfl, hF.ff ff164, congrArg (fun z => some (Value.int z)) ff164.2.2.2⟩
          · exact absurd rfl h170
        · replace h42 := (fc_ofI 133 (by decide)).mp h42
          refine And.intro rfl (Exists.intro _ (And.intro (c_readThing hW hL hb hB hR hk) ?_))
          rintro v132 m99 l99 r132 q132
          obtain ⟨z99, rfl, rfl, F99, y99, n99⟩ := q132.bq
          refine And.intro (fun h170 => ?_) (fun h170 => ?_)
          · replace h170 := fc_b0.mp h170
            refine And.intro rfl ?_
            have el : ps_line s n A i = ps_thing s n A i := by rw [ps_line, if_neg (by rw [h42]; decide), if_neg (by rw [h42]; decide), if_neg (by rw [h42]; decide), if_pos h42]
            obtain ⟨f, e, e7⟩ := n99 h170
            rw [ps_ld, if_neg h32, el, e]
            exact ⟨rfl, hF.tr F99, congrArg (fun z => some (Value.int z)) e7⟩
          · replace h170 := fc_b1.mp h170
            obtain ⟨q, e, R9, k9⟩ := y99 h170
            refine And.intro rfl (Exists.intro _ (And.intro (c_take hW k9 59) ?_))
            rintro _ m176 l176 _ ⟨z176, rfl, rfl, y176, n176⟩
            refine And.intro (fun h179 => ?_) (fun h179 => ?_)
            · replace h179 := fc_b0.mp h179
              refine And.intro rfl ?_
              have el : ps_line s n A i = ps_thing s n A i := by rw [ps_line, if_neg (by rw [h42]; decide), if_neg (by rw [h42]; decide), if_neg (by rw [h42]; decide), if_pos h42]
              obtain ⟨g1, ff⟩ := n176 h179
              rw [ps_ld, if_neg h32, el, e]
              simp only
              rw [if_neg g1]
              exact ⟨rfl, (hF.tr F99).ff ff, congrArg (fun z => some (Value.int z)) ff.2.2.2⟩
            · replace h179 := fc_b1.mp h179
              have el : ps_line s n A i = ps_thing s n A i := by rw [ps_line, if_neg (by rw [h42]; decide), if_neg (by rw [h42]; decide), if_neg (by rw [h42]; decide), if_pos h42]
              obtain ⟨g1, t1, k1⟩ := y176 h179
              rw [ps_ld, if_neg h32, el, e]
              simp only
              rw [if_pos g1]
              exact ih (k + 1) _ _ (q.2 + 1) q.1 _ _ (by omega) (fc_inc k) (ps_line_I hI (el.trans e)) ((hF.tr F99).tm t1) (R9.tm hb t1) k1
        · replace h42 := (fc_ofI 134 (by decide)).mp h42
          refine And.intro rfl (Exists.intro _ (And.intro (c_failk hW hk 1) ?_))
          rintro _ m164 l164 _ ⟨rfl, rfl, ff164⟩
          refine And.intro (fun h170 => ?_) (fun h170 => ?_)
          · refine And.intro rfl ?_
            have el : ps_line s n A i = .error (tF s n 1 i) := by rw [ps_line, if_neg (by rw [h42]; decide), if_neg (by rw [h42]; decide), if_neg (by rw [h42]; decide), if_neg (by rw [h42]; decide), if_neg (by rw [h42]; decide), if_neg (by rw [h42]; decide)]
            rw [ps_ld, if_neg h32, el]
            exact ⟨rfl, hF.ff ff164, congrArg (fun z => some (Value.int z)) ff164.2.2.2⟩
          · exact absurd rfl h170
        · replace h42 := (fc_ofI 135 (by decide)).mp h42
          refine And.intro rfl (Exists.intro _ (And.intro (c_failk hW hk 1) ?_))
          rintro _ m164 l164 _ ⟨rfl, rfl, ff164⟩
          refine And.intro (fun h170 => ?_) (fun h170 => ?_)
          · refine And.intro rfl ?_
            have el : ps_line s n A i = .error (tF s n 1 i) := by rw [ps_line, if_neg (by rw [h42]; decide), if_neg (by rw [h42]; decide), if_neg (by rw [h42]; decide), if_neg (by rw [h42]; decide), if_neg (by rw [h42]; decide), if_neg (by rw [h42]; decide)]
            rw [ps_ld, if_neg h32, el]
            exact ⟨rfl, hF.ff ff164, congrArg (fun z => some (Value.int z)) ff164.2.2.2⟩
          · exact absurd rfl h170
        · replace h42 := (fc_ofI 136 (by decide)).mp h42
          refine And.intro rfl (Exists.intro _ (And.intro (c_readSmoke hW hL hb hB hR hk) ?_))
          rintro v143 m99 l99 r143 q143
          obtain ⟨z99, rfl, rfl, F99, y99, n99⟩ := q143.bq
          refine And.intro (fun h170 => ?_) (fun h170 => ?_)
          · replace h170 := fc_b0.mp h170
            refine And.intro rfl ?_
            have el : ps_line s n A i = ps_smoke s n A i := by rw [ps_line, if_neg (by rw [h42]; decide), if_neg (by rw [h42]; decide), if_neg (by rw [h42]; decide), if_neg (by rw [h42]; decide), if_pos h42]
            obtain ⟨f, e, e7⟩ := n99 h170
            rw [ps_ld, if_neg h32, el, e]
            exact ⟨rfl, hF.tr F99, congrArg (fun z => some (Value.int z)) e7⟩
          · replace h170 := fc_b1.mp h170
            obtain ⟨q, e, R9, k9⟩ := y99 h170
            refine And.intro rfl (Exists.intro _ (And.intro (c_take hW k9 59) ?_))
            rintro _ m176 l176 _ ⟨z176, rfl, rfl, y176, n176⟩
            refine And.intro (fun h179 => ?_) (fun h179 => ?_)
            · replace h179 := fc_b0.mp h179
              refine And.intro rfl ?_
              have el : ps_line s n A i = ps_smoke s n A i := by rw [ps_line, if_neg (by rw [h42]; decide), if_neg (by rw [h42]; decide), if_neg (by rw [h42]; decide), if_neg (by rw [h42]; decide), if_pos h42]
              obtain ⟨g1, ff⟩ := n176 h179
              rw [ps_ld, if_neg h32, el, e]
              simp only
              rw [if_neg g1]
              exact ⟨rfl, (hF.tr F99).ff ff, congrArg (fun z => some (Value.int z)) ff.2.2.2⟩
            · replace h179 := fc_b1.mp h179
              have el : ps_line s n A i = ps_smoke s n A i := by rw [ps_line, if_neg (by rw [h42]; decide), if_neg (by rw [h42]; decide), if_neg (by rw [h42]; decide), if_neg (by rw [h42]; decide), if_pos h42]
              obtain ⟨g1, t1, k1⟩ := y176 h179
              rw [ps_ld, if_neg h32, el, e]
              simp only
              rw [if_pos g1]
              exact ih (k + 1) _ _ (q.2 + 1) q.1 _ _ (by omega) (fc_inc k) (ps_line_I hI (el.trans e)) ((hF.tr F99).tm t1) (R9.tm hb t1) k1
        · replace h42 := (fc_ofI 137 (by decide)).mp h42
          refine And.intro rfl (Exists.intro _ (And.intro (c_readBinds hW hL hb hI hR hk) ?_))
          rintro v154 m99 l99 r154 q154
          obtain ⟨z99, rfl, rfl, F99, y99, n99⟩ := q154.bq
          refine And.intro (fun h170 => ?_) (fun h170 => ?_)
          · replace h170 := fc_b0.mp h170
            refine And.intro rfl ?_
            have el : ps_line s n A i = ps_binds s n A i := by rw [ps_line, if_neg (by rw [h42]; decide), if_neg (by rw [h42]; decide), if_neg (by rw [h42]; decide), if_neg (by rw [h42]; decide), if_neg (by rw [h42]; decide), if_pos h42]
            obtain ⟨f, e, e7⟩ := n99 h170
            rw [ps_ld, if_neg h32, el, e]
            exact ⟨rfl, hF.tr F99, congrArg (fun z => some (Value.int z)) e7⟩
          · replace h170 := fc_b1.mp h170
            obtain ⟨q, e, R9, k9⟩ := y99 h170
            refine And.intro rfl (Exists.intro _ (And.intro (c_take hW k9 59) ?_))
            rintro _ m176 l176 _ ⟨z176, rfl, rfl, y176, n176⟩
            refine And.intro (fun h179 => ?_) (fun h179 => ?_)
            · replace h179 := fc_b0.mp h179
              refine And.intro rfl ?_
              have el : ps_line s n A i = ps_binds s n A i := by rw [ps_line, if_neg (by rw [h42]; decide), if_neg (by rw [h42]; decide), if_neg (by rw [h42]; decide), if_neg (by rw [h42]; decide), if_neg (by rw [h42]; decide), if_pos h42]
              obtain ⟨g1, ff⟩ := n176 h179
              rw [ps_ld, if_neg h32, el, e]
              simp only
              rw [if_neg g1]
              exact ⟨rfl, (hF.tr F99).ff ff, congrArg (fun z => some (Value.int z)) ff.2.2.2⟩
            · replace h179 := fc_b1.mp h179
              have el : ps_line s n A i = ps_binds s n A i := by rw [ps_line, if_neg (by rw [h42]; decide), if_neg (by rw [h42]; decide), if_neg (by rw [h42]; decide), if_neg (by rw [h42]; decide), if_neg (by rw [h42]; decide), if_pos h42]
              obtain ⟨g1, t1, k1⟩ := y176 h179
              rw [ps_ld, if_neg h32, el, e]
              simp only
              rw [if_pos g1]
              exact ih (k + 1) _ _ (q.2 + 1) q.1 _ _ (by omega) (fc_inc k) (ps_line_I hI (el.trans e)) ((hF.tr F99).tm t1) (R9.tm hb t1) k1

theorem c_landread (hW : fc_Wd mr) (hL : fc_L mr b) (hb : 200 ≤ b) (hT : fc_Tp mi n) (hs : mi 2 = s) : fc_R E mX1_read (d + 9) fc_sh [.ref 3, .ref 1, .ref b] mi ml mr (fc_dq b mi ml mr (ps_ld s n 1000 0 ps_0)) := by
  refine fc_met rfl (Nat.le_of_ble_eq_true rfl) (fc_run oX1_read (fun pc => pc == 20) 400 ?_)
  refine And.intro (fc_L_0 hL) (Exists.intro _ (And.intro (c_lclear hL hb) ?_))
  rintro _ m1 l1 _ ⟨rfl, rfl, rfl, f1, r1⟩
  refine And.intro rfl (And.intro (by first | exact Or.inl rfl | exact Or.inr rfl | exact fc_bb _ | assumption) ?_)
  refine And.intro rfl (And.intro (by first | exact Or.inl rfl | exact Or.inr rfl | exact fc_bb _ | assumption) ?_)
  refine And.intro rfl (Exists.intro _ (And.intro (c_topen hW (n := n) (s := s) ⟨by rw [fc_u_off _ _ _ (by decide), fc_u_off _ _ _ (by decide), f1 1 (by omega)]; exact hT.1, hT.2⟩ (by rw [fc_u_off _ _ _ (by decide), fc_u_off _ _ _ (by decide), f1 2 (by omega)]; exact hs)) ?_))
  rintro _ m15 l15 _ ⟨rfl, rfl, f15, g15, e15, k15⟩
  have F15 : fc_Fm b mi m15 ml l15 := ⟨fun x a1 a2 a3 a4 a5 => by rw [f15 x a1, fc_u_off _ _ _ a2, fc_u_off _ _ _ a2, f1 x a5], fun x a1 _ => g15 x a1, by rw [k15.2.1, hT.1]⟩
  have R15 : fc_RC ps_0 m15 l15 b := by
    refine r1 m15 l15 ?_ ?_ (fun x h1 h2 => ?_)
    · rw [f15 3 (by decide), fc_u_ne _ _ _ (by decide), fc_u_at]
    · rw [f15 3 (by decide), fc_u_at]
    · rw [f15 x (by omega), fc_u_off _ _ _ (by omega), fc_u_off _ _ _ (by omega)]
  exact l_landread hW hL hb 1000 0 _ _ 0 ps_0 _ _ (by omega) rfl ⟨ps_0B, fun _ => rfl⟩ F15 R15 k15

end M40
