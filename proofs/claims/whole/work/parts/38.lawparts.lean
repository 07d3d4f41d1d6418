/-! ===== the law's reader: what waits (the last first), what is written (the last first) ===== -/
section M38
variable {E : fc_E} {d : Nat} {mi : fc_Mi} {ml : fc_Ml} {mr : fc_Mr} {s : Nat → Int32} {n i b : Nat}
/-- a row holds a list, its last at the top -/
def fc_St (r : Nat → Int32) : List Int32 → Prop
  | [] => True
  | x :: w => r w.length = x ∧ fc_St r w
theorem fc_St.cg {r r' : Nat → Int32} : ∀ {w : List Int32}, (∀ j, j < w.length → r' j = r j) → fc_St r w → fc_St r' w
  | [], _, _ => trivial
  | x :: w, h, q => ⟨by rw [h _ (Nat.lt_succ_self _)]; exact q.1, fc_St.cg (fun j hj => h j (Nat.lt_succ_of_lt hj)) q.2⟩
theorem fc_St.get {r : Nat → Int32} : ∀ {w : List Int32} (j : Nat), fc_St r w → j < w.length → r j = w.reverse.getD j 0
  | [], j, _, h => absurd h (Nat.not_lt_zero _)
  | x :: w, j, q, h => by
    rw [List.reverse_cons, List.getD_eq_getElem?_getD]
    rcases Nat.lt_or_ge j w.length with k | k
    · rw [List.getElem?_append_left (by simpa using k), ← List.getD_eq_getElem?_getD]
      exact fc_St.get j q.2 k
    · have e : j = w.length := by simp at h; omega
      rw [List.getElem?_append_right (by simpa using k), e]
      simp [q.1]
def ps_push (w : List Int32) (x : Int32) : List Int32 := if w.length < 64 then x :: w else w
def ps_wr (o : List Int32) (z : Int32) : List Int32 := if o.length < 1000 then z :: o else o
def ps_rk (x : Int32) : Int32 := if x = 42 then 4 else if x = 43 then 3 else if x = 45 then 3 else if x = 60 then 2 else if x = 61 then 2 else if x = 147 then 1 else if x = 148 then 1 else 0
def ps_cn : List Int32 → Int32 → List Int32 → List Int32 × Int32 × List Int32
  | [], dp, o => ([], dp, o)
  | x :: w, dp, o => if x = 146 then ps_cn w (dp - 1) (ps_wr o (-146)) else (x :: w, dp, o)
def ps_wd (k : Int32) : List Int32 → List Int32 → List Int32 × List Int32
  | [], o => ([], o)
  | x :: w, o => if ps_rk x < k then (x :: w, o) else ps_wd k w (ps_wr o (-x))
def fc_Lw (w : List Int32) (mi : fc_Mi) : Prop := mi 4 1 = nI w.length ∧ w.length ≤ 64 ∧ fc_St (mi 5) w
def fc_Lo (o : List Int32) (mi : fc_Mi) (b : Nat) : Prop := mi (b + 10) 2 = nI o.length ∧ o.length ≤ 1000 ∧ fc_St (mi (b + 11)) o
/-- what the law's reader may move, the tape aside -/
def fc_Fl (b : Nat) (mi mi' : fc_Mi) : Prop := ∀ x, x ≠ 4 → x ≠ 5 → x ≠ b + 10 → x ≠ b + 11 → mi' x = mi x
def fc_RL (c : List Int32 × Int32 × Bool × List Int32) (mi : fc_Mi) (b : Nat) : Prop := fc_Lw c.1 mi ∧ (mi 4 2 = c.2.1 ∧ mi 4 3 = fc_b c.2.2.1) ∧ fc_Lo c.2.2.2 mi b
theorem c_rankOf (x : Int32) : fc_R E mX3_rankOf d fc_sh [.int x] mi ml mr (fc_is (some (.int (ps_rk x))) mi ml mr) := by
  refine fc_met rfl (Nat.le_of_ble_eq_true rfl) (fc_run oX3_rankOf (fun _ => false) 400 ?_)
  refine And.intro (fun h1 => ?_) (fun h1_0 => And.intro (fun h1 => ?_) (fun h1_1 => And.intro (fun h1 => ?_) (fun h1_2 => And.intro (fun h1 => ?_) (fun h1_3 => And.intro (fun h1 => ?_) (fun h1_4 => And.intro (fun h1 => ?_) (fun h1_5 => And.intro (fun h1 => ?_) (fun h1_6 => ?_)))))))
  · replace h1 := (fc_toI 42 (by decide)).mp h1
    exact ⟨by simp [ps_rk, h1], rfl, rfl, rfl⟩
  · replace h1_0 : ¬ x = 42 := fun q => h1_0 ((fc_toI 42 (by decide)).mpr q)
    replace h1 := (fc_toI 43 (by decide)).mp h1
    exact ⟨by simp [ps_rk, h1, h1_0], rfl, rfl, rfl⟩
  · replace h1_0 : ¬ x = 42 := fun q => h1_0 ((fc_toI 42 (by decide)).mpr q)
    replace h1_1 : ¬ x = 43 := fun q => h1_1 ((fc_toI 43 (by decide)).mpr q)
    replace h1 := (fc_toI 45 (by decide)).mp h1
    exact ⟨by simp [ps_rk, h1, h1_0, h1_1], rfl, rfl, rfl⟩
  · replace h1_0 : ¬ x = 42 := fun q => h1_0 ((fc_toI 42 (by decide)).mpr q)
    replace h1_1 : ¬ x = 43 := fun q => h1_1 ((fc_toI 43 (by decide)).mpr q)
    replace h1_2 : ¬ x = 45 := fun q => h1_2 ((fc_toI 45 (by decide)).mpr q)
    replace h1 := (fc_toI 60 (by decide)).mp h1
    exact ⟨by simp [ps_rk, h1, h1_0, h1_1, h1_2], rfl, rfl, rfl⟩
  · replace h1_0 : ¬ x = 42 := fun q => h1_0 ((fc_toI 42 (by decide)).mpr q)
    replace h1_1 : ¬ x = 43 := fun q => h1_1 ((fc_toI 43 (by decide)).mpr q)
    replace h1_2 : ¬ x = 45 := fun q => h1_2 ((fc_toI 45 (by decide)).mpr q)
    replace h1_3 : ¬ x = 60 := fun q => h1_3 ((fc_toI 60 (by decide)).mpr q)
    replace h1 := (fc_toI 61 (by decide)).mp h1
    exact ⟨by simp [ps_rk, h1, h1_0, h1_1, h1_2, h1_3], rfl, rfl, rfl⟩
  · replace h1_0 : ¬ x = 42 := fun q => h1_0 ((fc_toI 42 (by decide)).mpr q)
    replace h1_1 : ¬ x = 43 := fun q => h1_1 ((fc_toI 43 (by decide)).mpr q)
    replace h1_2 : ¬ x = 45 := fun q => h1_2 ((fc_toI 45 (by decide)).mpr q)
    replace h1_3 : ¬ x = 60 := fun q => h1_3 ((fc_toI 60 (by decide)).mpr q)
    replace h1_4 : ¬ x = 61 := fun q => h1_4 ((fc_toI 61 (by decide)).mpr q)
    replace h1 := (fc_toI 147 (by decide)).mp h1
    exact ⟨by simp [ps_rk, h1, h1_0, h1_1, h1_2, h1_3, h1_4], rfl, rfl, rfl⟩
  · replace h1_0 : ¬ x = 42 := fun q => h1_0 ((fc_toI 42 (by decide)).mpr q)
    replace h1_1 : ¬ x = 43 := fun q => h1_1 ((fc_toI 43 (by decide)).mpr q)
    replace h1_2 : ¬ x = 45 := fun q => h1_2 ((fc_toI 45 (by decide)).mpr q)
    replace h1_3 : ¬ x = 60 := fun q => h1_3 ((fc_toI 60 (by decide)).mpr q)
    replace h1_4 : ¬ x = 61 := fun q => h1_4 ((fc_toI 61 (by decide)).mpr q)
    replace h1_5 : ¬ x = 147 := fun q => h1_5 ((fc_toI 147 (by decide)).mpr q)
    replace h1 := (fc_toI 148 (by decide)).mp h1
    exact ⟨by simp [ps_rk, h1, h1_0, h1_1, h1_2, h1_3, h1_4, h1_5], rfl, rfl, rfl⟩
  · replace h1_0 : ¬ x = 42 := fun q => h1_0 ((fc_toI 42 (by decide)).mpr q)
    replace h1_1 : ¬ x = 43 := fun q => h1_1 ((fc_toI 43 (by decide)).mpr q)
    replace h1_2 : ¬ x = 45 := fun q => h1_2 ((fc_toI 45 (by decide)).mpr q)
    replace h1_3 : ¬ x = 60 := fun q => h1_3 ((fc_toI 60 (by decide)).mpr q)
    replace h1_4 : ¬ x = 61 := fun q => h1_4 ((fc_toI 61 (by decide)).mpr q)
    replace h1_5 : ¬ x = 147 := fun q => h1_5 ((fc_toI 147 (by decide)).mpr q)
    replace h1_6 : ¬ x = 148 := fun q => h1_6 ((fc_toI 148 (by decide)).mpr q)
    exact ⟨by simp [ps_rk, h1_0, h1_1, h1_2, h1_3, h1_4, h1_5, h1_6], rfl, rfl, rfl⟩

theorem c_write (hL : fc_L mr b) {o : List Int32} (hO : fc_Lo o mi b) (z : Int32) : fc_R E mX2_write d fc_sh [.ref (b + 10), .int z] mi ml mr (fun v mi' ml' mr' => v = none ∧ ml = ml' ∧ mr = mr' ∧ (∀ x, x ≠ b + 10 → x ≠ b + 11 → mi' x = mi x) ∧ fc_Lo (ps_wr o z) mi' b) := by
  obtain ⟨h1, h2, h3⟩ := hO
  refine fc_met rfl (Nat.le_of_ble_eq_true rfl) (fc_run oX2_write (fun _ => false) 400 ?_)
  refine And.intro (fc_L_10 hL) ?_
  rw [h1]
  refine And.intro (fun h7 => ?_) (fun h7 => ?_)
  · have q : ¬ o.length < 1000 := fun q => absurd h7 (nI_ge (b := 1000) q (by omega))
    refine ⟨rfl, rfl, rfl, fun _ _ _ => rfl, ?_⟩
    rw [ps_wr, if_neg q]
    exact ⟨h1, h2, h3⟩
  · have q7 : o.length < 1000 := by
      rcases Nat.lt_or_ge o.length 1000 with q | q
      · exact q
      · exact absurd (show (1000 : Int32) ≤ nI o.length from nI_le (a := 1000) q (by omega)) h7
    refine And.intro (fc_L_10 hL) (Exists.intro _ (And.intro (fc_L_r10 hL) ?_))
    refine And.intro (fc_L_10 hL) ?_
    rw [h1]
    refine Exists.intro _ (Exists.intro _ (And.intro (fc_L_11 hL) (And.intro (fc_ix_nI (p := o.length) (by omega) (by omega)) ?_)))
    refine And.intro (fc_L_10 hL) ?_
    refine And.intro (fc_L_10 hL) ?_
    have q : o.length < 1000 := by
      rcases Nat.lt_or_ge o.length 1000 with q | q
      · exact q
      · exact absurd (show (1000 : Int32) ≤ nI o.length from nI_le (a := 1000) q (by omega)) h7
    refine ⟨rfl, rfl, rfl, fun x hx hy => ?_, ?_⟩
    · rw [fc_u_off _ _ _ hx, fc_u_off _ _ _ hy]
    · rw [ps_wr, if_pos q]
      refine ⟨?_, by simp; omega, ?_, ?_⟩
      · rw [fc_u_at, fc_u_off _ _ _ (show b + 10 ≠ b + 11 by omega), h1]
        exact nI_1 _
      · rw [fc_u_off _ _ _ (show b + 11 ≠ b + 10 by omega), fc_u_at]
      · rw [fc_u_off _ _ _ (show b + 11 ≠ b + 10 by omega), fc_u_row]
        exact h3.cg (fun j hj => if_neg (by omega))

theorem c_await (hW : fc_Wd mr) {w : List Int32} (hw : fc_Lw w mi) (k : Int32) : fc_R E mX3_await d fc_sh [.ref 4, .int k] mi ml mr (fun v mi' ml' mr' => v = none ∧ ml = ml' ∧ mr = mr' ∧ (∀ x, x ≠ 4 → x ≠ 5 → mi' x = mi x) ∧ mi' 4 2 = mi 4 2 ∧ mi' 4 3 = mi 4 3 ∧ fc_Lw (ps_push w k) mi') := by
  obtain ⟨h1, h2, h3⟩ := hw
  refine fc_met rfl (Nat.le_of_ble_eq_true rfl) (fc_run oX3_await (fun _ => false) 400 ?_)
  refine And.intro rfl ?_
  rw [h1]
  refine And.intro (fun h6 => ?_) (fun h6 => ?_)
  · have q : ¬ w.length < 64 := fun q => absurd h6 (nI_ge (b := 64) q (by omega))
    refine ⟨rfl, rfl, rfl, fun _ _ _ => rfl, rfl, rfl, ?_⟩
    rw [ps_push, if_neg q]
    exact ⟨h1, h2, h3⟩
  · have q6 : w.length < 64 := by
      rcases Nat.lt_or_ge w.length 64 with q | q
      · exact q
      · exact absurd (show (64 : Int32) ≤ nI w.length from nI_le (a := 64) q (by omega)) h6
    refine And.intro rfl (Exists.intro _ (And.intro (hW 4 0 5 rfl) ?_))
    refine And.intro rfl ?_
    rw [h1]
    refine Exists.intro _ (Exists.intro _ (And.intro rfl (And.intro (fc_ix_nI (p := w.length) (by omega) (by omega)) ?_)))
    refine And.intro rfl ?_
    refine And.intro rfl ?_
    refine ⟨rfl, rfl, rfl, fun x hx hy => ?_, ?_, ?_, ?_⟩
    · rw [fc_u_off _ _ _ hx, fc_u_off _ _ _ hy]
    · rw [fc_u_ne _ _ _ (by decide), fc_u_off _ _ _ (by decide)]
    · rw [fc_u_ne _ _ _ (by decide), fc_u_off _ _ _ (by decide)]
    · rw [ps_push, if_pos q6]
      refine ⟨?_, by simp; omega, ?_, ?_⟩
      · rw [fc_u_at, fc_u_off _ _ _ (by decide), h1]
        exact nI_1 _
      · rw [fc_u_off _ _ _ (by decide), fc_u_at]
      · rw [fc_u_off _ _ _ (by decide), fc_u_row]
        exact h3.cg (fun j hj => if_neg (by omega))

theorem l_closeNots (hW : fc_Wd mr) (hL : fc_L mr b) (hb : 200 ≤ b) (du : Bool) : ∀ (w : List Int32) (dp : Int32) (o : List Int32) (mm : fc_Mi), fc_Fl b mi mm → fc_RL (w, dp, du, o) mm b → fc_T E mX3_closeNots (d + 1) (0, 0) fc_sh 0 [some (.ref 4), some (.ref (b + 10))] [] mm ml mr (fun v mi' ml' mr' => v = none ∧ ml = ml' ∧ mr = mr' ∧ fc_Fl b mi mi' ∧ fc_RL ((ps_cn w dp o).1, (ps_cn w dp o).2.1, du, (ps_cn w dp o).2.2) mi' b) := by
  intro w
  induction w with
  | nil =>
    intro dp o mm hF hR
    obtain ⟨⟨w1, w2, w3⟩, ⟨p1, p2⟩, hO⟩ := id hR
    simp only at w1 w2 w3 p1 p2 hO
    refine fc_run oX3_closeNots (fun pc => pc == 0) 400 ?_
    refine And.intro rfl ?_
    rw [w1]
    refine And.intro (fun h4 => ?_) (fun h4 => ?_)
    · exact ⟨rfl, rfl, rfl, hF, hR⟩
    · exact absurd (show nI ([] : List Int32).length ≤ 0 from by decide) h4
  | cons x w ih =>
    intro dp o mm hF hR
    obtain ⟨⟨w1, w2, w3⟩, ⟨p1, p2⟩, hO⟩ := id hR
    simp only at w1 w2 w3 p1 p2 hO
    rw [List.length_cons] at w1 w2
    have e1 : nI (w.length + 1) - 1 = nI w.length := nI_pred _
    refine fc_run oX3_closeNots (fun pc => pc == 0) 400 ?_
    refine And.intro rfl ?_
    rw [w1]
    refine And.intro (fun h4 => ?_) (fun h4 => ?_)
    · exact absurd h4 (show ¬ nI (w.length + 1) ≤ 0 from nI_nle (by omega) (by omega))
    · refine And.intro rfl (Exists.intro _ (And.intro (hW 4 0 5 rfl) ?_))
      refine And.intro rfl ?_
      rw [w1]
      refine Exists.intro _ (Exists.intro _ (And.intro rfl (And.intro (show fc_ix (nI (w.length + 1) - 1) 64 w.length from by rw [e1]; exact fc_ix_nI (by omega) (by omega)) ?_)))
      rw [w3.1]
      refine And.intro (fun h21 => ?_) (fun h21 => ?_)
      · refine And.intro (fc_L_10 hL) (Exists.intro _ (And.intro (c_write hL hO _) ?_))
        rintro _ m28 l28 _ ⟨rfl, rfl, rfl, g4, g5⟩
        refine And.intro rfl ?_
        refine And.intro rfl ?_
        refine And.intro rfl ?_
        refine And.intro rfl ?_
        have hR2 : fc_RL (w, (dp - 1), du, ps_wr o (-146)) (fc_u (fc_u m28 4 2 (m28 4 2 - 1)) 4 1 (fc_u m28 4 2 (m28 4 2 - 1) 4 1 - 1)) b := by
          refine ⟨⟨?_, by simp only; omega, ?_⟩, ⟨?_, ?_⟩, ?_, g5.2.1, ?_⟩
          · show (fc_u (fc_u m28 4 2 (m28 4 2 - 1)) 4 1 (fc_u m28 4 2 (m28 4 2 - 1) 4 1 - 1)) 4 1 = nI w.length
            rw [fc_u_at, fc_u_ne _ _ _ (by decide), g4 4 (by omega) (by omega), w1]
            exact e1
          · show fc_St ((fc_u (fc_u m28 4 2 (m28 4 2 - 1)) 4 1 (fc_u m28 4 2 (m28 4 2 - 1) 4 1 - 1)) 5) w
            rw [show (fc_u (fc_u m28 4 2 (m28 4 2 - 1)) 4 1 (fc_u m28 4 2 (m28 4 2 - 1) 4 1 - 1)) 5 = mm 5 from by rw [fc_u_off _ _ _ (by decide), fc_u_off _ _ _ (by decide), g4 5 (by omega) (by omega)]]
            exact w3.2
          · show (fc_u (fc_u m28 4 2 (m28 4 2 - 1)) 4 1 (fc_u m28 4 2 (m28 4 2 - 1) 4 1 - 1)) 4 2 = dp - 1
            rw [fc_u_ne _ _ _ (by decide), fc_u_at, g4 4 (by omega) (by omega), p1]
          · show (fc_u (fc_u m28 4 2 (m28 4 2 - 1)) 4 1 (fc_u m28 4 2 (m28 4 2 - 1) 4 1 - 1)) 4 3 = fc_b du
            rw [fc_u_ne _ _ _ (by decide), fc_u_ne _ _ _ (by decide), g4 4 (by omega) (by omega)]
            exact p2
          · show (fc_u (fc_u m28 4 2 (m28 4 2 - 1)) 4 1 (fc_u m28 4 2 (m28 4 2 - 1) 4 1 - 1)) (b + 10) 2 = _
            rw [fc_u_off _ _ _ (show b + 10 ≠ 4 by omega), fc_u_off _ _ _ (show b + 10 ≠ 4 by omega)]
            exact g5.1
          · show fc_St ((fc_u (fc_u m28 4 2 (m28 4 2 - 1)) 4 1 (fc_u m28 4 2 (m28 4 2 - 1) 4 1 - 1)) (b + 11)) _
            rw [fc_u_off _ _ _ (show b + 11 ≠ 4 by omega), fc_u_off _ _ _ (show b + 11 ≠ 4 by omega)]
            exact g5.2.2
        have hF2 : fc_Fl b mi (fc_u (fc_u m28 4 2 (m28 4 2 - 1)) 4 1 (fc_u m28 4 2 (m28 4 2 - 1) 4 1 - 1)) := fun y y1 y2 y3 y4 => by rw [fc_u_off _ _ _ y1, fc_u_off _ _ _ y1, g4 y y3 y4, hF y y1 y2 y3 y4]
        have z := ih (dp - 1) (ps_wr o (-146)) _ hF2 hR2
        rw [show ps_cn (x :: w) dp o = ps_cn w (dp - 1) (ps_wr o (-146)) from by rw [ps_cn, if_pos h21]]
        exact z
      · rw [show ps_cn (x :: w) dp o = (x :: w, dp, o) from by rw [ps_cn, if_neg h21]]
        exact ⟨rfl, rfl, rfl, hF, hR⟩

theorem c_closeNots (hW : fc_Wd mr) (hL : fc_L mr b) (hb : 200 ≤ b) {w : List Int32} {dp : Int32} {du : Bool} {o : List Int32} (hR : fc_RL (w, dp, du, o) mi b) : fc_R E mX3_closeNots (d + 1) fc_sh [.ref 4, .ref (b + 10)] mi ml mr (fun v mi' ml' mr' => v = none ∧ ml = ml' ∧ mr = mr' ∧ fc_Fl b mi mi' ∧ fc_RL ((ps_cn w dp o).1, (ps_cn w dp o).2.1, du, (ps_cn w dp o).2.2) mi' b) :=
  fc_met rfl (Nat.le_of_ble_eq_true rfl) (l_closeNots hW hL hb du w dp o mi (fun _ _ _ _ _ => rfl) hR)
theorem l_writeDown (hW : fc_Wd mr) (hL : fc_L mr b) (hb : 200 ≤ b) (k : Int32) (du : Bool) : ∀ (w : List Int32) (dp : Int32) (o : List Int32) (mm : fc_Mi), fc_Fl b mi mm → fc_RL (w, dp, du, o) mm b → fc_T E mX3_writeDown (d + 1) (0, 0) fc_sh 0 [some (.ref 4), some (.ref (b + 10)), some (.int k)] [] mm ml mr (fun v mi' ml' mr' => v = none ∧ ml = ml' ∧ mr = mr' ∧ fc_Fl b mi mi' ∧ fc_RL ((ps_wd k w o).1, dp, du, (ps_wd k w o).2) mi' b) := by
  intro w
  induction w with
  | nil =>
    intro dp o mm hF hR
    obtain ⟨⟨w1, w2, w3⟩, ⟨p1, p2⟩, hO⟩ := id hR
    simp only at w1 w2 w3 p1 p2 hO
    refine fc_run oX3_writeDown (fun pc => pc == 0) 400 ?_
    refine And.intro rfl ?_
    rw [w1]
    refine And.intro (fun h4 => ?_) (fun h4 => ?_)
    · exact ⟨rfl, rfl, rfl, hF, hR⟩
    · exact absurd (show nI ([] : List Int32).length ≤ 0 from by decide) h4
  | cons x w ih =>
    intro dp o mm hF hR
    obtain ⟨⟨w1, w2, w3⟩, ⟨p1, p2⟩, hO⟩ := id hR
    simp only at w1 w2 w3 p1 p2 hO
    rw [List.length_cons] at w1 w2
    have e1 : nI (w.length + 1) - 1 = nI w.length := nI_pred _
    refine fc_run oX3_writeDown (fun pc => pc == 0) 400 ?_
    refine And.intro rfl ?_
    rw [w1]
    refine And.intro (fun h4 => ?_) (fun h4 => ?_)
    · exact absurd h4 (show ¬ nI (w.length + 1) ≤ 0 from nI_nle (by omega) (by omega))
    · refine And.intro rfl (Exists.intro _ (And.intro (hW 4 0 5 rfl) ?_))
      refine And.intro rfl ?_
      rw [w1]
      refine Exists.intro _ (Exists.intro _ (And.intro rfl (And.intro (show fc_ix (nI (w.length + 1) - 1) 64 w.length from by rw [e1]; exact fc_ix_nI (by omega) (by omega)) ?_)))
      rw [w3.1]
      refine Exists.intro _ (And.intro (c_rankOf _) ?_)
      rintro _ _ _ _ ⟨rfl, rfl, rfl, rfl⟩
      refine And.intro (fun h22 => ?_) (fun h22 => ?_)
      · rw [show ps_wd k (x :: w) o = (x :: w, o) from by rw [ps_wd, if_pos h22]]
        exact ⟨rfl, rfl, rfl, hF, hR⟩
      · refine And.intro rfl (Exists.intro _ (And.intro (hW 4 0 5 rfl) ?_))
        refine And.intro rfl ?_
        rw [w1]
        refine Exists.intro _ (Exists.intro _ (And.intro rfl (And.intro (show fc_ix (nI (w.length + 1) - 1) 64 w.length from by rw [e1]; exact fc_ix_nI (by omega) (by omega)) ?_)))
        rw [w3.1]
        refine And.intro (fc_L_10 hL) (Exists.intro _ (And.intro (c_write hL hO (-x)) ?_))
        rintro _ m38 l38 _ ⟨rfl, rfl, rfl, g4, g5⟩
        refine And.intro rfl ?_
        refine And.intro rfl ?_
        have hR2 : fc_RL (w, dp, du, ps_wr o (-x)) (fc_u m38 4 1 (m38 4 1 - 1)) b := by
          refine ⟨⟨?_, by simp only; omega, ?_⟩, ⟨?_, ?_⟩, ?_, g5.2.1, ?_⟩
          · show (fc_u m38 4 1 (m38 4 1 - 1)) 4 1 = nI w.length
            rw [fc_u_at, g4 4 (by omega) (by omega), w1]
            exact e1
          · show fc_St ((fc_u m38 4 1 (m38 4 1 - 1)) 5) w
            rw [show (fc_u m38 4 1 (m38 4 1 - 1)) 5 = mm 5 from by rw [fc_u_off _ _ _ (by decide), g4 5 (by omega) (by omega)]]
            exact w3.2
          · show (fc_u m38 4 1 (m38 4 1 - 1)) 4 2 = dp
            rw [fc_u_ne _ _ _ (by decide), g4 4 (by omega) (by omega), p1]
          · show (fc_u m38 4 1 (m38 4 1 - 1)) 4 3 = fc_b du
            rw [fc_u_ne _ _ _ (by decide), g4 4 (by omega) (by omega)]
            exact p2
          · show (fc_u m38 4 1 (m38 4 1 - 1)) (b + 10) 2 = _
            rw [fc_u_off _ _ _ (show b + 10 ≠ 4 by omega)]
            exact g5.1
          · show fc_St ((fc_u m38 4 1 (m38 4 1 - 1)) (b + 11)) _
            rw [fc_u_off _ _ _ (show b + 11 ≠ 4 by omega)]
            exact g5.2.2
        have hF2 : fc_Fl b mi (fc_u m38 4 1 (m38 4 1 - 1)) := fun y y1 y2 y3 y4 => by rw [fc_u_off _ _ _ y1, g4 y y3 y4, hF y y1 y2 y3 y4]
        have z := ih dp (ps_wr o (-x)) _ hF2 hR2
        rw [show ps_wd k (x :: w) o = ps_wd k w (ps_wr o (-x)) from by rw [ps_wd, if_neg h22]]
        exact z

theorem c_writeDown (hW : fc_Wd mr) (hL : fc_L mr b) (hb : 200 ≤ b) (k : Int32) {w : List Int32} {dp : Int32} {du : Bool} {o : List Int32} (hR : fc_RL (w, dp, du, o) mi b) : fc_R E mX3_writeDown (d + 1) fc_sh [.ref 4, .ref (b + 10), .int k] mi ml mr (fun v mi' ml' mr' => v = none ∧ ml = ml' ∧ mr = mr' ∧ fc_Fl b mi mi' ∧ fc_RL ((ps_wd k w o).1, dp, du, (ps_wd k w o).2) mi' b) :=
  fc_met rfl (Nat.le_of_ble_eq_true rfl) (l_writeDown hW hL hb k du w dp o mi (fun _ _ _ _ _ => rfl) hR)
end M38
