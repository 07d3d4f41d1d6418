/-! ===== the lines of a land: what they ask, and the class's readers ===== -/
section M35
variable {E : fc_E} {d : Nat} {mi : fc_Mi} {ml : fc_Ml} {mr : fc_Mr} {s : Nat → Int32} {n i b : Nat}
/-- a land as it is told: counts (places, paths, persons, things, smoke told, binds told, signs of the law), rows, names -/
abbrev fc_Ab : Type := (Nat → Nat) × fc_Mi × fc_Ml
def fc_an (f : Nat → Nat) (k v : Nat) : Nat → Nat := fun x => if x = k then v else f x
def fc_AB (A : fc_Ab) : Prop := A.1 0 ≤ 7 ∧ A.1 1 ≤ 10 ∧ A.1 2 ≤ 5 ∧ A.1 3 ≤ 6 ∧ A.1 4 ≤ 1 ∧ A.1 5 ≤ 1 ∧ A.1 6 ≤ 1000
/-- the land at b is as told in A -/
def fc_RC (A : fc_Ab) (mi : fc_Mi) (ml : fc_Ml) (b : Nat) : Prop :=
  (mi b 10 = nI (A.1 0) ∧ mi b 11 = nI (A.1 1) ∧ mi b 12 = nI (A.1 2) ∧ mi b 13 = nI (A.1 3) ∧ mi b 14 = A.2.1 0 14) ∧ (mi 3 1 = nI (A.1 4) ∧ mi 3 2 = nI (A.1 5) ∧ mi (b + 10) 2 = nI (A.1 6)) ∧
  ((∀ j, j < 7 → mi (b + 4) j = A.2.1 4 j) ∧ (∀ j, j < A.1 2 → mi (b + 5) j = A.2.1 5 j ∧ mi (b + 6) j = A.2.1 6 j ∧ mi (b + 7) j = A.2.1 7 j) ∧ (∀ j, j < A.1 3 → mi (b + 8) j = A.2.1 8 j ∧ mi (b + 9) j = A.2.1 9 j) ∧ (∀ j, j < A.1 6 → mi (b + 11) j = A.2.1 11 j)) ∧
  ((∀ j, j < A.1 0 → ml (b + 1) j = A.2.2 1 j) ∧ (∀ j, j < A.1 2 → ml (b + 2) j = A.2.2 2 j) ∧ (∀ j, j < A.1 3 → ml (b + 3) j = A.2.2 3 j))
theorem fc_RC.ln {A : fc_Ab} (h : fc_RC A mi ml b) (hB : fc_AB A) : fc_LN mi b (A.1 2) (A.1 0) (A.1 3) := ⟨h.1.2.2.1, hB.2.2.1, h.1.1, hB.1, h.1.2.2.2.1, hB.2.2.2.1⟩
/-- it depends on its own cells alone -/
theorem fc_RC.cg {A : fc_Ab} {mm : fc_Mi} {mlm : fc_Ml} (h : fc_RC A mi ml b) (h3 : mm 3 = mi 3) (hi : ∀ x, b ≤ x → x ≤ b + 12 → mm x = mi x) (hl : ∀ x, b ≤ x → x ≤ b + 12 → mlm x = ml x) : fc_RC A mm mlm b := by
  unfold fc_RC at *
  rw [h3, hi b (by omega) (by omega), hi (b + 10) (by omega) (by omega), hi (b + 4) (by omega) (by omega), hi (b + 5) (by omega) (by omega), hi (b + 6) (by omega) (by omega), hi (b + 7) (by omega) (by omega), hi (b + 8) (by omega) (by omega), hi (b + 9) (by omega) (by omega), hi (b + 11) (by omega) (by omega), hl (b + 1) (by omega) (by omega), hl (b + 2) (by omega) (by omega), hl (b + 3) (by omega) (by omega)]
  exact h
theorem fc_RC.tm {A : fc_Ab} {mm : fc_Mi} {mlm : fc_Ml} (h : fc_RC A mi ml b) (hb : 200 ≤ b) (ht : fc_tm mi mm ml mlm) : fc_RC A mm mlm b :=
  h.cg (ht.1 3 (by decide)) (fun x h1 h2 => ht.1 x (by omega)) (fun x h1 h2 => ht.2.1 x (by omega))
/-- what a reader of lands may move -/
def fc_Fm (b : Nat) (mi mi' : fc_Mi) (ml ml' : fc_Ml) : Prop := (∀ x, x ≠ 1 → x ≠ 3 → x ≠ 4 → x ≠ 5 → (x < b ∨ b + 12 < x) → mi' x = mi x) ∧ (∀ x, x ≠ 1 → (x < b ∨ b + 12 < x) → ml' x = ml x) ∧ mi' 1 1 = mi 1 1
theorem fc_Fm.rf : fc_Fm b mi mi ml ml := ⟨fun _ _ _ _ _ _ => rfl, fun _ _ _ => rfl, rfl⟩
theorem fc_Fm.tr {m1 m2 : fc_Mi} {l1 l2 : fc_Ml} (h : fc_Fm b mi m1 ml l1) (h2 : fc_Fm b m1 m2 l1 l2) : fc_Fm b mi m2 ml l2 :=
  ⟨fun x a1 a2 a3 a4 a5 => (h2.1 x a1 a2 a3 a4 a5).trans (h.1 x a1 a2 a3 a4 a5), fun x a1 a2 => (h2.2.1 x a1 a2).trans (h.2.1 x a1 a2), h2.2.2.trans h.2.2⟩
theorem fc_Fm.tm {m1 m2 : fc_Mi} {l1 l2 : fc_Ml} (h : fc_Fm b mi m1 ml l1) (h2 : fc_tm m1 m2 l1 l2) : fc_Fm b mi m2 ml l2 :=
  h.tr ⟨fun x a1 _ _ _ _ => h2.1 x a1, fun x a1 _ => h2.2.1 x a1, h2.2.2.1⟩
theorem fc_Fm.ff {m1 m2 : fc_Mi} {l1 l2 : fc_Ml} {f : Int32} (h : fc_Fm b mi m1 ml l1) (h2 : fc_ff m1 m2 l1 l2 f) : fc_Fm b mi m2 ml l2 :=
  h.tr ⟨fun x a1 _ _ _ _ => h2.2.1 x a1, fun x _ _ => by rw [h2.1], h2.2.2.1⟩
theorem fc_Fm.u {m1 : fc_Mi} {l1 : fc_Ml} {x j : Nat} {v : Int32} (h : fc_Fm b mi m1 ml l1) (hx : x = 3 ∨ (b ≤ x ∧ x ≤ b + 12)) (hb : 200 ≤ b) : fc_Fm b mi (fc_u m1 x j v) ml l1 :=
  h.tr ⟨fun y _ a2 _ _ a5 => fc_u_off _ _ _ (by omega), fun _ _ _ => rfl, by rw [fc_u_off _ _ _ (by omega)]⟩
theorem fc_Fm.ul {m1 : fc_Mi} {l1 : fc_Ml} {x j : Nat} {v : Int64} (h : fc_Fm b mi m1 ml l1) (hx : b ≤ x ∧ x ≤ b + 12) : fc_Fm b mi m1 ml (fc_u l1 x j v) :=
  h.tr ⟨fun _ _ _ _ _ _ => rfl, fun y _ a2 => fc_u_off _ _ _ (by omega), rfl⟩
/-- what reading a line brings -/
def fc_pr (s : Nat → Int32) (n b : Nat) (mi : fc_Mi) (ml : fc_Ml) (mr : fc_Mr) (r : Except Int32 (fc_Ab × Nat)) : fc_Q := fun v mi' ml' mr' => mr = mr' ∧ fc_Fm b mi mi' ml ml' ∧ (match r with | .error f => v = some (.int 0) ∧ mi' 1 7 = f | .ok q => v = some (.int 1) ∧ fc_RC q.1 mi' ml' b ∧ fc_Tk s mi' ml' n q.2)
theorem sp_fi_cg {f g : Nat → Int64} {w : Int64} : ∀ (j i : Nat), (∀ k, i ≤ k → k < i + j → f k = g k) → sp_fi f w j i = sp_fi g w j i
  | 0, _, _ => rfl
  | j + 1, i, h => by
    unfold sp_fi
    rw [h i (Nat.le_refl _) (by omega), sp_fi_cg j (i + 1) (fun k h1 h2 => h k (by omega) (by omega))]
theorem sp_fi_r {f : Nat → Int64} {w : Int64} : ∀ (j i : Nat), ¬ sp_fi f w j i = -1 → ∃ k, i ≤ k ∧ k < i + j ∧ sp_fi f w j i = nI k ∧ f k = w
  | 0, _, h => absurd rfl h
  | j + 1, i, h => by
    unfold sp_fi at h ⊢
    by_cases q : f i = w
    · exact ⟨i, Nat.le_refl _, by omega, by rw [if_pos q], q⟩
    · rw [if_neg q] at h
      rw [if_neg q]
      obtain ⟨k, h1, h2, h3, h4⟩ := sp_fi_r j (i + 1) h
      exact ⟨k, by omega, by omega, h3, h4⟩
def ps_tl (A : fc_Ab) (w : Int64) : Bool := q_tl A.2.2 0 (A.1 0) (A.1 2) (A.1 3) w
theorem fc_RC.p {A : fc_Ab} (h : fc_RC A mi ml b) (w : Int64) : sp_fi (ml (b + 1)) w (A.1 0) 0 = sp_fi (A.2.2 1) w (A.1 0) 0 := sp_fi_cg _ _ (fun k _ h2 => h.2.2.2.1 k (by omega))
theorem fc_RC.e {A : fc_Ab} (h : fc_RC A mi ml b) (w : Int64) : sp_fi (ml (b + 2)) w (A.1 2) 0 = sp_fi (A.2.2 2) w (A.1 2) 0 := sp_fi_cg _ _ (fun k _ h2 => h.2.2.2.2.1 k (by omega))
theorem fc_RC.t {A : fc_Ab} (h : fc_RC A mi ml b) (w : Int64) : sp_fi (ml (b + 3)) w (A.1 3) 0 = sp_fi (A.2.2 3) w (A.1 3) 0 := sp_fi_cg _ _ (fun k _ h2 => h.2.2.2.2.2 k (by omega))
theorem fc_RC.tl {A : fc_Ab} (h : fc_RC A mi ml b) (w : Int64) : q_tl ml b (A.1 0) (A.1 2) (A.1 3) w = ps_tl A w := by
  unfold ps_tl q_tl
  rw [h.p, h.e, h.t]
def ps_place (s : Nat → Int32) (n : Nat) (A : fc_Ab) (i : Nat) : Except Int32 (fc_Ab × Nat) :=
  if 7 ≤ A.1 0 then .error (tF s n 5 i) else if tK s n (i + 1) = 4 then (if ps_tl A (tW s n (i + 1)) = true then .error (tF s n 3 (i + 1)) else .ok ((fc_an A.1 0 (A.1 0 + 1), A.2.1, fc_u A.2.2 1 (A.1 0) (tW s n (i + 1))), i + 2)) else .error (tF s n 1 (i + 1))
/-- two paths told as one -/
def ps_two (a : fc_Mi) (x z : Int32) : fc_Mi := fc_u (fc_u a 4 x.toNatClampNeg (a 4 x.toNatClampNeg ||| (1 : Int32) <<< (z &&& 31))) 4 z.toNatClampNeg ((fc_u a 4 x.toNatClampNeg (a 4 x.toNatClampNeg ||| (1 : Int32) <<< (z &&& 31))) 4 z.toNatClampNeg ||| (1 : Int32) <<< (x &&& 31))
def ps_path (s : Nat → Int32) (n : Nat) (A : fc_Ab) (i : Nat) : Except Int32 (fc_Ab × Nat) :=
  if 10 ≤ A.1 1 then .error (tF s n 5 i) else if tK s n (i + 1) = 4 then (if sp_fi (A.2.2 1) (tW s n (i + 1)) (A.1 0) 0 = -1 then .error (tF s n 2 (i + 1)) else
    if tK s n (i + 2) = 4 then (if sp_fi (A.2.2 1) (tW s n (i + 2)) (A.1 0) 0 = -1 then .error (tF s n 2 (i + 2)) else
      if sp_fi (A.2.2 1) (tW s n (i + 1)) (A.1 0) 0 = sp_fi (A.2.2 1) (tW s n (i + 2)) (A.1 0) 0 then .error (tF s n 3 (i + 2)) else
      if sp_in (A.2.1 4 (sp_fi (A.2.2 1) (tW s n (i + 1)) (A.1 0) 0).toNatClampNeg) (sp_fi (A.2.2 1) (tW s n (i + 2)) (A.1 0) 0) = true then .error (tF s n 3 (i + 2)) else
      .ok ((fc_an A.1 1 (A.1 1 + 1), ps_two A.2.1 (sp_fi (A.2.2 1) (tW s n (i + 1)) (A.1 0) 0) (sp_fi (A.2.2 1) (tW s n (i + 2)) (A.1 0) 0), A.2.2), i + 3))
    else .error (tF s n 1 (i + 2))) else .error (tF s n 1 (i + 1))
def ps_pa (A : fc_Ab) (kd ho wk : Int32) (w : Int64) : fc_Ab := (fc_an A.1 2 (A.1 2 + 1), fc_u (fc_u (fc_u A.2.1 5 (A.1 2) kd) 6 (A.1 2) ho) 7 (A.1 2) wk, fc_u A.2.2 2 (A.1 2) w)
def ps_person (s : Nat → Int32) (n : Nat) (A : fc_Ab) (i : Nat) : Except Int32 (fc_Ab × Nat) :=
  if 5 ≤ A.1 2 then .error (tF s n 5 i) else if tK s n (i + 1) = 4 then (if ps_tl A (tW s n (i + 1)) = true then .error (tF s n 3 (i + 1)) else
    if sp_from 142 (tK s n (i + 2)) 145 = true then (if tK s n (i + 3) = 131 then (if tK s n (i + 4) = 4 then (if sp_fi (A.2.2 1) (tW s n (i + 4)) (A.1 0) 0 = -1 then .error (tF s n 2 (i + 4)) else
      if tK s n (i + 5) = 132 then (if tK s n (i + 6) = 3 then (if sp_from 0 (tN s n (i + 6)) 30 = true then .ok (ps_pa A (tK s n (i + 2) - 142) (sp_fi (A.2.2 1) (tW s n (i + 4)) (A.1 0) 0) (tN s n (i + 6)) (tW s n (i + 1)), i + 7) else .error (tF s n 4 (i + 6))) else .error (tF s n 1 (i + 6))) else .error (tF s n 1 (i + 5)))
      else .error (tF s n 1 (i + 4))) else .error (tF s n 1 (i + 3))) else .error (tF s n 1 (i + 2))) else .error (tF s n 1 (i + 1))
def ps_ta (A : fc_Ab) (wo gi : Int32) (w : Int64) : fc_Ab := (fc_an A.1 3 (A.1 3 + 1), fc_u (fc_u A.2.1 8 (A.1 3) wo) 9 (A.1 3) gi, fc_u A.2.2 3 (A.1 3) w)
def ps_thing (s : Nat → Int32) (n : Nat) (A : fc_Ab) (i : Nat) : Except Int32 (fc_Ab × Nat) :=
  if 6 ≤ A.1 3 then .error (tF s n 5 i) else if tK s n (i + 1) = 4 then (if ps_tl A (tW s n (i + 1)) = true then .error (tF s n 3 (i + 1)) else
    if tK s n (i + 2) = 134 then (if tK s n (i + 3) = 3 then (if sp_from 0 (tN s n (i + 3)) 30 = true then
      (if tK s n (i + 4) = 135 then (if tK s n (i + 5) = 4 then (if sp_fi (A.2.2 2) (tW s n (i + 5)) (A.1 2) 0 = -1 then .error (tF s n 2 (i + 5)) else .ok (ps_ta A (tN s n (i + 3)) (sp_fi (A.2.2 2) (tW s n (i + 5)) (A.1 2) 0) (tW s n (i + 1)), i + 6)) else .error (tF s n 1 (i + 5))) else .error (tF s n 1 (i + 4)))
      else .error (tF s n 4 (i + 3))) else .error (tF s n 1 (i + 3))) else .error (tF s n 1 (i + 2))) else .error (tF s n 1 (i + 1))
def ps_smoke (s : Nat → Int32) (n : Nat) (A : fc_Ab) (i : Nat) : Except Int32 (fc_Ab × Nat) :=
  if A.1 4 = 0 then (if tK s n (i + 1) = 3 then (if sp_from 1 (tN s n (i + 1)) 60 = true then .ok ((fc_an A.1 4 1, fc_u A.2.1 0 14 (tN s n (i + 1)), A.2.2), i + 2) else .error (tF s n 4 (i + 1))) else .error (tF s n 1 (i + 1))) else .error (tF s n 3 i)
theorem fc_an_at (f : Nat → Nat) (k v : Nat) : fc_an f k v k = v := by unfold fc_an; rw [if_pos rfl]
theorem fc_an_ne (f : Nat → Nat) {k x : Nat} (v : Nat) (h : x ≠ k) : fc_an f k v x = f x := by unfold fc_an; rw [if_neg h]

theorem fc_RC.place {A : fc_Ab} (h : fc_RC A mi ml b) (hb : 200 ≤ b) (w : Int64) : fc_RC (fc_an A.1 0 (A.1 0 + 1), A.2.1, fc_u A.2.2 1 (A.1 0) w) (fc_u mi b 10 (nI (A.1 0 + 1))) (fc_u ml (b + 1) (A.1 0) w) b := by
  obtain ⟨⟨a1, a2, a3, a4, a5⟩, ⟨b1, b2, b3⟩, ⟨c1, c2, c3, c4⟩, ⟨d1, d2, d3⟩⟩ := h
  have hb3 : ¬ 3 = b := by omega
  refine ⟨⟨?_, ?_, ?_, ?_, ?_⟩, ⟨?_, ?_, ?_⟩, ⟨?_, ?_, ?_, ?_⟩, ?_, ?_, ?_⟩
  all_goals first
    | (simp [fc_u, fc_an, hb3, *]; done)
    | (intro j hj
       try simp only [fc_an, if_true, if_false] at hj
       try simp [fc_u, fc_an]
       first
         | (simp [*]; done)
         | exact c1 j hj
         | exact c2 j hj
         | exact c3 j hj
         | exact c4 j hj
         | exact d1 j hj
         | exact d2 j hj
         | exact d3 j hj
         | (by_cases e0 : j = A.1 0
            · simp [e0]
            · simp [e0]; exact d1 j (by omega))
         | (by_cases e0 : j = A.1 2
            · simp [e0, *]
            · simp [e0]; first | exact d2 j (by omega) | exact c2 j (by omega))
         | (by_cases e0 : j = A.1 3
            · simp [e0, *]
            · simp [e0]; first | exact d3 j (by omega) | exact c3 j (by omega))
         | (have e0 : ¬ j = A.1 2 := by omega
            simp [e0]
            first | exact d2 j hj | exact c2 j hj)
         | (have e0 : ¬ j = A.1 3 := by omega
            simp [e0]
            first | exact d3 j hj | exact c3 j hj))
theorem fc_RC.u5 {A : fc_Ab} (h : fc_RC A mi ml b) (hb : 200 ≤ b) (v : Int32) : fc_RC A (fc_u mi (b + 5) (A.1 2) v) ml b := by
  obtain ⟨⟨a1, a2, a3, a4, a5⟩, ⟨b1, b2, b3⟩, ⟨c1, c2, c3, c4⟩, ⟨d1, d2, d3⟩⟩ := h
  have hb3 : ¬ 3 = b := by omega
  have hb4 : ¬ 3 = b + 5 := by omega
  refine ⟨⟨?_, ?_, ?_, ?_, ?_⟩, ⟨?_, ?_, ?_⟩, ⟨?_, ?_, ?_, ?_⟩, ?_, ?_, ?_⟩
  all_goals first
    | (simp [fc_u, fc_an, hb3, *]; done)
    | (intro j hj
       try simp only [fc_an, if_true, if_false] at hj
       try simp [fc_u, fc_an]
       first
         | (simp [*]; done)
         | exact c1 j hj
         | exact c2 j hj
         | exact c3 j hj
         | exact c4 j hj
         | exact d1 j hj
         | exact d2 j hj
         | exact d3 j hj
         | (by_cases e0 : j = A.1 0
            · simp [e0]
            · simp [e0]; exact d1 j (by omega))
         | (by_cases e0 : j = A.1 2
            · simp [e0, *]
            · simp [e0]; first | exact d2 j (by omega) | exact c2 j (by omega))
         | (by_cases e0 : j = A.1 3
            · simp [e0, *]
            · simp [e0]; first | exact d3 j (by omega) | exact c3 j (by omega))
         | (have e0 : ¬ j = A.1 2 := by omega
            simp [e0]
            first | exact d2 j hj | exact c2 j hj)
         | (have e0 : ¬ j = A.1 3 := by omega
            simp [e0]
            first | exact d3 j hj | exact c3 j hj))
theorem fc_RC.u6 {A : fc_Ab} (h : fc_RC A mi ml b) (hb : 200 ≤ b) (v : Int32) : fc_RC A (fc_u mi (b + 6) (A.1 2) v) ml b := by
  obtain ⟨⟨a1, a2, a3, a4, a5⟩, ⟨b1, b2, b3⟩, ⟨c1, c2, c3, c4⟩, ⟨d1, d2, d3⟩⟩ := h
  have hb3 : ¬ 3 = b := by omega
  have hb4 : ¬ 3 = b + 6 := by omega
  refine ⟨⟨?_, ?_, ?_, ?_, ?_⟩, ⟨?_, ?_, ?_⟩, ⟨?_, ?_, ?_, ?_⟩, ?_, ?_, ?_⟩
  all_goals first
    | (simp [fc_u, fc_an, hb3, *]; done)
    | (intro j hj
       try simp only [fc_an, if_true, if_false] at hj
       try simp [fc_u, fc_an]
       first
         | (simp [*]; done)
         | exact c1 j hj
         | exact c2 j hj
         | exact c3 j hj
         | exact c4 j hj
         | exact d1 j hj
         | exact d2 j hj
         | exact d3 j hj
         | (by_cases e0 : j = A.1 0
            · simp [e0]
            · simp [e0]; exact d1 j (by omega))
         | (by_cases e0 : j = A.1 2
            · simp [e0, *]
            · simp [e0]; first | exact d2 j (by omega) | exact c2 j (by omega))
         | (by_cases e0 : j = A.1 3
            · simp [e0, *]
            · simp [e0]; first | exact d3 j (by omega) | exact c3 j (by omega))
         | (have e0 : ¬ j = A.1 2 := by omega
            simp [e0]
            first | exact d2 j hj | exact c2 j hj)
         | (have e0 : ¬ j = A.1 3 := by omega
            simp [e0]
            first | exact d3 j hj | exact c3 j hj))
theorem fc_RC.u7 {A : fc_Ab} (h : fc_RC A mi ml b) (hb : 200 ≤ b) (v : Int32) : fc_RC A (fc_u mi (b + 7) (A.1 2) v) ml b := by
  obtain ⟨⟨a1, a2, a3, a4, a5⟩, ⟨b1, b2, b3⟩, ⟨c1, c2, c3, c4⟩, ⟨d1, d2, d3⟩⟩ := h
  have hb3 : ¬ 3 = b := by omega
  have hb4 : ¬ 3 = b + 7 := by omega
  refine ⟨⟨?_, ?_, ?_, ?_, ?_⟩, ⟨?_, ?_, ?_⟩, ⟨?_, ?_, ?_, ?_⟩, ?_, ?_, ?_⟩
  all_goals first
    | (simp [fc_u, fc_an, hb3, *]; done)
    | (intro j hj
       try simp only [fc_an, if_true, if_false] at hj
       try simp [fc_u, fc_an]
       first
         | (simp [*]; done)
         | exact c1 j hj
         | exact c2 j hj
         | exact c3 j hj
         | exact c4 j hj
         | exact d1 j hj
         | exact d2 j hj
         | exact d3 j hj
         | (by_cases e0 : j = A.1 0
            · simp [e0]
            · simp [e0]; exact d1 j (by omega))
         | (by_cases e0 : j = A.1 2
            · simp [e0, *]
            · simp [e0]; first | exact d2 j (by omega) | exact c2 j (by omega))
         | (by_cases e0 : j = A.1 3
            · simp [e0, *]
            · simp [e0]; first | exact d3 j (by omega) | exact c3 j (by omega))
         | (have e0 : ¬ j = A.1 2 := by omega
            simp [e0]
            first | exact d2 j hj | exact c2 j hj)
         | (have e0 : ¬ j = A.1 3 := by omega
            simp [e0]
            first | exact d3 j hj | exact c3 j hj))
theorem fc_RC.u8 {A : fc_Ab} (h : fc_RC A mi ml b) (hb : 200 ≤ b) (v : Int32) : fc_RC A (fc_u mi (b + 8) (A.1 3) v) ml b := by
  obtain ⟨⟨a1, a2, a3, a4, a5⟩, ⟨b1, b2, b3⟩, ⟨c1, c2, c3, c4⟩, ⟨d1, d2, d3⟩⟩ := h
  have hb3 : ¬ 3 = b := by omega
  have hb4 : ¬ 3 = b + 8 := by omega
  refine ⟨⟨?_, ?_, ?_, ?_, ?_⟩, ⟨?_, ?_, ?_⟩, ⟨?_, ?_, ?_, ?_⟩, ?_, ?_, ?_⟩
  all_goals first
    | (simp [fc_u, fc_an, hb3, *]; done)
    | (intro j hj
       try simp only [fc_an, if_true, if_false] at hj
       try simp [fc_u, fc_an]
       first
         | (simp [*]; done)
         | exact c1 j hj
         | exact c2 j hj
         | exact c3 j hj
         | exact c4 j hj
         | exact d1 j hj
         | exact d2 j hj
         | exact d3 j hj
         | (by_cases e0 : j = A.1 0
            · simp [e0]
            · simp [e0]; exact d1 j (by omega))
         | (by_cases e0 : j = A.1 2
            · simp [e0, *]
            · simp [e0]; first | exact d2 j (by omega) | exact c2 j (by omega))
         | (by_cases e0 : j = A.1 3
            · simp [e0, *]
            · simp [e0]; first | exact d3 j (by omega) | exact c3 j (by omega))
         | (have e0 : ¬ j = A.1 2 := by omega
            simp [e0]
            first | exact d2 j hj | exact c2 j hj)
         | (have e0 : ¬ j = A.1 3 := by omega
            simp [e0]
            first | exact d3 j hj | exact c3 j hj))
theorem fc_RC.u9 {A : fc_Ab} (h : fc_RC A mi ml b) (hb : 200 ≤ b) (v : Int32) : fc_RC A (fc_u mi (b + 9) (A.1 3) v) ml b := by
  obtain ⟨⟨a1, a2, a3, a4, a5⟩, ⟨b1, b2, b3⟩, ⟨c1, c2, c3, c4⟩, ⟨d1, d2, d3⟩⟩ := h
  have hb3 : ¬ 3 = b := by omega
  have hb4 : ¬ 3 = b + 9 := by omega
  refine ⟨⟨?_, ?_, ?_, ?_, ?_⟩, ⟨?_, ?_, ?_⟩, ⟨?_, ?_, ?_, ?_⟩, ?_, ?_, ?_⟩
  all_goals first
    | (simp [fc_u, fc_an, hb3, *]; done)
    | (intro j hj
       try simp only [fc_an, if_true, if_false] at hj
       try simp [fc_u, fc_an]
       first
         | (simp [*]; done)
         | exact c1 j hj
         | exact c2 j hj
         | exact c3 j hj
         | exact c4 j hj
         | exact d1 j hj
         | exact d2 j hj
         | exact d3 j hj
         | (by_cases e0 : j = A.1 0
            · simp [e0]
            · simp [e0]; exact d1 j (by omega))
         | (by_cases e0 : j = A.1 2
            · simp [e0, *]
            · simp [e0]; first | exact d2 j (by omega) | exact c2 j (by omega))
         | (by_cases e0 : j = A.1 3
            · simp [e0, *]
            · simp [e0]; first | exact d3 j (by omega) | exact c3 j (by omega))
         | (have e0 : ¬ j = A.1 2 := by omega
            simp [e0]
            first | exact d2 j hj | exact c2 j hj)
         | (have e0 : ¬ j = A.1 3 := by omega
            simp [e0]
            first | exact d3 j hj | exact c3 j hj))
theorem fc_RC.l2 {A : fc_Ab} (h : fc_RC A mi ml b) (hb : 200 ≤ b) (w : Int64) : fc_RC A mi (fc_u ml (b + 2) (A.1 2) w) b := by
  obtain ⟨⟨a1, a2, a3, a4, a5⟩, ⟨b1, b2, b3⟩, ⟨c1, c2, c3, c4⟩, ⟨d1, d2, d3⟩⟩ := h
  have hb3 : ¬ 3 = b := by omega
  refine ⟨⟨?_, ?_, ?_, ?_, ?_⟩, ⟨?_, ?_, ?_⟩, ⟨?_, ?_, ?_, ?_⟩, ?_, ?_, ?_⟩
  all_goals first
    | (simp [fc_u, fc_an, hb3, *]; done)
    | (intro j hj
       try simp only [fc_an, if_true, if_false] at hj
       try simp [fc_u, fc_an]
       first
         | (simp [*]; done)
         | exact c1 j hj
         | exact c2 j hj
         | exact c3 j hj
         | exact c4 j hj
         | exact d1 j hj
         | exact d2 j hj
         | exact d3 j hj
         | (by_cases e0 : j = A.1 0
            · simp [e0]
            · simp [e0]; exact d1 j (by omega))
         | (by_cases e0 : j = A.1 2
            · simp [e0, *]
            · simp [e0]; first | exact d2 j (by omega) | exact c2 j (by omega))
         | (by_cases e0 : j = A.1 3
            · simp [e0, *]
            · simp [e0]; first | exact d3 j (by omega) | exact c3 j (by omega))
         | (have e0 : ¬ j = A.1 2 := by omega
            simp [e0]
            first | exact d2 j hj | exact c2 j hj)
         | (have e0 : ¬ j = A.1 3 := by omega
            simp [e0]
            first | exact d3 j hj | exact c3 j hj))
theorem fc_RC.l3 {A : fc_Ab} (h : fc_RC A mi ml b) (hb : 200 ≤ b) (w : Int64) : fc_RC A mi (fc_u ml (b + 3) (A.1 3) w) b := by
  obtain ⟨⟨a1, a2, a3, a4, a5⟩, ⟨b1, b2, b3⟩, ⟨c1, c2, c3, c4⟩, ⟨d1, d2, d3⟩⟩ := h
  have hb3 : ¬ 3 = b := by omega
  refine ⟨⟨?_, ?_, ?_, ?_, ?_⟩, ⟨?_, ?_, ?_⟩, ⟨?_, ?_, ?_, ?_⟩, ?_, ?_, ?_⟩
  all_goals first
    | (simp [fc_u, fc_an, hb3, *]; done)
    | (intro j hj
       try simp only [fc_an, if_true, if_false] at hj
       try simp [fc_u, fc_an]
       first
         | (simp [*]; done)
         | exact c1 j hj
         | exact c2 j hj
         | exact c3 j hj
         | exact c4 j hj
         | exact d1 j hj
         | exact d2 j hj
         | exact d3 j hj
         | (by_cases e0 : j = A.1 0
            · simp [e0]
            · simp [e0]; exact d1 j (by omega))
         | (by_cases e0 : j = A.1 2
            · simp [e0, *]
            · simp [e0]; first | exact d2 j (by omega) | exact c2 j (by omega))
         | (by_cases e0 : j = A.1 3
            · simp [e0, *]
            · simp [e0]; first | exact d3 j (by omega) | exact c3 j (by omega))
         | (have e0 : ¬ j = A.1 2 := by omega
            simp [e0]
            first | exact d2 j hj | exact c2 j hj)
         | (have e0 : ¬ j = A.1 3 := by omega
            simp [e0]
            first | exact d3 j hj | exact c3 j hj))
theorem fc_RC.person {A : fc_Ab} (h : fc_RC A mi ml b) (hb : 200 ≤ b) {kd ho wk : Int32} {w : Int64} (e5 : mi (b + 5) (A.1 2) = kd) (e6 : mi (b + 6) (A.1 2) = ho) (e7 : mi (b + 7) (A.1 2) = wk) (e2 : ml (b + 2) (A.1 2) = w) : fc_RC (ps_pa A kd ho wk w) (fc_u mi b 12 (nI (A.1 2 + 1))) ml b := by
  obtain ⟨⟨a1, a2, a3, a4, a5⟩, ⟨b1, b2, b3⟩, ⟨c1, c2, c3, c4⟩, ⟨d1, d2, d3⟩⟩ := h
  have hb3 : ¬ 3 = b := by omega
  unfold ps_pa
  refine ⟨⟨?_, ?_, ?_, ?_, ?_⟩, ⟨?_, ?_, ?_⟩, ⟨?_, ?_, ?_, ?_⟩, ?_, ?_, ?_⟩
  all_goals first
    | (simp [fc_u, fc_an, hb3, *]; done)
    | (intro j hj
       try simp only [fc_an, if_true, if_false] at hj
       try simp [fc_u, fc_an]
       first
         | (simp [*]; done)
         | exact c1 j hj
         | exact c2 j hj
         | exact c3 j hj
         | exact c4 j hj
         | exact d1 j hj
         | exact d2 j hj
         | exact d3 j hj
         | (by_cases e0 : j = A.1 0
            · simp [e0]
            · simp [e0]; exact d1 j (by omega))
         | (by_cases e0 : j = A.1 2
            · simp [e0, *]
            · simp [e0]; first | exact d2 j (by omega) | exact c2 j (by omega))
         | (by_cases e0 : j = A.1 3
            · simp [e0, *]
            · simp [e0]; first | exact d3 j (by omega) | exact c3 j (by omega))
         | (have e0 : ¬ j = A.1 2 := by omega
            simp [e0]
            first | exact d2 j hj | exact c2 j hj)
         | (have e0 : ¬ j = A.1 3 := by omega
            simp [e0]
            first | exact d3 j hj | exact c3 j hj))
theorem fc_RC.thing {A : fc_Ab} (h : fc_RC A mi ml b) (hb : 200 ≤ b) {wo gi : Int32} {w : Int64} (e8 : mi (b + 8) (A.1 3) = wo) (e9 : mi (b + 9) (A.1 3) = gi) (e2 : ml (b + 3) (A.1 3) = w) : fc_RC (ps_ta A wo gi w) (fc_u mi b 13 (nI (A.1 3 + 1))) ml b := by
  obtain ⟨⟨a1, a2, a3, a4, a5⟩, ⟨b1, b2, b3⟩, ⟨c1, c2, c3, c4⟩, ⟨d1, d2, d3⟩⟩ := h
  have hb3 : ¬ 3 = b := by omega
  unfold ps_ta
  refine ⟨⟨?_, ?_, ?_, ?_, ?_⟩, ⟨?_, ?_, ?_⟩, ⟨?_, ?_, ?_, ?_⟩, ?_, ?_, ?_⟩
  all_goals first
    | (simp [fc_u, fc_an, hb3, *]; done)
    | (intro j hj
       try simp only [fc_an, if_true, if_false] at hj
       try simp [fc_u, fc_an]
       first
         | (simp [*]; done)
         | exact c1 j hj
         | exact c2 j hj
         | exact c3 j hj
         | exact c4 j hj
         | exact d1 j hj
         | exact d2 j hj
         | exact d3 j hj
         | (by_cases e0 : j = A.1 0
            · simp [e0]
            · simp [e0]; exact d1 j (by omega))
         | (by_cases e0 : j = A.1 2
            · simp [e0, *]
            · simp [e0]; first | exact d2 j (by omega) | exact c2 j (by omega))
         | (by_cases e0 : j = A.1 3
            · simp [e0, *]
            · simp [e0]; first | exact d3 j (by omega) | exact c3 j (by omega))
         | (have e0 : ¬ j = A.1 2 := by omega
            simp [e0]
            first | exact d2 j hj | exact c2 j hj)
         | (have e0 : ¬ j = A.1 3 := by omega
            simp [e0]
            first | exact d3 j hj | exact c3 j hj))
theorem fc_RC.sm0 {A : fc_Ab} (h : fc_RC A mi ml b) (hb : 200 ≤ b)  : fc_RC (fc_an A.1 4 1, A.2.1, A.2.2) (fc_u mi 3 1 1) ml b := by
  obtain ⟨⟨a1, a2, a3, a4, a5⟩, ⟨b1, b2, b3⟩, ⟨c1, c2, c3, c4⟩, ⟨d1, d2, d3⟩⟩ := h
  have hb3 : ¬ 3 = b := by omega
  have hb4 : ¬ b = 3 := by omega
  have hn1 : nI 1 = 1 := rfl
  refine ⟨⟨?_, ?_, ?_, ?_, ?_⟩, ⟨?_, ?_, ?_⟩, ⟨?_, ?_, ?_, ?_⟩, ?_, ?_, ?_⟩
  all_goals first
    | (simp [fc_u, fc_an, hb3, *]; done)
    | (intro j hj
       try simp only [fc_an, if_true, if_false] at hj
       try simp [fc_u, fc_an]
       first
         | (simp [*]; done)
         | exact c1 j hj
         | exact c2 j hj
         | exact c3 j hj
         | exact c4 j hj
         | exact d1 j hj
         | exact d2 j hj
         | exact d3 j hj
         | (by_cases e0 : j = A.1 0
            · simp [e0]
            · simp [e0]; exact d1 j (by omega))
         | (by_cases e0 : j = A.1 2
            · simp [e0, *]
            · simp [e0]; first | exact d2 j (by omega) | exact c2 j (by omega))
         | (by_cases e0 : j = A.1 3
            · simp [e0, *]
            · simp [e0]; first | exact d3 j (by omega) | exact c3 j (by omega))
         | (have e0 : ¬ j = A.1 2 := by omega
            simp [e0]
            first | exact d2 j hj | exact c2 j hj)
         | (have e0 : ¬ j = A.1 3 := by omega
            simp [e0]
            first | exact d3 j hj | exact c3 j hj))
theorem fc_RC.sm1 {A : fc_Ab} (h : fc_RC A mi ml b) (hb : 200 ≤ b) (v : Int32) : fc_RC (A.1, fc_u A.2.1 0 14 v, A.2.2) (fc_u mi b 14 v) ml b := by
  obtain ⟨⟨a1, a2, a3, a4, a5⟩, ⟨b1, b2, b3⟩, ⟨c1, c2, c3, c4⟩, ⟨d1, d2, d3⟩⟩ := h
  have hb3 : ¬ 3 = b := by omega
  refine ⟨⟨?_, ?_, ?_, ?_, ?_⟩, ⟨?_, ?_, ?_⟩, ⟨?_, ?_, ?_, ?_⟩, ?_, ?_, ?_⟩
  all_goals first
    | (simp [fc_u, fc_an, hb3, *]; done)
    | (intro j hj
       try simp only [fc_an, if_true, if_false] at hj
       try simp [fc_u, fc_an]
       first
         | (simp [*]; done)
         | exact c1 j hj
         | exact c2 j hj
         | exact c3 j hj
         | exact c4 j hj
         | exact d1 j hj
         | exact d2 j hj
         | exact d3 j hj
         | (by_cases e0 : j = A.1 0
            · simp [e0]
            · simp [e0]; exact d1 j (by omega))
         | (by_cases e0 : j = A.1 2
            · simp [e0, *]
            · simp [e0]; first | exact d2 j (by omega) | exact c2 j (by omega))
         | (by_cases e0 : j = A.1 3
            · simp [e0, *]
            · simp [e0]; first | exact d3 j (by omega) | exact c3 j (by omega))
         | (have e0 : ¬ j = A.1 2 := by omega
            simp [e0]
            first | exact d2 j hj | exact c2 j hj)
         | (have e0 : ¬ j = A.1 3 := by omega
            simp [e0]
            first | exact d3 j hj | exact c3 j hj))
theorem fc_RC.bi0 {A : fc_Ab} (h : fc_RC A mi ml b) (hb : 200 ≤ b)  : fc_RC (fc_an A.1 5 1, A.2.1, A.2.2) (fc_u mi 3 2 1) ml b := by
  obtain ⟨⟨a1, a2, a3, a4, a5⟩, ⟨b1, b2, b3⟩, ⟨c1, c2, c3, c4⟩, ⟨d1, d2, d3⟩⟩ := h
  have hb3 : ¬ 3 = b := by omega
  have hb4 : ¬ b = 3 := by omega
  have hn1 : nI 1 = 1 := rfl
  refine ⟨⟨?_, ?_, ?_, ?_, ?_⟩, ⟨?_, ?_, ?_⟩, ⟨?_, ?_, ?_, ?_⟩, ?_, ?_, ?_⟩
  all_goals first
    | (simp [fc_u, fc_an, hb3, *]; done)
    | (intro j hj
       try simp only [fc_an, if_true, if_false] at hj
       try simp [fc_u, fc_an]
       first
         | (simp [*]; done)
         | exact c1 j hj
         | exact c2 j hj
         | exact c3 j hj
         | exact c4 j hj
         | exact d1 j hj
         | exact d2 j hj
         | exact d3 j hj
         | (by_cases e0 : j = A.1 0
            · simp [e0]
            · simp [e0]; exact d1 j (by omega))
         | (by_cases e0 : j = A.1 2
            · simp [e0, *]
            · simp [e0]; first | exact d2 j (by omega) | exact c2 j (by omega))
         | (by_cases e0 : j = A.1 3
            · simp [e0, *]
            · simp [e0]; first | exact d3 j (by omega) | exact c3 j (by omega))
         | (have e0 : ¬ j = A.1 2 := by omega
            simp [e0]
            first | exact d2 j hj | exact c2 j hj)
         | (have e0 : ¬ j = A.1 3 := by omega
            simp [e0]
            first | exact d3 j hj | exact c3 j hj))
end M35
