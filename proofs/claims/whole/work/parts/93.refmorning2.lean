/-! ===== the reference's morning, from its first step ===== -/
def rmnq (A : fc_Ab) (mi : fc_Mi) (ml : fc_Ml) (mr : fc_Mr) (r : Except Int32 (Nat × fc_Mi)) : fc_Q := fun v mi' ml' mr' => mr = mr' ∧ (∀ x, x ≠ 252 → x ≠ 254 → x ≠ 255 → x ≠ 265 → mi' x = mi x) ∧ (∀ k, k ≠ 3 → k ≠ 7 → k ≠ 8 → mi' 252 k = mi 252 k) ∧ (∀ x, x ≠ 256 → ml' x = ml x) ∧ (match r with
  | .error e => v = some (.int e) ∧ ¬ e = 0 ∧ ∀ k, k < 125 → mi' 265 k = mi 265 k
  | .ok q => v = some (.int 0) ∧ q.1 ≤ 40 ∧ mi' 265 0 = nI q.1 ∧ rml A q.1 q.2 mi' 1)
section M93
variable {E : fc_E} {d : Nat} {mi : fc_Mi} {ml : fc_Ml} {mr : fc_Mr} {n : Nat} {s : Nat → Int32} {A : fc_Ab}
theorem c_rmorning (hW : fc_Wd mr) (hT : mi 252 2 = nI n) (hn : n ≤ 1000) (hs : ∀ j, j < n → mi 253 j = s j) (hok : okc s n) (hkw : ∀ w, w < 25 → ml 257 w = kwv w) (hB : fc_AB A) (hD : nd A) (hK : mi 252 18 = nI (A.1 0 + A.1 2 + A.1 3)) (hN : nmr A (ml 261) (mi 263) (A.1 0 + A.1 2 + A.1 3)) (a : fc_Mi) : fc_R E mX11_morning (d + 6) fc_sh [.ref 252] mi ml mr (rmnq A (fc_u (fc_u mi 252 0 0) 252 2 0) ml mr (ms_rd s n A.2.2 (A.1 0) (A.1 2) (A.1 3) 1000 0 0 a)) := by
  refine fc_met rfl (Nat.le_of_ble_eq_true rfl) (fc_run oX11_morning (fun pc => pc == 11) 400 ?_)
  refine And.intro rfl ?_
  refine And.intro rfl (Exists.intro _ (And.intro (c_rcutAll (d := d + 3) (s := s) hW hT hn hs) ?_))
  rintro _ m1 l1 _ ⟨rfl, ⟨N, hNt⟩, ⟨z1, z2, z3⟩, ⟨y1, y2, y3⟩, rfl⟩
  have hS : rst s n N 0 0 m1 l1 := ⟨hNt, Nat.zero_le _, z1, z2, fun w q => by rw [y3 257 (by decide)]; exact hkw w q, hok⟩
  have hNn : N ≤ 1000 := Nat.le_trans hS.1.2.1 hS.1.2.2.1
  have hK1 : m1 252 18 = nI (A.1 0 + A.1 2 + A.1 3) := (y2 18 (by decide) (by decide) (by decide) (by decide)).trans hK
  have hN1 : nmr A (l1 261) (m1 263) (A.1 0 + A.1 2 + A.1 3) := by rw [y3 261 (by decide), y1 263 (by decide) (by decide) (by decide)]; exact hN
  refine fc_conT (l_rm11 (m0 := m1) (A := A) hW hB hD hK1 hN1 1000 0 0 a m1 0 none (by omega) hS (by omega) rfl (fun k q => absurd q (Nat.not_lt_zero k)) ⟨fun _ _ _ => rfl, fun _ _ _ => rfl, fun _ _ => rfl⟩) (fun v a' b c h => ?_)
  obtain ⟨rfl, g1, g2, g3, g4⟩ := h
  have ex : ∀ x, x ≠ 252 → x ≠ 254 → x ≠ 255 → m1 x = (fc_u (fc_u mi 252 0 0) 252 2 0) x := fun x q1 q2 q3 => by rw [y1 x q1 q2 q3, fc_u_off _ _ _ q1, fc_u_off _ _ _ q1, fc_u_off _ _ _ q1]
  refine ⟨g1, fun x q1 q2 q3 q4 => (g2 x q1 q4).trans (ex x q1 q2 q3), fun k q1 q2 q3 => ?_, y3, ?_⟩
  · rw [g3 k q2 q3]
    by_cases e : k = 2
    · rw [e, z3]; rfl
    · rw [y2 k e q1 q2 q3, fc_u_nj _ _ _ _ e]
  · cases hr : ms_rd s n A.2.2 (A.1 0) (A.1 2) (A.1 3) 1000 0 0 a with
    | error e =>
      rw [hr] at g4
      exact ⟨g4.1, g4.2.1, fun k q => (g4.2.2 k q).trans (congrFun (ex 265 (by decide) (by decide) (by decide)) k)⟩
    | ok q =>
      rw [hr] at g4
      exact g4

end M93
