/-! ===== the reference reads a path ===== -/
section M73
variable {E : fc_E} {d : Nat} {mi : fc_Mi} {ml : fc_Ml} {mr : fc_Mr} {n N i : Nat} {s : Nat → Int32} {A : fc_Ab}
theorem in_or {b : Int32} {x z : Nat} (hx : x < 7) (hz : z < 7) : sp_in (b ||| (1 : Int32) <<< (nI x &&& 31)) (nI z) = (sp_in b (nI z) || decide (z = x)) := by
  rw [fb_in _ (by omega), fb_in _ (by omega), b_or, fb_one (by omega) (by omega)]
theorem path_eq (hB : fc_AB A) (hn : n ≤ 1000) (h10 : ¬ 10 ≤ A.1 1) {x : Nat} (hx : x < 7) (ex : tdv s n A 1 (i + 1) 0 0 = nI x) :
  ((tdp s n A 1 (tdp s n A 1 (i + 1) 0 0).1 (tdp s n A 1 (i + 1) 0 0).2 (A.2.1 4 x ||| (1 : Int32) <<< (nI x &&& 31))).2 = 0 → ps_path s n A i = .ok ((fc_an A.1 1 (A.1 1 + 1), ps_two A.2.1 (nI x) (tdv s n A 1 (tdp s n A 1 (i + 1) 0 0).1 (tdp s n A 1 (i + 1) 0 0).2 (A.2.1 4 x ||| (1 : Int32) <<< (nI x &&& 31))), A.2.2), (tdp s n A 1 (tdp s n A 1 (i + 1) 0 0).1 (tdp s n A 1 (i + 1) 0 0).2 (A.2.1 4 x ||| (1 : Int32) <<< (nI x &&& 31))).1)) ∧ (¬ (tdp s n A 1 (tdp s n A 1 (i + 1) 0 0).1 (tdp s n A 1 (i + 1) 0 0).2 (A.2.1 4 x ||| (1 : Int32) <<< (nI x &&& 31))).2 = 0 → ps_path s n A i = .error (tdp s n A 1 (tdp s n A 1 (i + 1) 0 0).1 (tdp s n A 1 (i + 1) 0 0).2 (A.2.1 4 x ||| (1 : Int32) <<< (nI x &&& 31))).2) := by
  unfold ps_path
  rw [if_neg h10]
  have hfa : ∀ a, sp_fi (A.2.2 1) a (A.1 0) 0 = fiA A 1 a := fun _ => rfl
  simp only [hfa]
  rcases tdp_c (A := A) (s := s) (x := 1) (i := i + 1) (but := 0) hn with ⟨a1, a2, a3, a4, a5, a6⟩ | ⟨a1, a2, a3, a4⟩
  · rw [a1, a2, if_pos a3, if_neg a4, ← a6, ex]
    have etn : (nI x).toNatClampNeg = x := nI_clamp (by omega)
    rw [etn]
    rcases tdp_c (A := A) (s := s) (x := 1) (i := i + 1 + 1) (but := (A.2.1 4 x ||| (1 : Int32) <<< (nI x &&& 31))) hn with ⟨c1, c2, c3, c4, c5, c6⟩ | ⟨c1, c2, c3, c4⟩
    · obtain ⟨z, hz, ez⟩ := fi_k hB.1 c4
      rw [show sp_fi (A.2.2 1) (tW s n (i + 1 + 1)) (A.1 0) 0 = fiA A 1 (tW s n (i + 1 + 1)) from rfl] at ez
      rw [ez, in_or hx hz, Bool.or_eq_false_iff] at c5
      refine ⟨fun _ => ?_, fun q => absurd c1 q⟩
      rw [c6, c2, if_pos c3, if_neg c4, ez, if_neg (fun q => (of_decide_eq_false c5.2) (nIn (by omega) (by omega) q).symm), if_neg (by rw [c5.1]; decide)]
    · refine ⟨fun q => absurd q c1, fun _ => ?_⟩
      rcases c4 with ⟨e1, e2⟩ | ⟨e1, e2, e3⟩ | ⟨e1, e2, e3, e4⟩
      · rw [if_neg e1, e2]
      · rw [if_pos e1, if_pos e2, e3]
      · obtain ⟨z, hz, ez⟩ := fi_k hB.1 e2
        rw [show sp_fi (A.2.2 1) (tW s n (i + 1 + 1)) (A.1 0) 0 = fiA A 1 (tW s n (i + 1 + 1)) from rfl] at ez
        rw [ez, in_or hx hz, Bool.or_eq_true] at e3
        rw [if_pos e1, if_neg e2, e4, ez]
        by_cases q : nI x = nI z
        · rw [if_pos q]
        · rw [if_neg q, if_pos (e3.resolve_right (fun w => q (by rw [of_decide_eq_true w])))]
  · obtain ⟨t1, t2⟩ := tdp_f (s := s) (n := n) (A := A) (x := 1) (i := (tdp s n A 1 (i + 1) 0 0).1) (f := (tdp s n A 1 (i + 1) 0 0).2) (but := (A.2.1 4 x ||| (1 : Int32) <<< (nI x &&& 31))) a1
    rw [t1]
    refine ⟨fun q => absurd q a1, fun _ => ?_⟩
    dsimp only
    rcases a4 with ⟨e1, e2⟩ | ⟨e1, e2, e3⟩ | ⟨e1, e2, e3, e4⟩
    · rw [if_neg e1, e2]
    · rw [if_pos e1, if_pos e2, e3]
    · obtain ⟨z, hz, ez⟩ := fi_k hB.1 e2
      rw [show sp_fi (A.2.2 1) (tW s n (i + 1)) (A.1 0) 0 = fiA A 1 (tW s n (i + 1)) from rfl] at ez
      rw [ez, fb_in _ (by omega), b_0] at e3
      cases e3
end M73
