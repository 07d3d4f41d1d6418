/-! ===== the reference: what is written into a state ===== -/
/-- the reference holds the land L -/
def rz (mi : fc_Mi) (n m t sm : Nat) (L : fc_Mi) : Prop := (mi 258 0 = nI m ∧ mi 258 2 = nI n ∧ mi 258 3 = nI t ∧ mi 258 4 = nI sm) ∧ as_lok n m t sm L ∧ as_lg n m t L (rl (mi 258))
section M52
variable {E : fc_E} {d : Nat} {mi : fc_Mi} {ml : fc_Ml} {mr : fc_Mr} {B n m t sm : Nat} {L σ : fc_Mi}
theorem ra.z (h : ra mi B n m t sm L σ) : rz mi n m t sm L := ⟨h.1, h.2.2.1, h.2.2.2.2.1⟩
theorem rz.off {mm : fc_Mi} (h : rz mi n m t sm L) (h1 : mm 258 = mi 258) : rz mm n m t sm L := by unfold rz at *; rw [h1]; exact h
theorem rz.ra (h : rz mi n m t sm L) (hB : B ≤ 1408) (hS : as_ok n m t sm σ) (hg : as_ag n t σ (rv (mi 268) B)) : ra mi B n m t sm L σ := ⟨h.1, hB, h.2.1, hS, h.2.2, hg⟩
theorem c_zplaces (hW : fc_Wd mr) (hZ : rz mi n m t sm L) : fc_R E mX11_places d fc_sh [.ref 252] mi ml mr (fc_is (some (.int (nI m))) mi ml mr) := by
  obtain ⟨⟨e0, e2, e3, e4⟩, hLo, hLg⟩ := id hZ
  obtain ⟨h5, h7, h6, hs1, hs2, hLp, hLt⟩ := id hLo
  refine fc_met rfl (Nat.le_of_ble_eq_true rfl) (fc_run oX11_places (fun _ => false) 400 ?_)
  refine And.intro rfl (Exists.intro _ (And.intro (hW 252 10 258 rfl) ?_))
  refine Exists.intro _ (Exists.intro _ (And.intro rfl (And.intro (fc_ixn (fc_nl 0) (by omega) (by decide)) ?_)))
  exact ⟨by rw [e0], rfl, rfl, rfl⟩

theorem c_zpersons (hW : fc_Wd mr) (hZ : rz mi n m t sm L) : fc_R E mX11_persons d fc_sh [.ref 252] mi ml mr (fc_is (some (.int (nI n))) mi ml mr) := by
  obtain ⟨⟨e0, e2, e3, e4⟩, hLo, hLg⟩ := id hZ
  obtain ⟨h5, h7, h6, hs1, hs2, hLp, hLt⟩ := id hLo
  refine fc_met rfl (Nat.le_of_ble_eq_true rfl) (fc_run oX11_persons (fun _ => false) 400 ?_)
  refine And.intro rfl (Exists.intro _ (And.intro (hW 252 10 258 rfl) ?_))
  refine Exists.intro _ (Exists.intro _ (And.intro rfl (And.intro (fc_ixn (fc_nl 2) (by omega) (by decide)) ?_)))
  exact ⟨by rw [e2], rfl, rfl, rfl⟩

theorem c_zthings (hW : fc_Wd mr) (hZ : rz mi n m t sm L) : fc_R E mX11_things d fc_sh [.ref 252] mi ml mr (fc_is (some (.int (nI t))) mi ml mr) := by
  obtain ⟨⟨e0, e2, e3, e4⟩, hLo, hLg⟩ := id hZ
  obtain ⟨h5, h7, h6, hs1, hs2, hLp, hLt⟩ := id hLo
  refine fc_met rfl (Nat.le_of_ble_eq_true rfl) (fc_run oX11_things (fun _ => false) 400 ?_)
  refine And.intro rfl (Exists.intro _ (And.intro (hW 252 10 258 rfl) ?_))
  refine Exists.intro _ (Exists.intro _ (And.intro rfl (And.intro (fc_ixn (fc_nl 3) (by omega) (by decide)) ?_)))
  exact ⟨by rw [e3], rfl, rfl, rfl⟩

theorem c_zsmokeAt (hW : fc_Wd mr) (hZ : rz mi n m t sm L) : fc_R E mX11_smokeAt d fc_sh [.ref 252] mi ml mr (fc_is (some (.int (nI sm))) mi ml mr) := by
  obtain ⟨⟨e0, e2, e3, e4⟩, hLo, hLg⟩ := id hZ
  obtain ⟨h5, h7, h6, hs1, hs2, hLp, hLt⟩ := id hLo
  refine fc_met rfl (Nat.le_of_ble_eq_true rfl) (fc_run oX11_smokeAt (fun _ => false) 400 ?_)
  refine And.intro rfl (Exists.intro _ (And.intro (hW 252 10 258 rfl) ?_))
  refine Exists.intro _ (Exists.intro _ (And.intro rfl (And.intro (fc_ixn (fc_nl 4) (by omega) (by decide)) ?_)))
  exact ⟨by rw [e4], rfl, rfl, rfl⟩

theorem c_zper0 (hW : fc_Wd mr) (hZ : rz mi n m t sm L) {x : Int32} {p : Nat} (hx : x = nI p) (hp : p < n) : fc_R E mX11_personOf d fc_sh [.ref 252, .int x, .int 0] mi ml mr (fc_is (some (.int (L 5 p))) mi ml mr) := by
  obtain ⟨⟨e0, e2, e3, e4⟩, hLo, hLg⟩ := id hZ
  obtain ⟨h5, h7, h6, hs1, hs2, hLp, hLt⟩ := id hLo
  refine fc_met rfl (Nat.le_of_ble_eq_true rfl) (fc_run oX11_personOf (fun _ => false) 400 ?_)
  refine And.intro rfl (Exists.intro _ (And.intro (hW 252 10 258 rfl) ?_))
  refine Exists.intro _ (Exists.intro _ (And.intro rfl (And.intro (fc_ixn (fc_na (fc_na (fc_nl 13) (fc_nm (fc_nl 3) hx)) (fc_nl 0)) (by omega) (by decide)) ?_)))
  exact ⟨by rw [(hLg.2.1 p hp).1]; rfl, rfl, rfl, rfl⟩

theorem c_zper1 (hW : fc_Wd mr) (hZ : rz mi n m t sm L) {x : Int32} {p : Nat} (hx : x = nI p) (hp : p < n) : fc_R E mX11_personOf d fc_sh [.ref 252, .int x, .int 1] mi ml mr (fc_is (some (.int (L 6 p))) mi ml mr) := by
  obtain ⟨⟨e0, e2, e3, e4⟩, hLo, hLg⟩ := id hZ
  obtain ⟨h5, h7, h6, hs1, hs2, hLp, hLt⟩ := id hLo
  refine fc_met rfl (Nat.le_of_ble_eq_true rfl) (fc_run oX11_personOf (fun _ => false) 400 ?_)
  refine And.intro rfl (Exists.intro _ (And.intro (hW 252 10 258 rfl) ?_))
  refine Exists.intro _ (Exists.intro _ (And.intro rfl (And.intro (fc_ixn (fc_na (fc_na (fc_nl 13) (fc_nm (fc_nl 3) hx)) (fc_nl 1)) (by omega) (by decide)) ?_)))
  exact ⟨by rw [(hLg.2.1 p hp).2.1]; rfl, rfl, rfl, rfl⟩

theorem c_zthi1 (hW : fc_Wd mr) (hZ : rz mi n m t sm L) {x : Int32} {q : Nat} (hx : x = nI q) (hq : q < t) : fc_R E mX11_thingOf d fc_sh [.ref 252, .int x, .int 1] mi ml mr (fc_is (some (.int (L 9 q))) mi ml mr) := by
  obtain ⟨⟨e0, e2, e3, e4⟩, hLo, hLg⟩ := id hZ
  obtain ⟨h5, h7, h6, hs1, hs2, hLp, hLt⟩ := id hLo
  refine fc_met rfl (Nat.le_of_ble_eq_true rfl) (fc_run oX11_thingOf (fun _ => false) 400 ?_)
  refine And.intro rfl (Exists.intro _ (And.intro (hW 252 10 258 rfl) ?_))
  refine Exists.intro _ (Exists.intro _ (And.intro rfl (And.intro (fc_ixn (fc_na (fc_na (fc_nl 28) (fc_nm (fc_nl 2) hx)) (fc_nl 1)) (by omega) (by decide)) ?_)))
  exact ⟨by rw [(hLg.2.2 q hq).2]; rfl, rfl, rfl, rfl⟩

theorem ag_u1 {r : Nat → Int32} {v : Int32} {p : Nat} (hn : n ≤ 5) (ht : t ≤ 6) (hp : p < 5) (h : as_ag n t σ (rv r B)) : as_ag n t (fc_u σ 1 p v) (rv (fun j => if j = B + 2 + p then v else r j) B) := by
  obtain ⟨⟨a0, a1⟩, a2, a3⟩ := h
  refine ⟨⟨?_, ?_⟩, fun q hq => ⟨?_, ?_, ?_, ?_, ?_⟩, fun q hq => ⟨?_, ?_⟩⟩
  · show σ 0 0 = if B + 0 = B + 2 + p then v else r (B + 0)
    rw [if_neg (by omega)]; exact a0
  · show σ 0 1 = if B + 1 = B + 2 + p then v else r (B + 1)
    rw [if_neg (by omega)]; exact a1
  · exact by
      show (if q = p then v else σ 1 q) = if B + 2 + q = B + 2 + p then v else r (B + 2 + q)
      by_cases e : q = p
      · rw [if_pos e, if_pos (by omega)]
      · rw [if_neg e, if_neg (by omega)]; exact (a2 q hq).1
  · exact by
      show σ 2 q = if B + 7 + q = B + 2 + p then v else r (B + 7 + q)
      rw [if_neg (by omega)]; exact (a2 q hq).2.1
  · exact by
      show σ 3 q = if B + 34 + q = B + 2 + p then v else r (B + 34 + q)
      rw [if_neg (by omega)]; exact (a2 q hq).2.2.1
  · exact by
      show σ 4 q = if B + 24 + q = B + 2 + p then v else r (B + 24 + q)
      rw [if_neg (by omega)]; exact (a2 q hq).2.2.2.1
  · exact by
      show σ 5 q = if B + 29 + q = B + 2 + p then v else r (B + 29 + q)
      rw [if_neg (by omega)]; exact (a2 q hq).2.2.2.2
  · exact by
      show σ 6 q = if B + 12 + q = B + 2 + p then v else r (B + 12 + q)
      rw [if_neg (by omega)]; exact (a3 q hq).1
  · exact by
      show σ 7 q = if B + 18 + q = B + 2 + p then v else r (B + 18 + q)
      rw [if_neg (by omega)]; exact (a3 q hq).2
theorem ag_u2 {r : Nat → Int32} {v : Int32} {p : Nat} (hn : n ≤ 5) (ht : t ≤ 6) (hp : p < 5) (h : as_ag n t σ (rv r B)) : as_ag n t (fc_u σ 2 p v) (rv (fun j => if j = B + 7 + p then v else r j) B) := by
  obtain ⟨⟨a0, a1⟩, a2, a3⟩ := h
  refine ⟨⟨?_, ?_⟩, fun q hq => ⟨?_, ?_, ?_, ?_, ?_⟩, fun q hq => ⟨?_, ?_⟩⟩
  · show σ 0 0 = if B + 0 = B + 7 + p then v else r (B + 0)
    rw [if_neg (by omega)]; exact a0
  · show σ 0 1 = if B + 1 = B + 7 + p then v else r (B + 1)
    rw [if_neg (by omega)]; exact a1
  · exact by
      show σ 1 q = if B + 2 + q = B + 7 + p then v else r (B + 2 + q)
      rw [if_neg (by omega)]; exact (a2 q hq).1
  · exact by
      show (if q = p then v else σ 2 q) = if B + 7 + q = B + 7 + p then v else r (B + 7 + q)
      by_cases e : q = p
      · rw [if_pos e, if_pos (by omega)]
      · rw [if_neg e, if_neg (by omega)]; exact (a2 q hq).2.1
  · exact by
      show σ 3 q = if B + 34 + q = B + 7 + p then v else r (B + 34 + q)
      rw [if_neg (by omega)]; exact (a2 q hq).2.2.1
  · exact by
      show σ 4 q = if B + 24 + q = B + 7 + p then v else r (B + 24 + q)
      rw [if_neg (by omega)]; exact (a2 q hq).2.2.2.1
  · exact by
      show σ 5 q = if B + 29 + q = B + 7 + p then v else r (B + 29 + q)
      rw [if_neg (by omega)]; exact (a2 q hq).2.2.2.2
  · exact by
      show σ 6 q = if B + 12 + q = B + 7 + p then v else r (B + 12 + q)
      rw [if_neg (by omega)]; exact (a3 q hq).1
  · exact by
      show σ 7 q = if B + 18 + q = B + 7 + p then v else r (B + 18 + q)
      rw [if_neg (by omega)]; exact (a3 q hq).2
theorem ag_u3 {r : Nat → Int32} {v : Int32} {p : Nat} (hn : n ≤ 5) (ht : t ≤ 6) (hp : p < 5) (h : as_ag n t σ (rv r B)) : as_ag n t (fc_u σ 3 p v) (rv (fun j => if j = B + 34 + p then v else r j) B) := by
  obtain ⟨⟨a0, a1⟩, a2, a3⟩ := h
  refine ⟨⟨?_, ?_⟩, fun q hq => ⟨?_, ?_, ?_, ?_, ?_⟩, fun q hq => ⟨?_, ?_⟩⟩
  · show σ 0 0 = if B + 0 = B + 34 + p then v else r (B + 0)
    rw [if_neg (by omega)]; exact a0
  · show σ 0 1 = if B + 1 = B + 34 + p then v else r (B + 1)
    rw [if_neg (by omega)]; exact a1
  · exact by
      show σ 1 q = if B + 2 + q = B + 34 + p then v else r (B + 2 + q)
      rw [if_neg (by omega)]; exact (a2 q hq).1
  · exact by
      show σ 2 q = if B + 7 + q = B + 34 + p then v else r (B + 7 + q)
      rw [if_neg (by omega)]; exact (a2 q hq).2.1
  · exact by
      show (if q = p then v else σ 3 q) = if B + 34 + q = B + 34 + p then v else r (B + 34 + q)
      by_cases e : q = p
      · rw [if_pos e, if_pos (by omega)]
      · rw [if_neg e, if_neg (by omega)]; exact (a2 q hq).2.2.1
  · exact by
      show σ 4 q = if B + 24 + q = B + 34 + p then v else r (B + 24 + q)
      rw [if_neg (by omega)]; exact (a2 q hq).2.2.2.1
  · exact by
      show σ 5 q = if B + 29 + q = B + 34 + p then v else r (B + 29 + q)
      rw [if_neg (by omega)]; exact (a2 q hq).2.2.2.2
  · exact by
      show σ 6 q = if B + 12 + q = B + 34 + p then v else r (B + 12 + q)
      rw [if_neg (by omega)]; exact (a3 q hq).1
  · exact by
      show σ 7 q = if B + 18 + q = B + 34 + p then v else r (B + 18 + q)
      rw [if_neg (by omega)]; exact (a3 q hq).2
theorem ag_u4 {r : Nat → Int32} {v : Int32} {p : Nat} (hn : n ≤ 5) (ht : t ≤ 6) (hp : p < 5) (h : as_ag n t σ (rv r B)) : as_ag n t (fc_u σ 4 p v) (rv (fun j => if j = B + 24 + p then v else r j) B) := by
  obtain ⟨⟨a0, a1⟩, a2, a3⟩ := h
  refine ⟨⟨?_, ?_⟩, fun q hq => ⟨?_, ?_, ?_, ?_, ?_⟩, fun q hq => ⟨?_, ?_⟩⟩
  · show σ 0 0 = if B + 0 = B + 24 + p then v else r (B + 0)
    rw [if_neg (by omega)]; exact a0
  · show σ 0 1 = if B + 1 = B + 24 + p then v else r (B + 1)
    rw [if_neg (by omega)]; exact a1
  · exact by
      show σ 1 q = if B + 2 + q = B + 24 + p then v else r (B + 2 + q)
      rw [if_neg (by omega)]; exact (a2 q hq).1
  · exact by
      show σ 2 q = if B + 7 + q = B + 24 + p then v else r (B + 7 + q)
      rw [if_neg (by omega)]; exact (a2 q hq).2.1
  · exact by
      show σ 3 q = if B + 34 + q = B + 24 + p then v else r (B + 34 + q)
      rw [if_neg (by omega)]; exact (a2 q hq).2.2.1
  · exact by
      show (if q = p then v else σ 4 q) = if B + 24 + q = B + 24 + p then v else r (B + 24 + q)
      by_cases e : q = p
      · rw [if_pos e, if_pos (by omega)]
      · rw [if_neg e, if_neg (by omega)]; exact (a2 q hq).2.2.2.1
  · exact by
      show σ 5 q = if B + 29 + q = B + 24 + p then v else r (B + 29 + q)
      rw [if_neg (by omega)]; exact (a2 q hq).2.2.2.2
  · exact by
      show σ 6 q = if B + 12 + q = B + 24 + p then v else r (B + 12 + q)
      rw [if_neg (by omega)]; exact (a3 q hq).1
  · exact by
      show σ 7 q = if B + 18 + q = B + 24 + p then v else r (B + 18 + q)
      rw [if_neg (by omega)]; exact (a3 q hq).2
theorem ag_u5 {r : Nat → Int32} {v : Int32} {p : Nat} (hn : n ≤ 5) (ht : t ≤ 6) (hp : p < 5) (h : as_ag n t σ (rv r B)) : as_ag n t (fc_u σ 5 p v) (rv (fun j => if j = B + 29 + p then v else r j) B) := by
  obtain ⟨⟨a0, a1⟩, a2, a3⟩ := h
  refine ⟨⟨?_, ?_⟩, fun q hq => ⟨?_, ?_, ?_, ?_, ?_⟩, fun q hq => ⟨?_, ?_⟩⟩
  · show σ 0 0 = if B + 0 = B + 29 + p then v else r (B + 0)
    rw [if_neg (by omega)]; exact a0
  · show σ 0 1 = if B + 1 = B + 29 + p then v else r (B + 1)
    rw [if_neg (by omega)]; exact a1
  · exact by
      show σ 1 q = if B + 2 + q = B + 29 + p then v else r (B + 2 + q)
      rw [if_neg (by omega)]; exact (a2 q hq).1
  · exact by
      show σ 2 q = if B + 7 + q = B + 29 + p then v else r (B + 7 + q)
      rw [if_neg (by omega)]; exact (a2 q hq).2.1
  · exact by
      show σ 3 q = if B + 34 + q = B + 29 + p then v else r (B + 34 + q)
      rw [if_neg (by omega)]; exact (a2 q hq).2.2.1
  · exact by
      show σ 4 q = if B + 24 + q = B + 29 + p then v else r (B + 24 + q)
      rw [if_neg (by omega)]; exact (a2 q hq).2.2.2.1
  · exact by
      show (if q = p then v else σ 5 q) = if B + 29 + q = B + 29 + p then v else r (B + 29 + q)
      by_cases e : q = p
      · rw [if_pos e, if_pos (by omega)]
      · rw [if_neg e, if_neg (by omega)]; exact (a2 q hq).2.2.2.2
  · exact by
      show σ 6 q = if B + 12 + q = B + 29 + p then v else r (B + 12 + q)
      rw [if_neg (by omega)]; exact (a3 q hq).1
  · exact by
      show σ 7 q = if B + 18 + q = B + 29 + p then v else r (B + 18 + q)
      rw [if_neg (by omega)]; exact (a3 q hq).2
theorem ag_u6 {r : Nat → Int32} {v : Int32} {p : Nat} (hn : n ≤ 5) (ht : t ≤ 6) (hp : p < 6) (h : as_ag n t σ (rv r B)) : as_ag n t (fc_u σ 6 p v) (rv (fun j => if j = B + 12 + p then v else r j) B) := by
  obtain ⟨⟨a0, a1⟩, a2, a3⟩ := h
  refine ⟨⟨?_, ?_⟩, fun q hq => ⟨?_, ?_, ?_, ?_, ?_⟩, fun q hq => ⟨?_, ?_⟩⟩
  · show σ 0 0 = if B + 0 = B + 12 + p then v else r (B + 0)
    rw [if_neg (by omega)]; exact a0
  · show σ 0 1 = if B + 1 = B + 12 + p then v else r (B + 1)
    rw [if_neg (by omega)]; exact a1
  · exact by
      show σ 1 q = if B + 2 + q = B + 12 + p then v else r (B + 2 + q)
      rw [if_neg (by omega)]; exact (a2 q hq).1
  · exact by
      show σ 2 q = if B + 7 + q = B + 12 + p then v else r (B + 7 + q)
      rw [if_neg (by omega)]; exact (a2 q hq).2.1
  · exact by
      show σ 3 q = if B + 34 + q = B + 12 + p then v else r (B + 34 + q)
      rw [if_neg (by omega)]; exact (a2 q hq).2.2.1
  · exact by
      show σ 4 q = if B + 24 + q = B + 12 + p then v else r (B + 24 + q)
      rw [if_neg (by omega)]; exact (a2 q hq).2.2.2.1
  · exact by
      show σ 5 q = if B + 29 + q = B + 12 + p then v else r (B + 29 + q)
      rw [if_neg (by omega)]; exact (a2 q hq).2.2.2.2
  · exact by
      show (if q = p then v else σ 6 q) = if B + 12 + q = B + 12 + p then v else r (B + 12 + q)
      by_cases e : q = p
      · rw [if_pos e, if_pos (by omega)]
      · rw [if_neg e, if_neg (by omega)]; exact (a3 q hq).1
  · exact by
      show σ 7 q = if B + 18 + q = B + 12 + p then v else r (B + 18 + q)
      rw [if_neg (by omega)]; exact (a3 q hq).2
theorem ag_u7 {r : Nat → Int32} {v : Int32} {p : Nat} (hn : n ≤ 5) (ht : t ≤ 6) (hp : p < 6) (h : as_ag n t σ (rv r B)) : as_ag n t (fc_u σ 7 p v) (rv (fun j => if j = B + 18 + p then v else r j) B) := by
  obtain ⟨⟨a0, a1⟩, a2, a3⟩ := h
  refine ⟨⟨?_, ?_⟩, fun q hq => ⟨?_, ?_, ?_, ?_, ?_⟩, fun q hq => ⟨?_, ?_⟩⟩
  · show σ 0 0 = if B + 0 = B + 18 + p then v else r (B + 0)
    rw [if_neg (by omega)]; exact a0
  · show σ 0 1 = if B + 1 = B + 18 + p then v else r (B + 1)
    rw [if_neg (by omega)]; exact a1
  · exact by
      show σ 1 q = if B + 2 + q = B + 18 + p then v else r (B + 2 + q)
      rw [if_neg (by omega)]; exact (a2 q hq).1
  · exact by
      show σ 2 q = if B + 7 + q = B + 18 + p then v else r (B + 7 + q)
      rw [if_neg (by omega)]; exact (a2 q hq).2.1
  · exact by
      show σ 3 q = if B + 34 + q = B + 18 + p then v else r (B + 34 + q)
      rw [if_neg (by omega)]; exact (a2 q hq).2.2.1
  · exact by
      show σ 4 q = if B + 24 + q = B + 18 + p then v else r (B + 24 + q)
      rw [if_neg (by omega)]; exact (a2 q hq).2.2.2.1
  · exact by
      show σ 5 q = if B + 29 + q = B + 18 + p then v else r (B + 29 + q)
      rw [if_neg (by omega)]; exact (a2 q hq).2.2.2.2
  · exact by
      show σ 6 q = if B + 12 + q = B + 18 + p then v else r (B + 12 + q)
      rw [if_neg (by omega)]; exact (a3 q hq).1
  · exact by
      show (if q = p then v else σ 7 q) = if B + 18 + q = B + 18 + p then v else r (B + 18 + q)
      by_cases e : q = p
      · rw [if_pos e, if_pos (by omega)]
      · rw [if_neg e, if_neg (by omega)]; exact (a3 q hq).2
theorem ag_z0 {r : Nat → Int32} {v : Int32} (hn : n ≤ 5) (ht : t ≤ 6) (h : as_ag n t σ (rv r B)) : as_ag n t (fc_u σ 0 0 v) (rv (fun j => if j = B + 0 then v else r j) B) := by
  obtain ⟨⟨a0, a1⟩, a2, a3⟩ := h
  refine ⟨⟨?_, ?_⟩, fun q hq => ⟨?_, ?_, ?_, ?_, ?_⟩, fun q hq => ⟨?_, ?_⟩⟩
  · show v = if B + 0 = B + 0 then v else r (B + 0)
    rw [if_pos rfl]
  · show σ 0 1 = if B + 1 = B + 0 then v else r (B + 1)
    rw [if_neg (by omega)]; exact a1
  · show σ 1 q = if B + 2 + q = B + 0 then v else r (B + 2 + q)
    rw [if_neg (by omega)]; exact (a2 q hq).1
  · show σ 2 q = if B + 7 + q = B + 0 then v else r (B + 7 + q)
    rw [if_neg (by omega)]; exact (a2 q hq).2.1
  · show σ 3 q = if B + 34 + q = B + 0 then v else r (B + 34 + q)
    rw [if_neg (by omega)]; exact (a2 q hq).2.2.1
  · show σ 4 q = if B + 24 + q = B + 0 then v else r (B + 24 + q)
    rw [if_neg (by omega)]; exact (a2 q hq).2.2.2.1
  · show σ 5 q = if B + 29 + q = B + 0 then v else r (B + 29 + q)
    rw [if_neg (by omega)]; exact (a2 q hq).2.2.2.2
  · show σ 6 q = if B + 12 + q = B + 0 then v else r (B + 12 + q)
    rw [if_neg (by omega)]; exact (a3 q hq).1
  · show σ 7 q = if B + 18 + q = B + 0 then v else r (B + 18 + q)
    rw [if_neg (by omega)]; exact (a3 q hq).2
theorem ag_z1 {r : Nat → Int32} {v : Int32} (hn : n ≤ 5) (ht : t ≤ 6) (h : as_ag n t σ (rv r B)) : as_ag n t (fc_u σ 0 1 v) (rv (fun j => if j = B + 1 then v else r j) B) := by
  obtain ⟨⟨a0, a1⟩, a2, a3⟩ := h
  refine ⟨⟨?_, ?_⟩, fun q hq => ⟨?_, ?_, ?_, ?_, ?_⟩, fun q hq => ⟨?_, ?_⟩⟩
  · show σ 0 0 = if B + 0 = B + 1 then v else r (B + 0)
    rw [if_neg (by omega)]; exact a0
  · show v = if B + 1 = B + 1 then v else r (B + 1)
    rw [if_pos rfl]
  · show σ 1 q = if B + 2 + q = B + 1 then v else r (B + 2 + q)
    rw [if_neg (by omega)]; exact (a2 q hq).1
  · show σ 2 q = if B + 7 + q = B + 1 then v else r (B + 7 + q)
    rw [if_neg (by omega)]; exact (a2 q hq).2.1
  · show σ 3 q = if B + 34 + q = B + 1 then v else r (B + 34 + q)
    rw [if_neg (by omega)]; exact (a2 q hq).2.2.1
  · show σ 4 q = if B + 24 + q = B + 1 then v else r (B + 24 + q)
    rw [if_neg (by omega)]; exact (a2 q hq).2.2.2.1
  · show σ 5 q = if B + 29 + q = B + 1 then v else r (B + 29 + q)
    rw [if_neg (by omega)]; exact (a2 q hq).2.2.2.2
  · show σ 6 q = if B + 12 + q = B + 1 then v else r (B + 12 + q)
    rw [if_neg (by omega)]; exact (a3 q hq).1
  · show σ 7 q = if B + 18 + q = B + 1 then v else r (B + 18 + q)
    rw [if_neg (by omega)]; exact (a3 q hq).2
/-- nothing but a state's own entries, and the rows that questions use -/
def rf (B : Nat) (mi mi' : fc_Mi) : Prop := (∀ x, x ≠ 266 → x ≠ 267 → x ≠ 268 → x ≠ 270 → mi' x = mi x) ∧ ∀ j, (j < B ∨ B + 39 ≤ j) → mi' 268 j = mi 268 j
theorem rf.rf' : rf B mi mi := ⟨fun _ _ _ _ _ => rfl, fun _ _ => rfl⟩
theorem rf.tr {m1 m2 : fc_Mi} (h : rf B mi m1) (g : rf B m1 m2) : rf B mi m2 := ⟨fun x a b c e => (g.1 x a b c e).trans (h.1 x a b c e), fun j q => (g.2 j q).trans (h.2 j q)⟩
theorem rf_row {r : Nat → Int32} (h : ∀ j, (j < B ∨ B + 39 ≤ j) → r j = mi 268 j) : rf B mi (fc_ur mi 268 r) := ⟨fun x _ _ c _ => fc_ur_off mi r c, fun j q => h j q⟩
theorem rz.rf {mm : fc_Mi} (h : rz mi n m t sm L) (g : rf B mi mm) : rz mm n m t sm L := h.off (g.1 258 (by decide) (by decide) (by decide) (by decide))
/-- a deed done to the state from B on -/
def rq (B n t : Nat) (v0 : Option Value) (τ : fc_Mi) (mi : fc_Mi) (ml : fc_Ml) (mr : fc_Mr) : fc_Q := fun v mi' ml' mr' => v0 = v ∧ as_ag n t τ (rv (mi' 268) B) ∧ rf B mi mi' ∧ ml = ml' ∧ mr = mr'
theorem c_rwalks (hW : fc_Wd mr) (hA : ra mi B n m t sm L σ) {y : Int32} (hy : y = nI B) {x : Int32} {p : Nat} (hx : x = nI p) (hp : p < n) (k : Int32) : fc_R E mX11_walks (d + 1) fc_sh [.ref 252, .int y, .int x, .int k] mi ml mr (rq B n t none (as_wk L σ p k) mi ml mr) := by
  obtain ⟨⟨e0, e2, e3, e4⟩, hB, hLo, hSo, hLg, hSg⟩ := id hA
  obtain ⟨h5, h7, h6, hs1, hs2, hLp, hLt⟩ := id hLo
  have hZ := hA.z
  refine fc_met rfl (Nat.le_of_ble_eq_true rfl) (fc_run oX11_walks (fun _ => false) 400 ?_)
  refine And.intro rfl (Exists.intro _ (And.intro (hW 252 24 268 rfl) ?_))
  refine Exists.intro _ (Exists.intro _ (And.intro rfl (And.intro (fc_ixn (fc_na (fc_na hy (fc_nl 2)) hx) (by omega) (by decide)) ?_)))
  refine And.intro rfl (Exists.intro _ (And.intro (hW 252 24 268 rfl) ?_))
  refine And.intro rfl (Exists.intro _ (And.intro (c_zper0 hW (hZ.off (by rfl)) hx (by omega)) ?_))
  rintro _ _ _ _ ⟨rfl, rfl, rfl, rfl⟩
  refine And.intro (fun h28 => ?_) (fun h28 => ?_)
  · refine Exists.intro _ (Exists.intro _ (And.intro rfl (And.intro (fc_ixn (fc_na (fc_na hy (fc_nl 7)) hx) (by omega) (by decide)) ?_)))
    refine ⟨rfl, ?_, ⟨fun x _ _ q _ => ?_, fun j q => ?_⟩, rfl, rfl⟩
    · have := ag_u2 (v := 2) (p := p) h5 h6 (by omega) (ag_u1 (v := k) (p := p) h5 h6 (by omega) hSg)
      unfold as_wk
      rw [if_pos h28]
      exact this
    · rw [fc_u_off _ _ _ q, fc_u_off _ _ _ q]
    · rw [fc_u_nj _ _ _ _ (by omega), fc_u_nj _ _ _ _ (by omega)]
  · refine Exists.intro _ (Exists.intro _ (And.intro rfl (And.intro (fc_ixn (fc_na (fc_na hy (fc_nl 7)) hx) (by omega) (by decide)) ?_)))
    refine ⟨rfl, ?_, ⟨fun x _ _ q _ => ?_, fun j q => ?_⟩, rfl, rfl⟩
    · have := ag_u2 (v := 1) (p := p) h5 h6 (by omega) (ag_u1 (v := k) (p := p) h5 h6 (by omega) hSg)
      unfold as_wk
      rw [if_neg h28]
      exact this
    · rw [fc_u_off _ _ _ q, fc_u_off _ _ _ q]
    · rw [fc_u_nj _ _ _ _ (by omega), fc_u_nj _ _ _ _ (by omega)]

/-- a stretch of a row laid elsewhere in it -/
def cpr (r : Nat → Int32) (a b k : Nat) : Nat → Int32 := fun j => if b ≤ j ∧ j < b + k then r (a + (j - b)) else r j
theorem cpr_0 (r : Nat → Int32) (a b : Nat) : cpr r a b 0 = r := by funext j; unfold cpr; rw [if_neg (by omega)]
theorem cpr_s {r : Nat → Int32} {a b k i : Nat} (h : a + k ≤ b ∨ b + k ≤ a) (hi : i < k) : (fun j => if j = b + i then cpr r a b i (a + i) else cpr r a b i j) = cpr r a b (i + 1) := by
  funext j
  unfold cpr
  by_cases e : j = b + i
  · rw [if_pos e, if_neg (by omega), if_pos (by omega), show a + (j - b) = a + i by omega]
  · rw [if_neg e]
    by_cases q : b ≤ j ∧ j < b + i
    · rw [if_pos q, if_pos (by omega)]
    · rw [if_neg q, if_neg (by omega)]
theorem l_rcopies (hW : fc_Wd mr) {x y z : Int32} {a b k : Nat} (hx : x = nI a) (hy : y = nI b) (hz : z = nI k) (ha : a + k ≤ 1472) (hb : b + k ≤ 1472) (hab : a + k ≤ b ∨ b + k ≤ a) : ∀ (j i : Nat) (c : Int32) (mm : fc_Mi), i + j = k → c = nI i → mm = fc_ur mi 268 (cpr (mi 268) a b i) → fc_T E mX11_copies d (0, 0) fc_sh 3 [some (.ref 252), some (.int x), some (.int y), some (.int z), some (.int c)] [] mm ml mr (fc_is none (fc_ur mi 268 (cpr (mi 268) a b k)) ml mr) := by
  intro j
  induction j with
  | zero =>
    intro i c mm hi hc hm
    subst hc
    refine fc_run oX11_copies (fun pc => pc == 3) 400 ?_
    refine And.intro (fun h6 => ?_) (fun h6 => ?_)
    · exact ⟨rfl, by rw [hm, show i = k by omega], rfl, rfl⟩
    · exact absurd (by rw [hz]; exact nI_le (by omega) (by omega)) h6
  | succ j ih =>
    intro i c mm hi hc hm
    subst hc
    refine fc_run oX11_copies (fun pc => pc == 3) 400 ?_
    refine And.intro (fun h6 => ?_) (fun h6 => ?_)
    · exact absurd h6 (by rw [hz]; exact nI_ge (by omega) (by omega))
    · refine And.intro rfl (Exists.intro _ (And.intro (hW 252 24 268 rfl) ?_))
      refine And.intro rfl (Exists.intro _ (And.intro (hW 252 24 268 rfl) ?_))
      refine Exists.intro _ (Exists.intro _ (And.intro rfl (And.intro (fc_ixn (fc_na hx rfl) (by omega) (by decide)) ?_)))
      refine Exists.intro _ (Exists.intro _ (And.intro rfl (And.intro (fc_ixn (fc_na hy rfl) (by omega) (by decide)) ?_)))
      exact ih (i + 1) _ _ (by omega) (fc_inc i) (by rw [hm, fc_u_ur]; exact congrArg (fc_ur mi 268) (cpr_s hab (by omega)))

theorem c_rcopies (hW : fc_Wd mr) {x y z : Int32} {a b k : Nat} (hx : x = nI a) (hy : y = nI b) (hz : z = nI k) (ha : a + k ≤ 1472) (hb : b + k ≤ 1472) (hab : a + k ≤ b ∨ b + k ≤ a) : fc_R E mX11_copies d fc_sh [.ref 252, .int x, .int y, .int z] mi ml mr (fc_is none (fc_ur mi 268 (cpr (mi 268) a b k)) ml mr) := by
  refine fc_met rfl (Nat.le_of_ble_eq_true rfl) (fc_run oX11_copies (fun pc => pc == 3) 400 ?_)
  exact l_rcopies hW hx hy hz ha hb hab k 0 _ _ (by omega) rfl (by rw [cpr_0, fc_ur_self])

/-- how a state begins, so far as it is laid: i persons, k things -/
def st_b (L : fc_Mi) (i k : Nat) : fc_Mi := fun x j => if x = 1 then (if j < i then L 6 j else 0) else if x = 3 then (if j < i then (1 : Int32) <<< (nI j &&& 31) else 0) else if x = 6 then (if j < k then L 9 j else 0) else if x = 7 then (if j < k then L 9 j else 0) else 0
theorem st_b_p (L : fc_Mi) (i k : Nat) : fc_u (fc_u (st_b L i k) 1 i (L 6 i)) 3 i ((1 : Int32) <<< (nI i &&& 31)) = st_b L (i + 1) k := by
  funext x j
  unfold fc_u st_b
  by_cases h1 : x = 1
  · subst h1
    by_cases h2 : j = i
    · subst h2; simp
    · by_cases h3 : j < i
      · simp [h2, h3, show j < i + 1 by omega]
      · simp [h2, h3, show ¬ j < i + 1 by omega]
  · by_cases h4 : x = 3
    · subst h4
      by_cases h2 : j = i
      · subst h2; simp
      · by_cases h3 : j < i
        · simp [h2, h3, show j < i + 1 by omega]
        · simp [h2, h3, show ¬ j < i + 1 by omega]
    · simp [h1, h4]
theorem st_b_t (L : fc_Mi) (i k : Nat) : fc_u (fc_u (st_b L i k) 6 k (L 9 k)) 7 k (L 9 k) = st_b L i (k + 1) := by
  funext x j
  unfold fc_u st_b
  by_cases h1 : x = 6
  · subst h1
    by_cases h2 : j = k
    · subst h2; simp
    · by_cases h3 : j < k
      · simp [h2, h3, show j < k + 1 by omega]
      · simp [h2, h3, show ¬ j < k + 1 by omega]
  · by_cases h4 : x = 7
    · subst h4
      by_cases h2 : j = k
      · subst h2; simp
      · by_cases h3 : j < k
        · simp [h2, h3, show j < k + 1 by omega]
        · simp [h2, h3, show ¬ j < k + 1 by omega]
    · simp [h1, h4]
theorem st_b_ag (L : fc_Mi) : as_ag n t (as_beg L) (st_b L n t) := by
  refine ⟨⟨rfl, rfl⟩, fun p hp => ⟨?_, rfl, ?_, rfl, rfl⟩, fun q hq => ⟨?_, ?_⟩⟩
  · show L 6 p = if p < n then L 6 p else 0
    rw [if_pos hp]
  · show _ = if p < n then (1 : Int32) <<< (nI p &&& 31) else 0
    rw [if_pos hp]; rfl
  · show L 9 q = if q < t then L 9 q else 0
    rw [if_pos hq]
  · show L 9 q = if q < t then L 9 q else 0
    rw [if_pos hq]
theorem l_rstarts3 (hW : fc_Wd mr) (hZ : rz mi n m t sm L) {y : Int32} (hy : y = nI B) (hB : B ≤ 1408) : ∀ (j i : Nat) (c : Int32) (r : Nat → Int32), i + j = t → c = nI i → as_ag n t (st_b L n i) (rv r B) → (∀ j, (j < B ∨ B + 39 ≤ j) → r j = mi 268 j) → fc_T E mX11_starts (d + 1) (0, 0) fc_sh 71 [some (.ref 252), some (.int y), some (.int c)] [] (fc_ur mi 268 r) ml mr (rq B n t none (as_beg L) mi ml mr) := by
  intro j
  induction j with
  | zero =>
    intro i c r hi hc hg hr
    subst hc
    obtain ⟨⟨e0, e2, e3, e4⟩, hLo, hLg⟩ := id hZ
    obtain ⟨h5, h7, h6, hs1, hs2, hLp, hLt⟩ := id hLo
    refine fc_run oX11_starts (fun pc => pc == 71) 400 ?_
    refine And.intro rfl (Exists.intro _ (And.intro (c_zthings hW (hZ.off (by rfl))) ?_))
    rintro _ _ _ _ ⟨rfl, rfl, rfl, rfl⟩
    refine And.intro (fun h76 => ?_) (fun h76 => ?_)
    · refine ⟨rfl, ?_, rf_row hr, rfl, rfl⟩
      rw [show i = t by omega] at hg
      exact (st_b_ag L).tr hg
    · exact absurd (nI_le (by omega) (by omega)) h76
  | succ j ih =>
    intro i c r hi hc hg hr
    subst hc
    obtain ⟨⟨e0, e2, e3, e4⟩, hLo, hLg⟩ := id hZ
    obtain ⟨h5, h7, h6, hs1, hs2, hLp, hLt⟩ := id hLo
    refine fc_run oX11_starts (fun pc => pc == 71) 400 ?_
    refine And.intro rfl (Exists.intro _ (And.intro (c_zthings hW (hZ.off (by rfl))) ?_))
    rintro _ _ _ _ ⟨rfl, rfl, rfl, rfl⟩
    refine And.intro (fun h76 => ?_) (fun h76 => ?_)
    · exact absurd h76 (nI_ge (by omega) (by omega))
    · refine And.intro rfl (Exists.intro _ (And.intro (hW 252 24 268 rfl) ?_))
      refine And.intro rfl (Exists.intro _ (And.intro (c_zthi1 hW (hZ.off (by rfl)) rfl (by omega)) ?_))
      rintro _ _ _ _ ⟨rfl, rfl, rfl, rfl⟩
      refine Exists.intro _ (Exists.intro _ (And.intro rfl (And.intro (fc_ixn (fc_na (fc_na hy (fc_nl 12)) rfl) (by omega) (by decide)) ?_)))
      refine And.intro rfl (Exists.intro _ (And.intro (hW 252 24 268 rfl) ?_))
      refine And.intro rfl (Exists.intro _ (And.intro (c_zthi1 hW (hZ.off (by rfl)) rfl (by omega)) ?_))
      rintro _ _ _ _ ⟨rfl, rfl, rfl, rfl⟩
      refine Exists.intro _ (Exists.intro _ (And.intro rfl (And.intro (fc_ixn (fc_na (fc_na hy (fc_nl 18)) rfl) (by omega) (by decide)) ?_)))
      rw [fc_u_ur, fc_u_ur]
      refine ih (i + 1) _ _ (by omega) (fc_inc i) ?_ (fun j q => ?_)
      · rw [← st_b_t]
        exact ag_u7 h5 h6 (by omega) (ag_u6 h5 h6 (by omega) hg)
      · rw [if_neg (by omega), if_neg (by omega)]; exact hr j q

theorem l_rstarts2 (hW : fc_Wd mr) (hZ : rz mi n m t sm L) {y : Int32} (hy : y = nI B) (hB : B ≤ 1408) : ∀ (j i : Nat) (c : Int32) (r : Nat → Int32), i + j = n → c = nI i → as_ag n t (st_b L i 0) (rv r B) → (∀ j, (j < B ∨ B + 39 ≤ j) → r j = mi 268 j) → fc_T E mX11_starts (d + 1) (0, 0) fc_sh 25 [some (.ref 252), some (.int y), some (.int c)] [] (fc_ur mi 268 r) ml mr (rq B n t none (as_beg L) mi ml mr) := by
  intro j
  induction j with
  | zero =>
    intro i c r hi hc hg hr
    subst hc
    obtain ⟨⟨e0, e2, e3, e4⟩, hLo, hLg⟩ := id hZ
    obtain ⟨h5, h7, h6, hs1, hs2, hLp, hLt⟩ := id hLo
    refine fc_run oX11_starts (fun pc => pc == 25 || pc == 71) 400 ?_
    refine And.intro rfl (Exists.intro _ (And.intro (c_zpersons hW (hZ.off (by rfl))) ?_))
    rintro _ _ _ _ ⟨rfl, rfl, rfl, rfl⟩
    refine And.intro (fun h30 => ?_) (fun h30 => ?_)
    · rw [show i = n by omega] at hg
      exact l_rstarts3 hW hZ hy hB t 0 _ _ (by omega) rfl hg hr
    · exact absurd (nI_le (by omega) (by omega)) h30
  | succ j ih =>
    intro i c r hi hc hg hr
    subst hc
    obtain ⟨⟨e0, e2, e3, e4⟩, hLo, hLg⟩ := id hZ
    obtain ⟨h5, h7, h6, hs1, hs2, hLp, hLt⟩ := id hLo
    refine fc_run oX11_starts (fun pc => pc == 25 || pc == 71) 400 ?_
    refine And.intro rfl (Exists.intro _ (And.intro (c_zpersons hW (hZ.off (by rfl))) ?_))
    rintro _ _ _ _ ⟨rfl, rfl, rfl, rfl⟩
    refine And.intro (fun h30 => ?_) (fun h30 => ?_)
    · exact absurd h30 (nI_ge (by omega) (by omega))
    · refine And.intro rfl (Exists.intro _ (And.intro (hW 252 24 268 rfl) ?_))
      refine And.intro rfl (Exists.intro _ (And.intro (c_zper1 hW (hZ.off (by rfl)) rfl (by omega)) ?_))
      rintro _ _ _ _ ⟨rfl, rfl, rfl, rfl⟩
      refine Exists.intro _ (Exists.intro _ (And.intro rfl (And.intro (fc_ixn (fc_na (fc_na hy (fc_nl 2)) rfl) (by omega) (by decide)) ?_)))
      refine And.intro rfl (Exists.intro _ (And.intro (hW 252 24 268 rfl) ?_))
      refine Exists.intro _ (Exists.intro _ (And.intro rfl (And.intro (fc_ixn (fc_na (fc_na hy (fc_nl 34)) rfl) (by omega) (by decide)) ?_)))
      rw [fc_u_ur, fc_u_ur]
      refine ih (i + 1) _ _ (by omega) (fc_inc i) ?_ (fun j q => ?_)
      · rw [← st_b_p]
        exact ag_u3 h5 h6 (by omega) (ag_u1 h5 h6 (by omega) hg)
      · rw [if_neg (by omega), if_neg (by omega)]; exact hr j q

theorem l_rstarts1 (hW : fc_Wd mr) (hZ : rz mi n m t sm L) {y : Int32} (hy : y = nI B) (hB : B ≤ 1408) : ∀ (j i : Nat) (c : Int32) (r : Nat → Int32), i + j = 39 → c = nI i → (∀ j, B ≤ j → j < B + i → r j = 0) → (∀ j, (j < B ∨ B + 39 ≤ j) → r j = mi 268 j) → fc_T E mX11_starts (d + 1) (0, 0) fc_sh 2 [some (.ref 252), some (.int y), some (.int c)] [] (fc_ur mi 268 r) ml mr (rq B n t none (as_beg L) mi ml mr) := by
  intro j
  induction j with
  | zero =>
    intro i c r hi hc hg hr
    subst hc
    obtain ⟨⟨e0, e2, e3, e4⟩, hLo, hLg⟩ := id hZ
    obtain ⟨hn5, h7, ht6, hs1, hs2, hLp, hLt⟩ := id hLo
    refine fc_run oX11_starts (fun pc => pc == 2 || pc == 25) 400 ?_
    refine And.intro (fun h5 => ?_) (fun h5 => ?_)
    · have hz : as_ag n t (st_b L 0 0) (rv r B) := by
        have g : ∀ j, B ≤ j → j < B + 39 → r j = 0 := fun j q1 q2 => hg j q1 (by omega)
        refine ⟨⟨?_, ?_⟩, fun p hp => ⟨?_, ?_, ?_, ?_, ?_⟩, fun q hq => ⟨?_, ?_⟩⟩
        · exact (g (B + 0) (by omega) (by omega)).symm
        · exact (g (B + 1) (by omega) (by omega)).symm
        · exact (g (B + 2 + p) (by omega) (by omega)).symm
        · exact (g (B + 7 + p) (by omega) (by omega)).symm
        · exact (g (B + 34 + p) (by omega) (by omega)).symm
        · exact (g (B + 24 + p) (by omega) (by omega)).symm
        · exact (g (B + 29 + p) (by omega) (by omega)).symm
        · exact (g (B + 12 + q) (by omega) (by omega)).symm
        · exact (g (B + 18 + q) (by omega) (by omega)).symm
      exact l_rstarts2 hW hZ hy hB n 0 _ _ (by omega) rfl hz hr
    · exact absurd (nI_le (a := 39) (b := i) (by omega) (by omega)) h5
  | succ j ih =>
    intro i c r hi hc hg hr
    subst hc
    obtain ⟨⟨e0, e2, e3, e4⟩, hLo, hLg⟩ := id hZ
    obtain ⟨hn5, h7, ht6, hs1, hs2, hLp, hLt⟩ := id hLo
    refine fc_run oX11_starts (fun pc => pc == 2 || pc == 25) 400 ?_
    refine And.intro (fun h5 => ?_) (fun h5 => ?_)
    · exact absurd h5 (nI_ge (a := i) (b := 39) (by omega) (by omega))
    · refine And.intro rfl (Exists.intro _ (And.intro (hW 252 24 268 rfl) ?_))
      refine Exists.intro _ (Exists.intro _ (And.intro rfl (And.intro (fc_ixn (fc_na hy rfl) (by omega) (by decide)) ?_)))
      rw [fc_u_ur]
      refine ih (i + 1) _ _ (by omega) (fc_inc i) (fun j q1 q2 => ?_) (fun j q => ?_)
      · by_cases e : j = B + i
        · rw [if_pos e]
        · rw [if_neg e]; exact hg j q1 (by omega)
      · rw [if_neg (by omega)]; exact hr j q

theorem c_rstarts (hW : fc_Wd mr) (hZ : rz mi n m t sm L) {y : Int32} (hy : y = nI B) (hB : B ≤ 1408) : fc_R E mX11_starts (d + 1) fc_sh [.ref 252, .int y] mi ml mr (rq B n t none (as_beg L) mi ml mr) := by
  refine fc_met rfl (Nat.le_of_ble_eq_true rfl) (fc_run oX11_starts (fun pc => pc == 2) 400 ?_)
  have h := l_rstarts1 (E := E) (d := d) (ml := ml) hW hZ hy hB 39 0 _ (mi 268) (by omega) rfl (fun j q1 q2 => absurd q2 (by omega)) (fun j _ => rfl)
  rw [fc_ur_self] at h
  exact h

/-- a smoke, so far as it is done: i persons, k things -/
def sm_b (L σ : fc_Mi) (i k : Nat) : fc_Mi := fun x j => if x = 6 then (if j < k then σ 7 j else σ 6 j) else if x = 4 then (if j < i then σ 5 j else σ 4 j) else if x = 1 then (if j < i then L 6 j else σ 1 j) else if x = 2 then (if j < i then 0 else σ 2 j) else σ x j
theorem sm_b_0 (L σ : fc_Mi) : sm_b L σ 0 0 = σ := by
  funext x j
  unfold sm_b
  by_cases h1 : x = 6
  · subst h1; simp
  · by_cases h2 : x = 4
    · subst h2; simp
    · by_cases h3 : x = 1
      · subst h3; simp
      · by_cases h4 : x = 2
        · subst h4; simp
        · simp [h1, h2, h3, h4]
theorem sm_b_t (L σ : fc_Mi) (k : Nat) : fc_u (sm_b L σ 0 k) 6 k (σ 7 k) = sm_b L σ 0 (k + 1) := by
  funext x j
  unfold fc_u sm_b
  by_cases h1 : x = 6
  · subst h1
    by_cases h2 : j = k
    · subst h2; simp
    · by_cases h3 : j < k
      · simp [h2, h3, show j < k + 1 by omega]
      · simp [h2, h3, show ¬ j < k + 1 by omega]
  · simp [h1]
theorem sm_b_p (L σ : fc_Mi) (i k : Nat) : fc_u (fc_u (fc_u (sm_b L σ i k) 4 i (σ 5 i)) 1 i (L 6 i)) 2 i 0 = sm_b L σ (i + 1) k := by
  funext x j
  unfold fc_u sm_b
  by_cases h1 : x = 4
  · subst h1
    by_cases h2 : j = i
    · subst h2; simp
    · by_cases h3 : j < i
      · simp [h2, h3, show j < i + 1 by omega]
      · simp [h2, h3, show ¬ j < i + 1 by omega]
  · by_cases h4 : x = 1
    · subst h4
      by_cases h2 : j = i
      · subst h2; simp
      · by_cases h3 : j < i
        · simp [h2, h3, show j < i + 1 by omega]
        · simp [h2, h3, show ¬ j < i + 1 by omega]
    · by_cases h5 : x = 2
      · subst h5
        by_cases h2 : j = i
        · subst h2; simp
        · by_cases h3 : j < i
          · simp [h2, h3, show j < i + 1 by omega]
          · simp [h2, h3, show ¬ j < i + 1 by omega]
      · simp [h1, h4, h5]
theorem sm_b_ag (hn : n ≤ 5) (ht : t ≤ 6) (L σ : fc_Mi) : as_ag n t (as_smoke L σ) (fc_u (fc_u (sm_b L σ n t) 0 0 (σ 0 0 + 1)) 0 1 0) := by
  unfold as_smoke
  rw [sp_to_cpy, sp_to_cpy, sp_to_cpy]
  refine ⟨⟨?_, ?_⟩, fun p hp => ⟨?_, ?_, ?_, ?_, ?_⟩, fun q hq => ⟨?_, ?_⟩⟩
  · simp [fc_u, fc_ur, sm_b]
  · simp [fc_u, fc_ur, sm_b]
  · simp [fc_u, fc_ur, sm_b, sp_to, hp, show p < 5 by omega]
  · simp [fc_u, fc_ur, sm_b, hp, show p < 5 by omega]
  · simp [fc_u, fc_ur, sm_b]
  · simp [fc_u, fc_ur, sm_b, sp_to, hp, show p < 5 by omega]
  · simp [fc_u, fc_ur, sm_b]
  · simp [fc_u, fc_ur, sm_b, sp_to, hq, show q < 6 by omega]
  · simp [fc_u, fc_ur, sm_b]
theorem l_rsmokes2 (hW : fc_Wd mr) (hZ : rz mi n m t sm L) {y : Int32} (hy : y = nI B) (hB : B ≤ 1408) : ∀ (j i : Nat) (c : Int32) (r : Nat → Int32), i + j = n → c = nI i → as_ag n t (sm_b L σ i t) (rv r B) → (∀ j, (j < B ∨ B + 39 ≤ j) → r j = mi 268 j) → fc_T E mX11_smokes (d + 1) (0, 0) fc_sh 40 [some (.ref 252), some (.int y), some (.int c)] [] (fc_ur mi 268 r) ml mr (rq B n t none (as_smoke L σ) mi ml mr) := by
  intro j
  induction j with
  | zero =>
    intro i c r hi hc hg hr
    subst hc
    obtain ⟨⟨e0, e2, e3, e4⟩, hLo, hLg⟩ := id hZ
    obtain ⟨h5, h7, h6, hs1, hs2, hLp, hLt⟩ := id hLo
    refine fc_run oX11_smokes (fun pc => pc == 40) 400 ?_
    refine And.intro rfl (Exists.intro _ (And.intro (c_zpersons hW (hZ.off (by rfl))) ?_))
    rintro _ _ _ _ ⟨rfl, rfl, rfl, rfl⟩
    refine And.intro (fun h45 => ?_) (fun h45 => ?_)
    · refine And.intro rfl (Exists.intro _ (And.intro (hW 252 24 268 rfl) ?_))
      refine Exists.intro _ (Exists.intro _ (And.intro rfl (And.intro (fc_ixn (fc_na hy (fc_nl 0)) (by omega) (by decide)) ?_)))
      refine Exists.intro _ (Exists.intro _ (And.intro rfl (And.intro (fc_ixn (fc_na hy (fc_nl 0)) (by omega) (by decide)) ?_)))
      refine And.intro rfl (Exists.intro _ (And.intro (hW 252 24 268 rfl) ?_))
      refine Exists.intro _ (Exists.intro _ (And.intro rfl (And.intro (fc_ixn (fc_na hy (fc_nl 1)) (by omega) (by decide)) ?_)))
      rw [fc_u_ur, fc_u_ur]
      refine ⟨rfl, ?_, rf_row (fun j q => by rw [if_neg (by omega), if_neg (by omega)]; exact hr j q), rfl, rfl⟩
      rw [show i = n by omega] at hg
      refine (sm_b_ag h5 h6 L σ).tr ?_
      have e0' : (fc_ur mi 268 r) 268 (B + 0) + 1 = σ 0 0 + 1 := by rw [show (fc_ur mi 268 r) 268 (B + 0) = σ 0 0 from hg.1.1.symm]
      rw [e0']
      exact ag_z1 h5 h6 (ag_z0 h5 h6 hg)
    · exact absurd (nI_le (by omega) (by omega)) h45
  | succ j ih =>
    intro i c r hi hc hg hr
    subst hc
    obtain ⟨⟨e0, e2, e3, e4⟩, hLo, hLg⟩ := id hZ
    obtain ⟨h5, h7, h6, hs1, hs2, hLp, hLt⟩ := id hLo
    refine fc_run oX11_smokes (fun pc => pc == 40) 400 ?_
    refine And.intro rfl (Exists.intro _ (And.intro (c_zpersons hW (hZ.off (by rfl))) ?_))
    rintro _ _ _ _ ⟨rfl, rfl, rfl, rfl⟩
    refine And.intro (fun h45 => ?_) (fun h45 => ?_)
    · exact absurd h45 (nI_ge (by omega) (by omega))
    · refine And.intro rfl (Exists.intro _ (And.intro (hW 252 24 268 rfl) ?_))
      refine And.intro rfl (Exists.intro _ (And.intro (hW 252 24 268 rfl) ?_))
      refine Exists.intro _ (Exists.intro _ (And.intro rfl (And.intro (fc_ixn (fc_na (fc_na hy (fc_nl 29)) rfl) (by omega) (by decide)) ?_)))
      refine Exists.intro _ (Exists.intro _ (And.intro rfl (And.intro (fc_ixn (fc_na (fc_na hy (fc_nl 24)) rfl) (by omega) (by decide)) ?_)))
      refine And.intro rfl (Exists.intro _ (And.intro (hW 252 24 268 rfl) ?_))
      refine And.intro rfl (Exists.intro _ (And.intro (c_zper1 hW (hZ.off (by rfl)) rfl (by omega)) ?_))
      rintro _ _ _ _ ⟨rfl, rfl, rfl, rfl⟩
      refine Exists.intro _ (Exists.intro _ (And.intro rfl (And.intro (fc_ixn (fc_na (fc_na hy (fc_nl 2)) rfl) (by omega) (by decide)) ?_)))
      refine And.intro rfl (Exists.intro _ (And.intro (hW 252 24 268 rfl) ?_))
      refine Exists.intro _ (Exists.intro _ (And.intro rfl (And.intro (fc_ixn (fc_na (fc_na hy (fc_nl 7)) rfl) (by omega) (by decide)) ?_)))
      rw [fc_u_ur, fc_u_ur, fc_u_ur]
      have e5 : (fc_ur mi 268 r) 268 (B + 29 + i) = σ 5 i := (hg.2.1 i (by omega)).2.2.2.2.symm
      rw [e5]
      refine ih (i + 1) _ _ (by omega) (fc_inc i) ?_ (fun j q => ?_)
      · rw [← sm_b_p]
        exact ag_u2 h5 h6 (by omega) (ag_u1 h5 h6 (by omega) (ag_u4 h5 h6 (by omega) hg))
      · rw [if_neg (by omega), if_neg (by omega), if_neg (by omega)]; exact hr j q

theorem l_rsmokes1 (hW : fc_Wd mr) (hZ : rz mi n m t sm L) {y : Int32} (hy : y = nI B) (hB : B ≤ 1408) : ∀ (j i : Nat) (c : Int32) (r : Nat → Int32), i + j = t → c = nI i → as_ag n t (sm_b L σ 0 i) (rv r B) → (∀ j, (j < B ∨ B + 39 ≤ j) → r j = mi 268 j) → fc_T E mX11_smokes (d + 1) (0, 0) fc_sh 2 [some (.ref 252), some (.int y), some (.int c)] [] (fc_ur mi 268 r) ml mr (rq B n t none (as_smoke L σ) mi ml mr) := by
  intro j
  induction j with
  | zero =>
    intro i c r hi hc hg hr
    subst hc
    obtain ⟨⟨e0, e2, e3, e4⟩, hLo, hLg⟩ := id hZ
    obtain ⟨h5, h7, h6, hs1, hs2, hLp, hLt⟩ := id hLo
    refine fc_run oX11_smokes (fun pc => pc == 2 || pc == 40) 400 ?_
    refine And.intro rfl (Exists.intro _ (And.intro (c_zthings hW (hZ.off (by rfl))) ?_))
    rintro _ _ _ _ ⟨rfl, rfl, rfl, rfl⟩
    refine And.intro (fun h7 => ?_) (fun h7 => ?_)
    · rw [show i = t by omega] at hg
      exact l_rsmokes2 hW hZ hy hB n 0 _ _ (by omega) rfl hg hr
    · exact absurd (nI_le (by omega) (by omega)) h7
  | succ j ih =>
    intro i c r hi hc hg hr
    subst hc
    obtain ⟨⟨e0, e2, e3, e4⟩, hLo, hLg⟩ := id hZ
    obtain ⟨h5, h7, h6, hs1, hs2, hLp, hLt⟩ := id hLo
    refine fc_run oX11_smokes (fun pc => pc == 2 || pc == 40) 400 ?_
    refine And.intro rfl (Exists.intro _ (And.intro (c_zthings hW (hZ.off (by rfl))) ?_))
    rintro _ _ _ _ ⟨rfl, rfl, rfl, rfl⟩
    refine And.intro (fun h7 => ?_) (fun h7 => ?_)
    · exact absurd h7 (nI_ge (by omega) (by omega))
    · refine And.intro rfl (Exists.intro _ (And.intro (hW 252 24 268 rfl) ?_))
      refine And.intro rfl (Exists.intro _ (And.intro (hW 252 24 268 rfl) ?_))
      refine Exists.intro _ (Exists.intro _ (And.intro rfl (And.intro (fc_ixn (fc_na (fc_na hy (fc_nl 18)) rfl) (by omega) (by decide)) ?_)))
      refine Exists.intro _ (Exists.intro _ (And.intro rfl (And.intro (fc_ixn (fc_na (fc_na hy (fc_nl 12)) rfl) (by omega) (by decide)) ?_)))
      rw [fc_u_ur]
      have e7 : (fc_ur mi 268 r) 268 (B + 18 + i) = σ 7 i := (hg.2.2 i (by omega)).2.symm
      rw [e7]
      refine ih (i + 1) _ _ (by omega) (fc_inc i) ?_ (fun j q => ?_)
      · rw [← sm_b_t]
        exact ag_u6 h5 h6 (by omega) hg
      · rw [if_neg (by omega)]; exact hr j q

theorem c_rsmokes (hW : fc_Wd mr) (hZ : rz mi n m t sm L) {y : Int32} (hy : y = nI B) (hB : B ≤ 1408) (hg : as_ag n t σ (rv (mi 268) B)) : fc_R E mX11_smokes (d + 1) fc_sh [.ref 252, .int y] mi ml mr (rq B n t none (as_smoke L σ) mi ml mr) := by
  refine fc_met rfl (Nat.le_of_ble_eq_true rfl) (fc_run oX11_smokes (fun pc => pc == 2) 400 ?_)
  have h := l_rsmokes1 (E := E) (d := d) (ml := ml) (σ := σ) hW hZ hy hB t 0 _ (mi 268) (by omega) rfl (by rw [sm_b_0]; exact hg) (fun j _ => rfl)
  rw [fc_ur_self] at h
  exact h

end M52
