/-! ===== a morning read ===== -/
section M41
variable {E : fc_E} {d : Nat} {mi : fc_Mi} {ml : fc_Ml} {mr : fc_Mr} {s : Nat → Int32} {n i b sc m k t L : Nat}
def ms_f1 (N : fc_Ml) (k t : Nat) (dd : Int32) (w : Int64) : Int32 := if dd = 140 then sp_fi (N 3) w t 0 else sp_fi (N 2) w k 0
def ms_f2 (N : fc_Ml) (m k : Nat) (dd : Int32) (w : Int64) : Int32 := if dd = 139 then sp_fi (N 1) w m 0 else sp_fi (N 2) w k 0
def ms_nm (s : Nat → Int32) (n : Nat) (N : fc_Ml) (m k t : Nat) (dd : Int32) (i : Nat) : Except Int32 (Int32 × Int32) :=
  if tK s n i = 4 then (if ms_f1 N k t dd (tW s n i) = -1 then .error (tF s n 2 i) else
    if tK s n (i + 1) = 4 then (if ms_f2 N m k dd (tW s n (i + 1)) = -1 then .error (tF s n 2 (i + 1)) else
      if dd = 141 ∧ ms_f1 N k t dd (tW s n i) = ms_f2 N m k dd (tW s n (i + 1)) then .error (tF s n 3 (i + 1)) else .ok (ms_f1 N k t dd (tW s n i), ms_f2 N m k dd (tW s n (i + 1))))
    else .error (tF s n 1 (i + 1))) else .error (tF s n 1 i)
def ms_line (s : Nat → Int32) (n : Nat) (N : fc_Ml) (m k t : Nat) (i L : Nat) (a : fc_Mi) : Except Int32 (fc_Mi × Nat) :=
  if sp_from 138 (tK s n i) 141 = true then (if 40 ≤ L then .error (tF s n 5 i) else if tK s n i = 138 then .ok (fc_u a 1 L 138, i + 1) else
    match ms_nm s n N m k t (tK s n i) (i + 1) with
    | .error f => .error f
    | .ok q => .ok (fc_u (fc_u (fc_u a 1 L (tK s n i)) 2 L q.1) 3 L q.2, i + 3)) else .error (tF s n 1 i)
def ms_rd (s : Nat → Int32) (n : Nat) (N : fc_Ml) (m k t : Nat) : Nat → Nat → Nat → fc_Mi → Except Int32 (Nat × fc_Mi)
  | 0, _, L, a => .ok (L, a)
  | j + 1, i, L, a => if tK s n i = 1 then .ok (L, a) else match ms_line s n N m k t i L a with
    | .error f => .error f
    | .ok q => if tK s n q.2 = 59 then ms_rd s n N m k t j (q.2 + 1) (L + 1) q.1 else .error (tF s n 1 q.2)
def fc_RS (L : Nat) (a mi : fc_Mi) (sc : Nat) : Prop := ∀ j, j < L → mi (sc + 1) j = a 1 j ∧ (¬ a 1 j = 138 → mi (sc + 2) j = a 2 j ∧ mi (sc + 3) j = a 3 j)
def fc_Fs (sc : Nat) (mi mi' : fc_Mi) (ml ml' : fc_Ml) : Prop := (∀ x, x ≠ 1 → (x < sc ∨ sc + 3 < x) → mi' x = mi x) ∧ (∀ x, x ≠ 1 → ml' x = ml x) ∧ mi' 1 1 = mi 1 1
theorem fc_Fs.tr {m1 m2 : fc_Mi} {l1 l2 : fc_Ml} (h : fc_Fs sc mi m1 ml l1) (h2 : fc_Fs sc m1 m2 l1 l2) : fc_Fs sc mi m2 ml l2 :=
  ⟨fun x a1 a5 => (h2.1 x a1 a5).trans (h.1 x a1 a5), fun x a1 => (h2.2.1 x a1).trans (h.2.1 x a1), h2.2.2.trans h.2.2⟩
theorem fc_Fs.rf : fc_Fs sc mi mi ml ml := ⟨fun _ _ _ => rfl, fun _ _ => rfl, rfl⟩
theorem fc_Fs.tm {m1 m2 : fc_Mi} {l1 l2 : fc_Ml} (h : fc_Fs sc mi m1 ml l1) (h2 : fc_tm m1 m2 l1 l2) : fc_Fs sc mi m2 ml l2 := h.tr ⟨fun x a1 _ => h2.1 x a1, fun x a1 => h2.2.1 x a1, h2.2.2.1⟩
theorem fc_Fs.ff {m1 m2 : fc_Mi} {l1 l2 : fc_Ml} {f : Int32} (h : fc_Fs sc mi m1 ml l1) (h2 : fc_ff m1 m2 l1 l2 f) : fc_Fs sc mi m2 ml l2 := h.tr ⟨fun x a1 _ => h2.2.1 x a1, fun x _ => by rw [h2.1], h2.2.2.1⟩
theorem fc_Fs.u {m1 : fc_Mi} {l1 : fc_Ml} {x j : Nat} {v : Int32} (h : fc_Fs sc mi m1 ml l1) (hx : sc ≤ x ∧ x ≤ sc + 3) (hs : 200 ≤ sc) : fc_Fs sc mi (fc_u m1 x j v) ml l1 :=
  h.tr ⟨fun y _ a5 => fc_u_off _ _ _ (by omega), fun _ _ => rfl, by rw [fc_u_off _ _ _ (by omega)]⟩
set_option maxHeartbeats 8000000 in
theorem c_readNames (hW : fc_Wd mr) (hL : fc_L mr b) (hQ : fc_Qs mr sc) (hb : 200 ≤ b) (hbs : b + 12 < sc) (hN : fc_LN mi b k m t) (hk : fc_Tk s mi ml n i) (h3 : mi sc 3 = nI L) (hL4 : L < 40) (dd : Int32) : fc_R E mX5_readNames (d + 7) fc_sh [.ref sc, .ref 1, .ref b, .int dd] mi ml mr (fun v mi' ml' mr' => ∃ z : Bool, v = some (.int (fc_b z)) ∧ mr = mr' ∧ fc_Fs sc mi mi' ml ml' ∧ (z = true → ∃ q, ms_nm s n (fun x => ml (b + x)) m k t dd i = .ok q ∧ mi' (sc + 2) = (fun j => if j = L then q.1 else mi (sc + 2) j) ∧ mi' (sc + 3) = (fun j => if j = L then q.2 else mi (sc + 3) j) ∧ (∀ y, y = sc ∨ y = sc + 1 → mi' y = mi y) ∧ fc_Tk s mi' ml' n (i + 2)) ∧ (z = false → ∃ f, ms_nm s n (fun x => ml (b + x)) m k t dd i = .error f ∧ mi' 1 7 = f)) := by
  obtain ⟨hN1, hN2, hN3, hN4, hN5, hN6⟩ := id hN
  refine fc_met rfl (Nat.le_of_ble_eq_true rfl) (fc_run oX5_readNames (fun _ => false) 400 ?_)
  refine And.intro (fun h4 => ?_) (fun h4 => ?_)
  · refine And.intro (fc_L_0 hL) (Exists.intro _ (And.intro (fc_L_r2 hL) ?_))
    refine And.intro (fc_L_0 hL) ?_
    rw [hN5]
    refine And.intro rfl (Exists.intro _ (And.intro (c_knownk hW hk (fc_L_3 hL) hN6 (by omega)) ?_))
    rintro _ ma la _ ⟨x1, rfl, rfl, ya, na⟩
    refine And.intro (fun h39 => ?_) (fun h39 => ?_)
    · refine And.intro (by first | exact Or.inl rfl | exact Or.inr rfl | exact fc_bb _ | assumption) ?_
      obtain ⟨f, ff, ⟨g1, g2⟩ | ⟨g1, g2, g3⟩⟩ := na h39
      · subst g2
        exact ⟨false, rfl, rfl, fc_Fs.rf.ff ff, fun q => absurd q (by decide), fun _ => ⟨_, by rw [ms_nm, if_neg g1], ff.2.2.2⟩⟩
      · subst g3
        exact ⟨false, rfl, rfl, fc_Fs.rf.ff ff, fun q => absurd q (by decide), fun _ => ⟨_, by rw [ms_nm, if_pos g1, if_pos (by rw [ms_f1, if_pos h4]; exact g2)], ff.2.2.2⟩⟩
    · obtain ⟨ga, exa, rfl, rfl⟩ := ya h39
      have ea : ms_f1 (fun x => ml (b + x)) k t dd (tW s n i) = x1 := by first | rw [ms_f1, if_pos h4, exa] | rw [ms_f1, if_neg h4, exa]
      refine And.intro rfl (Exists.intro _ (And.intro (c_next hW hk) ?_))
      rintro _ m45 l45 _ ⟨rfl, rfl, t45, k45⟩
      refine And.intro (fun h52 => ?_) (fun h52 => ?_)
      · refine And.intro (fc_L_0 hL) (Exists.intro _ (And.intro (fc_L_r0 hL) ?_))
        refine And.intro (fc_L_0 hL) ?_
        rw [t45.1 b (by omega), hN3]
        refine And.intro rfl (Exists.intro _ (And.intro (c_knownk hW k45 (fc_L_1 hL) hN4 (by omega)) ?_))
        rintro _ mb lb _ ⟨x2, rfl, rfl, yb, nb⟩
        refine And.intro (fun h87 => ?_) (fun h87 => ?_)
        · refine And.intro (by first | exact Or.inl rfl | exact Or.inr rfl | exact fc_bb _ | assumption) ?_
          obtain ⟨f, ff, ⟨g1, g2⟩ | ⟨g1, g2, g3⟩⟩ := nb h87
          · subst g2
            exact ⟨false, rfl, rfl, ((fc_Fs.rf (sc := sc)).tm t45).ff ff, fun q => absurd q (by decide), fun _ => ⟨_, by rw [ms_nm, if_pos ga, if_neg (by rw [ea]; exact h39), if_neg g1], ff.2.2.2⟩⟩
          · subst g3
            rw [t45.2.1 _ (by omega)] at g2
            exact ⟨false, rfl, rfl, ((fc_Fs.rf (sc := sc)).tm t45).ff ff, fun q => absurd q (by decide), fun _ => ⟨_, by rw [ms_nm, if_pos ga, if_neg (by rw [ea]; exact h39), if_pos g1, if_pos (by rw [ms_f2, if_pos h52]; exact g2)], ff.2.2.2⟩⟩
        · obtain ⟨gb, exb, rfl, rfl⟩ := yb h87
          rw [t45.2.1 _ (by omega)] at exb
          have eb : ms_f2 (fun x => ml (b + x)) m k dd (tW s n (i + 1)) = x2 := by first | rw [ms_f2, if_pos h52, exb] | rw [ms_f2, if_neg h52, exb]
          refine And.intro (fun h96 => ?_) (fun h96 => ?_)
          · refine And.intro (fun h103 => ?_) (fun h103 => ?_)
            · refine And.intro rfl (Exists.intro _ (And.intro (c_failk hW k45 3) ?_))
              rintro _ m108 l108 _ ⟨rfl, rfl, ff108⟩
              refine And.intro (by first | exact Or.inl rfl | exact Or.inr rfl | exact fc_bb _ | assumption) ?_
              exact ⟨false, rfl, rfl, ((fc_Fs.rf (sc := sc)).tm t45).ff ff108, fun q => absurd q (by decide), fun _ => ⟨_, by rw [ms_nm, if_pos ga, if_neg (by rw [ea]; exact h39), if_pos gb, if_neg (by rw [eb]; exact h87), ea, eb, if_pos ⟨h96, h103⟩], ff108.2.2.2⟩⟩
            · refine And.intro (fc_Q_0 hQ) (Exists.intro _ (And.intro (fc_Q_r1 hQ) ?_))
              refine And.intro (fc_Q_0 hQ) ?_
              rw [t45.1 sc (by omega), h3]
              refine Exists.intro _ (Exists.intro _ (And.intro (fc_Q_2 hQ) (And.intro (fc_ix_nI (p := L) (by omega) (by omega)) ?_)))
              refine And.intro (fc_Q_0 hQ) (Exists.intro _ (And.intro (fc_Q_r2 hQ) ?_))
              refine And.intro (fc_Q_0 hQ) ?_
              rw [fc_u_off _ _ _ (by omega), t45.1 sc (by omega), h3]
              refine Exists.intro _ (Exists.intro _ (And.intro (fc_Q_3 hQ) (And.intro (fc_ix_nI (p := L) (by omega) (by omega)) ?_)))
              refine And.intro rfl (Exists.intro _ (And.intro (c_next hW (k45.off (by rw [fc_u_off _ _ _ (show (1 : Nat) ≠ sc + 3 by omega), fc_u_off _ _ _ (show (1 : Nat) ≠ sc + 2 by omega)]) (by rw [fc_u_off _ _ _ (show (2 : Nat) ≠ sc + 3 by omega), fc_u_off _ _ _ (show (2 : Nat) ≠ sc + 2 by omega)]) rfl)) ?_))
              rintro _ m135 l135 _ ⟨rfl, rfl, t135, k135⟩
              refine And.intro (by first | exact Or.inl rfl | exact Or.inr rfl | exact fc_bb _ | assumption) ?_
              refine ⟨true, rfl, rfl, ((((fc_Fs.rf (sc := sc)).tm t45).u ⟨by omega, by omega⟩ (by omega)).u ⟨by omega, by omega⟩ (by omega)).tm t135, fun _ => ⟨(x1, x2), by rw [ms_nm, if_pos ga, if_neg (by rw [ea]; exact h39), if_pos gb, if_neg (by rw [eb]; exact h87), ea, eb, if_neg (fun q => h103 q.2)], ?_, ?_, fun y hy => ?_, k135⟩, fun q => absurd q (by decide)⟩
              · rw [t135.1 _ (by omega), fc_u_off _ _ _ (show sc + 2 ≠ sc + 3 by omega), fc_u_row, t45.1 _ (by omega)]
              · rw [t135.1 _ (by omega), fc_u_row, fc_u_off _ _ _ (show sc + 3 ≠ sc + 2 by omega), t45.1 _ (by omega)]
              · rw [t135.1 y (by omega), fc_u_off _ _ _ (by omega), fc_u_off _ _ _ (by omega), t45.1 y (by omega)]
          · refine And.intro (fc_Q_0 hQ) (Exists.intro _ (And.intro (fc_Q_r1 hQ) ?_))
            refine And.intro (fc_Q_0 hQ) ?_
            rw [t45.1 sc (by omega), h3]
            refine Exists.intro _ (Exists.intro _ (And.intro (fc_Q_2 hQ) (And.intro (fc_ix_nI (p := L) (by omega) (by omega)) ?_)))
            refine And.intro (fc_Q_0 hQ) (Exists.intro _ (And.intro (fc_Q_r2 hQ) ?_))
            refine And.intro (fc_Q_0 hQ) ?_
            rw [fc_u_off _ _ _ (by omega), t45.1 sc (by omega), h3]
            refine Exists.intro _ (Exists.intro _ (And.intro (fc_Q_3 hQ) (And.intro (fc_ix_nI (p := L) (by omega) (by omega)) ?_)))
            refine And.intro rfl (Exists.intro _ (And.intro (c_next hW (k45.off (by rw [fc_u_off _ _ _ (show (1 : Nat) ≠ sc + 3 by omega), fc_u_off _ _ _ (show (1 : Nat) ≠ sc + 2 by omega)]) (by rw [fc_u_off _ _ _ (show (2 : Nat) ≠ sc + 3 by omega), fc_u_off _ _ _ (show (2 : Nat) ≠ sc + 2 by omega)]) rfl)) ?_))
            rintro _ m135 l135 _ ⟨rfl, rfl, t135, k135⟩
            refine And.intro (by first | exact Or.inl rfl | exact Or.inr rfl | exact fc_bb _ | assumption) ?_
            refine ⟨true, rfl, rfl, ((((fc_Fs.rf (sc := sc)).tm t45).u ⟨by omega, by omega⟩ (by omega)).u ⟨by omega, by omega⟩ (by omega)).tm t135, fun _ => ⟨(x1, x2), by rw [ms_nm, if_pos ga, if_neg (by rw [ea]; exact h39), if_pos gb, if_neg (by rw [eb]; exact h87), ea, eb, if_neg (fun q => h96 q.1)], ?_, ?_, fun y hy => ?_, k135⟩, fun q => absurd q (by decide)⟩
            · rw [t135.1 _ (by omega), fc_u_off _ _ _ (show sc + 2 ≠ sc + 3 by omega), fc_u_row, t45.1 _ (by omega)]
            · rw [t135.1 _ (by omega), fc_u_row, fc_u_off _ _ _ (show sc + 3 ≠ sc + 2 by omega), t45.1 _ (by omega)]
            · rw [t135.1 y (by omega), fc_u_off _ _ _ (by omega), fc_u_off _ _ _ (by omega), t45.1 y (by omega)]
      · refine And.intro (fc_L_0 hL) (Exists.intro _ (And.intro (fc_L_r1 hL) ?_))
        refine And.intro (fc_L_0 hL) ?_
        rw [t45.1 b (by omega), hN1]
        refine And.intro rfl (Exists.intro _ (And.intro (c_knownk hW k45 (fc_L_2 hL) hN2 (by omega)) ?_))
        rintro _ mb lb _ ⟨x2, rfl, rfl, yb, nb⟩
        refine And.intro (fun h87 => ?_) (fun h87 => ?_)
        · refine And.intro (by first | exact Or.inl rfl | exact Or.inr rfl | exact fc_bb _ | assumption) ?_
          obtain ⟨f, ff, ⟨g1, g2⟩ | ⟨g1, g2, g3⟩⟩ := nb h87
          · subst g2
            exact ⟨false, rfl, rfl, ((fc_Fs.rf (sc := sc)).tm t45).ff ff, fun q => absurd q (by decide), fun _ => ⟨_, by rw [ms_nm, if_pos ga, if_neg (by rw [ea]; exact h39), if_neg g1], ff.2.2.2⟩⟩
          · subst g3
            rw [t45.2.1 _ (by omega)] at g2
            exact ⟨false, rfl, rfl, ((fc_Fs.rf (sc := sc)).tm t45).ff ff, fun q => absurd q (by decide), fun _ => ⟨_, by rw [ms_nm, if_pos ga, if_neg (by rw [ea]; exact h39), if_pos g1, if_pos (by rw [ms_f2, if_neg h52]; exact g2)], ff.2.2.2⟩⟩
        · obtain ⟨gb, exb, rfl, rfl⟩ := yb h87
          rw [t45.2.1 _ (by omega)] at exb
          have eb : ms_f2 (fun x => ml (b + x)) m k dd (tW s n (i + 1)) = x2 := by first | rw [ms_f2, if_pos h52, exb] | rw [ms_f2, if_neg h52, exb]
          refine And.intro (fun h96 => ?_) (fun h96 => ?_)
          · refine And.intro (fun h103 => ?_) (fun h103 => ?_)
            · refine And.intro rfl (Exists.intro _ (And.intro (c_failk hW k45 3) ?_))
              rintro _ m108 l108 _ ⟨rfl, rfl, ff108⟩
              refine And.intro (by first | exact Or.inl rfl | exact Or.inr rfl | exact fc_bb _ | assumption) ?_
              exact ⟨false, rfl, rfl, ((fc_Fs.rf (sc := sc)).tm t45).ff ff108, fun q => absurd q (by decide), fun _ => ⟨_, by rw [ms_nm, if_pos ga, if_neg (by rw [ea]; exact h39), if_pos gb, if_neg (by rw [eb]; exact h87), ea, eb, if_pos ⟨h96, h103⟩], ff108.2.2.2⟩⟩
            · refine And.intro (fc_Q_0 hQ) (Exists.intro _ (And.intro (fc_Q_r1 hQ) ?_))
              refine And.intro (fc_Q_0 hQ) ?_
              rw [t45.1 sc (by omega), h3]
              refine Exists.intro _ (Exists.intro _ (And.intro (fc_Q_2 hQ) (And.intro (fc_ix_nI (p := L) (by omega) (by omega)) ?_)))
              refine And.intro (fc_Q_0 hQ) (Exists.intro _ (And.intro (fc_Q_r2 hQ) ?_))
              refine And.intro (fc_Q_0 hQ) ?_
              rw [fc_u_off _ _ _ (by omega), t45.1 sc (by omega), h3]
              refine Exists.intro _ (Exists.intro _ (And.intro (fc_Q_3 hQ) (And.intro (fc_ix_nI (p := L) (by omega) (by omega)) ?_)))
              refine And.intro rfl (Exists.intro _ (And.intro (c_next hW (k45.off (by rw [fc_u_off _ _ _ (show (1 : Nat) ≠ sc + 3 by omega), fc_u_off _ _ _ (show (1 : Nat) ≠ sc + 2 by omega)]) (by rw [fc_u_off _ _ _ (show (2 : Nat) ≠ sc + 3 by omega), fc_u_off _ _ _ (show (2 : Nat) ≠ sc + 2 by omega)]) rfl)) ?_))
              rintro _ m135 l135 _ ⟨rfl, rfl, t135, k135⟩
              refine And.intro (by first | exact Or.inl rfl | exact Or.inr rfl | exact fc_bb _ | assumption) ?_
              refine ⟨true, rfl, rfl, ((((fc_Fs.rf (sc := sc)).tm t45).u ⟨by omega, by omega⟩ (by omega)).u ⟨by omega, by omega⟩ (by omega)).tm t135, fun _ => ⟨(x1, x2), by rw [ms_nm, if_pos ga, if_neg (by rw [ea]; exact h39), if_pos gb, if_neg (by rw [eb]; exact h87), ea, eb, if_neg (fun q => h103 q.2)], ?_, ?_, fun y hy => ?_, k135⟩, fun q => absurd q (by decide)⟩
              · rw [t135.1 _ (by omega), fc_u_off _ _ _ (show sc + 2 ≠ sc + 3 by omega), fc_u_row, t45.1 _ (by omega)]
              · rw [t135.1 _ (by omega), fc_u_row, fc_u_off _ _ _ (show sc + 3 ≠ sc + 2 by omega), t45.1 _ (by omega)]
              · rw [t135.1 y (by omega), fc_u_off _ _ _ (by omega), fc_u_off _ _ _ (by omega), t45.1 y (by omega)]
          · refine And.intro (fc_Q_0 hQ) (Exists.intro _ (And.intro (fc_Q_r1 hQ) ?_))
            refine And.intro (fc_Q_0 hQ) ?_
            rw [t45.1 sc (by omega), h3]
            refine Exists.intro _ (Exists.intro _ (And.intro (fc_Q_2 hQ) (And.intro (fc_ix_nI (p := L) (by omega) (by omega)) ?_)))
            refine And.intro (fc_Q_0 hQ) (Exists.intro _ (And.intro (fc_Q_r2 hQ) ?_))
            refine And.intro (fc_Q_0 hQ) ?_
            rw [fc_u_off _ _ _ (by omega), t45.1 sc (by omega), h3]
            refine Exists.intro _ (Exists.intro _ (And.intro (fc_Q_3 hQ) (And.intro (fc_ix_nI (p := L) (by omega) (by omega)) ?_)))
            refine And.intro rfl (Exists.intro _ (And.intro (c_next hW (k45.off (by rw [fc_u_off _ _ _ (show (1 : Nat) ≠ sc + 3 by omega), fc_u_off _ _ _ (show (1 : Nat) ≠ sc + 2 by omega)]) (by rw [fc_u_off _ _ _ (show (2 : Nat) ≠ sc + 3 by omega), fc_u_off _ _ _ (show (2 : Nat) ≠ sc + 2 by omega)]) rfl)) ?_))
            rintro _ m135 l135 _ ⟨rfl, rfl, t135, k135⟩
            refine And.intro (by first | exact Or.inl rfl | exact Or.inr rfl | exact fc_bb _ | assumption) ?_
            refine ⟨true, rfl, rfl, ((((fc_Fs.rf (sc := sc)).tm t45).u ⟨by omega, by omega⟩ (by omega)).u ⟨by omega, by omega⟩ (by omega)).tm t135, fun _ => ⟨(x1, x2), by rw [ms_nm, if_pos ga, if_neg (by rw [ea]; exact h39), if_pos gb, if_neg (by rw [eb]; exact h87), ea, eb, if_neg (fun q => h96 q.1)], ?_, ?_, fun y hy => ?_, k135⟩, fun q => absurd q (by decide)⟩
            · rw [t135.1 _ (by omega), fc_u_off _ _ _ (show sc + 2 ≠ sc + 3 by omega), fc_u_row, t45.1 _ (by omega)]
            · rw [t135.1 _ (by omega), fc_u_row, fc_u_off _ _ _ (show sc + 3 ≠ sc + 2 by omega), t45.1 _ (by omega)]
            · rw [t135.1 y (by omega), fc_u_off _ _ _ (by omega), fc_u_off _ _ _ (by omega), t45.1 y (by omega)]
  · refine And.intro (fc_L_0 hL) (Exists.intro _ (And.intro (fc_L_r1 hL) ?_))
    refine And.intro (fc_L_0 hL) ?_
    rw [hN1]
    refine And.intro rfl (Exists.intro _ (And.intro (c_knownk hW hk (fc_L_2 hL) hN2 (by omega)) ?_))
    rintro _ ma la _ ⟨x1, rfl, rfl, ya, na⟩
    refine And.intro (fun h39 => ?_) (fun h39 => ?_)
    · refine And.intro (by first | exact Or.inl rfl | exact Or.inr rfl | exact fc_bb _ | assumption) ?_
      obtain ⟨f, ff, ⟨g1, g2⟩ | ⟨g1, g2, g3⟩⟩ := na h39
      · subst g2
        exact ⟨false, rfl, rfl, fc_Fs.rf.ff ff, fun q => absurd q (by decide), fun _ => ⟨_, by rw [ms_nm, if_neg g1], ff.2.2.2⟩⟩
      · subst g3
        exact ⟨false, rfl, rfl, fc_Fs.rf.ff ff, fun q => absurd q (by decide), fun _ => ⟨_, by rw [ms_nm, if_pos g1, if_pos (by rw [ms_f1, if_neg h4]; exact g2)], ff.2.2.2⟩⟩
    · obtain ⟨ga, exa, rfl, rfl⟩ := ya h39
      have ea : ms_f1 (fun x => ml (b + x)) k t dd (tW s n i) = x1 := by first | rw [ms_f1, if_pos h4, exa] | rw [ms_f1, if_neg h4, exa]
      refine And.intro rfl (Exists.intro _ (And.intro (c_next hW hk) ?_))
      rintro _ m45 l45 _ ⟨rfl, rfl, t45, k45⟩
      refine And.intro (fun h52 => ?_) (fun h52 => ?_)
      · refine And.intro (fc_L_0 hL) (Exists.intro _ (And.intro (fc_L_r0 hL) ?_))
        refine And.intro (fc_L_0 hL) ?_
        rw [t45.1 b (by omega), hN3]
        refine And.intro rfl (Exists.intro _ (And.intro (c_knownk hW k45 (fc_L_1 hL) hN4 (by omega)) ?_))
        rintro _ mb lb _ ⟨x2, rfl, rfl, yb, nb⟩
        refine And.intro (fun h87 => ?_) (fun h87 => ?_)
        · refine And.intro (by first | exact Or.inl rfl | exact Or.inr rfl | exact fc_bb _ | assumption) ?_
          obtain ⟨f, ff, ⟨g1, g2⟩ | ⟨g1, g2, g3⟩⟩ := nb h87
          · subst g2
            exact ⟨false, rfl, rfl, ((fc_Fs.rf (sc := sc)).tm t45).ff ff, fun q => absurd q (by decide), fun _ => ⟨_, by rw [ms_nm, if_pos ga, if_neg (by rw [ea]; exact h39), if_neg g1], ff.2.2.2⟩⟩
          · subst g3
            rw [t45.2.1 _ (by omega)] at g2
            exact ⟨false, rfl, rfl, ((fc_Fs.rf (sc := sc)).tm t45).ff ff, fun q => absurd q (by decide), fun _ => ⟨_, by rw [ms_nm, if_pos ga, if_neg (by rw [ea]; exact h39), if_pos g1, if_pos (by rw [ms_f2, if_pos h52]; exact g2)], ff.2.2.2⟩⟩
        · obtain ⟨gb, exb, rfl, rfl⟩ := yb h87
          rw [t45.2.1 _ (by omega)] at exb
          have eb : ms_f2 (fun x => ml (b + x)) m k dd (tW s n (i + 1)) = x2 := by first | rw [ms_f2, if_pos h52, exb] | rw [ms_f2, if_neg h52, exb]
          refine And.intro (fun h96 => ?_) (fun h96 => ?_)
          · refine And.intro (fun h103 => ?_) (fun h103 => ?_)
            · refine And.intro rfl (Exists.intro _ (And.intro (c_failk hW k45 3) ?_))
              rintro _ m108 l108 _ ⟨rfl, rfl, ff108⟩
              refine And.intro (by first | exact Or.inl rfl | exact Or.inr rfl | exact fc_bb _ | assumption) ?_
              exact ⟨false, rfl, rfl, ((fc_Fs.rf (sc := sc)).tm t45).ff ff108, fun q => absurd q (by decide), fun _ => ⟨_, by rw [ms_nm, if_pos ga, if_neg (by rw [ea]; exact h39), if_pos gb, if_neg (by rw [eb]; exact h87), ea, eb, if_pos ⟨h96, h103⟩], ff108.2.2.2⟩⟩
            · refine And.intro (fc_Q_0 hQ) (Exists.intro _ (And.intro (fc_Q_r1 hQ) ?_))
              refine And.intro (fc_Q_0 hQ) ?_
              rw [t45.1 sc (by omega), h3]
              refine Exists.intro _ (Exists.intro _ (And.intro (fc_Q_2 hQ) (And.intro (fc_ix_nI (p := L) (by omega) (by omega)) ?_)))
              refine And.intro (fc_Q_0 hQ) (Exists.intro _ (And.intro (fc_Q_r2 hQ) ?_))
              refine And.intro (fc_Q_0 hQ) ?_
              rw [fc_u_off _ _ _ (by omega), t45.1 sc (by omega), h3]
              refine Exists.intro _ (Exists.intro _ (And.intro (fc_Q_3 hQ) (And.intro (fc_ix_nI (p := L) (by omega) (by omega)) ?_)))
              refine And.intro rfl (Exists.intro _ (And.intro (c_next hW (k45.off (by rw [fc_u_off _ _ _ (show (1 : Nat) ≠ sc + 3 by omega), fc_u_off _ _ _ (show (1 : Nat) ≠ sc + 2 by omega)]) (by rw [fc_u_off _ _ _ (show (2 : Nat) ≠ sc + 3 by omega), fc_u_off _ _ _ (show (2 : Nat) ≠ sc + 2 by omega)]) rfl)) ?_))
              rintro _ m135 l135 _ ⟨rfl, rfl, t135, k135⟩
              refine And.intro (by first | exact Or.inl rfl | exact Or.inr rfl | exact fc_bb _ | assumption) ?_
              refine ⟨true, rfl, rfl, ((((fc_Fs.rf (sc := sc)).tm t45).u ⟨by omega, by omega⟩ (by omega)).u ⟨by omega, by omega⟩ (by omega)).tm t135, fun _ => ⟨(x1, x2), by rw [ms_nm, if_pos ga, if_neg (by rw [ea]; exact h39), if_pos gb, if_neg (by rw [eb]; exact h87), ea, eb, if_neg (fun q => h103 q.2)], ?_, ?_, fun y hy => ?_, k135⟩, fun q => absurd q (by decide)⟩
              · rw [t135.1 _ (by omega), fc_u_off _ _ _ (show sc + 2 ≠ sc + 3 by omega), fc_u_row, t45.1 _ (by omega)]
              · rw [t135.1 _ (by omega), fc_u_row, fc_u_off _ _ _ (show sc + 3 ≠ sc + 2 by omega), t45.1 _ (by omega)]
              · rw [t135.1 y (by omega), fc_u_off _ _ _ (by omega), fc_u_off _ _ _ (by omega), t45.1 y (by omega)]
          · refine And.intro (fc_Q_0 hQ) (Exists.intro _ (And.intro (fc_Q_r1 hQ) ?_))
            refine And.intro (fc_Q_0 hQ) ?_
            rw [t45.1 sc (by omega), h3]
            refine Exists.intro _ (Exists.intro _ (And.intro (fc_Q_2 hQ) (And.intro (fc_ix_nI (p := L) (by omega) (by omega)) ?_)))
            refine And.intro (fc_Q_0 hQ) (Exists.intro _ (And.intro (fc_Q_r2 hQ) ?_))
            refine And.intro (fc_Q_0 hQ) ?_
            rw [fc_u_off _ _ _ (by omega), t45.1 sc (by omega), h3]
            refine Exists.intro _ (Exists.intro _ (And.intro (fc_Q_3 hQ) (And.intro (fc_ix_nI (p := L) (by omega) (by omega)) ?_)))
            refine And.intro rfl (Exists.intro _ (And.intro (c_next hW (k45.off (by rw [fc_u_off _ _ _ (show (1 : Nat) ≠ sc + 3 by omega), fc_u_off _ _ _ (show (1 : Nat) ≠ sc + 2 by omega)]) (by rw [fc_u_off _ _ _ (show (2 : Nat) ≠ sc + 3 by omega), fc_u_off _ _ _ (show (2 : Nat) ≠ sc + 2 by omega)]) rfl)) ?_))
            rintro _ m135 l135 _ ⟨rfl, rfl, t135, k135⟩
            refine And.intro (by first | exact Or.inl rfl | exact Or.inr rfl | exact fc_bb _ | assumption) ?_
            refine ⟨true, rfl, rfl, ((((fc_Fs.rf (sc := sc)).tm t45).u ⟨by omega, by omega⟩ (by omega)).u ⟨by omega, by omega⟩ (by omega)).tm t135, fun _ => ⟨(x1, x2), by rw [ms_nm, if_pos ga, if_neg (by rw [ea]; exact h39), if_pos gb, if_neg (by rw [eb]; exact h87), ea, eb, if_neg (fun q => h96 q.1)], ?_, ?_, fun y hy => ?_, k135⟩, fun q => absurd q (by decide)⟩
            · rw [t135.1 _ (by omega), fc_u_off _ _ _ (show sc + 2 ≠ sc + 3 by omega), fc_u_row, t45.1 _ (by omega)]
            · rw [t135.1 _ (by omega), fc_u_row, fc_u_off _ _ _ (show sc + 3 ≠ sc + 2 by omega), t45.1 _ (by omega)]
            · rw [t135.1 y (by omega), fc_u_off _ _ _ (by omega), fc_u_off _ _ _ (by omega), t45.1 y (by omega)]
      · refine And.intro (fc_L_0 hL) (Exists.intro _ (And.intro (fc_L_r1 hL) ?_))
        refine And.intro (fc_L_0 hL) ?_
        rw [t45.1 b (by omega), hN1]
        refine And.intro rfl (Exists.intro _ (And.intro (c_knownk hW k45 (fc_L_2 hL) hN2 (by omega)) ?_))
        rintro _ mb lb _ ⟨x2, rfl, rfl, yb, nb⟩
        refine And.intro (fun h87 => ?_) (fun h87 => ?_)
        · refine And.intro (by first | exact Or.inl rfl | exact Or.inr rfl | exact fc_bb _ | assumption) ?_
          obtain ⟨f, ff, ⟨g1, g2⟩ | ⟨g1, g2, g3⟩⟩ := nb h87
          · subst g2
            exact ⟨false, rfl, rfl, ((fc_Fs.rf (sc := sc)).tm t45).ff ff, fun q => absurd q (by decide), fun _ => ⟨_, by rw [ms_nm, if_pos ga, if_neg (by rw [ea]; exact h39), if_neg g1], ff.2.2.2⟩⟩
          · subst g3
            rw [t45.2.1 _ (by omega)] at g2
            exact ⟨false, rfl, rfl, ((fc_Fs.rf (sc := sc)).tm t45).ff ff, fun q => absurd q (by decide), fun _ => ⟨_, by rw [ms_nm, if_pos ga, if_neg (by rw [ea]; exact h39), if_pos g1, if_pos (by rw [ms_f2, if_neg h52]; exact g2)], ff.2.2.2⟩⟩
        · obtain ⟨gb, exb, rfl, rfl⟩ := yb h87
          rw [t45.2.1 _ (by omega)] at exb
          have eb : ms_f2 (fun x => ml (b + x)) m k dd (tW s n (i + 1)) = x2 := by first | rw [ms_f2, if_pos h52, exb] | rw [ms_f2, if_neg h52, exb]
          refine And.intro (fun h96 => ?_) (fun h96 => ?_)
          · refine And.intro (fun h103 => ?_) (fun h103 => ?_)
            · refine And.intro rfl (Exists.intro _ (And.intro (c_failk hW k45 3) ?_))
              rintro _ m108 l108 _ ⟨rfl, rfl, ff108⟩
              refine And.intro (by first | exact Or.inl rfl | exact Or.inr rfl | exact fc_bb _ | assumption) ?_
              exact ⟨false, rfl, rfl, ((fc_Fs.rf (sc := sc)).tm t45).ff ff108, fun q => absurd q (by decide), fun _ => ⟨_, by rw [ms_nm, if_pos ga, if_neg (by rw [ea]; exact h39), if_pos gb, if_neg (by rw [eb]; exact h87), ea, eb, if_pos ⟨h96, h103⟩], ff108.2.2.2⟩⟩
            · refine And.intro (fc_Q_0 hQ) (Exists.intro _ (And.intro (fc_Q_r1 hQ) ?_))
              refine And.intro (fc_Q_0 hQ) ?_
              rw [t45.1 sc (by omega), h3]
              refine Exists.intro _ (Exists.intro _ (And.intro (fc_Q_2 hQ) (And.intro (fc_ix_nI (p := L) (by omega) (by omega)) ?_)))
              refine And.intro (fc_Q_0 hQ) (Exists.intro _ (And.intro (fc_Q_r2 hQ) ?_))
              refine And.intro (fc_Q_0 hQ) ?_
              rw [fc_u_off _ _ _ (by omega), t45.1 sc (by omega), h3]
              refine Exists.intro _ (Exists.intro _ (And.intro (fc_Q_3 hQ) (And.intro (fc_ix_nI (p := L) (by omega) (by omega)) ?_)))
              refine And.intro rfl (Exists.intro _ (And.intro (c_next hW (k45.off (by rw [fc_u_off _ _ _ (show (1 : Nat) ≠ sc + 3 by omega), fc_u_off _ _ _ (show (1 : Nat) ≠ sc + 2 by omega)]) (by rw [fc_u_off _ _ _ (show (2 : Nat) ≠ sc + 3 by omega), fc_u_off _ _ _ (show (2 : Nat) ≠ sc + 2 by omega)]) rfl)) ?_))
              rintro _ m135 l135 _ ⟨rfl, rfl, t135, k135⟩
              refine And.intro (by first | exact Or.inl rfl | exact Or.inr rfl | exact fc_bb _ | assumption) ?_
              refine ⟨true, rfl, rfl, ((((fc_Fs.rf (sc := sc)).tm t45).u ⟨by omega, by omega⟩ (by omega)).u ⟨by omega, by omega⟩ (by omega)).tm t135, fun _ => ⟨(x1, x2), by rw [ms_nm, if_pos ga, if_neg (by rw [ea]; exact h39), if_pos gb, if_neg (by rw [eb]; exact h87), ea, eb, if_neg (fun q => h103 q.2)], ?_, ?_, fun y hy => ?_, k135⟩, fun q => absurd q (by decide)⟩
              · rw [t135.1 _ (by omega), fc_u_off _ _ _ (show sc + 2 ≠ sc + 3 by omega), fc_u_row, t45.1 _ (by omega)]
              · rw [t135.1 _ (by omega), fc_u_row, fc_u_off _ _ _ (show sc + 3 ≠ sc + 2 by omega), t45.1 _ (by omega)]
              · rw [t135.1 y (by omega), fc_u_off _ _ _ (by omega), fc_u_off _ _ _ (by omega), t45.1 y (by omega)]
          · refine And.intro (fc_Q_0 hQ) (Exists.intro _ (And.intro (fc_Q_r1 hQ) ?_))
            refine And.intro (fc_Q_0 hQ) ?_
            rw [t45.1 sc (by omega), h3]
            refine Exists.intro _ (Exists.intro _ (And.intro (fc_Q_2 hQ) (And.intro (fc_ix_nI (p := L) (by omega) (by omega)) ?_)))
            refine And.intro (fc_Q_0 hQ) (Exists.intro _ (And.intro (fc_Q_r2 hQ) ?_))
            refine And.intro (fc_Q_0 hQ) ?_
            rw [fc_u_off _ _ _ (by omega), t45.1 sc (by omega), h3]
            refine Exists.intro _ (Exists.intro _ (And.intro (fc_Q_3 hQ) (And.intro (fc_ix_nI (p := L) (by omega) (by omega)) ?_)))
            refine And.intro rfl (Exists.intro _ (And.intro (c_next hW (k45.off (by rw [fc_u_off _ _ _ (show (1 : Nat) ≠ sc + 3 by omega), fc_u_off _ _ _ (show (1 : Nat) ≠ sc + 2 by omega)]) (by rw [fc_u_off _ _ _ (show (2 : Nat) ≠ sc + 3 by omega), fc_u_off _ _ _ (show (2 : Nat) ≠ sc + 2 by omega)]) rfl)) ?_))
            rintro _ m135 l135 _ ⟨rfl, rfl, t135, k135⟩
            refine And.intro (by first | exact Or.inl rfl | exact Or.inr rfl | exact fc_bb _ | assumption) ?_
            refine ⟨true, rfl, rfl, ((((fc_Fs.rf (sc := sc)).tm t45).u ⟨by omega, by omega⟩ (by omega)).u ⟨by omega, by omega⟩ (by omega)).tm t135, fun _ => ⟨(x1, x2), by rw [ms_nm, if_pos ga, if_neg (by rw [ea]; exact h39), if_pos gb, if_neg (by rw [eb]; exact h87), ea, eb, if_neg (fun q => h96 q.1)], ?_, ?_, fun y hy => ?_, k135⟩, fun q => absurd q (by decide)⟩
            · rw [t135.1 _ (by omega), fc_u_off _ _ _ (show sc + 2 ≠ sc + 3 by omega), fc_u_row, t45.1 _ (by omega)]
            · rw [t135.1 _ (by omega), fc_u_row, fc_u_off _ _ _ (show sc + 3 ≠ sc + 2 by omega), t45.1 _ (by omega)]
            · rw [t135.1 y (by omega), fc_u_off _ _ _ (by omega), fc_u_off _ _ _ (by omega), t45.1 y (by omega)]

theorem c_readLine (hW : fc_Wd mr) (hL : fc_L mr b) (hQ : fc_Qs mr sc) (hb : 200 ≤ b) (hbs : b + 12 < sc) (hN : fc_LN mi b k m t) (hk : fc_Tk s mi ml n i) (h3 : mi sc 3 = nI L) (hL4 : L ≤ 40) {a : fc_Mi} (hA : fc_RS L a mi sc) : fc_R E mX5_readLine (d + 8) fc_sh [.ref sc, .ref 1, .ref b] mi ml mr (fun v mi' ml' mr' => ∃ z : Bool, v = some (.int (fc_b z)) ∧ mr = mr' ∧ fc_Fs sc mi mi' ml ml' ∧ (z = true → ∃ q, ms_line s n (fun x => ml (b + x)) m k t i L a = .ok q ∧ mi' sc 3 = nI (L + 1) ∧ fc_RS (L + 1) q.1 mi' sc ∧ fc_Tk s mi' ml' n q.2) ∧ (z = false → ∃ f, ms_line s n (fun x => ml (b + x)) m k t i L a = .error f ∧ mi' 1 7 = f)) := by
  have k4 := hk.2.2.2.2.2.1
  refine fc_met rfl (Nat.le_of_ble_eq_true rfl) (fc_run oX5_readLine (fun _ => false) 400 ?_)
  refine And.intro rfl ?_
  rw [k4]
  refine Exists.intro _ (And.intro (c_isFrom _ _ _) ?_)
  rintro _ _ _ _ ⟨rfl, rfl, rfl, rfl⟩
  refine And.intro (fun h15 => ?_) (fun h15 => ?_)
  · replace h15 := fc_b0.mp h15
    refine And.intro rfl (Exists.intro _ (And.intro (c_failk hW hk 1) ?_))
    rintro _ m20 l20 _ ⟨rfl, rfl, ff20⟩
    refine And.intro (by first | exact Or.inl rfl | exact Or.inr rfl | exact fc_bb _ | assumption) ?_
    exact ⟨false, rfl, rfl, fc_Fs.rf.ff ff20, fun q => absurd q (by decide), fun _ => ⟨_, by rw [ms_line, if_neg (by rw [h15]; decide)], ff20.2.2.2⟩⟩
  · replace h15 := fc_b1.mp h15
    refine And.intro (fc_Q_0 hQ) ?_
    rw [h3]
    refine And.intro (fun h30 => ?_) (fun h30 => ?_)
    · have q30 : L < 40 := (nI_ltI (by omega) (by omega)).mp (show nI L < nI 40 from h30)
      refine And.intro (fc_Q_0 hQ) (Exists.intro _ (And.intro (fc_Q_r0 hQ) ?_))
      refine And.intro (fc_Q_0 hQ) ?_
      rw [h3]
      refine Exists.intro _ (Exists.intro _ (And.intro (fc_Q_1 hQ) (And.intro (fc_ix_nI (p := L) (by omega) (by omega)) ?_)))
      refine And.intro rfl (Exists.intro _ (And.intro (c_next hW (hk.off (fc_u_off _ _ _ (by omega)) (fc_u_off _ _ _ (by omega)) rfl)) ?_))
      rintro _ m50 l50 _ ⟨rfl, rfl, t50, k50⟩
      have F50 := ((fc_Fs.rf (sc := sc) (mi := mi) (ml := ml)).u ⟨Nat.le_add_right _ _, by omega⟩ (by omega)).tm t50
      have eN : ms_nm s n (fun x => l50 (b + x)) m k t (tK s n i) (i + 1) = ms_nm s n (fun x => ml (b + x)) m k t (tK s n i) (i + 1) := by
        have q : ∀ x, l50 (b + x) = ml (b + x) := fun x => t50.2.1 _ (by omega)
        simp only [q]
      have N50 : fc_LN m50 b k m t := hN.off (by rw [t50.1 b (by omega), fc_u_off _ _ _ (by omega)])
      have S50 : m50 sc 3 = nI L := by rw [t50.1 sc (by omega), fc_u_off _ _ _ (by omega), h3]
      refine And.intro (fun h57 => ?_) (fun h57 => ?_)
      · refine And.intro (fc_Q_0 hQ) ?_
        refine And.intro (fc_Q_0 hQ) ?_
        refine And.intro (by first | exact Or.inl rfl | exact Or.inr rfl | exact fc_bb _ | assumption) ?_
        refine ⟨true, rfl, rfl, F50.u ⟨by omega, by omega⟩ (by omega), fun _ => ⟨(fc_u a 1 L 138, i + 1), by rw [ms_line, if_pos h15, if_neg (show ¬ 40 ≤ L by omega), if_pos h57], ?_, ?_, k50.off (fc_u_off _ _ _ (by omega)) (fc_u_off _ _ _ (by omega)) rfl⟩, fun q => absurd q (by decide)⟩
        · rw [fc_u_at, t50.1 sc (by omega), fc_u_off _ _ _ (by omega), h3]; exact nI_1 _
        · intro j hj
          dsimp only
          have e1 : (fc_u m50 sc 3 (m50 sc 3 + 1)) (sc + 1) j = if j = L then tK s n i else mi (sc + 1) j := by rw [fc_u_off _ _ _ (by omega), t50.1 _ (by omega), fc_u_row]
          have e2 : (fc_u m50 sc 3 (m50 sc 3 + 1)) (sc + 2) j = mi (sc + 2) j := by rw [fc_u_off _ _ _ (by omega), t50.1 _ (by omega), fc_u_off _ _ _ (by omega)]
          have e3 : (fc_u m50 sc 3 (m50 sc 3 + 1)) (sc + 3) j = mi (sc + 3) j := by rw [fc_u_off _ _ _ (by omega), t50.1 _ (by omega), fc_u_off _ _ _ (by omega)]
          refine ⟨?_, ?_⟩
          · rw [e1]
            by_cases q : j = L
            · simp [fc_u, q, h57]
            · simp [fc_u, q]; exact (hA j (by omega)).1
          · rw [e2, e3]
            by_cases q : j = L
            · simp [fc_u, q]
            · simp [fc_u, q]; exact (hA j (by omega)).2
      · refine And.intro (fc_Q_0 hQ) (Exists.intro _ (And.intro (c_readNames hW hL hQ hb hbs N50 k50 S50 q30 (tK s n i)) ?_))
        rintro _ m64 l64 _ ⟨z64, rfl, rfl, F64, y64, n64⟩
        refine And.intro (fun h67 => ?_) (fun h67 => ?_)
        · replace h67 := fc_b0.mp h67
          refine And.intro (by first | exact Or.inl rfl | exact Or.inr rfl | exact fc_bb _ | assumption) ?_
          obtain ⟨f, e, e7⟩ := n64 h67
          exact ⟨false, rfl, rfl, F50.tr F64, fun q => absurd q (by decide), fun _ => ⟨f, by rw [ms_line, if_pos h15, if_neg (show ¬ 40 ≤ L by omega), if_neg h57, ← eN, e], e7⟩⟩
        · replace h67 := fc_b1.mp h67
          refine And.intro (fc_Q_0 hQ) ?_
          refine And.intro (fc_Q_0 hQ) ?_
          refine And.intro (by first | exact Or.inl rfl | exact Or.inr rfl | exact fc_bb _ | assumption) ?_
          obtain ⟨q, e, e2, e3, e1, k64⟩ := y64 h67
          refine ⟨true, rfl, rfl, (F50.tr F64).u ⟨by omega, by omega⟩ (by omega), fun _ => ⟨(fc_u (fc_u (fc_u a 1 L (tK s n i)) 2 L q.1) 3 L q.2, i + 3), by rw [ms_line, if_pos h15, if_neg (show ¬ 40 ≤ L by omega), if_neg h57, ← eN, e], ?_, ?_, k64.off (fc_u_off _ _ _ (by omega)) (fc_u_off _ _ _ (by omega)) rfl⟩, fun q => absurd q (by decide)⟩
          · rw [fc_u_at, e1 sc (Or.inl rfl), t50.1 sc (by omega), fc_u_off _ _ _ (by omega), h3]; exact nI_1 _
          · intro j hj
            dsimp only
            have z1 : (fc_u m64 sc 3 (m64 sc 3 + 1)) (sc + 1) j = if j = L then tK s n i else mi (sc + 1) j := by rw [fc_u_off _ _ _ (by omega), e1 _ (Or.inr rfl), t50.1 _ (by omega), fc_u_row]
            have z2 : (fc_u m64 sc 3 (m64 sc 3 + 1)) (sc + 2) j = if j = L then q.1 else mi (sc + 2) j := by rw [fc_u_off _ _ _ (by omega), e2, t50.1 _ (by omega), fc_u_off _ _ _ (by omega)]
            have z3 : (fc_u m64 sc 3 (m64 sc 3 + 1)) (sc + 3) j = if j = L then q.2 else mi (sc + 3) j := by rw [fc_u_off _ _ _ (by omega), e3, t50.1 _ (by omega), fc_u_off _ _ _ (by omega)]
            refine ⟨?_, ?_⟩
            · rw [z1]
              by_cases q : j = L
              · simp [fc_u, q]
              · simp [fc_u, q]; exact (hA j (by omega)).1
            · rw [z2, z3]
              by_cases q : j = L
              · simp [fc_u, q]
              · simp [fc_u, q]; exact (hA j (by omega)).2
    · have q30 : 40 ≤ L := by
        rcases Nat.lt_or_ge L 40 with q | q
        · exact absurd (show nI L < 40 from nI_lt (b := 40) q (by omega)) h30
        · exact q
      refine And.intro rfl (Exists.intro _ (And.intro (c_failk hW hk 5) ?_))
      rintro _ m35 l35 _ ⟨rfl, rfl, ff35⟩
      refine And.intro (by first | exact Or.inl rfl | exact Or.inr rfl | exact fc_bb _ | assumption) ?_
      exact ⟨false, rfl, rfl, fc_Fs.rf.ff ff35, fun q => absurd q (by decide), fun _ => ⟨_, by rw [ms_line, if_pos h15, if_pos q30], ff35.2.2.2⟩⟩

end M41
