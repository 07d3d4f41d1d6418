/-! ===== the law's reader ===== -/
section M39
variable {E : fc_E} {d : Nat} {mi : fc_Mi} {ml : fc_Ml} {mr : fc_Mr} {s : Nat → Int32} {n i b : Nat}
abbrev fc_Lc : Type := List Int32 × Int32 × Bool × List Int32
def fc_Ft (b : Nat) (mi mi' : fc_Mi) (ml ml' : fc_Ml) : Prop := (∀ x, x ≠ 1 → x ≠ 4 → x ≠ 5 → x ≠ b + 10 → x ≠ b + 11 → mi' x = mi x) ∧ (∀ x, x ≠ 1 → ml' x = ml x) ∧ mi' 1 1 = mi 1 1
def fc_lq (b : Nat) (mi : fc_Mi) (ml : fc_Ml) (mr : fc_Mr) (r : Except Int32 fc_Lc) : fc_Q := fun v mi' ml' mr' => ml = ml' ∧ mr = mr' ∧ fc_Ft b mi mi' ml ml' ∧ (match r with | .error f => v = some (.int (fc_b false)) ∧ mi' 1 7 = f | .ok c => v = some (.int (fc_b true)) ∧ mi' 1 = mi 1 ∧ fc_RL c mi' b)
theorem fc_lq.bq {mi' : fc_Mi} {ml' : fc_Ml} {mr' : fc_Mr} {v : Option Value} {r : Except Int32 fc_Lc} (h : fc_lq b mi ml mr r v mi' ml' mr') : ∃ z : Bool, v = some (.int (fc_b z)) ∧ ml = ml' ∧ mr = mr' ∧ fc_Ft b mi mi' ml ml' ∧ (z = true → ∃ c, r = .ok c ∧ mi' 1 = mi 1 ∧ fc_RL c mi' b) ∧ (z = false → ∃ f, r = .error f ∧ mi' 1 7 = f) := by
  cases r with
  | error f => exact ⟨false, h.2.2.2.1, h.1, h.2.1, h.2.2.1, fun q => absurd q (by decide), fun _ => ⟨f, rfl, h.2.2.2.2⟩⟩
  | ok c => exact ⟨true, h.2.2.2.1, h.1, h.2.1, h.2.2.1, fun _ => ⟨c, rfl, h.2.2.2.2.1, h.2.2.2.2.2⟩, fun q => absurd q (by decide)⟩
theorem fc_pr.bq {mi' : fc_Mi} {ml' : fc_Ml} {mr' : fc_Mr} {v : Option Value} {r : Except Int32 (fc_Ab × Nat)} (h : fc_pr s n b mi ml mr r v mi' ml' mr') : ∃ z : Bool, v = some (.int (fc_b z)) ∧ mr = mr' ∧ fc_Fm b mi mi' ml ml' ∧ (z = true → ∃ q, r = .ok q ∧ fc_RC q.1 mi' ml' b ∧ fc_Tk s mi' ml' n q.2) ∧ (z = false → ∃ f, r = .error f ∧ mi' 1 7 = f) := by
  cases r with
  | error f => exact ⟨false, h.2.2.1, h.1, h.2.1, fun q => absurd q (by decide), fun _ => ⟨f, rfl, h.2.2.2⟩⟩
  | ok c => exact ⟨true, h.2.2.1, h.1, h.2.1, fun _ => ⟨c, rfl, h.2.2.2⟩, fun q => absurd q (by decide)⟩
def ps_fa (s : Nat → Int32) (n i : Nat) : Int32 := if tK s n i = 4 then tk_cl 2 s n (tS s n i) (tE s n i) else -1
def ps_opn (s : Nat → Int32) (n i : Nat) : Bool := decide (tK s n i = 146) || decide (tK s n i = 40)
def ps_part (s : Nat → Int32) (n i : Nat) (w : List Int32) (dp : Int32) (o : List Int32) : Except Int32 fc_Lc :=
  if ps_opn s n i = true then (if dp < 5 then .ok (ps_push w (tK s n i), dp + 1, true, o) else .error (tF s n 5 i))
  else if ps_fa s n i = -1 then (if tK s n i = 3 then (if dp < 5 then .ok ((ps_cn w dp (ps_wr o (tN s n i))).1, (ps_cn w dp (ps_wr o (tN s n i))).2.1, false, (ps_cn w dp (ps_wr o (tN s n i))).2.2) else .error (tF s n 5 i)) else .error (tF s n 1 i))
  else (if dp < 5 then .ok ((ps_cn w dp (ps_wr o (-256 - ps_fa s n i))).1, (ps_cn w dp (ps_wr o (-256 - ps_fa s n i))).2.1, false, (ps_cn w dp (ps_wr o (-256 - ps_fa s n i))).2.2) else .error (tF s n 5 i))
def ps_tp : List Int32 → Int32
  | [] => 0
  | x :: _ => ps_rk x
def ps_beh (s : Nat → Int32) (n i : Nat) (w : List Int32) (dp : Int32) (o : List Int32) : Except Int32 fc_Lc :=
  if tK s n i = 41 ∧ ¬ dp ≤ 0 then .ok ((ps_cn (ps_wd 1 w o).1.tail (dp - 1) (ps_wd 1 w o).2).1, (ps_cn (ps_wd 1 w o).1.tail (dp - 1) (ps_wd 1 w o).2).2.1, false, (ps_cn (ps_wd 1 w o).1.tail (dp - 1) (ps_wd 1 w o).2).2.2)
  else if ps_rk (tK s n i) = 0 then .error (tF s n 1 i)
  else if ps_rk (tK s n i) = 2 then (if ps_tp (ps_wd 3 w o).1 = 2 then .error (tF s n 1 i) else .ok (ps_push (ps_wd 3 w o).1 (tK s n i), dp, true, (ps_wd 3 w o).2))
  else .ok (ps_push (ps_wd (ps_rk (tK s n i)) w o).1 (tK s n i), dp, true, (ps_wd (ps_rk (tK s n i)) w o).2)
theorem fc_RL.o {w : List Int32} {dp : Int32} {du : Bool} {o o2 : List Int32} {mm : fc_Mi} (h : fc_RL (w, dp, du, o) mi b) (hb : 200 ≤ b) (g : ∀ x, x ≠ b + 10 → x ≠ b + 11 → mm x = mi x) (ho : fc_Lo o2 mm b) : fc_RL (w, dp, du, o2) mm b := by
  obtain ⟨⟨w1, w2, w3⟩, ⟨p1, p2⟩, _⟩ := h
  have e4 := g 4 (by omega) (by omega)
  have e5 := g 5 (by omega) (by omega)
  exact ⟨⟨by rw [e4]; exact w1, w2, by rw [e5]; exact w3⟩, ⟨by rw [e4]; exact p1, by rw [e4]; exact p2⟩, ho⟩
/-- another due -/
theorem fc_RL.du {w : List Int32} {dp : Int32} {du : Bool} {o : List Int32} (h : fc_RL (w, dp, du, o) mi b) (hb : 200 ≤ b) (z : Bool) : fc_RL (w, dp, z, o) (fc_u mi 4 3 (fc_b z)) b := by
  obtain ⟨⟨w1, w2, w3⟩, ⟨p1, p2⟩, ⟨o1, o2, o3⟩⟩ := h
  refine ⟨⟨by rw [fc_u_ne _ _ _ (by decide)]; exact w1, w2, by rw [fc_u_off _ _ _ (by decide)]; exact w3⟩, ⟨by rw [fc_u_ne _ _ _ (by decide)]; exact p1, by rw [fc_u_at]⟩, ?_, o2, ?_⟩
  · rw [fc_u_off _ _ _ (by omega)]; exact o1
  · rw [fc_u_off _ _ _ (by omega)]; exact o3
theorem fc_RL.dp {w : List Int32} {dp : Int32} {du : Bool} {o : List Int32} (h : fc_RL (w, dp, du, o) mi b) (hb : 200 ≤ b) (z : Int32) : fc_RL (w, z, du, o) (fc_u mi 4 2 z) b := by
  obtain ⟨⟨w1, w2, w3⟩, ⟨p1, p2⟩, ⟨o1, o2, o3⟩⟩ := h
  refine ⟨⟨by rw [fc_u_ne _ _ _ (by decide)]; exact w1, w2, by rw [fc_u_off _ _ _ (by decide)]; exact w3⟩, ⟨by rw [fc_u_at], by rw [fc_u_ne _ _ _ (by decide)]; exact p2⟩, ?_, o2, ?_⟩
  · rw [fc_u_off _ _ _ (by omega)]; exact o1
  · rw [fc_u_off _ _ _ (by omega)]; exact o3
/-- the top one away -/
theorem fc_RL.tl {w : List Int32} {dp : Int32} {du : Bool} {o : List Int32} (h : fc_RL (w, dp, du, o) mi b) (hb : 200 ≤ b) : fc_RL (w.tail, dp, du, o) (fc_u mi 4 1 (nI (w.length - 1))) b := by
  obtain ⟨⟨w1, w2, w3⟩, ⟨p1, p2⟩, ⟨o1, o2, o3⟩⟩ := h
  simp only at w1 w2 w3
  refine ⟨⟨by rw [fc_u_at]; simp, by simp; omega, ?_⟩, ⟨by rw [fc_u_ne _ _ _ (by decide)]; exact p1, by rw [fc_u_ne _ _ _ (by decide)]; exact p2⟩, ?_, o2, ?_⟩
  · rw [fc_u_off _ _ _ (by decide)]
    cases w with
    | nil => exact trivial
    | cons x w => exact w3.2
  · rw [fc_u_off _ _ _ (by omega)]; exact o1
  · rw [fc_u_off _ _ _ (by omega)]; exact o3
theorem fc_RL.aw {w w2 : List Int32} {dp : Int32} {du : Bool} {o : List Int32} {mm : fc_Mi} (h : fc_RL (w, dp, du, o) mi b) (hb : 200 ≤ b) (g : ∀ x, x ≠ 4 → x ≠ 5 → mm x = mi x) (g2 : mm 4 2 = mi 4 2) (g3 : mm 4 3 = mi 4 3) (hw : fc_Lw w2 mm) : fc_RL (w2, dp, du, o) mm b := by
  obtain ⟨_, ⟨p1, p2⟩, ⟨o1, o2, o3⟩⟩ := h
  exact ⟨hw, ⟨by rw [g2]; exact p1, by rw [g3]; exact p2⟩, by rw [g _ (by omega) (by omega)]; exact o1, o2, by rw [g _ (by omega) (by omega)]; exact o3⟩
theorem sp_mx0 : ∀ k, k ≤ 64 → (if (0 : Int32) < nI k - 1 then nI k - 1 else 0) = nI (k - 1) := by decide
theorem fc_RL.cl {w : List Int32} {dp : Int32} {du : Bool} {o : List Int32} (h : fc_RL (w, dp, du, o) mi b) (hb : 200 ≤ b) : fc_RL (w.tail, dp - 1, du, o) (fc_u (fc_u mi 4 1 (if (0 : Int32) < mi 4 1 - 1 then mi 4 1 - 1 else 0)) 4 2 ((fc_u mi 4 1 (if (0 : Int32) < mi 4 1 - 1 then mi 4 1 - 1 else 0)) 4 2 - 1)) b := by
  rw [show (fc_u mi 4 1 (if (0 : Int32) < mi 4 1 - 1 then mi 4 1 - 1 else 0)) 4 2 = dp from by rw [fc_u_ne _ _ _ (by decide)]; exact h.2.1.1, show mi 4 1 = nI w.length from h.1.1, sp_mx0 _ h.1.2.1]
  exact (h.tl hb).dp hb (dp - 1)
theorem fc_Ft.rf : fc_Ft b mi mi ml ml := ⟨fun _ _ _ _ _ _ => rfl, fun _ _ => rfl, rfl⟩
theorem fc_Ft.ff {m1 m2 : fc_Mi} {l1 l2 : fc_Ml} {f : Int32} (h : fc_Ft b mi m1 ml l1) (h2 : fc_ff m1 m2 l1 l2 f) : fc_Ft b mi m2 ml l2 :=
  ⟨fun x a1 a2 a3 a4 a5 => (h2.2.1 x a1).trans (h.1 x a1 a2 a3 a4 a5), fun x a1 => by rw [h2.1]; exact h.2.1 x a1, h2.2.2.1.trans h.2.2⟩
theorem fc_Ft.tm {m1 m2 : fc_Mi} {l1 l2 : fc_Ml} (h : fc_Ft b mi m1 ml l1) (h2 : fc_tm m1 m2 l1 l2) : fc_Ft b mi m2 ml l2 :=
  ⟨fun x a1 a2 a3 a4 a5 => (h2.1 x a1).trans (h.1 x a1 a2 a3 a4 a5), fun x a1 => (h2.2.1 x a1).trans (h.2.1 x a1), h2.2.2.1.trans h.2.2⟩
theorem fc_Ft.tr {m1 m2 : fc_Mi} {l1 l2 : fc_Ml} (h : fc_Ft b mi m1 ml l1) (h2 : fc_Ft b m1 m2 l1 l2) : fc_Ft b mi m2 ml l2 :=
  ⟨fun x a1 a2 a3 a4 a5 => (h2.1 x a1 a2 a3 a4 a5).trans (h.1 x a1 a2 a3 a4 a5), fun x a1 => (h2.2.1 x a1).trans (h.2.1 x a1), h2.2.2.trans h.2.2⟩
theorem fc_Ft.fl {m1 m2 : fc_Mi} {l1 : fc_Ml} (h : fc_Ft b mi m1 ml l1) (hb : 200 ≤ b) (h2 : fc_Fl b m1 m2) : fc_Ft b mi m2 ml l1 :=
  ⟨fun x a1 a2 a3 a4 a5 => (h2 x a2 a3 a4 a5).trans (h.1 x a1 a2 a3 a4 a5), h.2.1, by rw [h2 1 (by decide) (by decide) (by omega) (by omega)]; exact h.2.2⟩
theorem fc_Fl.w {m1 m2 : fc_Mi} (h : fc_Fl b mi m1) (g : ∀ x, x ≠ b + 10 → x ≠ b + 11 → m2 x = m1 x) : fc_Fl b mi m2 := fun x a2 a3 a4 a5 => (g x a4 a5).trans (h x a2 a3 a4 a5)
theorem fc_Fl.a {m1 m2 : fc_Mi} (h : fc_Fl b mi m1) (g : ∀ x, x ≠ 4 → x ≠ 5 → m2 x = m1 x) : fc_Fl b mi m2 := fun x a2 a3 a4 a5 => (g x a2 a3).trans (h x a2 a3 a4 a5)
theorem fc_Fl.u {m1 : fc_Mi} {j : Nat} {v : Int32} (h : fc_Fl b mi m1) : fc_Fl b mi (fc_u m1 4 j v) := fun x a2 a3 a4 a5 => (fc_u_off _ _ _ a2).trans (h x a2 a3 a4 a5)
theorem fc_Fl.tr {m1 m2 : fc_Mi} (h : fc_Fl b mi m1) (h2 : fc_Fl b m1 m2) : fc_Fl b mi m2 := fun x a2 a3 a4 a5 => (h2 x a2 a3 a4 a5).trans (h x a2 a3 a4 a5)
theorem fc_Fl.rf : fc_Fl b mi mi := fun _ _ _ _ _ => rfl
theorem c_readPart (hW : fc_Wd mr) (hL : fc_L mr b) (hb : 200 ≤ b) (hk : fc_Tk s mi ml n i) {w : List Int32} {dp : Int32} {o : List Int32} (hR : fc_RL (w, dp, true, o) mi b) : fc_R E mX3_readPart (d + 5) fc_sh [.ref 4, .ref 1, .ref (b + 10)] mi ml mr (fc_lq b mi ml mr (ps_part s n i w dp o)) := by
  have k4 := hk.2.2.2.2.2.1
  have hn := hk.2.2.1
  have hs1 := tS_le (s := s) (n := n) i
  have he1 := (tk_en_b (s := s) hs1).2.1
  have cc := fun (d : Nat) => c_cellIn (E := E) (d := d) (ml := ml) (mr := mr) (mi := mi) hW hk.tp (u := 2) (by decide) hk.2.2.2.1 (by omega) hk.2.2.2.2.1 (by unfold tE; omega)
  rw [hk.1, show UInt32.toNat 2 = 2 from rfl] at cc
  obtain ⟨hRw, ⟨hRd, hRu⟩, hRo⟩ := id hR
  simp only at hRw hRd hRu hRo
  refine fc_met rfl (Nat.le_of_ble_eq_true rfl) (fc_run oX3_readPart (fun _ => false) 400 ?_)
  refine And.intro rfl ?_
  rw [k4]
  refine And.intro (fun h5 => ?_) (fun h5 => ?_)
  · have fa : tk_cl 2 s n (tS s n i) (tE s n i) = ps_fa s n i := by rw [ps_fa, if_pos h5]
    refine And.intro rfl (Exists.intro _ (And.intro (cc d) ?_))
    rintro _ _ _ _ ⟨rfl, rfl, rfl, rfl⟩
    rw [fa]
    refine And.intro rfl ?_
    rw [k4]
    refine And.intro (fun h26 => ?_) (fun h26 => ?_)
    · refine And.intro (fun h47 => ?_) (fun h47 => ?_)
      · exact absurd h47 (by decide)
      · refine And.intro rfl ?_
        rw [hRd]
        refine And.intro (fun h74 => ?_) (fun h74 => ?_)
        · refine And.intro (fun h85 => ?_) (fun h85 => ?_)
          · exact absurd h85 (by decide)
          · refine And.intro rfl ?_
            rw [k4]
            refine And.intro rfl (Exists.intro _ (And.intro (c_await hW hRw _) ?_))
            rintro _ m93 l93 _ ⟨rfl, rfl, rfl, f93, d93, u93, w93⟩
            refine And.intro rfl ?_
            refine And.intro rfl ?_
            refine And.intro (by first | exact Or.inl rfl | exact Or.inr rfl | exact fc_bb _ | assumption) ?_
            have ho : ps_opn s n i = true := by simp [ps_opn, h26]
            rw [ps_part, if_pos ho, if_pos h74]
            have R := (hR.aw hb f93 d93 u93 w93).dp hb (dp + 1)
            rw [show (dp + 1 : Int32) = m93 4 2 + 1 from by rw [d93, hRd]] at R
            refine ⟨rfl, rfl, fc_Ft.rf.fl hb ((fc_Fl.rf.a f93).u), rfl, ?_, ?_⟩
            · rw [fc_u_off _ _ _ (by decide), f93 1 (by decide) (by decide)]
            · rw [show (dp + 1 : Int32) = m93 4 2 + 1 from by rw [d93, hRd]]
              exact R
        · refine And.intro rfl (Exists.intro _ (And.intro (c_failk hW hk 5) ?_))
          rintro _ m79 l79 _ ⟨rfl, rfl, ff79⟩
          refine And.intro (by first | exact Or.inl rfl | exact Or.inr rfl | exact fc_bb _ | assumption) ?_
          have ho : ps_opn s n i = true := by simp [ps_opn, h26]
          rw [ps_part, if_pos ho, if_neg h74]
          exact ⟨ff79.1.symm, rfl, fc_Ft.rf.ff ff79, rfl, ff79.2.2.2⟩
    · refine And.intro rfl ?_
      rw [k4]
      refine And.intro (fun h35 => ?_) (fun h35 => ?_)
      · refine And.intro (fun h47 => ?_) (fun h47 => ?_)
        · exact absurd h47 (by decide)
        · refine And.intro rfl ?_
          rw [hRd]
          refine And.intro (fun h74 => ?_) (fun h74 => ?_)
          · refine And.intro (fun h85 => ?_) (fun h85 => ?_)
            · exact absurd h85 (by decide)
            · refine And.intro rfl ?_
              rw [k4]
              refine And.intro rfl (Exists.intro _ (And.intro (c_await hW hRw _) ?_))
              rintro _ m93 l93 _ ⟨rfl, rfl, rfl, f93, d93, u93, w93⟩
              refine And.intro rfl ?_
              refine And.intro rfl ?_
              refine And.intro (by first | exact Or.inl rfl | exact Or.inr rfl | exact fc_bb _ | assumption) ?_
              have ho : ps_opn s n i = true := by simp [ps_opn, h35]
              rw [ps_part, if_pos ho, if_pos h74]
              have R := (hR.aw hb f93 d93 u93 w93).dp hb (dp + 1)
              rw [show (dp + 1 : Int32) = m93 4 2 + 1 from by rw [d93, hRd]] at R
              refine ⟨rfl, rfl, fc_Ft.rf.fl hb ((fc_Fl.rf.a f93).u), rfl, ?_, ?_⟩
              · rw [fc_u_off _ _ _ (by decide), f93 1 (by decide) (by decide)]
              · rw [show (dp + 1 : Int32) = m93 4 2 + 1 from by rw [d93, hRd]]
                exact R
          · refine And.intro rfl (Exists.intro _ (And.intro (c_failk hW hk 5) ?_))
            rintro _ m79 l79 _ ⟨rfl, rfl, ff79⟩
            refine And.intro (by first | exact Or.inl rfl | exact Or.inr rfl | exact fc_bb _ | assumption) ?_
            have ho : ps_opn s n i = true := by simp [ps_opn, h35]
            rw [ps_part, if_pos ho, if_neg h74]
            exact ⟨ff79.1.symm, rfl, fc_Ft.rf.ff ff79, rfl, ff79.2.2.2⟩
      · refine And.intro (fun h47 => ?_) (fun h47 => ?_)
        · refine And.intro (fun h52 => ?_) (fun h52 => ?_)
          · replace h52 : ps_fa s n i = -1 := by first | exact h52 | rw [← fa]
            refine And.intro rfl ?_
            rw [k4]
            refine And.intro (fun h60 => ?_) (fun h60 => ?_)
            · refine And.intro rfl ?_
              rw [hRd]
              refine And.intro (fun h74 => ?_) (fun h74 => ?_)
              · refine And.intro (fun h85 => ?_) (fun h85 => ?_)
                · refine And.intro (fun h111 => ?_) (fun h111 => ?_)
                  · refine And.intro rfl ?_
                    rw [hk.2.2.2.2.2.2.1 h60]
                    refine And.intro (fc_L_10 hL) (Exists.intro _ (And.intro (c_write hL hRo _) ?_))
                    rintro _ m126 l126 _ ⟨rfl, rfl, rfl, g126, o126⟩
                    have R126 := hR.o hb g126 o126
                    refine And.intro rfl (Exists.intro _ (And.intro (c_closeNots hW hL hb R126) ?_))
                    rintro _ m131 l131 _ ⟨rfl, rfl, rfl, g131, r131⟩
                    refine And.intro rfl (And.intro (by first | exact Or.inl rfl | exact Or.inr rfl | exact fc_bb _ | assumption) ?_)
                    refine And.intro (by first | exact Or.inl rfl | exact Or.inr rfl | exact fc_bb _ | assumption) ?_
                    have ho : ¬ ps_opn s n i = true := by simp [ps_opn, h26, h35]
                    rw [ps_part, if_neg ho, if_pos h52, if_pos h60, if_pos h74]
                    refine ⟨rfl, rfl, fc_Ft.rf.fl hb (((fc_Fl.rf.w g126).tr g131).u), rfl, ?_, r131.du hb false⟩
                    rw [fc_u_off _ _ _ (by decide), g131 1 (by decide) (by decide) (by omega) (by omega), g126 1 (by omega) (by omega)]
                  · exact absurd h52 h111
                · exact absurd rfl h85
              · refine And.intro rfl (Exists.intro _ (And.intro (c_failk hW hk 5) ?_))
                rintro _ m79 l79 _ ⟨rfl, rfl, ff79⟩
                refine And.intro (by first | exact Or.inl rfl | exact Or.inr rfl | exact fc_bb _ | assumption) ?_
                have ho : ¬ ps_opn s n i = true := by simp [ps_opn, h26, h35]
                rw [ps_part, if_neg ho, if_pos h52, if_pos h60, if_neg h74]
                exact ⟨ff79.1.symm, rfl, fc_Ft.rf.ff ff79, rfl, ff79.2.2.2⟩
            · refine And.intro rfl (Exists.intro _ (And.intro (c_failk hW hk 1) ?_))
              rintro _ m65 l65 _ ⟨rfl, rfl, ff65⟩
              refine And.intro (by first | exact Or.inl rfl | exact Or.inr rfl | exact fc_bb _ | assumption) ?_
              have ho : ¬ ps_opn s n i = true := by simp [ps_opn, h26, h35]
              rw [ps_part, if_neg ho, if_pos h52, if_neg h60]
              exact ⟨ff65.1.symm, rfl, fc_Ft.rf.ff ff65, rfl, ff65.2.2.2⟩
          · refine And.intro rfl ?_
            rw [hRd]
            refine And.intro (fun h74 => ?_) (fun h74 => ?_)
            · refine And.intro (fun h85 => ?_) (fun h85 => ?_)
              · refine And.intro (fun h111 => ?_) (fun h111 => ?_)
                · exact absurd h111 h52
                · refine And.intro (fc_L_10 hL) (Exists.intro _ (And.intro (c_write hL hRo _) ?_))
                  rintro _ m126 l126 _ ⟨rfl, rfl, rfl, g126, o126⟩
                  have R126 := hR.o hb g126 o126
                  refine And.intro rfl (Exists.intro _ (And.intro (c_closeNots hW hL hb R126) ?_))
                  rintro _ m131 l131 _ ⟨rfl, rfl, rfl, g131, r131⟩
                  refine And.intro rfl (And.intro (by first | exact Or.inl rfl | exact Or.inr rfl | exact fc_bb _ | assumption) ?_)
                  refine And.intro (by first | exact Or.inl rfl | exact Or.inr rfl | exact fc_bb _ | assumption) ?_
                  have ho : ¬ ps_opn s n i = true := by simp [ps_opn, h26, h35]
                  rw [ps_part, if_neg ho, if_neg h52, if_pos h74]
                  refine ⟨rfl, rfl, fc_Ft.rf.fl hb (((fc_Fl.rf.w g126).tr g131).u), rfl, ?_, r131.du hb false⟩
                  rw [fc_u_off _ _ _ (by decide), g131 1 (by decide) (by decide) (by omega) (by omega), g126 1 (by omega) (by omega)]
              · exact absurd rfl h85
            · refine And.intro rfl (Exists.intro _ (And.intro (c_failk hW hk 5) ?_))
              rintro _ m79 l79 _ ⟨rfl, rfl, ff79⟩
              refine And.intro (by first | exact Or.inl rfl | exact Or.inr rfl | exact fc_bb _ | assumption) ?_
              have ho : ¬ ps_opn s n i = true := by simp [ps_opn, h26, h35]
              rw [ps_part, if_neg ho, if_neg h52, if_neg h74]
              exact ⟨ff79.1.symm, rfl, fc_Ft.rf.ff ff79, rfl, ff79.2.2.2⟩
        · exact absurd rfl h47
  · have fa : -1 = ps_fa s n i := by rw [ps_fa, if_neg h5]
    refine And.intro rfl ?_
    rw [k4]
    refine And.intro (fun h26 => ?_) (fun h26 => ?_)
    · refine And.intro (fun h47 => ?_) (fun h47 => ?_)
      · exact absurd h47 (by decide)
      · refine And.intro rfl ?_
        rw [hRd]
        refine And.intro (fun h74 => ?_) (fun h74 => ?_)
        · refine And.intro (fun h85 => ?_) (fun h85 => ?_)
          · exact absurd h85 (by decide)
          · refine And.intro rfl ?_
            rw [k4]
            refine And.intro rfl (Exists.intro _ (And.intro (c_await hW hRw _) ?_))
            rintro _ m93 l93 _ ⟨rfl, rfl, rfl, f93, d93, u93, w93⟩
            refine And.intro rfl ?_
            refine And.intro rfl ?_
            refine And.intro (by first | exact Or.inl rfl | exact Or.inr rfl | exact fc_bb _ | assumption) ?_
            have ho : ps_opn s n i = true := by simp [ps_opn, h26]
            rw [ps_part, if_pos ho, if_pos h74]
            have R := (hR.aw hb f93 d93 u93 w93).dp hb (dp + 1)
            rw [show (dp + 1 : Int32) = m93 4 2 + 1 from by rw [d93, hRd]] at R
            refine ⟨rfl, rfl, fc_Ft.rf.fl hb ((fc_Fl.rf.a f93).u), rfl, ?_, ?_⟩
            · rw [fc_u_off _ _ _ (by decide), f93 1 (by decide) (by decide)]
            · rw [show (dp + 1 : Int32) = m93 4 2 + 1 from by rw [d93, hRd]]
              exact R
        · refine And.intro rfl (Exists.intro _ (And.intro (c_failk hW hk 5) ?_))
          rintro _ m79 l79 _ ⟨rfl, rfl, ff79⟩
          refine And.intro (by first | exact Or.inl rfl | exact Or.inr rfl | exact fc_bb _ | assumption) ?_
          have ho : ps_opn s n i = true := by simp [ps_opn, h26]
          rw [ps_part, if_pos ho, if_neg h74]
          exact ⟨ff79.1.symm, rfl, fc_Ft.rf.ff ff79, rfl, ff79.2.2.2⟩
    · refine And.intro rfl ?_
      rw [k4]
      refine And.intro (fun h35 => ?_) (fun h35 => ?_)
      · refine And.intro (fun h47 => ?_) (fun h47 => ?_)
        · exact absurd h47 (by decide)
        · refine And.intro rfl ?_
          rw [hRd]
          refine And.intro (fun h74 => ?_) (fun h74 => ?_)
          · refine And.intro (fun h85 => ?_) (fun h85 => ?_)
            · exact absurd h85 (by decide)
            · refine And.intro rfl ?_
              rw [k4]
              refine And.intro rfl (Exists.intro _ (And.intro (c_await hW hRw _) ?_))
              rintro _ m93 l93 _ ⟨rfl, rfl, rfl, f93, d93, u93, w93⟩
              refine And.intro rfl ?_
              refine And.intro rfl ?_
              refine And.intro (by first | exact Or.inl rfl | exact Or.inr rfl | exact fc_bb _ | assumption) ?_
              have ho : ps_opn s n i = true := by simp [ps_opn, h35]
              rw [ps_part, if_pos ho, if_pos h74]
              have R := (hR.aw hb f93 d93 u93 w93).dp hb (dp + 1)
              rw [show (dp + 1 : Int32) = m93 4 2 + 1 from by rw [d93, hRd]] at R
              refine ⟨rfl, rfl, fc_Ft.rf.fl hb ((fc_Fl.rf.a f93).u), rfl, ?_, ?_⟩
              · rw [fc_u_off _ _ _ (by decide), f93 1 (by decide) (by decide)]
              · rw [show (dp + 1 : Int32) = m93 4 2 + 1 from by rw [d93, hRd]]
                exact R
          · refine And.intro rfl (Exists.intro _ (And.intro (c_failk hW hk 5) ?_))
            rintro _ m79 l79 _ ⟨rfl, rfl, ff79⟩
            refine And.intro (by first | exact Or.inl rfl | exact Or.inr rfl | exact fc_bb _ | assumption) ?_
            have ho : ps_opn s n i = true := by simp [ps_opn, h35]
            rw [ps_part, if_pos ho, if_neg h74]
            exact ⟨ff79.1.symm, rfl, fc_Ft.rf.ff ff79, rfl, ff79.2.2.2⟩
      · refine And.intro (fun h47 => ?_) (fun h47 => ?_)
        · refine And.intro (fun h52 => ?_) (fun h52 => ?_)
          · replace h52 : ps_fa s n i = -1 := by first | exact h52 | rw [← fa]
            refine And.intro rfl ?_
            rw [k4]
            refine And.intro (fun h60 => ?_) (fun h60 => ?_)
            · refine And.intro rfl ?_
              rw [hRd]
              refine And.intro (fun h74 => ?_) (fun h74 => ?_)
              · refine And.intro (fun h85 => ?_) (fun h85 => ?_)
                · refine And.intro (fun h111 => ?_) (fun h111 => ?_)
                  · refine And.intro rfl ?_
                    rw [hk.2.2.2.2.2.2.1 h60]
                    refine And.intro (fc_L_10 hL) (Exists.intro _ (And.intro (c_write hL hRo _) ?_))
                    rintro _ m126 l126 _ ⟨rfl, rfl, rfl, g126, o126⟩
                    have R126 := hR.o hb g126 o126
                    refine And.intro rfl (Exists.intro _ (And.intro (c_closeNots hW hL hb R126) ?_))
                    rintro _ m131 l131 _ ⟨rfl, rfl, rfl, g131, r131⟩
                    refine And.intro rfl (And.intro (by first | exact Or.inl rfl | exact Or.inr rfl | exact fc_bb _ | assumption) ?_)
                    refine And.intro (by first | exact Or.inl rfl | exact Or.inr rfl | exact fc_bb _ | assumption) ?_
                    have ho : ¬ ps_opn s n i = true := by simp [ps_opn, h26, h35]
                    rw [ps_part, if_neg ho, if_pos h52, if_pos h60, if_pos h74]
                    refine ⟨rfl, rfl, fc_Ft.rf.fl hb (((fc_Fl.rf.w g126).tr g131).u), rfl, ?_, r131.du hb false⟩
                    rw [fc_u_off _ _ _ (by decide), g131 1 (by decide) (by decide) (by omega) (by omega), g126 1 (by omega) (by omega)]
                  · exact absurd rfl h111
                · exact absurd rfl h85
              · refine And.intro rfl (Exists.intro _ (And.intro (c_failk hW hk 5) ?_))
                rintro _ m79 l79 _ ⟨rfl, rfl, ff79⟩
                refine And.intro (by first | exact Or.inl rfl | exact Or.inr rfl | exact fc_bb _ | assumption) ?_
                have ho : ¬ ps_opn s n i = true := by simp [ps_opn, h26, h35]
                rw [ps_part, if_neg ho, if_pos h52, if_pos h60, if_neg h74]
                exact ⟨ff79.1.symm, rfl, fc_Ft.rf.ff ff79, rfl, ff79.2.2.2⟩
            · refine And.intro rfl (Exists.intro _ (And.intro (c_failk hW hk 1) ?_))
              rintro _ m65 l65 _ ⟨rfl, rfl, ff65⟩
              refine And.intro (by first | exact Or.inl rfl | exact Or.inr rfl | exact fc_bb _ | assumption) ?_
              have ho : ¬ ps_opn s n i = true := by simp [ps_opn, h26, h35]
              rw [ps_part, if_neg ho, if_pos h52, if_neg h60]
              exact ⟨ff65.1.symm, rfl, fc_Ft.rf.ff ff65, rfl, ff65.2.2.2⟩
          · exact absurd rfl h52
        · exact absurd rfl h47

theorem c_readBehind (hW : fc_Wd mr) (hL : fc_L mr b) (hb : 200 ≤ b) (hk : fc_Tk s mi ml n i) {w : List Int32} {dp : Int32} {o : List Int32} (hR : fc_RL (w, dp, false, o) mi b) : fc_R E mX3_readBehind (d + 5) fc_sh [.ref 4, .ref 1, .ref (b + 10)] mi ml mr (fc_lq b mi ml mr (ps_beh s n i w dp o)) := by
  have k4 := hk.2.2.2.2.2.1
  obtain ⟨hRw, ⟨hRd, hRu⟩, hRo⟩ := id hR
  simp only at hRw hRd hRu hRo
  refine fc_met rfl (Nat.le_of_ble_eq_true rfl) (fc_run oX3_readBehind (fun _ => false) 400 ?_)
  refine And.intro rfl ?_
  rw [k4]
  refine And.intro (fun h6 => ?_) (fun h6 => ?_)
  · refine And.intro rfl ?_
    rw [hRd]
    refine And.intro (fun h13 => ?_) (fun h13 => ?_)
    · refine And.intro (fun h23 => ?_) (fun h23 => ?_)
      · refine And.intro rfl ?_
        rw [k4]
        refine Exists.intro _ (And.intro (c_rankOf _) ?_)
        rintro _ _ _ _ ⟨rfl, rfl, rfl, rfl⟩
        refine And.intro (fun h41 => ?_) (fun h41 => ?_)
        · refine And.intro rfl (Exists.intro _ (And.intro (c_failk hW hk 1) ?_))
          rintro _ m46 l46 _ ⟨rfl, rfl, ff46⟩
          refine And.intro (by first | exact Or.inl rfl | exact Or.inr rfl | exact fc_bb _ | assumption) ?_
          have hc : ¬ (tK s n i = 41 ∧ ¬ dp ≤ 0) := fun q => q.2 h13
          rw [ps_beh, if_neg hc, if_pos h41]
          exact ⟨ff46.1.symm, rfl, fc_Ft.rf.ff ff46, rfl, ff46.2.2.2⟩
        · refine And.intro (fun h55 => ?_) (fun h55 => ?_)
          · refine And.intro rfl (Exists.intro _ (And.intro (c_writeDown hW hL hb _ hR) ?_))
            rintro _ m64 l64 _ ⟨rfl, rfl, rfl, g64, r64⟩
            obtain ⟨⟨rw1, rw2, rw3⟩, ⟨rd, ru⟩, ro⟩ := id r64
            simp only at rw1 rw2 rw3 rd ru ro
            refine And.intro (fun h70 => ?_) (fun h70 => ?_)
            · refine And.intro rfl ?_
              rw [rw1]
              refine And.intro (fun h77 => ?_) (fun h77 => ?_)
              · have hx : (ps_wd 3 w o).1 = [] := by
                  rcases e : (ps_wd 3 w o).1 with _ | ⟨x, w1⟩
                  · rfl
                  · rw [e] at h77 rw2; exact absurd h77 (nI_nle (by simp) (by omega))
                refine And.intro (fun h105 => ?_) (fun h105 => ?_)
                · refine And.intro rfl ?_
                  rw [show m64 1 = mi 1 from g64 1 (by decide) (by decide) (by omega) (by omega), k4]
                  refine And.intro rfl (Exists.intro _ (And.intro (c_await hW r64.1 _) ?_))
                  rintro _ m144 l144 _ ⟨rfl, rfl, rfl, f144, d144, u144, w144⟩
                  refine And.intro rfl (And.intro (by first | exact Or.inl rfl | exact Or.inr rfl | exact fc_bb _ | assumption) ?_)
                  refine And.intro (by first | exact Or.inl rfl | exact Or.inr rfl | exact fc_bb _ | assumption) ?_
                  have hc : ¬ (tK s n i = 41 ∧ ¬ dp ≤ 0) := fun q => q.2 h13
                  rw [ps_beh, if_neg hc, if_neg h41, if_pos h55, if_neg (show ¬ ps_tp (ps_wd 3 w o).1 = 2 from by rw [hx]; decide)]
                  refine ⟨rfl, rfl, fc_Ft.rf.fl hb ((g64.a f144).u), rfl, ?_, (r64.aw hb f144 d144 u144 w144).du hb true⟩
                  rw [fc_u_off _ _ _ (by decide), f144 1 (by decide) (by decide), g64 1 (by decide) (by decide) (by omega) (by omega)]
                · exact absurd rfl h105
              · obtain ⟨x, w1, hx⟩ : ∃ x w1, (ps_wd 3 w o).1 = x :: w1 := by
                  rcases e : (ps_wd 3 w o).1 with _ | ⟨x, w1⟩
                  · rw [e] at h77; exact absurd (show nI ([] : List Int32).length ≤ 0 by decide) h77
                  · exact ⟨x, w1, rfl⟩
                have tw1 : m64 4 1 = nI (w1.length + 1) := by rw [rw1, hx]; rfl
                have tw2 : w1.length + 1 ≤ 64 := by rw [hx] at rw2; exact rw2
                have tw3 : fc_St (m64 5) (x :: w1) := by rw [← hx]; exact rw3
                have e1 : nI (w1.length + 1) - 1 = nI w1.length := nI_pred _
                refine And.intro rfl (Exists.intro _ (And.intro (hW 4 0 5 rfl) ?_))
                refine And.intro rfl ?_
                rw [tw1]
                refine Exists.intro _ (Exists.intro _ (And.intro rfl (And.intro (show fc_ix (nI (w1.length + 1) - 1) 64 w1.length from by rw [e1]; exact fc_ix_nI (by omega) (by omega)) ?_)))
                rw [tw3.1]
                refine Exists.intro _ (And.intro (c_rankOf _) ?_)
                rintro _ _ _ _ ⟨rfl, rfl, rfl, rfl⟩
                refine And.intro (fun h95 => ?_) (fun h95 => ?_)
                · refine And.intro rfl (Exists.intro _ (And.intro (c_failk hW (hk.off (g64 1 (by decide) (by decide) (by omega) (by omega)) (g64 2 (by decide) (by decide) (by omega) (by omega)) rfl) 1) ?_))
                  rintro _ m100 l100 _ ⟨rfl, rfl, ff100⟩
                  refine And.intro (by first | exact Or.inl rfl | exact Or.inr rfl | exact fc_bb _ | assumption) ?_
                  have hc : ¬ (tK s n i = 41 ∧ ¬ dp ≤ 0) := fun q => q.2 h13
                  rw [ps_beh, if_neg hc, if_neg h41, if_pos h55, hx, if_pos (show ps_tp (x :: w1) = 2 from h95)]
                  exact ⟨ff100.1.symm, rfl, (fc_Ft.rf.fl hb g64).ff ff100, rfl, ff100.2.2.2⟩
                · refine And.intro (fun h105 => ?_) (fun h105 => ?_)
                  · refine And.intro rfl ?_
                    rw [show m64 1 = mi 1 from g64 1 (by decide) (by decide) (by omega) (by omega), k4]
                    refine And.intro rfl (Exists.intro _ (And.intro (c_await hW r64.1 _) ?_))
                    rintro _ m144 l144 _ ⟨rfl, rfl, rfl, f144, d144, u144, w144⟩
                    refine And.intro rfl (And.intro (by first | exact Or.inl rfl | exact Or.inr rfl | exact fc_bb _ | assumption) ?_)
                    refine And.intro (by first | exact Or.inl rfl | exact Or.inr rfl | exact fc_bb _ | assumption) ?_
                    have hc : ¬ (tK s n i = 41 ∧ ¬ dp ≤ 0) := fun q => q.2 h13
                    rw [ps_beh, if_neg hc, if_neg h41, if_pos h55, if_neg (show ¬ ps_tp (ps_wd 3 w o).1 = 2 from by rw [hx]; exact h95)]
                    refine ⟨rfl, rfl, fc_Ft.rf.fl hb ((g64.a f144).u), rfl, ?_, (r64.aw hb f144 d144 u144 w144).du hb true⟩
                    rw [fc_u_off _ _ _ (by decide), f144 1 (by decide) (by decide), g64 1 (by decide) (by decide) (by omega) (by omega)]
                  · exact absurd rfl h105
            · exact absurd h55 h70
          · refine And.intro rfl (Exists.intro _ (And.intro (c_writeDown hW hL hb _ hR) ?_))
            rintro _ m64 l64 _ ⟨rfl, rfl, rfl, g64, r64⟩
            obtain ⟨⟨rw1, rw2, rw3⟩, ⟨rd, ru⟩, ro⟩ := id r64
            simp only at rw1 rw2 rw3 rd ru ro
            refine And.intro (fun h70 => ?_) (fun h70 => ?_)
            · exact absurd h70 h55
            · refine And.intro (fun h105 => ?_) (fun h105 => ?_)
              · refine And.intro rfl ?_
                rw [show m64 1 = mi 1 from g64 1 (by decide) (by decide) (by omega) (by omega), k4]
                refine And.intro rfl (Exists.intro _ (And.intro (c_await hW r64.1 _) ?_))
                rintro _ m144 l144 _ ⟨rfl, rfl, rfl, f144, d144, u144, w144⟩
                refine And.intro rfl (And.intro (by first | exact Or.inl rfl | exact Or.inr rfl | exact fc_bb _ | assumption) ?_)
                refine And.intro (by first | exact Or.inl rfl | exact Or.inr rfl | exact fc_bb _ | assumption) ?_
                have hc : ¬ (tK s n i = 41 ∧ ¬ dp ≤ 0) := fun q => q.2 h13
                rw [ps_beh, if_neg hc, if_neg h41, if_neg h55]
                refine ⟨rfl, rfl, fc_Ft.rf.fl hb ((g64.a f144).u), rfl, ?_, (r64.aw hb f144 d144 u144 w144).du hb true⟩
                rw [fc_u_off _ _ _ (by decide), f144 1 (by decide) (by decide), g64 1 (by decide) (by decide) (by omega) (by omega)]
              · exact absurd rfl h105
      · exact absurd rfl h23
    · refine And.intro (fun h23 => ?_) (fun h23 => ?_)
      · exact absurd h23 (by decide)
      · refine And.intro (fun h41 => ?_) (fun h41 => ?_)
        · exact absurd h41 (by decide)
        · refine And.intro (fun h55 => ?_) (fun h55 => ?_)
          · exact absurd h55 (by decide)
          · refine And.intro rfl (Exists.intro _ (And.intro (c_writeDown hW hL hb _ hR) ?_))
            rintro _ m64 l64 _ ⟨rfl, rfl, rfl, g64, r64⟩
            obtain ⟨⟨rw1, rw2, rw3⟩, ⟨rd, ru⟩, ro⟩ := id r64
            simp only at rw1 rw2 rw3 rd ru ro
            refine And.intro (fun h70 => ?_) (fun h70 => ?_)
            · exact absurd h70 (by decide)
            · refine And.intro (fun h105 => ?_) (fun h105 => ?_)
              · exact absurd h105 (by decide)
              · refine And.intro rfl ?_
                refine And.intro rfl ?_
                refine And.intro rfl ?_
                refine And.intro rfl ?_
                refine And.intro rfl (Exists.intro _ (And.intro (c_closeNots hW hL hb (r64.cl hb)) ?_))
                rintro _ m134 l134 _ ⟨rfl, rfl, rfl, g134, r134⟩
                refine And.intro (by first | exact Or.inl rfl | exact Or.inr rfl | exact fc_bb _ | assumption) ?_
                rw [ps_beh, if_pos ⟨h6, h13⟩]
                refine ⟨rfl, rfl, fc_Ft.rf.fl hb (((g64.u).u).tr g134), rfl, ?_, r134⟩
                rw [g134 1 (by decide) (by decide) (by omega) (by omega), fc_u_off _ _ _ (by decide), fc_u_off _ _ _ (by decide), g64 1 (by decide) (by decide) (by omega) (by omega)]
  · refine And.intro (fun h23 => ?_) (fun h23 => ?_)
    · refine And.intro rfl ?_
      rw [k4]
      refine Exists.intro _ (And.intro (c_rankOf _) ?_)
      rintro _ _ _ _ ⟨rfl, rfl, rfl, rfl⟩
      refine And.intro (fun h41 => ?_) (fun h41 => ?_)
      · refine And.intro rfl (Exists.intro _ (And.intro (c_failk hW hk 1) ?_))
        rintro _ m46 l46 _ ⟨rfl, rfl, ff46⟩
        refine And.intro (by first | exact Or.inl rfl | exact Or.inr rfl | exact fc_bb _ | assumption) ?_
        have hc : ¬ (tK s n i = 41 ∧ ¬ dp ≤ 0) := fun q => h6 q.1
        rw [ps_beh, if_neg hc, if_pos h41]
        exact ⟨ff46.1.symm, rfl, fc_Ft.rf.ff ff46, rfl, ff46.2.2.2⟩
      · refine And.intro (fun h55 => ?_) (fun h55 => ?_)
        · refine And.intro rfl (Exists.intro _ (And.intro (c_writeDown hW hL hb _ hR) ?_))
          rintro _ m64 l64 _ ⟨rfl, rfl, rfl, g64, r64⟩
          obtain ⟨⟨rw1, rw2, rw3⟩, ⟨rd, ru⟩, ro⟩ := id r64
          simp only at rw1 rw2 rw3 rd ru ro
          refine And.intro (fun h70 => ?_) (fun h70 => ?_)
          · refine And.intro rfl ?_
            rw [rw1]
            refine And.intro (fun h77 => ?_) (fun h77 => ?_)
            · have hx : (ps_wd 3 w o).1 = [] := by
                rcases e : (ps_wd 3 w o).1 with _ | ⟨x, w1⟩
                · rfl
                · rw [e] at h77 rw2; exact absurd h77 (nI_nle (by simp) (by omega))
              refine And.intro (fun h105 => ?_) (fun h105 => ?_)
              · refine And.intro rfl ?_
                rw [show m64 1 = mi 1 from g64 1 (by decide) (by decide) (by omega) (by omega), k4]
                refine And.intro rfl (Exists.intro _ (And.intro (c_await hW r64.1 _) ?_))
                rintro _ m144 l144 _ ⟨rfl, rfl, rfl, f144, d144, u144, w144⟩
                refine And.intro rfl (And.intro (by first | exact Or.inl rfl | exact Or.inr rfl | exact fc_bb _ | assumption) ?_)
                refine And.intro (by first | exact Or.inl rfl | exact Or.inr rfl | exact fc_bb _ | assumption) ?_
                have hc : ¬ (tK s n i = 41 ∧ ¬ dp ≤ 0) := fun q => h6 q.1
                rw [ps_beh, if_neg hc, if_neg h41, if_pos h55, if_neg (show ¬ ps_tp (ps_wd 3 w o).1 = 2 from by rw [hx]; decide)]
                refine ⟨rfl, rfl, fc_Ft.rf.fl hb ((g64.a f144).u), rfl, ?_, (r64.aw hb f144 d144 u144 w144).du hb true⟩
                rw [fc_u_off _ _ _ (by decide), f144 1 (by decide) (by decide), g64 1 (by decide) (by decide) (by omega) (by omega)]
              · exact absurd rfl h105
            · obtain ⟨x, w1, hx⟩ : ∃ x w1, (ps_wd 3 w o).1 = x :: w1 := by
                rcases e : (ps_wd 3 w o).1 with _ | ⟨x, w1⟩
                · rw [e] at h77; exact absurd (show nI ([] : List Int32).length ≤ 0 by decide) h77
                · exact ⟨x, w1, rfl⟩
              have tw1 : m64 4 1 = nI (w1.length + 1) := by rw [rw1, hx]; rfl
              have tw2 : w1.length + 1 ≤ 64 := by rw [hx] at rw2; exact rw2
              have tw3 : fc_St (m64 5) (x :: w1) := by rw [← hx]; exact rw3
              have e1 : nI (w1.length + 1) - 1 = nI w1.length := nI_pred _
              refine And.intro rfl (Exists.intro _ (And.intro (hW 4 0 5 rfl) ?_))
              refine And.intro rfl ?_
              rw [tw1]
              refine Exists.intro _ (Exists.intro _ (And.intro rfl (And.intro (show fc_ix (nI (w1.length + 1) - 1) 64 w1.length from by rw [e1]; exact fc_ix_nI (by omega) (by omega)) ?_)))
              rw [tw3.1]
              refine Exists.intro _ (And.intro (c_rankOf _) ?_)
              rintro _ _ _ _ ⟨rfl, rfl, rfl, rfl⟩
              refine And.intro (fun h95 => ?_) (fun h95 => ?_)
              · refine And.intro rfl (Exists.intro _ (And.intro (c_failk hW (hk.off (g64 1 (by decide) (by decide) (by omega) (by omega)) (g64 2 (by decide) (by decide) (by omega) (by omega)) rfl) 1) ?_))
                rintro _ m100 l100 _ ⟨rfl, rfl, ff100⟩
                refine And.intro (by first | exact Or.inl rfl | exact Or.inr rfl | exact fc_bb _ | assumption) ?_
                have hc : ¬ (tK s n i = 41 ∧ ¬ dp ≤ 0) := fun q => h6 q.1
                rw [ps_beh, if_neg hc, if_neg h41, if_pos h55, hx, if_pos (show ps_tp (x :: w1) = 2 from h95)]
                exact ⟨ff100.1.symm, rfl, (fc_Ft.rf.fl hb g64).ff ff100, rfl, ff100.2.2.2⟩
              · refine And.intro (fun h105 => ?_) (fun h105 => ?_)
                · refine And.intro rfl ?_
                  rw [show m64 1 = mi 1 from g64 1 (by decide) (by decide) (by omega) (by omega), k4]
                  refine And.intro rfl (Exists.intro _ (And.intro (c_await hW r64.1 _) ?_))
                  rintro _ m144 l144 _ ⟨rfl, rfl, rfl, f144, d144, u144, w144⟩
                  refine And.intro rfl (And.intro (by first | exact Or.inl rfl | exact Or.inr rfl | exact fc_bb _ | assumption) ?_)
                  refine And.intro (by first | exact Or.inl rfl | exact Or.inr rfl | exact fc_bb _ | assumption) ?_
                  have hc : ¬ (tK s n i = 41 ∧ ¬ dp ≤ 0) := fun q => h6 q.1
                  rw [ps_beh, if_neg hc, if_neg h41, if_pos h55, if_neg (show ¬ ps_tp (ps_wd 3 w o).1 = 2 from by rw [hx]; exact h95)]
                  refine ⟨rfl, rfl, fc_Ft.rf.fl hb ((g64.a f144).u), rfl, ?_, (r64.aw hb f144 d144 u144 w144).du hb true⟩
                  rw [fc_u_off _ _ _ (by decide), f144 1 (by decide) (by decide), g64 1 (by decide) (by decide) (by omega) (by omega)]
                · exact absurd rfl h105
          · exact absurd h55 h70
        · refine And.intro rfl (Exists.intro _ (And.intro (c_writeDown hW hL hb _ hR) ?_))
          rintro _ m64 l64 _ ⟨rfl, rfl, rfl, g64, r64⟩
          obtain ⟨⟨rw1, rw2, rw3⟩, ⟨rd, ru⟩, ro⟩ := id r64
          simp only at rw1 rw2 rw3 rd ru ro
          refine And.intro (fun h70 => ?_) (fun h70 => ?_)
          · exact absurd h70 h55
          · refine And.intro (fun h105 => ?_) (fun h105 => ?_)
            · refine And.intro rfl ?_
              rw [show m64 1 = mi 1 from g64 1 (by decide) (by decide) (by omega) (by omega), k4]
              refine And.intro rfl (Exists.intro _ (And.intro (c_await hW r64.1 _) ?_))
              rintro _ m144 l144 _ ⟨rfl, rfl, rfl, f144, d144, u144, w144⟩
              refine And.intro rfl (And.intro (by first | exact Or.inl rfl | exact Or.inr rfl | exact fc_bb _ | assumption) ?_)
              refine And.intro (by first | exact Or.inl rfl | exact Or.inr rfl | exact fc_bb _ | assumption) ?_
              have hc : ¬ (tK s n i = 41 ∧ ¬ dp ≤ 0) := fun q => h6 q.1
              rw [ps_beh, if_neg hc, if_neg h41, if_neg h55]
              refine ⟨rfl, rfl, fc_Ft.rf.fl hb ((g64.a f144).u), rfl, ?_, (r64.aw hb f144 d144 u144 w144).du hb true⟩
              rw [fc_u_off _ _ _ (by decide), f144 1 (by decide) (by decide), g64 1 (by decide) (by decide) (by omega) (by omega)]
            · exact absurd rfl h105
    · exact absurd rfl h23

end M39
