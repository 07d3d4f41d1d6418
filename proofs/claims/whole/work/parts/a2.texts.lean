/-! ===== feed and morning in both ===== -/
/-- what texts leave in the reference -/
def FrS (mi mi' : fc_Mi) : Prop := (∀ k, k = 18 ∨ k = 25 → mi' 252 k = mi 252 k) ∧ (∀ k, k < 50 → mi' 258 k = mi 258 k) ∧ (∀ k, k < 1100 → mi' 259 k = mi 259 k ∧ mi' 260 k = mi 260 k) ∧ (∀ x, x = 263 ∨ x = 269 → mi' x = mi x) ∧ (∀ k, k < 125 → mi' 265 k = mi 265 k) ∧ ∀ j, j < 1344 → mi' 268 j = mi 268 j
section Ma2
variable {L σ : fc_Mi} {ev : fc_Ev} {A : fc_Ab} {tx tx' : Nat → Int32} {a P : fc_Mi} {ps ms mp : Nat → fc_Mi} {mk : Nat → Int32} {T' : Nat}
variable {E : fc_E} {mi mi' : fc_Mi} {ml ml' : fc_Ml} {mr mr' : fc_Mr} {b b2 sc sc2 n m t sm np len sl kp k q T : Nat}
theorem lwx.off {code : Nat → Int32} {len : Nat} (h : lwx mi code len) (g : ∀ k, k < 1100 → mi' 259 k = mi 259 k ∧ mi' 260 k = mi 260 k) : lwx mi' code len := by
  obtain ⟨h1, h2, h3, h4, h5⟩ := h
  exact ⟨h1, h2, h3, fun i hi => by rw [(g i (by omega)).1, (g i (by omega)).2]; exact h4 i hi, (g len (by omega)).1.trans h5⟩
theorem rlw.of2 (h : rlw mi ev) (g1 : mi' 258 5 = mi 258 5) (g : ∀ k, k < 1100 → mi' 259 k = mi 259 k ∧ mi' 260 k = mi 260 k) : rlw mi' ev := by
  rcases h with ⟨h1, h2⟩ | ⟨h1, code, len, h2, h3⟩
  · exact .inl ⟨g1.trans h1, h2⟩
  · exact .inr ⟨g1.trans h1, code, len, h2.off g, h3⟩
theorem rl_lg {r r' : Nat → Int32} (hn : n ≤ 5) (hm : m ≤ 7) (ht : t ≤ 6) (h : as_lg n m t L (rl r)) (g : ∀ k, k < 50 → r' k = r k) : as_lg n m t L (rl r') := ⟨fun k hk => (h.1 k hk).trans (g (6 + k) (by omega)).symm, fun p hp => ⟨(h.2.1 p hp).1.trans (g (13 + 3 * p + 0) (by omega)).symm, (h.2.1 p hp).2.1.trans (g (13 + 3 * p + 1) (by omega)).symm, (h.2.1 p hp).2.2.trans (g (13 + 3 * p + 2) (by omega)).symm⟩, fun q hq => ⟨(h.2.2 q hq).1.trans (g (28 + 2 * q + 0) (by omega)).symm, (h.2.2 q hq).2.trans (g (28 + 2 * q + 1) (by omega)).symm⟩⟩
theorem lns.off {dd xs zs : Nat → Int32} (h : lns mi n m t k dd xs zs) (g : ∀ j, j < 125 → mi' 265 j = mi 265 j) : lns mi' n m t k dd xs zs := by
  obtain ⟨h1, h2, h3⟩ := h
  refine ⟨(g 0 (by omega)).trans h1, h2, fun i hi => ?_⟩
  rw [g _ (by omega), g _ (by omega), g _ (by omega)]; exact h3 i hi
theorem SimR.tp (hk : kp ≤ 16) (hq : q ≤ 8) (h : SimR mi ml n m t sm np L σ ev A T tx k a q P kp ps mk ms mp) (g : FrS mi mi') (g5 : ml' 257 = ml 257) (g6 : ml' 261 = ml 261) (ht : rtp mi' T') (hx : ∀ j, j < T' → mi' 253 j = tx' j) : SimR mi' ml' n m t sm np L σ ev A T' tx' k a q P kp ps mk ms mp := by
  obtain ⟨h1, h2, h3, ⟨h4, h5, h6⟩, ⟨h7, h8⟩, h9, h10, ⟨h11, h12⟩, h13⟩ := h
  obtain ⟨g1, g2, g3, g4, g7, g8⟩ := g
  have hn : n ≤ 5 := h1.2.2.1.1
  have hm : m ≤ 7 := h1.2.2.1.2.1
  have ht6 : t ≤ 6 := h1.2.2.1.2.2.1
  refine ⟨?_, (g2 1 (by omega)).trans h2, h3.of2 (g2 5 (by omega)) g3, ⟨ht, hx, ?_⟩, ⟨(g1 18 (by omega)).trans h7, ?_⟩, h9.off g7, h10.off hq (by omega) g8, ⟨(g1 25 (by omega)).trans h11, fun u hu => ?_⟩, fun j hj => ⟨?_, fun e => ?_⟩⟩
  · obtain ⟨⟨a1, a2, a3, a4⟩, b2, b3, b4, b5, b6⟩ := h1
    exact ⟨⟨(g2 0 (by omega)).trans a1, (g2 2 (by omega)).trans a2, (g2 3 (by omega)).trans a3, (g2 4 (by omega)).trans a4⟩, b2, b3, b4, rl_lg hn hm ht6 b5 g2, rv_ag hn ht6 b6 (fun j q => g8 j (by omega))⟩
  · rw [g5]; exact h6
  · rw [g6, g4 263 (by omega)]; exact h8
  · exact rv_ag hn ht6 (h12 u hu) (fun j q => g8 j (by omega))
  · rw [g4 269 (by omega)]; exact (h13 j hj).1
  · obtain ⟨k1, q', k2, k3, k4⟩ := (h13 j hj).2 e
    exact ⟨rv_ag hn ht6 k1 (fun j q => g8 j (by omega)), q', k2, k3, k4.off k2 (by omega) g8⟩
/-- a text has been fed, or read with a fault: the tape is another, all else as it was; or a morning read: other lines -/
theorem Sim_t {m2 : fc_Mi} {l2 : fc_Ml} {r2 : fc_Mr} {sc' sc2' k' : Nat} (hC : SimC mi ml mr b b2 sc sc2 n m t sm np len sl kp k q T) (hR : SimR mi ml n m t sm np (cl mi b) (cv mi 17) (cw mi b len) (sA ml b m n t) T (mi 2) k (fun x => mi (sc + x)) q (fun x => mi (214 + x)) kp (fun u => cv mi (psl sl kp u)) (mi 37) (fun j => cv mi (166 + 12 * j)) (fun j x => mi (174 + 12 * j + x)))
    (f1 : ∀ x, x < 252 → x ≠ 1 → x ≠ 2 → x ≠ 3 → x ≠ 4 → x ≠ 5 → x ≠ 15 → x ≠ 16 → (x < 25 ∨ 33 ≤ x) → x ≠ b + 12 → (x < b2 ∨ b2 + 12 < x) → x < 244 → m2 x = mi x) (fl : ∀ x, x = b + 1 ∨ x = b + 2 ∨ x = b + 3 → l2 x = ml x) (ft : m2 1 1 = nI T' ∧ T' ≤ 1000 ∧ okc (m2 2) T')
    (hW : fc_Wd r2) (hr : r2 0 7 = mr 0 7 ∧ r2 0 8 = mr 0 8 ∧ r2 0 9 = some sc' ∧ r2 0 10 = some sc2') (hen : fc_en r2) (hsc : (sc' = 244 ∧ sc2' = 248) ∨ (sc' = 248 ∧ sc2' = 244)) (hk : m2 sc' 3 = nI k' ∧ k' ≤ 40)
    (g : FrS mi m2 ∨ ((∀ k, k = 18 ∨ k = 25 → m2 252 k = mi 252 k) ∧ (∀ x, x = 258 ∨ x = 259 ∨ x = 260 ∨ x = 263 ∨ x = 269 → m2 x = mi x) ∧ ∀ j, j < 1344 → m2 268 j = mi 268 j)) (gn : lns m2 n m t k' (m2 (sc' + 1)) (m2 (sc' + 2)) (m2 (sc' + 3))) (g5 : l2 257 = ml 257) (g6 : l2 261 = ml 261) (gt : m2 252 2 = nI T') (gx : ∀ j, j < T' → m2 253 j = m2 2 j) : Sim m2 l2 r2 := by
  obtain ⟨e1, e2, e3, e4, l5, l7, l6⟩ := hC.e
  obtain ⟨⟨c1, c2, c3, c4, c5, c6, c7, c8, c9⟩, ⟨d1, d2, d3, d4, d5⟩, ⟨q1, q2, q3, q4, q5, q6⟩, ⟨t1, t2⟩, ⟨a1, a2⟩, ⟨l1, l2'⟩, s1, ⟨p1, p2⟩, m1⟩ := hC
  have hb : (b = 218 ∧ b2 = 231) ∨ (b = 231 ∧ b2 = 218) := d3
  have fr : ∀ x, (8 ≤ x ∧ x < 15) ∨ (17 ≤ x ∧ x < 25) ∨ (33 ≤ x ∧ x < 218) ∨ (b ≤ x ∧ x < b + 12) → m2 x = mi x := fun x h => f1 x (by omega) (by omega) (by omega) (by omega) (by omega) (by omega) (by omega) (by omega) (by omega) (by omega) (by omega) (by omega)
  have gb : m2 b = mi b := fr b (by omega)
  have ecl : cl m2 b = cl mi b := cl_off (fun x h1 h2 => fr x (by omega))
  have ecv : cv m2 17 = cv mi 17 := cv_off (fun x h1 h2 => fr x (by omega))
  have ecw : cw m2 b len = cw mi b len := by unfold cw; rw [fr (b + 11) (by omega)]
  have e37 : m2 37 = mi 37 := fr 37 (by omega)
  have epl : ∀ u, cv m2 (psl sl kp u) = cv mi (psl sl kp u) := fun u => by
    have := psl_lt sl kp u
    exact cv_off (fun x h1 h2 => fr x (by omega))
  have eA : sA l2 b m n t = sA ml b m n t ∨ True := .inr trivial
  have efi : ∀ x, 1 ≤ x → x ≤ 3 → (sA l2 b m n t).2.2 x = (sA ml b m n t).2.2 x := fun x h1 h2 => by
    show (if x < 4 then l2 (b + x) else fun _ => 0) = (if x < 4 then ml (b + x) else fun _ => 0)
    rw [if_pos (by omega), if_pos (by omega)]; exact fl _ (by omega)
  have hmk : mkC n m t sm m2 := mkC.off m1 (fun x h => fr x (by omega))
  refine ⟨b, b2, sc', sc2', n, m, t, sm, np, len, sl, kp, k', q, T', ?_, ?_⟩
  · refine ⟨⟨hW, hr.1.trans c2, ?_, c4, c5.off gb, c6.off (fr 18 (by omega)) (fr 23 (by omega)) (fr 24 (by omega)), hr.2.2.1, ?_, by omega⟩, ⟨hr.2.1.trans d1, hr.2.2.2, d3, hsc, hen⟩, ⟨⟨?_, ?_, ?_⟩, ?_, ⟨?_, q3.2.1, ?_⟩, ?_, fun x y hx hy => ?_, ?_⟩, ⟨⟨ft.1, ft.2.1⟩, ft.2.2⟩, ⟨a1, ?_⟩, hk, ?_, ⟨?_, fun u hu => ?_⟩, hmk⟩
    · rcases d3 with ⟨e, _⟩ | ⟨e, _⟩
      · rw [e]; exact fc_L_at218 hW
      · rw [e]; exact fc_L_at231 hW
    · rcases hsc with ⟨e, -⟩ | ⟨e, -⟩ <;> rw [e]
      · exact ⟨rfl, rfl, rfl, rfl, hW 244 0 245 rfl, hW 244 1 246 rfl, hW 244 2 247 rfl⟩
      · exact ⟨rfl, rfl, rfl, rfl, hW 248 0 249 rfl, hW 248 1 250 rfl, hW 248 2 251 rfl⟩
    · rw [gb]; exact q1.1
    · rw [ecl]; exact q1.2.1
    · rw [ecv]; exact q1.2.2
    · rw [gb]; exact q2
    · rw [fr (b + 10) (by omega)]; exact q3.1
    · rw [fr (b + 11) (by omega)]; exact q3.2.2
    · rw [fr (b + 4) (by omega)]; exact q4
    · rw [fr (b + 4) (by omega), fr (8 + x) (by omega)]; exact q5 x y hx hy
    · rw [ecv]; exact q6
    · intro w
      have := a2 w
      rw [efi 1 (by omega) (by omega), efi 2 (by omega) (by omega), efi 3 (by omega) (by omega)]
      exact this
    · unfold fc_Se at s1 ⊢
      rw [fr 214 (by omega), fr 215 (by omega), fr 217 (by omega)]; exact s1
    · unfold fc_Pa
      rw [fr 33 (by omega)]; exact p1
    · rw [epl u]; exact p2 u hu
  · have h : SimR m2 l2 n m t sm np (cl mi b) (cv mi 17) (cw mi b len) (sA ml b m n t) T' (m2 2) k' (fun x => m2 (sc' + x)) q (fun x => mi (214 + x)) kp (fun u => cv mi (psl sl kp u)) (mi 37) (fun j => cv mi (166 + 12 * j)) (fun j x => mi (174 + 12 * j + x)) := by
      rcases g with g | ⟨g1, g2, g3⟩
      · have h0 := hR.tp p1.2.2.2 s1.2.1 g g5 g6 ⟨gt, ft.2.1⟩ gx
        exact ⟨h0.1, h0.2.1, h0.2.2.1, h0.2.2.2.1, h0.2.2.2.2.1, gn, h0.2.2.2.2.2.2⟩
      · obtain ⟨h1, h2, h3, ⟨h4, h5, h6⟩, ⟨h7, h8⟩, h9, h10, ⟨h11, h12⟩, h13⟩ := hR
        refine ⟨?_, ?_, h3.off (g2 258 (by omega)) (g2 259 (by omega)) (g2 260 (by omega)), ⟨⟨gt, ft.2.1⟩, gx, by rw [g5]; exact h6⟩, ⟨(g1 18 (by omega)).trans h7, by rw [g6, g2 263 (by omega)]; exact h8⟩, gn, h10.off s1.2.1 (by omega) g3, ⟨(g1 25 (by omega)).trans h11, fun u hu => ?_⟩, fun j hj => ⟨?_, fun e => ?_⟩⟩
        · obtain ⟨b1, b2', b3, b4, b5, b6⟩ := h1
          exact ⟨by rw [g2 258 (by omega)]; exact b1, b2', b3, b4, by rw [g2 258 (by omega)]; exact b5, rv_ag l5 l6 b6 (fun j q => g3 j (by omega))⟩
        · rw [g2 258 (by omega)]; exact h2
        · exact rv_ag l5 l6 (h12 u hu) (fun j q => g3 j (by have := p1.2.2.2; omega))
        · rw [g2 269 (by omega)]; exact (h13 j hj).1
        · obtain ⟨k1, q', k2, k3, k4⟩ := (h13 j hj).2 e
          exact ⟨rv_ag l5 l6 k1 (fun j q => g3 j (by omega)), q', k2, k3, k4.off k2 (by omega) g3⟩
    rw [ecl, ecv, ecw, e37]
    have h' := h.cg (a' := fun x => m2 (sc' + x)) (P' := fun x => m2 (214 + x)) (ps' := fun u => cv m2 (psl sl kp u)) (mk' := mi 37) (ms' := fun j => cv m2 (166 + 12 * j)) (mp' := fun j x => m2 (174 + 12 * j + x)) (fun x _ _ => rfl) (fun x h1 h2 => fr (214 + x) (by omega)) (fun u _ => epl u) (fun j hj => ⟨rfl, cv_off (fun x h1 h2 => fr x (by omega)), fun x hx => fr (174 + 12 * j + x) (by omega)⟩)
    obtain ⟨z1, z2, z3, z4, z5, z6⟩ := h'
    refine ⟨z1, z2, z3, z4, ⟨z5.1, ?_⟩, z6⟩
    have hnk : ∀ w, nk (sA l2 b m n t) w = nk (sA ml b m n t) w := fun w => by
      unfold nk
      rw [efi 1 (by omega) (by omega), efi 2 (by omega) (by omega), efi 3 (by omega) (by omega)]
      rfl
    exact ⟨fun w z hz => (z5.2.1 w z hz).trans (hnk w).symm, z5.2.2⟩
theorem oks_c {c : Int32} (h : sp_oks c = true) : ∃ z, z < 127 ∧ c = nI z := by
  unfold sp_oks at h
  rw [Bool.or_eq_true] at h
  rcases h with h | h
  · exact ⟨10, by omega, of_decide_eq_true h⟩
  · simp only [sp_from, Bool.and_eq_true, Bool.not_eq_true', decide_eq_false_iff_not] at h
    have h0 : ¬ c < 0 := fun q => h.1 (Int32.lt_trans q (by decide))
    obtain ⟨z, hz, e⟩ := nI_of2 (M := 126) (n := 126) rfl h0 (Int32.not_lt.mp h.2)
    exact ⟨z, by omega, e⟩
theorem put_ok {x : Int64} {s : Nat × (Nat → Int32)} (h : okc s.2 s.1) : ∀ i, okc (sp_put x s i).2 (sp_put x s i).1
  | 0 => h
  | i + 1 => by
    have ih := put_ok (x := x) h i
    rw [sp_put]
    split
    · rename_i hc
      rw [Bool.and_eq_true] at hc
      intro j hj
      dsimp only at hj ⊢
      by_cases e : j = (sp_put x s i).1
      · rw [if_pos e]; exact oks_c hc.1
      · rw [if_neg e]; exact ih j (by omega)
    · exact ih
theorem put_ag {x : Int64} {s s' : Nat × (Nat → Int32)} (h1 : s.1 = s'.1) (h : ∀ j, j < s.1 → s.2 j = s'.2 j) (i : Nat) : (sp_put x s i).1 = (sp_put x s' i).1 ∧ ∀ j, j < (sp_put x s i).1 → (sp_put x s i).2 j = (sp_put x s' i).2 j := by
  obtain ⟨n1, v1⟩ := s
  obtain ⟨n2, v2⟩ := s'
  dsimp only at h1 h
  subst h1
  exact sp_put_ag h i
theorem sim_lns (hR : SimR mi ml n m t sm np (cl mi b) (cv mi 17) (cw mi b len) (sA ml b m n t) T (mi 2) k (fun x => mi (sc + x)) q (fun x => mi (214 + x)) kp (fun u => cv mi (psl sl kp u)) (mi 37) (fun j => cv mi (166 + 12 * j)) (fun j x => mi (174 + 12 * j + x))) : lns mi n m t k (mi (sc + 1)) (mi (sc + 2)) (mi (sc + 3)) := hR.2.2.2.2.2.1
theorem b_feed (hC : SimC mi ml mr b b2 sc sc2 n m t sm np len sl kp k q T) (hR : SimR mi ml n m t sm np (cl mi b) (cv mi 17) (cw mi b len) (sA ml b m n t) T (mi 2) k (fun x => mi (sc + x)) q (fun x => mi (214 + x)) kp (fun u => cv mi (psl sl kp u)) (mi 37) (fun j => cv mi (166 + 12 * j)) (fun j x => mi (174 + 12 * j + x))) (x y z : Int64) : Both E mX10_feed mX11_feed [.long x, .long y, .long z] mi ml mr := by
  obtain ⟨e1, e2, e3, e4, l5, l7, l6⟩ := hC.e
  have hb : 218 ≤ b ∧ b ≤ 231 := by rcases hC.2.1.2.2.1 with ⟨e, _⟩ | ⟨e, _⟩ <;> omega
  have hT := hC.2.2.2.1.1
  obtain ⟨r4, r5, r6⟩ := hR.2.2.2.1
  have ha1 := put_ag (x := x) (s := (T, mi 2)) (s' := (T, mi 253)) rfl (fun j hj => (r5 j hj).symm) 8
  have ha2 := put_ag (x := y) ha1.1 ha1.2 8
  have ha3 := put_ag (x := z) ha2.1 ha2.2 8
  have hle : (sp_feed mi T x y z).1 ≤ 1000 := sp_put_le z _ (sp_put_le y _ (sp_put_le x (T, mi 2) hT.2 8) 8) 8
  have hokc : okc (sp_feed mi T x y z).2 (sp_feed mi T x y z).1 := put_ok (put_ok (put_ok (s := (T, mi 2)) hC.2.2.2.1.2 8) 8) 8
  refine ⟨nI (sp_feed mi T x y z).1, fc_conR (c_feed (E := E) (d := 38) hC.w hT x y z) ?_⟩
  rintro _ _ _ _ ⟨rfl, rfl, rfl, rfl⟩
  generalize hm1 : fc_u (fc_ur mi 2 (sp_feed mi T x y z).2) 1 1 (nI (sp_feed mi T x y z).1) = m1
  have ho : ∀ x', x' ≠ 1 → x' ≠ 2 → m1 x' = mi x' := fun x' h1 h2 => by rw [← hm1, fc_u_off _ _ _ h1, fc_ur_off _ _ h2]
  have hrt : rtp m1 T := ⟨by rw [ho 252 (by decide) (by decide)]; exact r4.1, r4.2⟩
  have erp : rp_feed m1 T x y z = rp_feed mi T x y z := by unfold rp_feed; rw [ho 253 (by decide) (by decide)]
  have c2 := c_rfeed (E := E) (d := 38) (ml := ml) hC.w hrt x y z
  rw [erp] at c2
  refine ⟨rfl, fc_conR c2 ?_⟩
  rintro _ _ _ _ ⟨rfl, rfl, rfl, rfl⟩
  refine ⟨by rw [show (rp_feed mi T x y z).1 = (sp_feed mi T x y z).1 from ha3.1.symm], ?_⟩
  generalize hm2 : fc_u (fc_ur (fc_u m1 252 0 0) 253 (rp_feed mi T x y z).2) 252 2 (nI (rp_feed mi T x y z).1) = m2
  have hlow : ∀ x', x' ≠ 252 → x' ≠ 253 → m2 x' = m1 x' := fun x' h1 h2 => by rw [← hm2, fc_u_off _ _ _ h1, fc_ur_off _ _ h2, fc_u_off _ _ _ h1]
  have hfar : ∀ x', x' ≠ 1 → x' ≠ 2 → x' ≠ 252 → x' ≠ 253 → m2 x' = mi x' := fun x' h1 h2 h3 h4 => (hlow x' h3 h4).trans (ho x' h1 h2)
  have e2r : m2 2 = (sp_feed mi T x y z).2 := by rw [hlow 2 (by decide) (by decide), ← hm1, fc_u_off _ _ _ (by decide), fc_ur_row]
  have hsc : (sc = 244 ∧ sc2 = 248) ∨ (sc = 248 ∧ sc2 = 244) := hC.2.1.2.2.2.1
  have gs : ∀ x', sc ≤ x' → x' < sc + 4 → m2 x' = mi x' := fun x' h1 h2 => hfar x' (by omega) (by omega) (by omega) (by omega)
  refine Sim_t (T' := (sp_feed mi T x y z).1) (sc' := sc) (sc2' := sc2) (k' := k) hC hR (fun x' h1 h2 h3 _ _ _ _ _ _ _ _ _ => hfar x' h2 h3 (by omega) (by omega)) (fun _ _ => rfl) ⟨?_, hle, by rw [e2r]; exact hokc⟩ hC.w ⟨rfl, rfl, hC.1.2.2.2.2.2.2.1, hC.2.1.2.1⟩ hC.2.1.2.2.2.2 hsc ⟨?_, hC.2.2.2.2.2.1.2⟩ (.inr ⟨fun k h => ?_, fun x' h => hfar x' (by omega) (by omega) (by omega) (by omega), fun j _ => by rw [hfar 268 (by decide) (by decide) (by decide) (by decide)]⟩) ?_ rfl rfl ?_ (fun j hj => ?_)
  · rw [hlow 1 (by decide) (by decide), ← hm1]; exact fc_u_at _ _ _ _
  · rw [gs sc (by omega) (by omega)]; exact hC.2.2.2.2.2.1.1
  · rw [← hm2, fc_u_nj _ _ _ _ (by omega), fc_ur_off _ _ (by decide), fc_u_nj _ _ _ _ (by omega), ho 252 (by decide) (by decide)]
  · rw [gs (sc + 1) (by omega) (by omega), gs (sc + 2) (by omega) (by omega), gs (sc + 3) (by omega) (by omega)]
    exact (sim_lns hR).off (fun j _ => by rw [hfar 265 (by decide) (by decide) (by decide) (by decide)])
  · rw [← hm2, show (sp_feed mi T x y z).1 = (rp_feed mi T x y z).1 from ha3.1]; exact fc_u_at _ _ _ _
  · rw [e2r, ← hm2, fc_u_off _ _ _ (by decide), fc_ur_row]
    exact (ha3.2 j hj).symm
theorem ms_cg {s : Nat → Int32} {tn : Nat} {N N' : fc_Ml} {m' k' t' : Nat} (h : ∀ x, 1 ≤ x → x ≤ 3 → N x = N' x) : ∀ (j i L : Nat) (a : fc_Mi), ms_rd s tn N m' k' t' j i L a = ms_rd s tn N' m' k' t' j i L a := by
  have h1 : ∀ dd w, ms_f1 N k' t' dd w = ms_f1 N' k' t' dd w := fun dd w => by unfold ms_f1; rw [h 3 (by omega) (by omega), h 2 (by omega) (by omega)]
  have h2 : ∀ dd w, ms_f2 N m' k' dd w = ms_f2 N' m' k' dd w := fun dd w => by unfold ms_f2; rw [h 1 (by omega) (by omega), h 2 (by omega) (by omega)]
  have h3 : ∀ dd i, ms_nm s tn N m' k' t' dd i = ms_nm s tn N' m' k' t' dd i := fun dd i => by unfold ms_nm; simp only [h1, h2]
  have h4 : ∀ i L a, ms_line s tn N m' k' t' i L a = ms_line s tn N' m' k' t' i L a := fun i L a => by unfold ms_line; rw [h3]
  intro j
  induction j with
  | zero => intro i L a; rfl
  | succ j ih =>
    intro i L a
    rw [ms_rd, ms_rd, h4]
    simp only [ih]
theorem b_morning (hC : SimC mi ml mr b b2 sc sc2 n m t sm np len sl kp k q T) (hR : SimR mi ml n m t sm np (cl mi b) (cv mi 17) (cw mi b len) (sA ml b m n t) T (mi 2) k (fun x => mi (sc + x)) q (fun x => mi (214 + x)) kp (fun u => cv mi (psl sl kp u)) (mi 37) (fun j => cv mi (166 + 12 * j)) (fun j x => mi (174 + 12 * j + x))) : Both E mX10_morning mX11_morning [] mi ml mr := by
  obtain ⟨e1, e2, e3, e4, l5, l7, l6⟩ := hC.e
  have hb : 218 ≤ b ∧ b ≤ 231 := by rcases hC.2.1.2.2.1 with ⟨e, _⟩ | ⟨e, _⟩ <;> omega
  have hT := hC.2.2.2.1.1
  obtain ⟨r4, r5, r6⟩ := hR.2.2.2.1
  obtain ⟨d1, d2, d3, d4, d5⟩ := hC.2.1
  have hQ2 : fc_Qs mr sc2 := by
    rcases d4 with ⟨-, e⟩ | ⟨-, e⟩ <;> rw [e]
    · exact ⟨rfl, rfl, rfl, rfl, hC.w 248 0 249 rfl, hC.w 248 1 250 rfl, hC.w 248 2 251 rfl⟩
    · exact ⟨rfl, rfl, rfl, rfl, hC.w 244 0 245 rfl, hC.w 244 1 246 rfl, hC.w 244 2 247 rfl⟩
  have hcg : ms_rd (mi 2) T (fun x => ml (b + x)) m n t 1000 0 0 (fun _ _ => 0) = ms_rd (mi 2) T (sA ml b m n t).2.2 ((sA ml b m n t).1 0) ((sA ml b m n t).1 2) ((sA ml b m n t).1 3) 1000 0 0 (fun _ _ => 0) := ms_cg (fun x h1 h2 => (if_pos (show x < 4 by omega)).symm) 1000 0 0 _
  have c1 := c_morning (E := E) (d := 30) (ml := ml) (s := mi 2) hC.1 (sc2 := sc2) d2 hQ2 (by omega) hT rfl (fun f hf => (isF_ok hT.2 (ms_rd_F 1000 0 0 _ hf)).2)
  rw [hcg] at c1
  have hbs : b + 12 < sc2 := by omega
  cases hr : ms_rd (mi 2) T (sA ml b m n t).2.2 ((sA ml b m n t).1 0) ((sA ml b m n t).1 2) ((sA ml b m n t).1 3) 1000 0 0 (fun _ _ => 0) with
  | error f =>
    rw [hr] at c1
    refine ⟨f, fc_conR c1 ?_⟩
    rintro _ m1 l1 r1 ⟨f1, f2, f3, rfl, rfl⟩
    have h2 := c_rmorning (E := E) (d := 34) (mi := m1) (ml := l1) (n := T) (s := mi 2) (A := sA ml b m n t) hC.w (by rw [f1 252 (by decide) (by omega)]; exact r4.1) r4.2 (fun j hj => by rw [f1 253 (by decide) (by omega)]; exact r5 j hj) hC.2.2.2.1.2 (fun w hw => by rw [f2 257 (by decide)]; exact r6 w hw) hC.2.2.2.2.1.1 hC.2.2.2.2.1.2 (by rw [f1 252 (by decide) (by omega)]; exact hR.2.2.2.2.1.1) (by rw [f2 261 (by decide), f1 263 (by decide) (by omega)]; exact hR.2.2.2.2.1.2) (fun _ _ => 0)
    rw [hr] at h2
    refine ⟨rfl, fc_conR h2 ?_⟩
    rintro v2 m2 l2 r2 ⟨rfl, g1, g2, g3, rfl, g4, g5⟩
    refine ⟨rfl, ?_⟩
    have hlow : ∀ x, x < 252 → m2 x = m1 x := fun x h => by rw [g1 x (by omega) (by omega) (by omega) (by omega), fc_u_off _ _ _ (by omega), fc_u_off _ _ _ (by omega)]
    have hfar : ∀ x, x < 252 → x ≠ 1 → (x < sc2 ∨ sc2 + 3 < x) → m2 x = mi x := fun x h1 h2 h3 => (hlow x h1).trans (f1 x h2 h3)
    have hup : ∀ x, x = 258 ∨ x = 259 ∨ x = 260 ∨ x = 263 ∨ x = 268 ∨ x = 269 → m2 x = mi x := fun x h => by
      rw [g1 x (by omega) (by omega) (by omega) (by omega), fc_u_off _ _ _ (by omega), fc_u_off _ _ _ (by omega)]; exact f1 x (by omega) (by omega)
    refine Sim_t (T' := 0) (sc' := sc) (sc2' := sc2) (k' := k) hC hR (fun x h1 h2 h3 h4 h5 h6 h7 h8 h9 h10 h11 h12 => hfar x h1 h2 (by omega)) (fun x h => (g3 x (by omega)).trans (f2 x (by omega))) ⟨?_, by omega, fun j hj => absurd hj (Nat.not_lt_zero j)⟩ hC.w ⟨rfl, rfl, hC.1.2.2.2.2.2.2.1, d2⟩ d5 d4 ⟨?_, hC.2.2.2.2.2.1.2⟩ (.inl ⟨fun k h => ?_, fun k _ => by rw [hup 258 (by omega)], fun k _ => by rw [hup 259 (by omega), hup 260 (by omega)]; exact ⟨rfl, rfl⟩, fun x h => hup x (by omega), fun k hk => ?_, fun j _ => by rw [hup 268 (by omega)]⟩) ?_ ((g3 257 (by decide)).trans (f2 257 (by decide))) ((g3 261 (by decide)).trans (f2 261 (by decide))) ?_ (fun j hj => absurd hj (Nat.not_lt_zero j))
    · rw [hlow 1 (by omega)]; exact f3
    · rw [hfar sc (by omega) (by omega) (by omega)]; exact hC.2.2.2.2.2.1.1
    · rw [g2 k (by omega) (by omega) (by omega), fc_u_nj _ _ _ _ (by omega), fc_u_nj _ _ _ _ (by omega), f1 252 (by decide) (by omega)]
    · rw [g5 k hk, fc_u_off _ _ _ (by decide), fc_u_off _ _ _ (by decide), f1 265 (by decide) (by omega)]
    · rw [hfar (sc + 1) (by omega) (by omega) (by omega), hfar (sc + 2) (by omega) (by omega) (by omega), hfar (sc + 3) (by omega) (by omega) (by omega)]
      refine (sim_lns hR).off (fun j hj => ?_)
      rw [g5 j hj, fc_u_off _ _ _ (by decide), fc_u_off _ _ _ (by decide), f1 265 (by decide) (by omega)]
    · rw [g2 2 (by decide) (by decide) (by decide)]; exact fc_u_at _ _ _ _
  | ok w =>
    rw [hr] at c1
    refine ⟨0, fc_conR c1 ?_⟩
    rintro _ m1 l1 r1 ⟨f1, f2, f3, rfl, rfl, f4, f5, f6⟩
    have hW1 : fc_Wd (fc_u (fc_u mr 0 10 (some sc)) 0 9 (some sc2)) := (hC.w.w (x0 := 0) (k0 := 10) (by decide) _).w (x0 := 0) (k0 := 9) (by decide) _
    have h2 := c_rmorning (E := E) (d := 34) (mi := m1) (ml := l1) (n := T) (s := mi 2) (A := sA ml b m n t) hW1 (by rw [f1 252 (by decide) (by omega)]; exact r4.1) r4.2 (fun j hj => by rw [f1 253 (by decide) (by omega)]; exact r5 j hj) hC.2.2.2.1.2 (fun w hw => by rw [f2 257 (by decide)]; exact r6 w hw) hC.2.2.2.2.1.1 hC.2.2.2.2.1.2 (by rw [f1 252 (by decide) (by omega)]; exact hR.2.2.2.2.1.1) (by rw [f2 261 (by decide), f1 263 (by decide) (by omega)]; exact hR.2.2.2.2.1.2) (fun _ _ => 0)
    rw [hr] at h2
    refine ⟨rfl, fc_conR h2 ?_⟩
    rintro v2 m2 l2 r2 ⟨rfl, g1, g2, g3, rfl, g4, g5, g6⟩
    refine ⟨rfl, ?_⟩
    have hlow : ∀ x, x < 252 → m2 x = m1 x := fun x h => by rw [g1 x (by omega) (by omega) (by omega) (by omega), fc_u_off _ _ _ (by omega), fc_u_off _ _ _ (by omega)]
    have hfar : ∀ x, x < 252 → x ≠ 1 → (x < sc2 ∨ sc2 + 3 < x) → m2 x = mi x := fun x h1 h2 h3 => (hlow x h1).trans (f1 x h2 h3)
    have hup : ∀ x, x = 258 ∨ x = 259 ∨ x = 260 ∨ x = 263 ∨ x = 268 ∨ x = 269 → m2 x = mi x := fun x h => by
      rw [g1 x (by omega) (by omega) (by omega) (by omega), fc_u_off _ _ _ (by omega), fc_u_off _ _ _ (by omega)]; exact f1 x (by omega) (by omega)
    refine Sim_t (T' := 0) (sc' := sc2) (sc2' := sc) (k' := w.1) hC hR (fun x h1 h2 h3 h4 h5 h6 h7 h8 h9 h10 h11 h12 => hfar x h1 h2 (by omega)) (fun x h => (g3 x (by omega)).trans (f2 x (by omega))) ⟨?_, by omega, fun j hj => absurd hj (Nat.not_lt_zero j)⟩ hW1 ⟨rfl, rfl, rfl, rfl⟩ d5 (by omega) ⟨?_, f5⟩ (.inr ⟨fun k h => ?_, fun x h => hup x (by omega), fun j _ => by rw [hup 268 (by omega)]⟩) ⟨g5, g4, fun i hi => ?_⟩ ((g3 257 (by decide)).trans (f2 257 (by decide))) ((g3 261 (by decide)).trans (f2 261 (by decide))) ?_ (fun j hj => absurd hj (Nat.not_lt_zero j))
    · rw [hlow 1 (by omega)]; exact f3
    · rw [hlow sc2 (by omega)]; exact f4
    · rw [g2 k (by omega) (by omega) (by omega), fc_u_nj _ _ _ _ (by omega), fc_u_nj _ _ _ _ (by omega), f1 252 (by decide) (by omega)]
    · have h7 := g6 i hi
      obtain ⟨z1, z2⟩ := f6 i hi
      rw [hlow (sc2 + 1) (by omega), hlow (sc2 + 2) (by omega), hlow (sc2 + 3) (by omega), z1]
      rw [show 2 + 3 * i = 1 + 3 * i + 1 by omega, show 3 + 3 * i = 1 + 3 * i + 2 by omega]
      by_cases e : w.2 1 i = 138
      · rcases h7 with h7 | ⟨⟨h7, -⟩, -⟩ | ⟨⟨h7, -⟩, -⟩ | ⟨⟨h7, -⟩, -⟩
        · exact .inl h7
        all_goals exact absurd (e.symm.trans h7) (by decide)
      · rw [(z2 e).1, (z2 e).2]; exact h7
    · rw [g2 2 (by decide) (by decide) (by decide)]; exact fc_u_at _ _ _ _
end Ma2
