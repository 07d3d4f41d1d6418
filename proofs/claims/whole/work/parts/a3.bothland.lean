/-! ===== land in both ===== -/
theorem sp_hg_cg {f g : Nat → Int32} : ∀ (k : Nat), (∀ j, j < k → f j = g j) → sp_hg f k = sp_hg g k
  | 0, _ => rfl
  | k + 1, h => by rw [sp_hg, sp_hg, sp_hg_cg k (fun j hj => h j (by omega)), h k (by omega)]
theorem fg_ok_cg {m : Nat} {p p' : Nat → Int32} (h : fg_ok m p) (g : ∀ k, k < m → p' k = p k) : fg_ok m p' := fun k hk => by
  rw [g k hk]
  exact ⟨(h k hk).1, fun j hj => by rw [g j hj]; exact (h k hk).2 j hj⟩
theorem as_lg.tr {n m t : Nat} {L K J : fc_Mi} (h : as_lg n m t L K) (g : as_lg n m t K J) : as_lg n m t L J := ⟨fun k hk => (h.1 k hk).trans (g.1 k hk), fun p hp => ⟨(h.2.1 p hp).1.trans (g.2.1 p hp).1, (h.2.1 p hp).2.1.trans (g.2.1 p hp).2.1, (h.2.1 p hp).2.2.trans (g.2.1 p hp).2.2⟩, fun q hq => ⟨(h.2.2 q hq).1.trans (g.2.2 q hq).1, (h.2.2 q hq).2.trans (g.2.2 q hq).2⟩⟩
theorem as_lg.sy {n m t : Nat} {L K : fc_Mi} (h : as_lg n m t L K) : as_lg n m t K L := ⟨fun k hk => (h.1 k hk).symm, fun p hp => ⟨(h.2.1 p hp).1.symm, (h.2.1 p hp).2.1.symm, (h.2.1 p hp).2.2.symm⟩, fun q hq => ⟨(h.2.2 q hq).1.symm, (h.2.2 q hq).2.symm⟩⟩
section Ma3
variable {E : fc_E} {mi mi' : fc_Mi} {ml ml' : fc_Ml} {mr mr' : fc_Mr} {b b2 sc sc2 n m t sm np len sl kp k q T : Nat}
/-- the class holds the land told -/
theorem RC_lg {A : fc_Ab} {M : fc_Mi} {L : fc_Ml} {y : Nat} (hB : fc_AB A) (h : fc_RC A M L y) (g : ∀ x, y ≤ x → x < y + 12 → mi x = M x) : as_lg (A.1 2) (A.1 0) (A.1 3) (cl mi y) A.2.1 := by
  obtain ⟨h1, h2, ⟨h3, h4, h5, h6⟩, h7⟩ := h
  refine ⟨fun k hk => ?_, fun p hp => ⟨?_, ?_, ?_⟩, fun q hq => ⟨?_, ?_⟩⟩
  · exact (congrFun (g (y + 4) (by omega) (by omega)) k).trans (h3 k (by have := hB.1; omega))
  · exact (congrFun (g (y + 5) (by omega) (by omega)) p).trans (h4 p hp).1
  · exact (congrFun (g (y + 6) (by omega) (by omega)) p).trans (h4 p hp).2.1
  · exact (congrFun (g (y + 7) (by omega) (by omega)) p).trans (h4 p hp).2.2
  · exact (congrFun (g (y + 8) (by omega) (by omega)) q).trans (h5 q hq).1
  · exact (congrFun (g (y + 9) (by omega) (by omega)) q).trans (h5 q hq).2
theorem Aok_lok {A : fc_Ab} {L : fc_Mi} {sm' : Nat} (hB : fc_AB A) (h : Aok A) (h1 : 1 ≤ sm') (h2 : sm' ≤ 60) (g : as_lg (A.1 2) (A.1 0) (A.1 3) L A.2.1) : as_lok (A.1 2) (A.1 0) (A.1 3) sm' L := by
  refine ⟨hB.2.2.1, hB.1, hB.2.2.2.1, h1, h2, fun p hp => ?_, fun q hq => ?_⟩
  · rw [(g.2.1 p hp).2.1, (g.2.1 p hp).2.2]; exact h.1 p hp
  · rw [(g.2.2 q hq).1, (g.2.2 q hq).2]; exact h.2.1 q hq
/-- a land told and taken, in both -/
theorem Sim_land {A : fc_Ab} {M m2 : fc_Mi} {l1 l2 : fc_Ml} {sm' : Nat} (hC : SimC mi ml mr b b2 sc sc2 n m t sm np len sl kp k q T) (hI : fc_AI A) (hok : Aok A) (hD : nd A) (hH : lwh A) (hsm : 1 ≤ sm' ∧ sm' ≤ 60 ∧ A.2.1 0 14 = nI sm') (hF : fc_Fm b2 mi M ml l1) (hRC : fc_RC A M l1 b2)
    (hlow : ∀ x, x < 252 → m2 x = q_ld M b2 sc (A.1 0) x) (hll : ∀ x, x < 256 → l2 x = l1 x) (h257 : ∀ w, w < 25 → l2 257 w = kwv w) (h2z : m2 252 2 = 0) (hrh : rhA A m2 l2) (hbg : as_ag (A.1 2) (A.1 3) (as_beg A.2.1) (rv (m2 268) 0)) (h39 : m2 268 39 = 0) (h265 : m2 265 0 = 0) (h25 : m2 252 25 = 0) (h269 : ∀ j, j < 4 → m2 269 j = 0) : Sim m2 l2 (fc_u (fc_u mr 0 8 (some b)) 0 7 (some b2)) := by
  obtain ⟨c1, c2, c3, c4, c5, c6, c7, c8, c9⟩ := hC.1
  obtain ⟨d1, d2, d3, d4, d5⟩ := hC.2.1
  obtain ⟨p3, p4, p5, p6⟩ := hC.2.2.2.2.2.2.2.1.1
  obtain ⟨b0, b1, bb2, b3, b4, b5, b6⟩ := id hI.1
  have hsc : (sc = 244 ∧ sc2 = 248) ∨ (sc = 248 ∧ sc2 = 244) := d4
  have hbb : (b = 218 ∧ b2 = 231) ∨ (b = 231 ∧ b2 = 218) := d3
  have hW : fc_Wd (fc_u (fc_u mr 0 8 (some b)) 0 7 (some b2)) := (c1.w (x0 := 0) (k0 := 8) (by decide) _).w (x0 := 0) (k0 := 7) (by decide) _
  -- rows
  have qo : ∀ x, x < 252 → x ≠ 1 → (x < 8 ∨ 15 ≤ x) → (x < 17 ∨ 25 ≤ x) → x ≠ sc → x ≠ 214 → x ≠ 33 → x ≠ 37 → m2 x = M x := fun x h1 h2 h3 h4 h5 h6 h7 h8 => by
    rw [hlow x h1]
    unfold q_ld sp_fg
    rw [fc_ur_off _ _ h8, fc_u_off _ _ _ h7, fc_u_off _ _ _ h6, fc_u_off _ _ _ h5, sp_bg_row _ _ _ _ _ (by omega), sp_mm_off _ (by omega), fc_u_off _ _ _ h2]
  have gL : ∀ x, b2 ≤ x → x < b2 + 12 → m2 x = M x := fun x h1 h2 => qo x (by omega) (by omega) (by omega) (by omega) (by omega) (by omega) (by omega) (by omega)
  have hlg := RC_lg hI.1 hRC gL
  have hlok := Aok_lok hI.1 hok hsm.1 hsm.2.1 hlg
  obtain ⟨⟨k1, k2, k3, k4, k5⟩, ⟨k6, k7, k8⟩, ⟨k9, k10, k11, k12⟩, k13⟩ := id hRC
  have gb := gL b2 (by omega) (by omega)
  have hfg : fg_ok (A.1 0) (m2 (b2 + 4)) := fg_ok_cg hok.2.2.2.1 (fun k hk => (congrFun (gL (b2 + 4) (by omega) (by omega)) k).trans (k9 k (by omega)))
  have gst : ∀ x, 17 ≤ x → x < 25 → m2 x = sp_bg (sp_mm (fc_u M 1 1 0) b2 (A.1 0) (A.1 0)) 17 b2 5 6 x := fun x h1 h2 => by
    rw [hlow x (by omega)]
    unfold q_ld sp_fg
    rw [fc_ur_off _ _ (by omega), fc_u_off _ _ _ (by omega), fc_u_off _ _ _ (by omega), fc_u_off _ _ _ (by omega)]
  have ecl : cl (sp_mm (fc_u M 1 1 0) b2 (A.1 0) (A.1 0)) b2 = cl m2 b2 := cl_off (fun x h1 h2 => by
    rw [sp_mm_off _ (by omega), fc_u_off _ _ _ (by omega), gL x (by omega) (by omega)])
  have hst : as_ag (A.1 2) (A.1 3) (cv m2 17) (as_beg (cl m2 b2)) := by
    rw [cv_off (f := m2) (g := sp_bg (sp_mm (fc_u M 1 1 0) b2 (A.1 0) (A.1 0)) 17 b2 5 6) (fun x h1 h2 => gst x (by omega) (by omega)), ← ecl]
    exact sp_bg_cv bb2 b3
  have hsok : as_ok (A.1 2) (A.1 0) (A.1 3) sm' (cv m2 17) := (as_beg_ok hlok).ag hst.sy
  have hz : zr (A.1 2) (cv m2 17) := fun p h1 h2 => by
    have z4 : m2 21 p = 0 := by
      rw [gst 21 (by omega) (by omega)]
      unfold sp_bg
      rw [show (21 : Nat) = 17 + 4 from rfl, fc_ur_off _ _ (by omega), fc_ur_off _ _ (by omega), fc_ur_off _ _ (by omega), fc_ur_row]
      exact if_pos h2
    have z5 : m2 22 p = 0 := by
      rw [gst 22 (by omega) (by omega)]
      unfold sp_bg
      rw [show (22 : Nat) = 17 + 5 from rfl, fc_ur_off _ _ (by omega), fc_ur_off _ _ (by omega), fc_ur_row]
      exact if_pos h2
    exact ⟨z4, z5⟩
  have hlen : A.1 5 = 0 ∨ A.1 5 = 1 := by omega
  have e11 : ∀ j, j < A.1 6 → m2 (b2 + 11) j = A.2.1 11 j := fun j hj => (congrFun (gL (b2 + 11) (by omega) (by omega)) j).trans (k12 j hj)
  have hlwf : fc_lwf (m2 (b2 + 11)) (A.1 6) := by
    rcases hlen with e | e
    · exact .inl (hI.2 e)
    · right; rw [sp_hg_cg _ e11]; exact hH e
  have efi : ∀ w, sp_fi (l2 (b2 + 1)) w (A.1 0) 0 = sp_fi (A.2.2 1) w (A.1 0) 0 ∧ sp_fi (l2 (b2 + 2)) w (A.1 2) 0 = sp_fi (A.2.2 2) w (A.1 2) 0 ∧ sp_fi (l2 (b2 + 3)) w (A.1 3) 0 = sp_fi (A.2.2 3) w (A.1 3) 0 := fun w => by
    rw [hll _ (by omega), hll _ (by omega), hll _ (by omega)]
    exact ⟨hRC.p w, hRC.e w, hRC.t w⟩
  have e37 : ∀ j, j < 4 → m2 37 j = 0 := fun j hj => by
    rw [hlow 37 (by omega)]
    unfold q_ld sp_fg
    rw [fc_ur_row]
    exact (if_pos hj).trans (show vp_nar .boolean 0 = 0 by decide)
  have e33 : m2 33 4 = nI sl ∧ m2 33 5 = 0 := by
    rw [hlow 33 (by omega)]
    unfold q_ld sp_fg
    rw [fc_ur_off _ _ (by omega)]
    refine ⟨?_, fc_u_at _ _ _ _⟩
    rw [fc_u_nj _ _ _ _ (by decide), fc_u_off _ _ _ (by omega), fc_u_off _ _ _ (by omega), sp_bg_row _ _ _ _ _ (by omega), sp_mm_off _ (by omega), fc_u_off _ _ _ (by omega), hF.1 33 (by omega) (by omega) (by omega) (by omega) (by omega)]
    exact p3
  have e214 : m2 214 3 = 0 := by
    rw [hlow 214 (by omega)]
    unfold q_ld sp_fg
    rw [fc_ur_off _ _ (by omega), fc_u_off _ _ _ (by omega)]; exact fc_u_at _ _ _ _
  have esc : m2 sc 3 = 0 := by
    rw [hlow sc (by omega)]
    unfold q_ld sp_fg
    rw [fc_ur_off _ _ (by omega), fc_u_off _ _ _ (by omega), fc_u_off _ _ _ (by omega)]; exact fc_u_at _ _ _ _
  have e1 : m2 1 1 = 0 := by
    rw [hlow 1 (by omega)]
    unfold q_ld sp_fg
    rw [fc_ur_off _ _ (by omega), fc_u_off _ _ _ (by omega), fc_u_off _ _ _ (by omega), fc_u_off _ _ _ (by omega), sp_bg_row _ _ _ _ _ (by omega), sp_mm_off _ (by omega)]; exact fc_u_at _ _ _ _
  refine ⟨b2, b, sc, sc2, A.1 2, A.1 0, A.1 3, sm', A.1 1, A.1 6, sl, 0, 0, 0, 0, ?_, ?_⟩
  · refine ⟨⟨hW, rfl, ?_, by omega, ⟨?_, bb2, ?_, b0, ?_, b3⟩, hsok.sv, c7, ?_, c9⟩, ⟨rfl, d2, by omega, d4, d5⟩, ⟨⟨?_, hlok, hsok⟩, ?_, ⟨?_, b6, hlwf⟩, hfg, fun x y hx hy => ?_, hz⟩, ⟨⟨e1, by omega⟩, fun j hj => absurd hj (Nat.not_lt_zero j)⟩, ⟨?_, ?_⟩, ⟨esc, by omega⟩, ⟨e214, by omega, fun i hi => absurd hi (Nat.not_lt_zero i), fun i hi => absurd hi (Nat.not_lt_zero i)⟩, ⟨⟨e33.1, p4, e33.2, by omega⟩, fun u hu => absurd hu (Nat.not_lt_zero u)⟩, fun j hj => ⟨.inl (e37 j hj), fun e => absurd ((e37 j hj).symm.trans e) (by decide)⟩⟩
    · have hL1 := fc_L_at231 hW
      have hL2 := fc_L_at218 hW
      rcases hbb with ⟨-, e⟩ | ⟨-, e⟩
      · generalize fc_u (fc_u mr 0 8 (some b)) 0 7 (some b2) = R at hL1 ⊢
        rw [e]; exact hL1
      · generalize fc_u (fc_u mr 0 8 (some b)) 0 7 (some b2) = R at hL2 ⊢
        rw [e]; exact hL2
    · rw [gb]; exact k3
    · rw [gb]; exact k1
    · rw [gb]; exact k4
    · rcases hsc with ⟨e, -⟩ | ⟨e, -⟩ <;> rw [e]
      · exact ⟨rfl, rfl, rfl, rfl, hW 244 0 245 rfl, hW 244 1 246 rfl, hW 244 2 247 rfl⟩
      · exact ⟨rfl, rfl, rfl, rfl, hW 248 0 249 rfl, hW 248 1 250 rfl, hW 248 2 251 rfl⟩
    · rw [gb]; exact k5.trans hsm.2.2
    · rw [gb]; exact k2
    · rw [gL (b2 + 10) (by omega) (by omega)]; exact k8
    · have e8 : m2 (8 + x) = (sp_me (m2 (b2 + 4)) (A.1 0) x (M (8 + x)) (A.1 0)).2.2 := by
        rw [hlow (8 + x) (by omega), gL (b2 + 4) (by omega) (by omega)]
        unfold q_ld sp_fg
        rw [fc_ur_off _ _ (by omega), fc_u_off _ _ _ (by omega), fc_u_off _ _ _ (by omega), fc_u_off _ _ _ (by omega), sp_bg_row _ _ _ _ _ (by omega), sp_mm_at _ hx, fc_u_off _ _ _ (by omega), fc_u_off _ _ _ (by omega)]
      rw [e8]
      exact fg_me b0 hfg hx hy
    · exact ⟨b0, Nat.zero_le _, bb2, b3, Nat.zero_le _, Nat.zero_le _, Nat.zero_le _⟩
    · intro w
      have := hD w
      obtain ⟨f1, f2, f3⟩ := efi w
      show (sp_fi (l2 (b2 + 1)) w (A.1 0) 0 = -1 ∨ (sp_fi (l2 (b2 + 2)) w (A.1 2) 0 = -1 ∧ sp_fi (l2 (b2 + 3)) w (A.1 3) 0 = -1)) ∧ (sp_fi (l2 (b2 + 2)) w (A.1 2) 0 = -1 ∨ sp_fi (l2 (b2 + 3)) w (A.1 3) 0 = -1)
      rw [f1, f2, f3]; exact this
  · obtain ⟨⟨h1, h2, h3, h4, h5⟩, h6, ⟨h7, h8⟩, h9, h10⟩ := hrh
    refine ⟨⟨⟨h1, h3, h4, h5.trans hsm.2.2⟩, by omega, hlok, hsok, hlg.tr h6, hst.tr ((as_beg_congr hlg).tr hbg)⟩, h2, ?_, ⟨⟨h2z, by omega⟩, fun j hj => absurd hj (Nat.not_lt_zero j), h257⟩, ⟨h7, fun w z hz => ?_, h8.2⟩, ⟨h265, by omega, fun i hi => absurd hi (Nat.not_lt_zero i)⟩, ⟨h39, fun s hs => absurd hs (Nat.not_lt_zero s)⟩, ⟨h25, fun u hu => absurd hu (Nat.not_lt_zero u)⟩, fun j hj => ⟨(h269 j hj).trans (e37 j hj).symm, fun e => absurd ((e37 j hj).symm.trans e) (by decide)⟩⟩
    · rcases hlen with e | e
      · left
        refine ⟨h9 e, fun a b c d => ?_⟩
        rw [hI.2 e]
        rfl
      · right
        obtain ⟨g1, g2, g3, g4, g5, g6⟩ := h10 e
        exact ⟨g1, m2 (b2 + 11), A.1 6, ⟨g2, g3, by rw [sp_hg_cg _ e11]; exact g4, fun i hi => by rw [e11 i hi]; exact g5 i hi, g6⟩, fun _ _ _ _ => rfl⟩
    · refine (h8.1 w z hz).trans ?_
      obtain ⟨f1, f2, f3⟩ := efi w
      show nk3 _ _ _ = nk3 (sp_fi (l2 (b2 + 1)) w (A.1 0) 0) (sp_fi (l2 (b2 + 2)) w (A.1 2) 0) (sp_fi (l2 (b2 + 3)) w (A.1 3) 0)
      rw [f1, f2, f3]
theorem b_land (hC : SimC mi ml mr b b2 sc sc2 n m t sm np len sl kp k q T) (hR : SimR mi ml n m t sm np (cl mi b) (cv mi 17) (cw mi b len) (sA ml b m n t) T (mi 2) k (fun x => mi (sc + x)) q (fun x => mi (214 + x)) kp (fun u => cv mi (psl sl kp u)) (mi 37) (fun j => cv mi (166 + 12 * j)) (fun j x => mi (174 + 12 * j + x))) : Both E mX10_land mX11_land [] mi ml mr := by
  obtain ⟨e1, e2, e3, e4, l5, l7, l6⟩ := hC.e
  have hb : 218 ≤ b ∧ b ≤ 231 := by rcases hC.2.1.2.2.1 with ⟨e, _⟩ | ⟨e, _⟩ <;> omega
  have hT := hC.2.2.2.1.1
  obtain ⟨r4, r5, r6⟩ := hR.2.2.2.1
  obtain ⟨d1, d2, d3, d4, d5⟩ := id hC.2.1
  have hL2 : fc_L mr b2 := by
    rcases d3 with ⟨-, e⟩ | ⟨-, e⟩ <;> rw [e]
    · exact fc_L_at231 hC.w
    · exact fc_L_at218 hC.w
  have c1 := c_land (E := E) (d := 30) (ml := ml) (s := mi 2) hC.1 (b2 := b2) d1 hL2 (by omega) (by omega) hT rfl (fun f hf => (isF_ok hT.2 (ps_ld_F 1000 0 _ hf)).2)
  cases hr : ps_ld (mi 2) T 1000 0 ps_0 with
  | error f =>
    rw [hr] at c1
    refine ⟨f, fc_conR c1 ?_⟩
    rintro _ _ l1 r1 ⟨M, hF, rfl, rfl, rfl⟩
    have fM : ∀ x, 252 ≤ x → (fc_u M 1 1 0) x = mi x := fun x h => by rw [fc_u_off _ _ _ (by omega)]; exact hF.1 x (by omega) (by omega) (by omega) (by omega) (by omega)
    have fl : ∀ x, 244 ≤ x → l1 x = ml x := fun x h => hF.2.1 x (by omega) (by omega)
    have h2 := c_rland (E := E) (d := 5) (mi := fc_u M 1 1 0) (ml := l1) (n := T) (s := mi 2) hC.w (by rw [fM 252 (by omega)]; exact r4.1) r4.2 (fun j hj => by rw [fM 253 (by omega)]; exact r5 j hj) hC.2.2.2.1.2 (fun w hw => by rw [fl 257 (by omega)]; exact r6 w hw)
    rw [hr] at h2
    refine ⟨rfl, fc_conR h2 ?_⟩
    rintro v2 m2 l2 r2 ⟨rfl, g1, g2, rfl, g4, g5⟩
    refine ⟨rfl, ?_⟩
    obtain ⟨z1, z2, z3, z4, z5, z6⟩ := g5
    have hlow : ∀ x, x < 252 → x ≠ 1 → m2 x = M x := fun x h h1 => by rw [g1.1 x h, fc_u_off _ _ _ (by omega), fc_u_off _ _ _ (by omega), fc_u_off _ _ _ h1]
    have hup : ∀ x, x = 263 ∨ x = 265 ∨ x = 268 ∨ x = 269 → m2 x = mi x := fun x h => by rw [z3 x h, fc_u_off _ _ _ (by omega), fc_u_off _ _ _ (by omega)]; exact fM x (by omega)
    have hsl : ∀ x, x < 252 → x ≠ 1 → x ≠ 3 → x ≠ 4 → x ≠ 5 → (x < b2 ∨ b2 + 12 < x) → m2 x = mi x := fun x h1 h2 h3 h4 h5 h6 => (hlow x h1 h2).trans (hF.1 x h2 h3 h4 h5 h6)
    have l2a : ∀ x, x < 256 ∨ x = 257 → (x < b2 ∨ b2 + 12 < x) → x ≠ 1 → l2 x = ml x := fun x h h1 h2 => (g1.2 x (by omega)).trans (hF.2.1 x h2 h1)
    refine Sim_t (T' := 0) (sc' := sc) (sc2' := sc2) (k' := k) hC hR (fun x h1 h2 h3 h4 h5 h6 h7 h8 h9 h10 h11 h12 => hsl x h1 h2 h4 h5 h6 h11) (fun x h => l2a x (by omega) (by omega) (by omega)) ⟨?_, by omega, fun j hj => absurd hj (Nat.not_lt_zero j)⟩ hC.w ⟨rfl, rfl, hC.1.2.2.2.2.2.2.1, d2⟩ d5 d4 ⟨?_, hC.2.2.2.2.2.1.2⟩ (.inl ⟨fun k h => ?_, fun k hk => ?_, fun k hk => ?_, fun x h => hup x (by omega), fun k hk => by rw [hup 265 (by omega)], fun j _ => by rw [hup 268 (by omega)]⟩) ?_ (l2a 257 (by omega) (by omega) (by omega)) (z6.trans (fl 261 (by omega))) ?_ (fun j hj => absurd hj (Nat.not_lt_zero j))
    · rw [g1.1 1 (by omega), fc_u_off _ _ _ (by decide), fc_u_off _ _ _ (by decide)]; exact fc_u_at _ _ _ _
    · rw [hsl sc (by omega) (by omega) (by omega) (by omega) (by omega) (by omega)]; exact hC.2.2.2.2.2.1.1
    · rcases h with rfl | rfl
      · rw [z4, fc_u_nj _ _ _ _ (by decide), fc_u_nj _ _ _ _ (by decide), fM 252 (by omega)]
      · rw [z5, fc_u_nj _ _ _ _ (by decide), fc_u_nj _ _ _ _ (by decide), fM 252 (by omega)]
    · rw [z1 k hk, fc_u_off _ _ _ (by decide), fc_u_off _ _ _ (by decide), fM 258 (by omega)]
    · refine ⟨(z2 k hk).1.trans ?_, (z2 k hk).2.trans ?_⟩
      · rw [fc_u_off _ _ _ (show 259 ≠ 252 by decide), fc_u_off _ _ _ (show 259 ≠ 252 by decide), fM 259 (by omega)]
      · rw [fc_u_off _ _ _ (show 260 ≠ 252 by decide), fc_u_off _ _ _ (show 260 ≠ 252 by decide), fM 260 (by omega)]
    · rw [hsl (sc + 1) (by omega) (by omega) (by omega) (by omega) (by omega) (by omega), hsl (sc + 2) (by omega) (by omega) (by omega) (by omega) (by omega) (by omega), hsl (sc + 3) (by omega) (by omega) (by omega) (by omega) (by omega) (by omega)]
      exact (sim_lns hR).off (fun j hj => by rw [hup 265 (by omega)])
    · rw [g2.2]; exact fc_u_at _ _ _ _
  | ok A =>
    rw [hr] at c1
    refine ⟨0, fc_conR c1 ?_⟩
    rintro _ _ l1 r1 ⟨M, hF, rfl, rfl, hI, hRC, rfl⟩
    have hW1 : fc_Wd (fc_u (fc_u mr 0 8 (some b)) 0 7 (some b2)) := (hC.w.w (x0 := 0) (k0 := 8) (by decide) _).w (x0 := 0) (k0 := 7) (by decide) _
    have hB := hI.1
    have fM : ∀ x, 252 ≤ x → (q_ld M b2 sc (A.1 0)) x = mi x := fun x h => by
      unfold q_ld sp_fg
      rw [fc_ur_off _ _ (by omega), fc_u_off _ _ _ (by omega), fc_u_off _ _ _ (by omega), fc_u_off _ _ _ (by omega), sp_bg_row _ _ _ _ _ (by omega), sp_mm_off _ (by have := hB.1; omega), fc_u_off _ _ _ (by omega)]
      exact hF.1 x (by omega) (by omega) (by omega) (by omega) (by omega)
    have fl : ∀ x, 244 ≤ x → l1 x = ml x := fun x h => hF.2.1 x (by omega) (by omega)
    have h2 := c_rland (E := E) (d := 5) (mi := q_ld M b2 sc (A.1 0)) (ml := l1) (n := T) (s := mi 2) hW1 (by rw [fM 252 (by omega)]; exact r4.1) r4.2 (fun j hj => by rw [fM 253 (by omega)]; exact r5 j hj) hC.2.2.2.1.2 (fun w hw => by rw [fl 257 (by omega)]; exact r6 w hw)
    rw [hr] at h2
    refine ⟨rfl, fc_conR h2 ?_⟩
    rintro v2 m2 l2 r2 ⟨rfl, g1, g2, rfl, g3, g4, g5, g6, g7, g8, g9, g10, g11, g12⟩
    refine ⟨rfl, ?_⟩
    obtain ⟨sm', s1, s2, s3⟩ := g4.2.2.1
    exact Sim_land hC hI g4 g5 g6 ⟨s1, s2, s3⟩ hF hRC (fun x h => by rw [g1.1 x h, fc_u_off _ _ _ (by omega), fc_u_off _ _ _ (by omega)]) (fun x h => g1.2 x (by omega)) (fun w hw => by rw [g1.2 257 (by omega), fl 257 (by omega)]; exact r6 w hw) (by rw [g2.2]; exact fc_u_at _ _ _ _) g7 g8 g9 g10 g11 g12
end Ma3
