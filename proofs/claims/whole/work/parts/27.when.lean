/-! ===== a law that is well formed: what it answers doesn't hang on what stood in its row of values ===== -/
section M27
variable {E : fc_E} {d : Nat} {mi : fc_Mi} {ml : fc_Ml} {mr : fc_Mr} {b sc n m t : Nat}
/-- how many values wait behind i signs of it; 99: it is none -/
def sp_hg (code : Nat → Int32) : Nat → Nat
  | 0 => 0
  | i + 1 => if sp_hg code i = 99 then 99 else if code i = -146 then (if sp_hg code i = 0 then 99 else sp_hg code i) else if code i < 0 ∧ -256 < code i then (if sp_hg code i < 2 then 99 else sp_hg code i - 1) else (if sp_hg code i < 64 then sp_hg code i + 1 else 99)
/-- a law of len signs, or none -/
def fc_lwf (code : Nat → Int32) (len : Nat) : Prop := len = 0 ∨ sp_hg code len = 1
theorem sp_hg_back {code : Nat → Int32} : ∀ {i j : Nat}, i ≤ j → sp_hg code j ≠ 99 → sp_hg code i ≠ 99
  | i, 0, h, hj => by rw [show i = 0 by omega]; exact hj
  | i, j + 1, h, hj => by
    by_cases e : i = j + 1
    · rw [e]; exact hj
    · refine sp_hg_back (j := j) (by omega) (fun q => hj ?_)
      rw [sp_hg, if_pos q]
theorem sp_lw_v0 {code : Nat → Int32} {ck pr cr jd : Int32} (v w : Nat → Int32) : ∀ (i : Nat), sp_hg code i ≠ 99 → (sp_lw code ck pr cr jd v i).1 = sp_hg code i ∧ (sp_lw code ck pr cr jd w i).1 = sp_hg code i ∧ ∀ j, j < sp_hg code i → (sp_lw code ck pr cr jd v i).2 j = (sp_lw code ck pr cr jd w i).2 j
  | 0, _ => ⟨rfl, rfl, fun j h => absurd h (Nat.not_lt_zero j)⟩
  | i + 1, h => by
    have h0 : sp_hg code i ≠ 99 := sp_hg_back (Nat.le_succ i) h
    obtain ⟨h1, h2, h3⟩ := sp_lw_v0 (ck := ck) (pr := pr) (cr := cr) (jd := jd) v w i h0
    rcases ev : sp_lw code ck pr cr jd v i with ⟨T, V⟩
    rcases ew : sp_lw code ck pr cr jd w i with ⟨T', W'⟩
    rw [ev] at h1 h3
    rw [ew] at h2 h3
    replace h1 : T = sp_hg code i := h1
    replace h2 : T' = sp_hg code i := h2
    replace h3 : ∀ j, j < sp_hg code i → V j = W' j := h3
    rw [← h1] at h2 h3 h0
    replace h2 := h2.symm
    subst h2
    have hh : sp_hg code (i + 1) = if code i = -146 then (if T = 0 then 99 else T) else if code i < 0 ∧ -256 < code i then (if T < 2 then 99 else T - 1) else (if T < 64 then T + 1 else 99) := by
      rw [sp_hg, ← h1, if_neg h0]
    rw [hh] at h ⊢
    rw [sp_lw, sp_lw, ev, ew]
    unfold sp_st
    by_cases c1 : code i = -146
    · simp only [c1, if_true] at h ⊢
      by_cases c2 : T = 0
      · simp [c2] at h
      · simp only [c2, if_false]
        refine ⟨trivial, trivial, fun j hj => ?_⟩
        unfold upd
        by_cases e : j = T - 1
        · simp only [e, if_true]; simp [h3 (T - 1) (by omega)]
        · simp only [e, if_false]; exact h3 j hj
    · simp only [c1, if_false] at h ⊢
      by_cases c3 : code i < 0 ∧ -256 < code i
      · simp only [c3, and_self, if_true] at h ⊢
        by_cases c4 : T < 2
        · simp [c4] at h
        · simp only [c4, if_false]
          refine ⟨trivial, trivial, fun j hj => ?_⟩
          unfold upd
          by_cases e : j = T - 2
          · simp only [e, if_true]; rw [h3 (T - 2) (by omega), h3 (T - 1) (by omega)]
          · simp only [e, if_false]; exact h3 j (by omega)
      · simp only [c3, if_false] at h ⊢
        by_cases c5 : T < 64
        · simp only [c5, if_true]
          refine ⟨trivial, trivial, fun j hj => ?_⟩
          unfold upd
          by_cases e : j = T
          · simp only [e, if_true]
          · simp only [e, if_false]; exact h3 j (by omega)
        · simp [c5] at h
theorem sp_val_v0 {code : Nat → Int32} {ck pr cr jd : Int32} {len : Nat} (hw : fc_lwf code len) (v w : Nat → Int32) : sp_val (sp_lw code ck pr cr jd v len) = sp_val (sp_lw code ck pr cr jd w len) := by
  rcases hw with rfl | h
  · rfl
  · obtain ⟨h1, h2, h3⟩ := sp_lw_v0 (ck := ck) (pr := pr) (cr := cr) (jd := jd) v w len (by rw [h]; decide)
    unfold sp_val
    rw [h1, h2, h]
    simp only [Nat.one_ne_zero, if_false]
    exact h3 0 (by omega)
/-- whether something binds -/
def sp_bn (n : Nat) (w wk kd code : Nat → Int32) (len : Nat) (pr ck : Int32) (p o : Nat) : Bool := sp_bi (sp_bd n w wk kd code (fun _ => 0) len pr ck p o)
theorem sp_bn_v0 {n : Nat} {w wk kd code : Nat → Int32} {len : Nat} {pr ck : Int32} {p o : Nat} (hw : fc_lwf code len) (v : Nat → Int32) : sp_bi (sp_bd n w wk kd code v len pr ck p o) = sp_bn n w wk kd code len pr ck p o := by
  unfold sp_bn sp_bi sp_bd
  rw [sp_val_v0 hw v (fun _ => 0)]
/-- the law of the land at b -/
def fc_La (mi : fc_Mi) (b len : Nat) : Prop := mi (b + 10) 2 = nI len ∧ len ≤ 1000 ∧ fc_lwf (mi (b + 11)) len
/-- an answer; a row has been used as scratch -/
def fc_isS (x : Nat) (v : Option Value) (mi : fc_Mi) (ml : fc_Ml) (mr : fc_Mr) : fc_Q := fun v' a b c => ∃ r, fc_is v (fc_ur mi x r) ml mr v' a b c
def q_bd (mi : fc_Mi) (b n len : Nat) (x z ck : Int32) : Bool := sp_bn n (mi 18) (mi (b + 7)) (mi (b + 5)) (mi (b + 11)) len (mi (b + 8) x.toNatClampNeg) ck (mi 23 x.toNatClampNeg).toNatClampNeg z.toNatClampNeg
theorem c_would (hH : fc_H mi mr b sc n m t) {len : Nat} (hA : fc_La mi b len) (x z : Int32) : fc_R E mX10_would (d + 4) fc_sh [.ref 0, .int x, .int z] mi ml mr (fc_isS (b + 12) (some (.int (fc_b (q_gift mi b x z && q_bd mi b n len x z (mi 17 1))))) mi ml mr) := by
  obtain ⟨hW, hB, hL, hb, hN, hV, hC, hQ, hsc⟩ := id hH
  obtain ⟨hN1, hN2, hN3, hN4, hN5, hN6⟩ := id hN
  obtain ⟨hA1, hA2, hA3⟩ := id hA
  refine fc_met rfl (Nat.le_of_ble_eq_true rfl) (fc_run oX10_would (fun _ => false) 400 ?_)
  refine And.intro rfl (Exists.intro _ (And.intro (c_isGift hH _ _) ?_))
  rintro _ _ _ _ ⟨rfl, rfl, rfl, rfl⟩
  refine And.intro (fun h6 => ?_) (fun h6 => ?_)
  · replace h6 := fc_b0.mp h6
    refine And.intro (by first | exact Or.inl rfl | exact Or.inr rfl | exact fc_bb _ | assumption) ?_
    refine ⟨mi (b + 12), ?_, (fc_ur_self _ _), rfl, rfl⟩
    simp [fc_b, h6]
  · replace h6 := fc_b1.mp h6
    obtain ⟨hg1, hg2, hg3⟩ : sp_has (mi b 13) x = true ∧ sp_has (mi b 12) z = true ∧ ¬ mi 23 x.toNatClampNeg = z := by
      unfold q_gift at h6
      simpa using h6
    rw [hN5] at hg1
    obtain ⟨k, hk, rfl⟩ := sp_hasN (by omega) hg1
    rw [hN1] at hg2
    obtain ⟨o, ho, rfl⟩ := sp_hasN (by omega) hg2
    obtain ⟨p, hp, hw⟩ := hV.2.1 k hk
    have hc_k := fc_cl (k := 8) (show k < 8 by omega) (by omega)
    have hc_o := fc_cl (k := 8) (show o < 8 by omega) (by omega)
    have hc_p := fc_cl (k := 8) (show p < 8 by omega) (by omega)
    refine And.intro rfl (Exists.intro _ (And.intro (hW 0 3 17 rfl) ?_))
    refine And.intro rfl (Exists.intro _ (And.intro hB ?_))
    refine And.intro rfl (Exists.intro _ (And.intro (hW 0 3 17 rfl) ?_))
    refine And.intro (fc_S_0 (fc_S_at17 hW)) ?_
    refine And.intro (fc_S_0 (fc_S_at17 hW)) (Exists.intro _ (And.intro (c_giftBinds (fc_S_at17 hW) hL hN1 hN2 hA1 hA2 (by omega) hw (by omega) _) ?_))
    rintro _ _ _ _ ⟨rfl, rfl, rfl, rfl⟩
    refine And.intro (fun h29 => ?_) (fun h29 => ?_)
    · replace h29 := fc_b0.mp h29
      refine And.intro (by first | exact Or.inl rfl | exact Or.inr rfl | exact fc_bb _ | assumption) ?_
      refine ⟨_, ?_, rfl, rfl, rfl⟩
      rw [sp_bn_v0 hA3] at h29
      have e : q_bd mi b n len (nI k) (nI o) (mi 17 1) = sp_bn n (mi (17 + 1)) (mi (b + 7)) (mi (b + 5)) (mi (b + 11)) len (mi (b + 8) k) (mi 17 1) p o := by
        unfold q_bd
        rw [hc_k, show mi 23 k = nI p from hw, hc_p, hc_o]
      rw [h6, e, h29]
      rfl
    · replace h29 := fc_b1.mp h29
      refine And.intro (by first | exact Or.inl rfl | exact Or.inr rfl | exact fc_bb _ | assumption) ?_
      refine ⟨_, ?_, rfl, rfl, rfl⟩
      rw [sp_bn_v0 hA3] at h29
      have e : q_bd mi b n len (nI k) (nI o) (mi 17 1) = sp_bn n (mi (17 + 1)) (mi (b + 7)) (mi (b + 5)) (mi (b + 11)) len (mi (b + 8) k) (mi 17 1) p o := by
        unfold q_bd
        rw [hc_k, show mi 23 k = nI p from hw, hc_p, hc_o]
      rw [h6, e, h29]
      rfl

/-- the first minute from i on, j of them, in which it binds -/
def sp_wn (P : Int32 → Bool) : Nat → Nat → Int32
  | 0, _ => -1
  | j + 1, i => if P (nI i) then nI i else sp_wn P j (i + 1)
theorem l_when (hH : fc_H mi mr b sc n m t) {len : Nat} (hA : fc_La mi b len) {k p o : Nat} (hk : k < t) (hw : mi 23 k = nI p) (hp : p < n) (ho : o < n) {s : Nat} (hs : mi b 14 = nI s) (hs2 : s ≤ 60) : ∀ (j i : Nat) (c : Int32) (mm : fc_Mi) (r : Nat → Int32), i + j = s → c = nI i → mm = fc_ur mi (b + 12) r → fc_T E mX10_when (d + 4) (0, 0) fc_sh 19 [some (.ref 0), some (.int (nI k)), some (.int (nI o)), some (.int c)] [] mm ml mr (fc_isS (b + 12) (some (.int (sp_wn (fun ck => sp_bn n (mi 18) (mi (b + 7)) (mi (b + 5)) (mi (b + 11)) len (mi (b + 8) k) ck p o) j i))) mi ml mr) := by
  obtain ⟨hW, hB, hL, hb, hN, hV, hC, hQ, hsc⟩ := id hH
  obtain ⟨hN1, hN2, hN3, hN4, hN5, hN6⟩ := id hN
  obtain ⟨hA1, hA2, hA3⟩ := id hA
  intro j
  induction j with
  | zero =>
    intro i c mm r hi hc hm
    subst hc
    have off : ∀ x, x ≠ b + 12 → mm x = mi x := fun x h => by rw [hm, fc_ur_off _ _ h]
    have hs' : mm b 14 = nI s := by rw [off _ (by omega)]; exact hs
    refine fc_run oX10_when (fun pc => pc == 19) 400 ?_
    refine And.intro rfl (Exists.intro _ (And.intro hB ?_))
    refine And.intro (fc_L_0 hL) ?_
    refine And.intro (fun h27 => ?_) (fun h27 => ?_)
    · exact ⟨r, rfl, hm.symm, rfl, rfl⟩
    · exact absurd (by rw [hs']; exact nI_le (by omega) (by omega)) h27
  | succ j ih =>
    intro i c mm r hi hc hm
    subst hc
    have off : ∀ x, x ≠ b + 12 → mm x = mi x := fun x h => by rw [hm, fc_ur_off _ _ h]
    have hs' : mm b 14 = nI s := by rw [off _ (by omega)]; exact hs
    refine fc_run oX10_when (fun pc => pc == 19) 400 ?_
    refine And.intro rfl (Exists.intro _ (And.intro hB ?_))
    refine And.intro (fc_L_0 hL) ?_
    refine And.intro (fun h27 => ?_) (fun h27 => ?_)
    · exact absurd h27 (by rw [hs']; exact nI_ge (by omega) (by omega))
    · refine And.intro rfl (Exists.intro _ (And.intro (hW 0 3 17 rfl) ?_))
      refine And.intro rfl (Exists.intro _ (And.intro hB ?_))
      refine And.intro (fc_S_0 (fc_S_at17 hW)) (Exists.intro _ (And.intro (c_giftBinds (fc_S_at17 hW) hL (by rw [off _ (by omega)]; exact hN1) hN2 (by rw [off _ (by omega)]; exact hA1) hA2 (show k < 6 by omega) (by rw [off _ (by omega)]; exact hw) (by omega) _) ?_))
      rintro _ _ _ _ ⟨rfl, rfl, rfl, rfl⟩
      refine And.intro (fun h44 => ?_) (fun h44 => ?_)
      · replace h44 := fc_b0.mp h44
        have e : sp_bi (sp_bd n (mm (17 + 1)) (mm (b + 7)) (mm (b + 5)) (mm (b + 11)) (mm (b + 12)) len (mm (b + 8) k) (nI i) p o) = sp_bn n (mi 18) (mi (b + 7)) (mi (b + 5)) (mi (b + 11)) len (mi (b + 8) k) (nI i) p o := by
          rw [off (17 + 1) (by omega), off (b + 7) (by omega), off (b + 5) (by omega), off (b + 11) (by omega), off (b + 8) (by omega)]
          exact sp_bn_v0 hA3 _
        rw [e] at h44
        rw [sp_wn, if_neg (by rw [h44]; decide)]
        exact ih (i + 1) _ _ _ (by omega) (fc_inc i) (by rw [hm, fc_ur_ur])
      · replace h44 := fc_b1.mp h44
        have e : sp_bi (sp_bd n (mm (17 + 1)) (mm (b + 7)) (mm (b + 5)) (mm (b + 11)) (mm (b + 12)) len (mm (b + 8) k) (nI i) p o) = sp_bn n (mi 18) (mi (b + 7)) (mi (b + 5)) (mi (b + 11)) len (mi (b + 8) k) (nI i) p o := by
          rw [off (17 + 1) (by omega), off (b + 7) (by omega), off (b + 5) (by omega), off (b + 11) (by omega), off (b + 8) (by omega)]
          exact sp_bn_v0 hA3 _
        rw [e] at h44
        exact ⟨_, by rw [sp_wn, if_pos h44], by rw [hm, fc_ur_ur], rfl, rfl⟩

theorem c_when (hH : fc_H mi mr b sc n m t) {len : Nat} (hA : fc_La mi b len) {s mn : Nat} (hs : mi b 14 = nI s) (hs2 : s ≤ 60) (hmn : mi 17 1 = nI mn) (hms : mn < s) (x z : Int32) : fc_R E mX10_when (d + 4) fc_sh [.ref 0, .int x, .int z] mi ml mr (fc_isS (b + 12) (some (.int (if q_gift mi b x z then sp_wn (fun ck => q_bd mi b n len x z ck) (s - mn) mn else -1))) mi ml mr) := by
  obtain ⟨hW, hB, hL, hb, hN, hV, hC, hQ, hsc⟩ := id hH
  obtain ⟨hN1, hN2, hN3, hN4, hN5, hN6⟩ := id hN
  obtain ⟨hA1, hA2, hA3⟩ := id hA
  refine fc_met rfl (Nat.le_of_ble_eq_true rfl) (fc_run oX10_when (fun pc => pc == 19) 400 ?_)
  refine And.intro rfl (Exists.intro _ (And.intro (c_isGift hH _ _) ?_))
  rintro _ _ _ _ ⟨rfl, rfl, rfl, rfl⟩
  refine And.intro (fun h6 => ?_) (fun h6 => ?_)
  · replace h6 := fc_b0.mp h6
    exact ⟨mi (b + 12), by rw [h6]; rfl, fc_ur_self _ _, rfl, rfl⟩
  · replace h6 := fc_b1.mp h6
    obtain ⟨hg1, hg2, hg3⟩ : sp_has (mi b 13) x = true ∧ sp_has (mi b 12) z = true ∧ ¬ mi 23 x.toNatClampNeg = z := by
      unfold q_gift at h6
      simpa using h6
    rw [hN5] at hg1
    obtain ⟨k, hk, rfl⟩ := sp_hasN (by omega) hg1
    rw [hN1] at hg2
    obtain ⟨o, ho, rfl⟩ := sp_hasN (by omega) hg2
    obtain ⟨p, hp, hw⟩ := hV.2.1 k hk
    have hc_k := fc_cl (k := 8) (show k < 8 by omega) (by omega)
    have hc_o := fc_cl (k := 8) (show o < 8 by omega) (by omega)
    have hc_p := fc_cl (k := 8) (show p < 8 by omega) (by omega)
    refine And.intro rfl (Exists.intro _ (And.intro (hW 0 3 17 rfl) ?_))
    refine And.intro (fc_S_0 (fc_S_at17 hW)) ?_
    rw [if_pos h6]
    have := l_when (E := E) (d := d) (ml := ml) hH hA hk hw hp ho hs hs2 (s - mn) mn _ mi (mi (b + 12)) (by omega) rfl (fc_ur_self _ _).symm
    rw [← hmn] at this
    have e : (fun ck => q_bd mi b n len (nI k) (nI o) ck) = (fun ck => sp_bn n (mi 18) (mi (b + 7)) (mi (b + 5)) (mi (b + 11)) len (mi (b + 8) k) ck p o) := by
      funext ck
      unfold q_bd
      rw [hc_k, show mi 23 k = nI p from hw, hc_p, hc_o]
    rw [e]
    exact this

end M27
