/-! ===== see and mark in both ===== -/
theorem nar_01 {x : Int32} (h : x = 0 ∨ x = 1) : vp_nar .boolean x = x := by rcases h with rfl | rfl <;> decide
theorem if_b {x : Int32} (h : x = 0 ∨ x = 1) : (if x = 0 then (0 : Int32) else 1) = x := by rcases h with rfl | rfl <;> decide
section Ma1
variable {E : fc_E} {mi mi' : fc_Mi} {ml ml' : fc_Ml} {mr mr' : fc_Mr} {b b2 sc sc2 n m t sm np len sl kp k q T : Nat}
theorem b_see (hC : SimC mi ml mr b b2 sc sc2 n m t sm np len sl kp k q T) (hR : SimR mi ml n m t sm np (cl mi b) (cv mi 17) (cw mi b len) (sA ml b m n t) T (mi 2) k (fun x => mi (sc + x)) q (fun x => mi (214 + x)) kp (fun u => cv mi (psl sl kp u)) (mi 37) (fun j => cv mi (166 + 12 * j)) (fun j x => mi (174 + 12 * j + x))) (x mn : Int32) {cn : Int32} (hcn : cn = 0 ∨ cn = 1) : Both E mX10_see mX11_see [.int x, .int mn, .int cn] mi ml mr := by
  obtain ⟨e1, e2, e3, e4, l5, l7, l6⟩ := hC.e
  have hb : 218 ≤ b ∧ b ≤ 231 := by rcases hC.2.1.2.2.1 with ⟨e, _⟩ | ⟨e, _⟩ <;> omega
  obtain ⟨s1, s2, s3, s4⟩ := id hC.2.2.2.2.2.2.1
  obtain ⟨p3, p4, p5, p6⟩ := id hC.2.2.2.2.2.2.2.1.1
  have c1 := c_see (E := E) (d := 39) (ml := ml) hC.1 s1 s2 x mn cn
  rw [e2] at c1
  have hk3 : mi 268 39 = nI q := hR.2.2.2.2.2.2.1.1
  cases hw : (sp_has (nI m) x && (sp_from 0 mn 99 && !decide (q = 8))) with
  | false =>
    rw [hw, if_neg (by decide)] at c1
    have c2 := c_rsee (E := E) (d := 38) (ml := ml) hC.w hR.1 hk3 s2 x mn cn
    rw [hw, if_neg (by decide)] at c2
    exact both_q hC hR rfl c1 c2
  | true =>
    rw [hw, if_pos rfl] at c1
    rw [Bool.and_eq_true, Bool.and_eq_true] at hw
    obtain ⟨y, hy, ey⟩ := sp_hasN (by omega) hw.1
    have hq8 : ¬ q = 8 := by
      have := hw.2.2
      intro e
      rw [decide_eq_true e] at this
      cases this
    refine ⟨1, fc_conR c1 ?_⟩
    rintro _ _ _ _ ⟨rfl, rfl, rfl, rfl⟩
    have ho : ∀ x', x' ≠ 214 → x' ≠ 215 → x' ≠ 216 → x' ≠ 217 → sp_ad mi q x mn cn x' = mi x' := fun x' h1 h2 h3 h4 => by
      unfold sp_ad
      rw [fc_u_off _ _ _ h1, fc_u_off _ _ _ h4, fc_u_off _ _ _ h3, fc_u_off _ _ _ h2]
    have hm : ∀ x', 252 ≤ x' → sp_ad mi q x mn cn x' = mi x' := fun x' h => ho x' (by omega) (by omega) (by omega) (by omega)
    have hFr : FrR mi (sp_ad mi q x mn cn) := ⟨fun k _ => by rw [hm 252 (by omega)], fun x' q => hm x' (by omega), fun j _ => by rw [hm 268 (by omega)]⟩
    have hR1 := hR.off p6 s2 hFr (ml' := ml) rfl rfl
    have c2 := c_rsee (E := E) (d := 38) (ml := ml) hC.w hR1.1 hR1.2.2.2.2.2.2.1.1 s2 x mn cn
    rw [if_pos (by rw [Bool.and_eq_true, Bool.and_eq_true]; exact hw), if_b hcn] at c2
    refine ⟨rfl, fc_conR c2 ?_⟩
    rintro _ _ _ _ ⟨rfl, rfl, rfl, rfl⟩
    refine ⟨rfl, ?_⟩
    generalize hm2 : fc_u (fc_u (fc_u (fc_u (fc_u (sp_ad mi q x mn cn) 252 0 0) 268 (40 + 3 * q) x) 268 (40 + 3 * q + 1) mn) 268 (40 + 3 * q + 2) cn) 268 39 (nI (q + 1)) = m2
    have hlow : ∀ x', x' ≠ 252 → x' ≠ 268 → m2 x' = sp_ad mi q x mn cn x' := fun x' h1 h2 => by rw [← hm2, fc_u_off _ _ _ h2, fc_u_off _ _ _ h2, fc_u_off _ _ _ h2, fc_u_off _ _ _ h2, fc_u_off _ _ _ h1]
    have hfar : ∀ x', x' ≠ 214 → x' ≠ 215 → x' ≠ 216 → x' ≠ 217 → x' ≠ 252 → x' ≠ 268 → m2 x' = mi x' := fun x' h1 h2 h3 h4 h5 h6 => (hlow x' h5 h6).trans (ho x' h1 h2 h3 h4)
    have h268 : ∀ j, j ≠ 39 → j ≠ 40 + 3 * q → j ≠ 40 + 3 * q + 1 → j ≠ 40 + 3 * q + 2 → m2 268 j = mi 268 j := fun j h1 h2 h3 h4 => by
      rw [← hm2, fc_u_nj _ _ _ _ h1, fc_u_nj _ _ _ _ h4, fc_u_nj _ _ _ _ h3, fc_u_nj _ _ _ _ h2, fc_u_off _ _ _ (by decide), hm 268 (by omega)]
    have ecv : cv m2 17 = cv mi 17 := cv_off (fun x' h1 h2 => hfar x' (by omega) (by omega) (by omega) (by omega) (by omega) (by omega))
    have r215 : ∀ i, m2 215 i = if i = q then x else mi 215 i := fun i => by
      rw [hlow 215 (by decide) (by decide)]; unfold sp_ad
      rw [fc_u_off _ _ _ (by decide), fc_u_off _ _ _ (by decide), fc_u_off _ _ _ (by decide), fc_u_row]
    have r216 : ∀ i, m2 216 i = if i = q then mn else mi 216 i := fun i => by
      rw [hlow 216 (by decide) (by decide)]; unfold sp_ad
      rw [fc_u_off _ _ _ (by decide), fc_u_off _ _ _ (by decide), fc_u_row]
      rfl
    have r217 : ∀ i, m2 217 i = if i = q then cn else mi 217 i := fun i => by
      rw [hlow 217 (by decide) (by decide)]; unfold sp_ad
      rw [fc_u_off _ _ _ (by decide), fc_u_row, nar_01 hcn]
      rfl
    have r214 : m2 214 3 = nI (q + 1) := by rw [hlow 214 (by decide) (by decide)]; exact fc_u_at _ _ _ _
    refine Sim_gen (sl' := sl) (kp' := kp) (q' := q + 1) hC hR (fun x' h1 h2 h3 => hfar x' (by omega) (by omega) (by omega) (by omega) (by omega) (by omega)) (by rw [ecv]; exact hC.2.2.1.1.2.2) (by rw [ecv]; exact hC.2.2.1.2.2.2.2.2) ⟨r214, by omega, fun i hi => ?_, fun i hi => ?_⟩ ⟨?_, fun u hu => ?_⟩ (mkC.off hC.2.2.2.2.2.2.2.2 (fun x' h => hfar x' (by omega) (by omega) (by omega) (by omega) (by omega) (by omega))) ?_ (fun x' h => hfar x' (by omega) (by omega) (by omega) (by omega) (by omega) (by omega)) (fun j h => ?_) ⟨?_, fun s hs => ?_⟩ ⟨?_, fun u hu => ?_⟩ (mkR.off l5 l6 hR.2.2.2.2.2.2.2.2 (fun x' h => hfar x' (by omega) (by omega) (by omega) (by omega) (by omega) (by omega)) (fun j h1 h2 => h268 j (by omega) (by omega) (by omega) (by omega)))
    · rw [r215 i]
      by_cases e : i = q
      · rw [if_pos e]; exact ⟨y, hy, ey⟩
      · rw [if_neg e]; exact s3 i (by omega)
    · rw [r217 i]
      by_cases e : i = q
      · rw [if_pos e]; exact hcn
      · rw [if_neg e]; exact s4 i (by omega)
    · unfold fc_Pa
      rw [hfar 33 (by decide) (by decide) (by decide) (by decide) (by decide) (by decide)]; exact ⟨p3, p4, p5, p6⟩
    · have := psl_lt sl kp u
      rw [cv_off (f := m2) (g := mi) (fun x' h1 h2 => hfar x' (by omega) (by omega) (by omega) (by omega) (by omega) (by omega))]
      exact hC.2.2.2.2.2.2.2.1.2 u hu
    · rw [ecv]
      exact ag_rows l5 l6 hR.1.2.2.2.2.2 (fun j h1 h2 => h268 j (by omega) (by omega) (by omega) (by omega))
    · rw [← hm2, fc_u_off _ _ _ (by decide), fc_u_off _ _ _ (by decide), fc_u_off _ _ _ (by decide), fc_u_off _ _ _ (by decide), fc_u_nj _ _ _ _ (by omega), hm 252 (by omega)]
    · rw [← hm2]; exact fc_u_at _ _ _ _
    · dsimp only
      rw [show 214 + 1 = 215 from rfl, show 214 + 2 = 216 from rfl, show 214 + 3 = 217 from rfl, r215 s, r216 s, r217 s]
      by_cases e : s = q
      · rw [e, if_pos rfl, if_pos rfl, if_pos rfl, ← hm2]
        refine ⟨?_, ?_, ?_⟩
        · rw [fc_u_nj _ _ _ _ (by omega), fc_u_nj _ _ _ _ (by omega), fc_u_nj _ _ _ _ (by omega), show 0 + 40 + 3 * q = 40 + 3 * q by omega]; exact fc_u_at _ _ _ _
        · rw [fc_u_nj _ _ _ _ (by omega), fc_u_nj _ _ _ _ (by omega), show 0 + 40 + 3 * q + 1 = 40 + 3 * q + 1 by omega]; exact fc_u_at _ _ _ _
        · rw [fc_u_nj _ _ _ _ (by omega), show 0 + 40 + 3 * q + 2 = 40 + 3 * q + 2 by omega]; exact fc_u_at _ _ _ _
      · rw [if_neg e, if_neg e, if_neg e, h268 _ (by omega) (by omega) (by omega) (by omega), h268 _ (by omega) (by omega) (by omega) (by omega), h268 _ (by omega) (by omega) (by omega) (by omega)]
        exact hR.2.2.2.2.2.2.1.2 s (by omega)
    · rw [← hm2, fc_u_off _ _ _ (by decide), fc_u_off _ _ _ (by decide), fc_u_off _ _ _ (by decide), fc_u_off _ _ _ (by decide), fc_u_nj _ _ _ _ (by omega), hm 252 (by omega)]
      exact hR.2.2.2.2.2.2.2.1.1
    · have := psl_lt sl kp u
      rw [cv_off (f := m2) (g := mi) (fun x' h1 h2 => hfar x' (by omega) (by omega) (by omega) (by omega) (by omega) (by omega))]
      exact ag_rows l5 l6 (hR.2.2.2.2.2.2.2.1.2 u hu) (fun j h1 h2 => h268 j (by omega) (by omega) (by omega) (by omega))
/-! marks -/
theorem sc_3 (z y : Nat) : sp_sc mi z y 8 z 3 = mi y 3 := by
  unfold sp_sc
  rw [fc_ur_off _ _ (by omega), fc_ur_off _ _ (by omega), fc_ur_off _ _ (by omega)]; exact fc_u_at _ _ _ _
theorem sc_1 (z y : Nat) {i : Nat} (hi : i < 8) : sp_sc mi z y 8 (z + 1) i = mi (y + 1) i := by
  unfold sp_sc
  rw [fc_ur_off _ _ (by omega), fc_ur_off _ _ (by omega), fc_ur_row]; exact if_pos hi
theorem sc_2 (z y : Nat) {i : Nat} (hi : i < 8) : sp_sc mi z y 8 (z + 2) i = mi (y + 2) i := by
  unfold sp_sc
  rw [fc_ur_off _ _ (by omega), fc_ur_row]; exact if_pos hi
theorem sc_4 (z y : Nat) {i : Nat} (hi : i < 8) (h : mi (y + 3) i = 0 ∨ mi (y + 3) i = 1) : sp_sc mi z y 8 (z + 3) i = mi (y + 3) i := by
  unfold sp_sc
  rw [fc_ur_row]
  exact (if_pos hi).trans (nar_01 h)
theorem cpr64 {r : Nat → Int32} {B C i : Nat} (hi : i < 64) : cpr r B C 64 (C + i) = r (B + i) := by
  rw [cpr, if_pos (by omega)]; exact congrArg r (by omega)
theorem cpr64_ag {r : Nat → Int32} {B C : Nat} {σ : fc_Mi} (hn : n ≤ 5) (ht : t ≤ 6) (h : as_ag n t σ (rv r B)) : as_ag n t σ (rv (cpr r B C 64) C) := by
  refine h.tr ⟨⟨(cpr64 (by omega)).symm, (cpr64 (by omega)).symm⟩, fun p hp => ⟨?_, ?_, ?_, ?_, ?_⟩, fun q hq => ⟨?_, ?_⟩⟩
  · have := cpr64 (r := r) (B := B) (C := C) (i := 2 + p) (by omega); rw [← Nat.add_assoc, ← Nat.add_assoc] at this; exact this.symm
  · have := cpr64 (r := r) (B := B) (C := C) (i := 7 + p) (by omega); rw [← Nat.add_assoc, ← Nat.add_assoc] at this; exact this.symm
  · have := cpr64 (r := r) (B := B) (C := C) (i := 34 + p) (by omega); rw [← Nat.add_assoc, ← Nat.add_assoc] at this; exact this.symm
  · have := cpr64 (r := r) (B := B) (C := C) (i := 24 + p) (by omega); rw [← Nat.add_assoc, ← Nat.add_assoc] at this; exact this.symm
  · have := cpr64 (r := r) (B := B) (C := C) (i := 29 + p) (by omega); rw [← Nat.add_assoc, ← Nat.add_assoc] at this; exact this.symm
  · have := cpr64 (r := r) (B := B) (C := C) (i := 12 + q) (by omega); rw [← Nat.add_assoc, ← Nat.add_assoc] at this; exact this.symm
  · have := cpr64 (r := r) (B := B) (C := C) (i := 18 + q) (by omega); rw [← Nat.add_assoc, ← Nat.add_assoc] at this; exact this.symm
theorem cpr64_s {B C q : Nat} {P : fc_Mi} (hq : q ≤ 8) (h : rsB mi q P B) (h2 : mi' 268 = cpr (mi 268) B C 64) : rsB mi' q P C := by
  refine ⟨?_, fun s hs => ?_⟩
  · rw [h2, cpr64 (by omega)]; exact h.1
  · rw [h2, show C + 40 + 3 * s = C + (40 + 3 * s) by omega, show C + (40 + 3 * s) + 1 = C + (40 + 3 * s + 1) by omega, show C + (40 + 3 * s) + 2 = C + (40 + 3 * s + 2) by omega, cpr64 (by omega), cpr64 (by omega), cpr64 (by omega)]
    have := h.2 s hs
    rw [show B + 40 + 3 * s = B + (40 + 3 * s) by omega, show B + (40 + 3 * s) + 1 = B + (40 + 3 * s + 1) by omega, show B + (40 + 3 * s) + 2 = B + (40 + 3 * s + 2) by omega] at this
    exact this
theorem b_lay (hC : SimC mi ml mr b b2 sc sc2 n m t sm np len sl kp k q T) (hR : SimR mi ml n m t sm np (cl mi b) (cv mi 17) (cw mi b len) (sA ml b m n t) T (mi 2) k (fun x => mi (sc + x)) q (fun x => mi (214 + x)) kp (fun u => cv mi (psl sl kp u)) (mi 37) (fun j => cv mi (166 + 12 * j)) (fun j x => mi (174 + 12 * j + x))) {j : Nat} (hj : j < 4) {m2 : fc_Mi} (hm2 : fc_ur (fc_u (fc_u (sp_ly mi j) 252 0 0) 269 j 1) 268 (cpr (mi 268) 0 (64 * (1 + j)) 64) = m2) : Sim m2 ml mr := by
  obtain ⟨e1, e2, e3, e4, l5, l7, l6⟩ := hC.e
  have hb : 218 ≤ b ∧ b ≤ 231 := by rcases hC.2.1.2.2.1 with ⟨e, _⟩ | ⟨e, _⟩ <;> omega
  obtain ⟨s1, s2, s3, s4⟩ := id hC.2.2.2.2.2.2.1
  obtain ⟨p3, p4, p5, p6⟩ := id hC.2.2.2.2.2.2.2.1.1
  have hfar : ∀ x, x ≠ 37 → (x < 166 + 12 * j ∨ 178 + 12 * j ≤ x) → x ≠ 252 → x ≠ 268 → x ≠ 269 → m2 x = mi x := fun x h1 h2 h3 h4 h5 => by
    rw [← hm2, fc_ur_off _ _ h4, fc_u_off _ _ _ h5, fc_u_off _ _ _ h3]
    unfold sp_ly
    rw [fc_u_off _ _ _ h1, sp_sc_off _ _ _ _ (by omega), cp_off (by omega)]
  have h268 : m2 268 = cpr (mi 268) 0 (64 * (1 + j)) 64 := by rw [← hm2, fc_ur_row]
  have h268o : ∀ i, (i < 64 * (1 + j) ∨ 64 * (1 + j) + 64 ≤ i) → m2 268 i = mi 268 i := fun i h => by rw [h268, cpr, if_neg (by omega)]
  have ecv : cv m2 17 = cv mi 17 := cv_off (fun x h1 h2 => hfar x (by omega) (by omega) (by omega) (by omega) (by omega))
  have emk : cv m2 (166 + 12 * j) = cv (sp_cp mi (166 + 12 * j) 17) (166 + 12 * j) := cv_off (fun x h1 h2 => by
    rw [← hm2, fc_ur_off _ _ (by omega), fc_u_off _ _ _ (by omega), fc_u_off _ _ _ (by omega)]
    unfold sp_ly
    rw [fc_u_off _ _ _ (by omega), sp_sc_off _ _ _ _ (by omega)])
  have esc : ∀ x, 174 + 12 * j ≤ x → x < 178 + 12 * j → m2 x = sp_sc (sp_cp mi (166 + 12 * j) 17) (174 + 12 * j) 214 8 x := fun x h1 h2 => by
    rw [← hm2, fc_ur_off _ _ (by omega), fc_u_off _ _ _ (by omega), fc_u_off _ _ _ (by omega)]
    unfold sp_ly
    rw [fc_u_off _ _ _ (by omega)]
  have c214 : ∀ x, 214 ≤ x → sp_cp mi (166 + 12 * j) 17 x = mi x := fun x h => cp_off (by omega)
  have z3 : m2 (174 + 12 * j) 3 = nI q := by rw [esc _ (by omega) (by omega), sc_3, c214 214 (by omega)]; exact s1
  have z1 : ∀ i, i < 8 → m2 (174 + 12 * j + 1) i = mi 215 i := fun i hi => by rw [esc _ (by omega) (by omega), sc_1 _ _ hi, c214 _ (by omega)]
  have z2 : ∀ i, i < 8 → m2 (174 + 12 * j + 2) i = mi 216 i := fun i hi => by rw [esc _ (by omega) (by omega), sc_2 _ _ hi, c214 _ (by omega)]
  have z4 : ∀ i, i < q → m2 (174 + 12 * j + 3) i = mi 217 i := fun i hi => by
    rw [esc _ (by omega) (by omega), sc_4 _ _ (by omega) (by rw [c214 _ (by omega)]; exact s4 i hi), c214 _ (by omega)]
  have e37 : ∀ i, m2 37 i = if i = j then 1 else mi 37 i := fun i => by
    rw [← hm2, fc_ur_off _ _ (by decide), fc_u_off _ _ _ (by decide), fc_u_off _ _ _ (by decide)]
    unfold sp_ly
    rw [fc_u_row, sp_sc_off _ _ _ _ (by omega), cp_off (by omega)]
  have e269 : ∀ i, m2 269 i = if i = j then 1 else mi 269 i := fun i => by
    rw [← hm2, fc_ur_off _ _ (by decide), fc_u_row, fc_u_off _ _ _ (by decide)]
    unfold sp_ly
    rw [fc_u_off _ _ _ (by decide), sp_sc_off _ _ _ _ (by omega), cp_off (by omega)]
  refine Sim_gen (sl' := sl) (kp' := kp) (q' := q) hC hR (fun x h1 h2 h3 => hfar x (by omega) (by omega) (by omega) (by omega) (by omega)) (by rw [ecv]; exact hC.2.2.1.1.2.2) (by rw [ecv]; exact hC.2.2.1.2.2.2.2.2) (Se.off hC.2.2.2.2.2.2.1 (fun x h => hfar x (by omega) (by omega) (by omega) (by omega) (by omega))) ⟨?_, fun u hu => ?_⟩ (fun i hi => ?_) ?_ (fun x h => hfar x (by omega) (by omega) (by omega) (by omega) (by omega)) (fun i h => ?_) (rS.off s2 hR.2.2.2.2.2.2.1 (fun x h => hfar x (by omega) (by omega) (by omega) (by omega) (by omega)) (fun i h1 h2 => h268o i (by omega))) ⟨?_, fun u hu => ?_⟩ (fun i hi => ?_)
  · unfold fc_Pa
    rw [hfar 33 (by decide) (by omega) (by decide) (by decide) (by decide)]; exact ⟨p3, p4, p5, p6⟩
  · have := psl_lt sl kp u
    have e : cv m2 (psl sl kp u) = cv mi (psl sl kp u) := by
      refine cv_off (fun x h1 h2 => ?_)
      by_cases ex : x = 37
      · omega
      · exact hfar x ex (by omega) (by omega) (by omega) (by omega)
    rw [e]
    exact hC.2.2.2.2.2.2.2.1.2 u hu
  · rw [e37 i]
    by_cases e : i = j
    · subst e
      rw [if_pos rfl]
      refine ⟨.inr rfl, fun _ => ⟨?_, ?_, q, z3, s2, fun i' hi' => ?_, fun i' hi' => ?_⟩⟩
      · rw [emk]; exact hC.2.2.1.1.2.2.ag (as_ag.sy (sp_cp_cv l5 l6))
      · rw [emk]; exact cp_zr hC.2.2.1.2.2.2.2.2
      · rw [z1 i' (by omega)]; exact s3 i' hi'
      · rw [z4 i' hi']; exact s4 i' hi'
    · rw [if_neg e, cv_off (f := m2) (g := mi) (a := 166 + 12 * i) (fun x h1 h2 => hfar x (by omega) (by omega) (by omega) (by omega) (by omega))]
      unfold SeB
      rw [hfar (174 + 12 * i) (by omega) (by omega) (by omega) (by omega) (by omega), hfar (174 + 12 * i + 1) (by omega) (by omega) (by omega) (by omega) (by omega), hfar (174 + 12 * i + 3) (by omega) (by omega) (by omega) (by omega) (by omega)]
      exact hC.2.2.2.2.2.2.2.2 i hi
  · rw [ecv]; exact ag_rows l5 l6 hR.1.2.2.2.2.2 (fun i h1 h2 => h268o i (by omega))
  · rw [← hm2, fc_ur_off _ _ (by decide), fc_u_off _ _ _ (by decide), fc_u_nj _ _ _ _ (by omega)]
    unfold sp_ly
    rw [fc_u_off _ _ _ (by decide), sp_sc_off _ _ _ _ (by omega), cp_off (by omega)]
  · rw [← hm2, fc_ur_off _ _ (by decide), fc_u_off _ _ _ (by decide), fc_u_nj _ _ _ _ (by omega)]
    unfold sp_ly
    rw [fc_u_off _ _ _ (by decide), sp_sc_off _ _ _ _ (by omega), cp_off (by omega)]
    exact hR.2.2.2.2.2.2.2.1.1
  · have := psl_lt sl kp u
    have e : cv m2 (psl sl kp u) = cv mi (psl sl kp u) := cv_off (fun x h1 h2 => hfar x (by omega) (by omega) (by omega) (by omega) (by omega))
    rw [e]
    exact ag_rows l5 l6 (hR.2.2.2.2.2.2.2.1.2 u hu) (fun i h1 h2 => h268o i (by omega))
  · rw [e37 i, e269 i]
    by_cases e : i = j
    · subst e
      rw [if_pos rfl, if_pos rfl]
      refine ⟨rfl, fun _ => ⟨?_, q, s2, z3, ?_⟩⟩
      · rw [emk, h268]
        exact (sp_cp_cv l5 l6).tr (cpr64_ag l5 l6 hR.1.2.2.2.2.2)
      · have hrs := cpr64_s (mi' := m2) s2 hR.2.2.2.2.2.2.1 h268
        refine ⟨hrs.1, fun s hs => ?_⟩
        dsimp only
        rw [z1 s (by omega), z2 s (by omega), z4 s hs]
        exact hrs.2 s hs
    · rw [if_neg e, if_neg e]
      obtain ⟨h1, h2⟩ := hR.2.2.2.2.2.2.2.2 i hi
      refine ⟨h1, fun e1 => ?_⟩
      obtain ⟨k1, q', k2, k3, k4⟩ := h2 e1
      refine ⟨?_, q', k2, ?_, (h268o _ (by omega)).trans k4.1, fun s hs => ?_⟩
      · rw [cv_off (f := m2) (g := mi) (a := 166 + 12 * i) (fun x h1 h2 => hfar x (by omega) (by omega) (by omega) (by omega) (by omega))]
        exact ag_rows l5 l6 k1 (fun i' h1 h2 => h268o i' (by omega))
      · rw [hfar (174 + 12 * i + 0) (by omega) (by omega) (by omega) (by omega) (by omega)]; exact k3
      · dsimp only
        rw [h268o _ (by omega), h268o _ (by omega), h268o _ (by omega), hfar (174 + 12 * i + 1) (by omega) (by omega) (by omega) (by omega) (by omega), hfar (174 + 12 * i + 2) (by omega) (by omega) (by omega) (by omega) (by omega), hfar (174 + 12 * i + 3) (by omega) (by omega) (by omega) (by omega) (by omega)]
        exact k4.2 s hs
theorem b_gb (hC : SimC mi ml mr b b2 sc sc2 n m t sm np len sl kp k q T) (hR : SimR mi ml n m t sm np (cl mi b) (cv mi 17) (cw mi b len) (sA ml b m n t) T (mi 2) k (fun x => mi (sc + x)) q (fun x => mi (214 + x)) kp (fun u => cv mi (psl sl kp u)) (mi 37) (fun j => cv mi (166 + 12 * j)) (fun j x => mi (174 + 12 * j + x))) {j : Nat} (hj : j < 4) (hmk : mi 37 j = 1) {m2 : fc_Mi} (hm2 : fc_u (fc_ur (fc_u (fc_u (sp_gb mi j) 252 0 0) 269 j 1) 268 (cpr (mi 268) (64 * (1 + j)) 0 64)) 252 25 0 = m2) : Sim m2 ml mr := by
  obtain ⟨e1, e2, e3, e4, l5, l7, l6⟩ := hC.e
  have hb : 218 ≤ b ∧ b ≤ 231 := by rcases hC.2.1.2.2.1 with ⟨e, _⟩ | ⟨e, _⟩ <;> omega
  obtain ⟨p3, p4, p5, p6⟩ := id hC.2.2.2.2.2.2.2.1.1
  obtain ⟨o1, o2, q', s1, s2, s3, s4⟩ := (hC.2.2.2.2.2.2.2.2 j hj).2 hmk
  obtain ⟨k1, q'', k2, k3, k4⟩ := (hR.2.2.2.2.2.2.2.2 j hj).2 hmk
  have eq : q'' = q' := nIn (by omega) (by omega) (k3.symm.trans s1)
  subst eq
  have hfar : ∀ x, (x < 17 ∨ 25 ≤ x) → x ≠ 33 → (x < 214 ∨ 218 ≤ x) → x ≠ 252 → x ≠ 268 → x ≠ 269 → m2 x = mi x := fun x h1 h2 h3 h4 h5 h6 => by
    rw [← hm2, fc_u_off _ _ _ h4, fc_ur_off _ _ h5, fc_u_off _ _ _ h6, fc_u_off _ _ _ h4]
    unfold sp_gb
    rw [fc_u_off _ _ _ h2, sp_sc_off _ _ _ _ (by omega), cp_off (by omega)]
  have h268 : m2 268 = cpr (mi 268) (64 * (1 + j)) 0 64 := by rw [← hm2, fc_u_off _ _ _ (by decide), fc_ur_row]
  have h268o : ∀ i, 64 ≤ i → m2 268 i = mi 268 i := fun i h => by rw [h268, cpr, if_neg (by omega)]
  have est : cv m2 17 = cv (sp_cp mi 17 (166 + 12 * j)) 17 := cv_off (fun x h1 h2 => by
    rw [← hm2, fc_u_off _ _ _ (by omega), fc_ur_off _ _ (by omega), fc_u_off _ _ _ (by omega), fc_u_off _ _ _ (by omega)]
    unfold sp_gb
    rw [fc_u_off _ _ _ (by omega), sp_sc_off _ _ _ _ (by omega)])
  have hcp : as_ag n t (cv (sp_cp mi 17 (166 + 12 * j)) 17) (cv mi (166 + 12 * j)) := sp_cp_cv l5 l6
  have esc : ∀ x, 214 ≤ x → x < 218 → m2 x = sp_sc (sp_cp mi 17 (166 + 12 * j)) 214 (174 + 12 * j) 8 x := fun x h1 h2 => by
    rw [← hm2, fc_u_off _ _ _ (by omega), fc_ur_off _ _ (by omega), fc_u_off _ _ _ (by omega), fc_u_off _ _ _ (by omega)]
    unfold sp_gb
    rw [fc_u_off _ _ _ (by omega)]
  have c214 : ∀ x, 25 ≤ x → sp_cp mi 17 (166 + 12 * j) x = mi x := fun x h => cp_off (by omega)
  have z3 : m2 214 3 = nI q'' := by rw [esc _ (by omega) (by omega), sc_3, c214 _ (by omega)]; exact s1
  have z1 : ∀ i, i < 8 → m2 215 i = mi (174 + 12 * j + 1) i := fun i hi => by rw [esc _ (by omega) (by omega), show 215 = 214 + 1 from rfl, sc_1 _ _ hi, c214 _ (by omega)]
  have z2 : ∀ i, i < 8 → m2 216 i = mi (174 + 12 * j + 2) i := fun i hi => by rw [esc _ (by omega) (by omega), show 216 = 214 + 2 from rfl, sc_2 _ _ hi, c214 _ (by omega)]
  have z4 : ∀ i, i < q'' → m2 217 i = mi (174 + 12 * j + 3) i := fun i hi => by
    rw [esc _ (by omega) (by omega), show 217 = 214 + 3 from rfl, sc_4 _ _ (by omega) (by rw [c214 _ (by omega)]; exact s4 i hi), c214 _ (by omega)]
  have e269 : m2 269 = mi 269 := by
    funext i
    rw [← hm2, fc_u_off _ _ _ (by decide), fc_ur_off _ _ (by decide), fc_u_row, fc_u_off _ _ _ (by decide)]
    unfold sp_gb
    rw [fc_u_off _ _ _ (by decide), sp_sc_off _ _ _ _ (by omega), cp_off (by omega)]
    dsimp only
    by_cases e : i = j
    · rw [if_pos e, e, (hR.2.2.2.2.2.2.2.2 j hj).1, hmk]
    · rw [if_neg e]
  refine Sim_gen (sl' := sl) (kp' := 0) (q' := q'') hC hR (fun x h1 h2 h3 => hfar x (by omega) (by omega) (by omega) (by omega) (by omega) (by omega)) (by rw [est]; exact o1.ag hcp.sy) (by rw [est]; exact cp_zr o2) ⟨z3, s2, fun i hi => ?_, fun i hi => ?_⟩ ⟨⟨?_, p4, ?_, by omega⟩, fun u hu => absurd hu (Nat.not_lt_zero u)⟩ (mkC.off hC.2.2.2.2.2.2.2.2 (fun x h => hfar x (by omega) (by omega) (by omega) (by omega) (by omega) (by omega))) ?_ (fun x h => hfar x (by omega) (by omega) (by omega) (by omega) (by omega) (by omega)) (fun i h => ?_) ?_ ⟨?_, fun u hu => absurd hu (Nat.not_lt_zero u)⟩ (mkR.off l5 l6 hR.2.2.2.2.2.2.2.2 (fun x h => ?_) (fun i h1 h2 => h268o i (by omega)))
  · rw [z1 i (by omega)]; exact s3 i hi
  · rw [z4 i hi]; exact s4 i hi
  · rw [← hm2, fc_u_off _ _ _ (by decide), fc_ur_off _ _ (by decide), fc_u_off _ _ _ (by decide), fc_u_off _ _ _ (by decide)]
    unfold sp_gb
    rw [fc_u_nj _ _ _ _ (by decide), sp_sc_off _ _ _ _ (by omega), cp_off (by omega)]; exact p3
  · rw [← hm2, fc_u_off _ _ _ (by decide), fc_ur_off _ _ (by decide), fc_u_off _ _ _ (by decide), fc_u_off _ _ _ (by decide)]
    exact fc_u_at _ _ _ _
  · rw [est, h268]
    exact hcp.tr (cpr64_ag l5 l6 k1)
  · rw [← hm2, fc_u_nj _ _ _ _ (by omega), fc_ur_off _ _ (by decide), fc_u_off _ _ _ (by decide), fc_u_nj _ _ _ _ (by omega)]
    unfold sp_gb
    rw [fc_u_off _ _ _ (by decide), sp_sc_off _ _ _ _ (by omega), cp_off (by omega)]
  · have hrs := cpr64_s (mi' := m2) k2 k4 h268
    refine ⟨hrs.1, fun s hs => ?_⟩
    dsimp only
    rw [show 214 + 1 = 215 from rfl, show 214 + 2 = 216 from rfl, show 214 + 3 = 217 from rfl, z1 s (by omega), z2 s (by omega), z4 s hs]
    exact hrs.2 s hs
  · rw [← hm2]; exact fc_u_at _ _ _ _
  · by_cases e : x = 269
    · rw [e, e269]
    · exact hfar x (by omega) (by omega) (by omega) (by omega) (by omega) e
theorem b_mark (hC : SimC mi ml mr b b2 sc sc2 n m t sm np len sl kp k q T) (hR : SimR mi ml n m t sm np (cl mi b) (cv mi 17) (cw mi b len) (sA ml b m n t) T (mi 2) k (fun x => mi (sc + x)) q (fun x => mi (214 + x)) kp (fun u => cv mi (psl sl kp u)) (mi 37) (fun j => cv mi (166 + 12 * j)) (fun j x => mi (174 + 12 * j + x))) (x bk : Int32) : Both E mX10_mark mX11_mark [.int x, .int bk] mi ml mr := by
  obtain ⟨e1, e2, e3, e4, l5, l7, l6⟩ := hC.e
  have hb : 218 ≤ b ∧ b ≤ 231 := by rcases hC.2.1.2.2.1 with ⟨e, _⟩ | ⟨e, _⟩ <;> omega
  obtain ⟨p3, p4, p5, p6⟩ := id hC.2.2.2.2.2.2.2.1.1
  have hq8 : q ≤ 8 := hC.2.2.2.2.2.2.1.2.1
  have c1 := c_mark (E := E) (d := 38) (ml := ml) hC.1 x bk
  have c2 := c_rmark (E := E) (d := 38) (mi := mi) (ml := ml) hC.w x bk
  cases hw : sp_from 0 x 3 with
  | false =>
    rw [hw, if_neg (by decide)] at c1 c2
    exact both_q hC hR rfl c1 c2
  | true =>
    rw [hw, if_pos rfl] at c1 c2
    obtain ⟨j, hj, rfl⟩ := sp_from3 hw
    rw [nI_clamp (by omega)] at c1 c2
    have hm37 := (hR.2.2.2.2.2.2.2.2 j hj).1
    by_cases hbk : bk = 0
    · rw [if_pos hbk] at c1
      refine ⟨1, fc_conR c1 ?_⟩
      rintro _ _ _ _ ⟨rfl, rfl, rfl, rfl⟩
      have c3 := c_rmark (E := E) (d := 38) (mi := sp_ly mi j) (ml := ml) hC.w (nI j) bk
      have e268 : sp_ly mi j 268 = mi 268 := by
        unfold sp_ly
        rw [fc_u_off _ _ _ (by decide), sp_sc_off _ _ _ _ (by omega), cp_off (by omega)]
      rw [hw, if_pos rfl, if_pos hbk, nI_clamp (by omega), e268] at c3
      refine ⟨rfl, fc_conR c3 ?_⟩
      rintro _ _ _ _ ⟨rfl, rfl, rfl, rfl⟩
      exact ⟨rfl, b_lay hC hR hj rfl⟩
    · rw [if_neg hbk] at c1 c2
      by_cases hmk : mi 37 j = 0
      · rw [if_pos hmk] at c1
        rw [if_pos (hm37.trans hmk)] at c2
        exact both_q hC hR rfl c1 c2
      · rw [if_neg hmk] at c1
        have hmk1 : mi 37 j = 1 := (hC.2.2.2.2.2.2.2.2 j hj).1.resolve_left hmk
        refine ⟨1, fc_conR c1 ?_⟩
        rintro _ _ _ _ ⟨rfl, rfl, rfl, rfl⟩
        have c3 := c_rmark (E := E) (d := 38) (mi := sp_gb mi j) (ml := ml) hC.w (nI j) bk
        have e268 : ∀ y, 252 ≤ y → sp_gb mi j y = mi y := fun y h => by
          unfold sp_gb
          rw [fc_u_off _ _ _ (by omega), sp_sc_off _ _ _ _ (by omega), cp_off (by omega)]
        rw [hw, if_pos rfl, if_neg hbk, nI_clamp (by omega), e268 268 (by omega), e268 269 (by omega), if_neg (fun e => hmk (hm37.symm.trans e))] at c3
        refine ⟨rfl, fc_conR c3 ?_⟩
        rintro _ _ _ _ ⟨rfl, rfl, rfl, rfl⟩
        exact ⟨rfl, b_gb hC hR hj hmk1 rfl⟩
end Ma1
