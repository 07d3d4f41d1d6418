/-! ===== the reference: a token tested, a token taken ===== -/
theorem isg_n : ∀ c, c < 127 → isg (nI c) = true → 40 ≤ c ∧ c ≤ 61 := by decide +kernel
theorem kwv_i : ∀ c, c < 21 → ∀ c', c' < 21 → kwv c = kwv c' → c = c' := by decide +kernel
theorem kwv_f : ∀ c, c < 4 → ∀ c', c' < 4 → kwv (21 + c) = kwv (21 + c') → c = c' := by decide +kernel
section M65a
variable {s : Nat → Int32} {n st : Nat}
theorem nIn {a b : Nat} (ha : a < 1000) (hb : b < 1000) (h : nI a = nI b) : a = b := (nI_eq (by omega) (by omega)).mp h
theorem sg_iff (h : tkc s n st) {c : Nat} (hc : c < 127) (hg : isg (nI c) = true) : (rk s n st = 3 ∧ rw_ s n st = lN c) ↔ tk_kd s n st = nI c := by
  have hr := isg_n c hc hg
  rcases h with ⟨-, h1, h2⟩ | ⟨-, h1, h2⟩ | ⟨-, h1, a, ha, h2, -⟩ | ⟨-, h1, h2, -⟩ | ⟨-, h1, h2, -⟩ | ⟨-, h1, a, ha, h2, h3, h4⟩
  · rw [h1, h2]; exact ⟨fun q => absurd q.1 (by decide), fun q => absurd (nIn (a := 1) (by omega) (by omega) q) (by omega)⟩
  · rw [h1, h2]; exact ⟨fun q => absurd q.1 (by decide), fun q => absurd (nIn (a := 2) (by omega) (by omega) q) (by omega)⟩
  · rw [h1, h2]; exact ⟨fun q => absurd q.1 (by decide), fun q => absurd (nIn (by omega) (by omega) q) (by omega)⟩
  · rw [h1, h2]; exact ⟨fun q => absurd q.1 (by decide), fun q => absurd (nIn (a := 4) (by omega) (by omega) q) (by omega)⟩
  · rw [h1, h2]; exact ⟨fun q => absurd q.1 (by decide), fun q => absurd (nIn (a := 3) (by omega) (by omega) q) (by omega)⟩
  · rw [h1, h2, h4]
    exact ⟨fun q => by rw [(pk_lEQ (by omega) (by omega)).mp q.2], fun q => ⟨rfl, by rw [nIn (by omega) (by omega) q]⟩⟩
theorem wd_iff (h : tkc s n st) {w : Nat} (hw : w < 21) : (rk s n st = 1 ∧ rw_ s n st = kwv w) ↔ tk_kd s n st = nI (128 + w) := by
  rcases h with ⟨-, h1, h2⟩ | ⟨-, h1, h2⟩ | ⟨-, h1, a, ha, h2, h3⟩ | ⟨-, h1, h2, h3, -⟩ | ⟨-, h1, h2, -⟩ | ⟨-, h1, a, ha, h2, h3, h4⟩
  · rw [h1, h2]; exact ⟨fun q => absurd q.1 (by decide), fun q => absurd (nIn (a := 1) (by omega) (by omega) q) (by omega)⟩
  · rw [h1, h2]; exact ⟨fun q => absurd q.1 (by decide), fun q => absurd (nIn (a := 2) (by omega) (by omega) q) (by omega)⟩
  · rw [h1, h2, h3]
    exact ⟨fun q => by rw [kwv_i a ha w hw q.2], fun q => ⟨rfl, by rw [show a = w by have := nIn (by omega) (by omega) q; omega]⟩⟩
  · rw [h1, h2]; exact ⟨fun q => absurd q.2 (h3 w hw), fun q => absurd (nIn (a := 4) (by omega) (by omega) q) (by omega)⟩
  · rw [h1, h2]; exact ⟨fun q => absurd q.1 (by decide), fun q => absurd (nIn (a := 3) (by omega) (by omega) q) (by omega)⟩
  · rw [h1, h2]; exact ⟨fun q => absurd q.1 (by decide), fun q => absurd (nIn (by omega) (by omega) q) (by omega)⟩
theorem ft_iff (h : tkc s n st) {f : Nat} (hf : f < 4) : (rk s n st = 1 ∧ rw_ s n st = kwv (21 + f)) ↔ (tk_kd s n st = 4 ∧ tk_cl 2 s n st (tk_en s n st) = nI f) := by
  rcases h with ⟨-, h1, h2⟩ | ⟨-, h1, h2⟩ | ⟨-, h1, a, ha, h2, h3⟩ | ⟨-, h1, h2, h3, -, h5⟩ | ⟨-, h1, h2, -⟩ | ⟨-, h1, a, ha, h2, h3, h4⟩
  · rw [h1, h2]; exact ⟨fun q => absurd q.1 (by decide), fun q => absurd q.1 (by decide)⟩
  · rw [h1, h2]; exact ⟨fun q => absurd q.1 (by decide), fun q => absurd q.1 (by decide)⟩
  · rw [h1, h2, h3]
    exact ⟨fun q => absurd q.2.symm (kwv_d f hf a ha), fun q => absurd (nIn (b := 4) (by omega) (by omega) q.1) (by omega)⟩
  · rw [h1, h2]
    rcases h5 with ⟨c, c1, c2, c3⟩ | ⟨c1, c2⟩
    · rw [c2, c3]
      exact ⟨fun q => ⟨rfl, by rw [kwv_f c c1 f hf q.2]⟩, fun q => ⟨rfl, by rw [nIn (by omega) (by omega) q.2]⟩⟩
    · rw [c1]
      exact ⟨fun q => absurd q.2 (c2 f hf), fun q => absurd q.2 (fun e => absurd (show nI f < 0 by rw [← e]; decide) (nI_pos (by omega)))⟩
  · rw [h1, h2]; exact ⟨fun q => absurd q.1 (by decide), fun q => absurd q.1 (by decide)⟩
  · rw [h1, h2]; exact ⟨fun q => absurd q.1 (by decide), fun q => absurd (nIn (b := 4) (by omega) (by omega) q.1) (by have := isg_n a ha h3; omega)⟩
theorem nb_iff (h : tkc s n st) : rk s n st = 2 ↔ tk_kd s n st = 3 := by
  rcases h with ⟨-, h1, h2⟩ | ⟨-, h1, h2⟩ | ⟨-, h1, a, ha, h2, h3⟩ | ⟨-, h1, h2, -⟩ | ⟨-, h1, h2, -⟩ | ⟨-, h1, a, ha, h2, h3, h4⟩
  · rw [h1, h2]; decide
  · rw [h1, h2]; decide
  · rw [h1, h2]; exact ⟨fun q => absurd q (by decide), fun q => absurd (nIn (b := 3) (by omega) (by omega) q) (by omega)⟩
  · rw [h1, h2]; decide
  · rw [h1, h2]; decide
  · rw [h1, h2]; exact ⟨fun q => absurd q (by decide), fun q => absurd (nIn (b := 3) (by omega) (by omega) q) (by have := isg_n a ha h3; omega)⟩
theorem nm_iff (h : tkc s n st) : (rk s n st = 1 ∧ ∀ w, w < 21 → ¬ tk_kd s n st = nI (128 + w)) ↔ tk_kd s n st = 4 := by
  rcases h with ⟨-, h1, h2⟩ | ⟨-, h1, h2⟩ | ⟨-, h1, a, ha, h2, h3⟩ | ⟨-, h1, h2, -⟩ | ⟨-, h1, h2, -⟩ | ⟨-, h1, a, ha, h2, h3, h4⟩
  · rw [h1, h2]; exact ⟨fun q => absurd q.1 (by decide), fun q => absurd q (by decide)⟩
  · rw [h1, h2]; exact ⟨fun q => absurd q.1 (by decide), fun q => absurd q (by decide)⟩
  · rw [h1, h2]; exact ⟨fun q => absurd rfl (q.2 a ha), fun q => absurd (nIn (b := 4) (by omega) (by omega) q) (by omega)⟩
  · rw [h1, h2]; exact ⟨fun _ => rfl, fun _ => ⟨rfl, fun w hw q => absurd (nIn (a := 4) (by omega) (by omega) q) (by omega)⟩⟩
  · rw [h1, h2]; exact ⟨fun q => absurd q.1 (by decide), fun q => absurd q (by decide)⟩
  · rw [h1, h2]; exact ⟨fun q => absurd q.1 (by decide), fun q => absurd (nIn (b := 4) (by omega) (by omega) q) (by have := isg_n a ha h3; omega)⟩
theorem nd_iff (h : tkc s n st) : n ≤ st ↔ tk_kd s n st = 1 := by
  rcases h with ⟨h0, h1, h2⟩ | ⟨h0, h1, h2⟩ | ⟨h0, h1, a, ha, h2, h3⟩ | ⟨h0, h1, h2, -⟩ | ⟨h0, h1, h2, -⟩ | ⟨h0, h1, a, ha, h2, h3, h4⟩
  · rw [h2]; exact ⟨fun _ => rfl, fun _ => h0⟩
  · rw [h2]; exact ⟨fun q => absurd q (by omega), fun q => absurd q (by decide)⟩
  · rw [h2]; exact ⟨fun q => absurd q (by omega), fun q => absurd (nIn (b := 1) (by omega) (by omega) q) (by omega)⟩
  · rw [h2]; exact ⟨fun q => absurd q (by omega), fun q => absurd q (by decide)⟩
  · rw [h2]; exact ⟨fun q => absurd q (by omega), fun q => absurd q (by decide)⟩
  · rw [h2]; exact ⟨fun q => absurd q (by omega), fun q => absurd (nIn (b := 1) (by omega) (by omega) q) (by have := isg_n a ha h3; omega)⟩
end M65a
/-- the reference reads: at the i-th of N tokens, its fault so far f -/
def rst (s : Nat → Int32) (n N i : Nat) (f : Int32) (mi : fc_Mi) (ml : fc_Ml) : Prop := rtk s n N mi ml ∧ i ≤ N ∧ mi 252 7 = nI i ∧ mi 252 8 = f ∧ (∀ w, w < 25 → ml 257 w = kwv w) ∧ okc s n
/-- nothing but at and fault -/
def rfr (mi mi' : fc_Mi) : Prop := (∀ x, x ≠ 252 → mi' x = mi x) ∧ ∀ k, k ≠ 7 → k ≠ 8 → mi' 252 k = mi 252 k
theorem rfr.rf {mi : fc_Mi} : rfr mi mi := ⟨fun _ _ => rfl, fun _ _ _ => rfl⟩
theorem rfr.tr {a b c : fc_Mi} (h : rfr a b) (g : rfr b c) : rfr a c := ⟨fun x q => (g.1 x q).trans (h.1 x q), fun k q r => (g.2 k q r).trans (h.2 k q r)⟩
section M65
variable {E : fc_E} {d : Nat} {mi : fc_Mi} {ml : fc_Ml} {mr : fc_Mr} {n N i : Nat} {s : Nat → Int32} {f : Int32}
theorem rst.tkc (h : rst s n N i f mi ml) (k : Nat) : tkc s n (tS s n k) := tkc_all h.2.2.2.2.2 (tS_le k)
theorem rst.end (h : rst s n N i f mi ml) : i = N ↔ tK s n i = 1 := by
  obtain ⟨⟨h1, h2, h3, h4, h5, h6⟩, h7, -⟩ := id h
  rw [tK, ← nd_iff (h.tkc i)]
  constructor
  · intro e; rw [e, h1]; exact Nat.le_refl _
  · intro e
    rcases Nat.lt_or_ge i N with q | q
    · have := (h4 i q).1; omega
    · omega
theorem rst.lt (h : rst s n N i f mi ml) (g : ¬ tK s n i = 1) : i < N := by
  rcases Nat.lt_or_ge i N with q | q
  · exact q
  · exact absurd (h.end.mp (by have := h.2.1; omega)) g
theorem rst.sort (h : rst s n N i f mi ml) : mi 254 i = rk s n (tS s n i) := by
  obtain ⟨⟨h1, h2, h3, h4, h5, h6⟩, h7, -⟩ := id h
  rcases Nat.lt_or_ge i N with q | q
  · exact (h4 i q).2.1
  · rw [show i = N by omega, h5, h1, rk, if_pos (Nat.le_refl _)]
theorem rst.place (h : rst s n N i f mi ml) : mi 255 i = nI (tS s n i) := by
  obtain ⟨⟨h1, h2, h3, h4, h5, h6⟩, h7, -⟩ := id h
  rcases Nat.lt_or_ge i N with q | q
  · exact (h4 i q).2.2.1
  · rw [show i = N by omega, h6, h1]
theorem rst.value (h : rst s n N i f mi ml) (hi : i < N) : ml 256 i = rw_ s n (tS s n i) := (h.1.2.2.2.1 i hi).2.2.2
/-- the reading goes on -/
theorem rst.go {i' : Nat} {f' : Int32} {mm : fc_Mi} (h : rst s n N i f mi ml) (g : rfr mi mm) (hi : i' ≤ N) (h1 : mm 252 7 = nI i') (h2 : mm 252 8 = f') : rst s n N i' f' mm ml := by
  obtain ⟨⟨a1, a2, a3, a4, a5, a6⟩, a7, a8, a9, a10, a11⟩ := id h
  refine ⟨⟨a1, a2, a3, fun j hj => ?_, ?_, ?_⟩, hi, h1, h2, a10, a11⟩
  · rw [g.1 254 (by decide), g.1 255 (by decide)]; exact a4 j hj
  · rw [g.1 254 (by decide)]; exact a5
  · rw [g.1 255 (by decide)]; exact a6
/-- how a step of the reading ends -/
def rsq (s : Nat → Int32) (n N : Nat) (v0 : Option Value) (p : Nat × Int32) (mi : fc_Mi) (ml : fc_Ml) (mr : fc_Mr) : fc_Q := fun v mi' ml' mr' => v0 = v ∧ rst s n N p.1 p.2 mi' ml ∧ rfr mi mi' ∧ ml = ml' ∧ mr = mr'
def p_wr (s : Nat → Int32) (n : Nat) (x : Int32) (p : Nat × Int32) : Nat × Int32 := if p.2 = 0 then (p.1, tF s n x p.1) else p
theorem c_rwrong (hW : fc_Wd mr) (hS : rst s n N i f mi ml) (x : Int32) : fc_R E mX11_wrong d fc_sh [.ref 252, .int x] mi ml mr (rsq s n N none (p_wr s n x (i, f)) mi ml mr) := by
  obtain ⟨⟨k1, k2, k3, k4, k5, k6⟩, hiN, hat, hfa, hkw, hok⟩ := id hS
  have htk := hS.tkc i
  refine fc_met rfl (Nat.le_of_ble_eq_true rfl) (fc_run oX11_wrong (fun _ => false) 400 ?_)
  refine And.intro rfl ?_
  refine And.intro (fun h4 => ?_) (fun h4 => ?_)
  · rw [hfa] at h4
    refine And.intro rfl (Exists.intro _ (And.intro (hW 252 5 255 rfl) ?_))
    refine And.intro rfl ?_
    rw [hat]
    refine Exists.intro _ (Exists.intro _ (And.intro rfl (And.intro (fc_ixn rfl (by omega) (by decide)) ?_)))
    rw [hS.place]
    refine And.intro rfl ?_
    rw [p_wr, if_pos h4]
    have g : rfr mi (fc_u mi 252 8 (x + 16 * nI (tS s n i))) := ⟨fun y q => fc_u_off _ _ _ q, fun k q r => fc_u_nj _ _ _ _ r⟩
    exact ⟨rfl, hS.go g hiN (by rw [fc_u_nj _ _ _ _ (by decide)]; exact hat) (fc_u_at _ _ _ _), g, rfl, rfl⟩
  · rw [hfa] at h4
    rw [p_wr, if_neg h4]
    exact ⟨rfl, hS, rfr.rf, rfl, rfl⟩

theorem c_risSign (hW : fc_Wd mr) (hS : rst s n N i f mi ml) {c : Nat} (hc : c < 127) (hg : isg (nI c) = true) {x : Int32} (hx : x = nI c) : fc_R E mX11_isSign d fc_sh [.ref 252, .int x] mi ml mr (fc_is (some (.int (fc_b (decide (f = 0) && decide (tK s n i = nI c))))) mi ml mr) := by
  obtain ⟨⟨k1, k2, k3, k4, k5, k6⟩, hiN, hat, hfa, hkw, hok⟩ := id hS
  have htk := hS.tkc i
  subst hx
  refine fc_met rfl (Nat.le_of_ble_eq_true rfl) (fc_run oX11_isSign (fun _ => false) 400 ?_)
  refine And.intro rfl ?_
  refine And.intro (fun h4 => ?_) (fun h4 => ?_)
  · rw [hfa] at h4
    refine And.intro rfl (Exists.intro _ (And.intro (hW 252 4 254 rfl) ?_))
    refine And.intro rfl ?_
    rw [hat]
    refine Exists.intro _ (Exists.intro _ (And.intro rfl (And.intro (fc_ixn rfl (by omega) (by decide)) ?_)))
    refine And.intro (fun h17 => ?_) (fun h17 => ?_)
    · rw [hS.sort] at h17
      have hiL : i < N := hS.lt (fun q => by rw [tK] at q; exact absurd (h17.symm.trans (by rw [rk, if_pos ((nd_iff htk).mpr q)])) (by decide))
      refine And.intro rfl (Exists.intro _ (And.intro (hW 252 6 256 rfl) ?_))
      refine And.intro rfl ?_
      rw [hat]
      refine Exists.intro _ (Exists.intro _ (And.intro rfl (And.intro (fc_ixn rfl (by omega) (by decide)) ?_)))
      refine And.intro (fun h32 => ?_) (fun h32 => ?_)
      · replace h32 := lg_cmp0.mp h32
        rw [hS.value hiL, nI_l (by omega)] at h32
        refine And.intro (by first | exact Or.inl rfl | exact Or.inr rfl | exact fc_bb _ | assumption) ?_
        exact ⟨by rw [decide_eq_true h4, decide_eq_true (show tK s n i = nI c from (sg_iff htk hc hg).mp ⟨h17, h32⟩)]; rfl, rfl, rfl, rfl⟩
      · replace h32 := fun q => h32 (lg_cmp0.mpr q)
        rw [hS.value hiL, nI_l (by omega)] at h32
        refine And.intro (by first | exact Or.inl rfl | exact Or.inr rfl | exact fc_bb _ | assumption) ?_
        exact ⟨by rw [decide_eq_false (show ¬ tK s n i = nI c from fun q => h32 ((sg_iff htk hc hg).mpr q).2)]; simp [fc_b], rfl, rfl, rfl⟩
    · rw [hS.sort] at h17
      refine And.intro (by first | exact Or.inl rfl | exact Or.inr rfl | exact fc_bb _ | assumption) ?_
      exact ⟨by rw [decide_eq_false (show ¬ tK s n i = nI c from fun q => h17 ((sg_iff htk hc hg).mpr q).1)]; simp [fc_b], rfl, rfl, rfl⟩
  · rw [hfa] at h4
    refine And.intro (by first | exact Or.inl rfl | exact Or.inr rfl | exact fc_bb _ | assumption) ?_
    exact ⟨by rw [decide_eq_false h4]; rfl, rfl, rfl, rfl⟩

theorem c_risWord (hW : fc_Wd mr) (hS : rst s n N i f mi ml) {w : Nat} (hw : w < 21) {x : Int32} (hx : x = nI w) : fc_R E mX11_isWord d fc_sh [.ref 252, .int x] mi ml mr (fc_is (some (.int (fc_b (decide (f = 0) && decide (tK s n i = nI (128 + w)))))) mi ml mr) := by
  obtain ⟨⟨k1, k2, k3, k4, k5, k6⟩, hiN, hat, hfa, hkw, hok⟩ := id hS
  have htk := hS.tkc i
  refine fc_met rfl (Nat.le_of_ble_eq_true rfl) (fc_run oX11_isWord (fun _ => false) 400 ?_)
  refine And.intro rfl ?_
  refine And.intro (fun h4 => ?_) (fun h4 => ?_)
  · rw [hfa] at h4
    refine And.intro rfl (Exists.intro _ (And.intro (hW 252 4 254 rfl) ?_))
    refine And.intro rfl ?_
    rw [hat]
    refine Exists.intro _ (Exists.intro _ (And.intro rfl (And.intro (fc_ixn rfl (by omega) (by decide)) ?_)))
    refine And.intro (fun h17 => ?_) (fun h17 => ?_)
    · rw [hS.sort] at h17
      have hiL : i < N := hS.lt (fun q => by rw [tK] at q; exact absurd (h17.symm.trans (by rw [rk, if_pos ((nd_iff htk).mpr q)])) (by decide))
      refine And.intro rfl (Exists.intro _ (And.intro (hW 252 6 256 rfl) ?_))
      refine And.intro rfl ?_
      rw [hat]
      refine Exists.intro _ (Exists.intro _ (And.intro rfl (And.intro (fc_ixn rfl (by omega) (by decide)) ?_)))
      refine And.intro rfl (Exists.intro _ (And.intro (hW 252 9 257 rfl) ?_))
      refine Exists.intro _ (Exists.intro _ (And.intro rfl (And.intro (fc_ixn hx (by omega) (by decide)) ?_)))
      refine And.intro (fun h36 => ?_) (fun h36 => ?_)
      · replace h36 := lg_cmp0.mp h36
        rw [hS.value hiL, hkw w (by omega)] at h36
        refine And.intro (by first | exact Or.inl rfl | exact Or.inr rfl | exact fc_bb _ | assumption) ?_
        exact ⟨by rw [decide_eq_true h4, decide_eq_true (show tK s n i = nI (128 + w) from (wd_iff htk hw).mp ⟨h17, h36⟩)]; rfl, rfl, rfl, rfl⟩
      · replace h36 := fun q => h36 (lg_cmp0.mpr q)
        rw [hS.value hiL, hkw w (by omega)] at h36
        refine And.intro (by first | exact Or.inl rfl | exact Or.inr rfl | exact fc_bb _ | assumption) ?_
        exact ⟨by rw [decide_eq_false (show ¬ (tK s n i = nI (128 + w)) from fun q => h36 ((wd_iff htk hw).mpr q).2)]; simp [fc_b], rfl, rfl, rfl⟩
    · rw [hS.sort] at h17
      refine And.intro (by first | exact Or.inl rfl | exact Or.inr rfl | exact fc_bb _ | assumption) ?_
      exact ⟨by rw [decide_eq_false (show ¬ (tK s n i = nI (128 + w)) from fun q => h17 ((wd_iff htk hw).mpr q).1)]; simp [fc_b], rfl, rfl, rfl⟩
  · rw [hfa] at h4
    refine And.intro (by first | exact Or.inl rfl | exact Or.inr rfl | exact fc_bb _ | assumption) ?_
    exact ⟨by rw [decide_eq_false h4]; rfl, rfl, rfl, rfl⟩

theorem c_risFact (hW : fc_Wd mr) (hS : rst s n N i f mi ml) {w : Nat} (hw : w < 4) {x : Int32} (hx : x = nI (21 + w)) : fc_R E mX11_isWord d fc_sh [.ref 252, .int x] mi ml mr (fc_is (some (.int (fc_b (decide (f = 0) && decide (tK s n i = 4 ∧ tk_cl 2 s n (tS s n i) (tE s n i) = nI w))))) mi ml mr) := by
  obtain ⟨⟨k1, k2, k3, k4, k5, k6⟩, hiN, hat, hfa, hkw, hok⟩ := id hS
  have htk := hS.tkc i
  refine fc_met rfl (Nat.le_of_ble_eq_true rfl) (fc_run oX11_isWord (fun _ => false) 400 ?_)
  refine And.intro rfl ?_
  refine And.intro (fun h4 => ?_) (fun h4 => ?_)
  · rw [hfa] at h4
    refine And.intro rfl (Exists.intro _ (And.intro (hW 252 4 254 rfl) ?_))
    refine And.intro rfl ?_
    rw [hat]
    refine Exists.intro _ (Exists.intro _ (And.intro rfl (And.intro (fc_ixn rfl (by omega) (by decide)) ?_)))
    refine And.intro (fun h17 => ?_) (fun h17 => ?_)
    · rw [hS.sort] at h17
      have hiL : i < N := hS.lt (fun q => by rw [tK] at q; exact absurd (h17.symm.trans (by rw [rk, if_pos ((nd_iff htk).mpr q)])) (by decide))
      refine And.intro rfl (Exists.intro _ (And.intro (hW 252 6 256 rfl) ?_))
      refine And.intro rfl ?_
      rw [hat]
      refine Exists.intro _ (Exists.intro _ (And.intro rfl (And.intro (fc_ixn rfl (by omega) (by decide)) ?_)))
      refine And.intro rfl (Exists.intro _ (And.intro (hW 252 9 257 rfl) ?_))
      refine Exists.intro _ (Exists.intro _ (And.intro rfl (And.intro (fc_ixn hx (by omega) (by decide)) ?_)))
      refine And.intro (fun h36 => ?_) (fun h36 => ?_)
      · replace h36 := lg_cmp0.mp h36
        rw [hS.value hiL, hkw (21 + w) (by omega)] at h36
        refine And.intro (by first | exact Or.inl rfl | exact Or.inr rfl | exact fc_bb _ | assumption) ?_
        exact ⟨by rw [decide_eq_true h4, decide_eq_true (show tK s n i = 4 ∧ tk_cl 2 s n (tS s n i) (tE s n i) = nI w from (ft_iff htk hw).mp ⟨h17, h36⟩)]; rfl, rfl, rfl, rfl⟩
      · replace h36 := fun q => h36 (lg_cmp0.mpr q)
        rw [hS.value hiL, hkw (21 + w) (by omega)] at h36
        refine And.intro (by first | exact Or.inl rfl | exact Or.inr rfl | exact fc_bb _ | assumption) ?_
        exact ⟨by rw [decide_eq_false (show ¬ (tK s n i = 4 ∧ tk_cl 2 s n (tS s n i) (tE s n i) = nI w) from fun q => h36 ((ft_iff htk hw).mpr q).2)]; simp [fc_b], rfl, rfl, rfl⟩
    · rw [hS.sort] at h17
      refine And.intro (by first | exact Or.inl rfl | exact Or.inr rfl | exact fc_bb _ | assumption) ?_
      exact ⟨by rw [decide_eq_false (show ¬ (tK s n i = 4 ∧ tk_cl 2 s n (tS s n i) (tE s n i) = nI w) from fun q => h17 ((ft_iff htk hw).mpr q).1)]; simp [fc_b], rfl, rfl, rfl⟩
  · rw [hfa] at h4
    refine And.intro (by first | exact Or.inl rfl | exact Or.inr rfl | exact fc_bb _ | assumption) ?_
    exact ⟨by rw [decide_eq_false h4]; rfl, rfl, rfl, rfl⟩

def p_sg (s : Nat → Int32) (n : Nat) (c : Int32) (p : Nat × Int32) : Nat × Int32 := if p.2 = 0 then (if tK s n p.1 = c then (p.1 + 1, 0) else (p.1, tF s n 1 p.1)) else p
theorem c_rtakeSign (hW : fc_Wd mr) (hS : rst s n N i f mi ml) {c : Nat} (hc : c < 127) (hg : isg (nI c) = true) {x : Int32} (hx : x = nI c) : fc_R E mX11_takeSign (d + 1) fc_sh [.ref 252, .int x] mi ml mr (rsq s n N none (p_sg s n (nI c) (i, f)) mi ml mr) := by
  obtain ⟨⟨k1, k2, k3, k4, k5, k6⟩, hiN, hat, hfa, hkw, hok⟩ := id hS
  have htk := hS.tkc i
  refine fc_met rfl (Nat.le_of_ble_eq_true rfl) (fc_run oX11_takeSign (fun _ => false) 400 ?_)
  refine And.intro rfl (Exists.intro _ (And.intro (c_risSign hW hS hc hg hx) ?_))
  rintro _ _ _ _ ⟨rfl, rfl, rfl, rfl⟩
  refine And.intro (fun h5 => ?_) (fun h5 => ?_)
  · replace h5 := fc_b0.mp h5
    refine And.intro rfl (Exists.intro _ (And.intro (c_rwrong hW hS _) ?_))
    rintro _ m1 _ _ ⟨rfl, g1, g2, rfl, rfl⟩
    refine ⟨rfl, ?_, g2, rfl, rfl⟩
    rw [p_wr] at g1
    rw [p_sg]
    by_cases h0 : f = 0
    · rw [if_pos h0] at g1
      rw [if_pos h0, if_neg (fun q => by rw [decide_eq_true h0, decide_eq_true q] at h5; cases h5)]
      exact g1
    · rw [if_neg h0] at g1
      rw [if_neg h0]; exact g1
  · replace h5 := fc_b1.mp h5
    rw [Bool.and_eq_true] at h5
    have h5a := of_decide_eq_true h5.1
    have h5b := of_decide_eq_true h5.2
    have hiL : i < N := hS.lt (fun q => by rw [q] at h5b; have := isg_n c hc hg; exact absurd (nIn (a := 1) (by omega) (by omega) h5b) (by omega))
    refine And.intro rfl ?_
    rw [hat]
    refine And.intro rfl ?_
    rw [p_sg, if_pos h5a, if_pos h5b]
    have g : rfr mi (fc_u mi 252 7 (nI i + 1)) := ⟨fun y q => fc_u_off _ _ _ q, fun k q r => fc_u_nj _ _ _ _ q⟩
    exact ⟨rfl, hS.go g (by omega) (by rw [fc_u_at]; exact nI_1 i) (by rw [fc_u_nj _ _ _ _ (by decide), hfa]; exact h5a), g, rfl, rfl⟩

end M65
