/-! ===== the reference: how soon one has been everywhere ===== -/
section M60
variable {E : fc_E} {d : Nat} {mi : fc_Mi} {ml : fc_Ml} {mr : fc_Mr} {B n m t sm g fr : Nat} {L σ : fc_Mi} {T : Nat → Nat → Bool}
theorem nar_b (b : Bool) : vp_nar .boolean (fc_b b) = fc_b b := by cases b <;> rfl
/-- the lower half of the row: who has been where -/
def cn0 (T : Nat → Nat → Bool) (r : Nat → Int32) : Prop := ∀ k S, k < 7 → S < 128 → r (128 * k + S) = fc_b (T S k)
/-- a step on, from the first I of the row -/
def tj (T : Nat → Nat → Bool) (pt : Nat → Int32) (S' q I : Nat) : Bool := sp_any (fun J => T (J % 128) (J / 128) && (decide (S' = J % 128 ||| 2 ^ q) && bt (pt (J / 128)) q)) I
theorem tj_tq {pt : Nat → Int32} {S' q : Nat} : tj T pt S' q (128 * m) = tq T pt m S' q 128 := by
  unfold tj tq
  cases h : sp_any (fun S => sp_any (fun k => T S k && (decide (S' = S ||| 2 ^ q) && bt (pt k) q)) m) 128 with
  | true =>
    obtain ⟨S, s1, s2⟩ := sp_any_iff.mp h
    obtain ⟨k, k1, k2⟩ := sp_any_iff.mp s2
    refine sp_any_iff.mpr ⟨128 * k + S, by omega, ?_⟩
    show (T ((128 * k + S) % 128) ((128 * k + S) / 128) && (decide (S' = (128 * k + S) % 128 ||| 2 ^ q) && bt (pt ((128 * k + S) / 128)) q)) = true
    rw [show (128 * k + S) % 128 = S by omega, show (128 * k + S) / 128 = k by omega]
    exact k2
  | false =>
    cases g : sp_any (fun J => T (J % 128) (J / 128) && (decide (S' = J % 128 ||| 2 ^ q) && bt (pt (J / 128)) q)) (128 * m) with
    | false => rfl
    | true =>
      obtain ⟨J, j1, j2⟩ := sp_any_iff.mp g
      have e1 : J / 128 < m := by omega
      have := (sp_any_iff (P := fun S => sp_any (fun k => T S k && (decide (S' = S ||| 2 ^ q) && bt (pt k) q)) m) (n := 128)).mpr ⟨J % 128, Nat.mod_lt _ (by omega), (sp_any_iff (P := fun k => T (J % 128) k && (decide (S' = J % 128 ||| 2 ^ q) && bt (pt k) q))).mpr ⟨J / 128, e1, j2⟩⟩
      rw [this] at h; cases h
/-- the upper half: the step on -/
def cn1 (T : Nat → Nat → Bool) (pt : Nat → Int32) (m I : Nat) (r : Nat → Int32) : Prop := ∀ q S', q < 7 → S' < 128 → r (896 + 128 * q + S') = fc_b (decide (q < m) && tj T pt S' q I)
theorem l_rt1 (hW : fc_Wd mr) (hA : ra mi 0 n m t sm L σ) {x w gg : Int32} {n0 : Nat} {p : Nat} (hx : x = nI p) (hp : p < n) (hgg : gg = nI g) (hg : g < 128) (hn : 0 < n0) (hn15 : n0 < 15) {mm : fc_Mi} (hmA : ra mm 0 n m t sm L σ) (hc0 : cn0 T (mm 271)) {K0 : fc_Q} (K1 : sp_any (T g) m = true → K0 (some (.int (sp_non (sp_mo (L 7) (σ 2) (L 5) (σ 0 1) p (nI n0))))) mm ml mr) (K2 : sp_any (T g) m = false → ∀ (x5 x6 x7 : Option Value), fc_T E mX11_tour (d + 3) (0, 0) fc_sh 142 [some (.ref 252), some (.int x), some (.int w), some (.int gg), some (.int (nI n0)), x5, x6, x7] [] mm ml mr K0) : ∀ (j i : Nat) (c : Int32) (x6 x7 : Option Value), i + j = m → c = nI i → (∀ k, k < i → T g k = false) → fc_T E mX11_tour (d + 3) (0, 0) fc_sh 93 [some (.ref 252), some (.int x), some (.int w), some (.int gg), some (.int (nI n0)), some (.int c), x6, x7] [] mm ml mr (K0) := by
  intro j
  induction j with
  | zero =>
    intro i c x6 x7 hi hc hk
    subst hc
    obtain ⟨⟨e0, e2, e3, e4⟩, hB, hLo, hSo, hLg, hSg⟩ := id hA
    obtain ⟨h5, h7, h6, hs1, hs2, hLp, hLt⟩ := id hLo
    refine fc_run oX11_tour (fun pc => pc == 93 || pc == 142) 400 ?_
    refine And.intro rfl (Exists.intro _ (And.intro (c_rplaces hW hmA) ?_))
    rintro _ _ _ _ ⟨rfl, rfl, rfl, rfl⟩
    refine And.intro (fun h99 => ?_) (fun h99 => ?_)
    · refine K2 ?_ _ _ _
      cases h : sp_any (T g) m with
      | false => rfl
      | true =>
        obtain ⟨k, k1, k2⟩ := sp_any_iff.mp h
        rw [hk k (by omega)] at k2; cases k2
    · exact absurd (nI_le (by omega) (by omega)) h99
  | succ j ih =>
    intro i c x6 x7 hi hc hk
    subst hc
    obtain ⟨⟨e0, e2, e3, e4⟩, hB, hLo, hSo, hLg, hSg⟩ := id hA
    obtain ⟨h5, h7, h6, hs1, hs2, hLp, hLt⟩ := id hLo
    refine fc_run oX11_tour (fun pc => pc == 93 || pc == 142) 400 ?_
    refine And.intro rfl (Exists.intro _ (And.intro (c_rplaces hW hmA) ?_))
    rintro _ _ _ _ ⟨rfl, rfl, rfl, rfl⟩
    refine And.intro (fun h99 => ?_) (fun h99 => ?_)
    · exact absurd h99 (nI_ge (by omega) (by omega))
    · refine And.intro rfl (Exists.intro _ (And.intro (hW 252 28 271 rfl) ?_))
      refine Exists.intro _ (Exists.intro _ (And.intro rfl (And.intro (fc_ixn (fc_na (fc_nm (fc_nl 128) rfl) hgg) (by omega) (by decide)) ?_)))
      refine And.intro (fun h115 => ?_) (fun h115 => ?_)
      · have hT : T g i = false := by
          rw [hc0 i g (by omega) hg] at h115
          exact fc_b0.mp h115
        refine ih (i + 1) _ _ _ (by omega) (fc_inc i) (fun k hk2 => ?_)
        by_cases e : k = i
        · rw [e]; exact hT
        · exact hk k (by omega)
      · have hT : T g i = true := by
          rw [hc0 i g (by omega) hg] at h115
          exact fc_b1.mp h115
        refine And.intro rfl (Exists.intro _ (And.intro (c_rreadyIn hW hmA hx hp) ?_))
        rintro _ _ _ _ ⟨rfl, rfl, rfl, rfl⟩
        refine And.intro rfl (Exists.intro _ (And.intro (c_rpaceOf hW hmA hx hp) ?_))
        rintro _ _ _ _ ⟨rfl, rfl, rfl, rfl⟩
        refine Exists.intro _ (And.intro (c_rtold _) ?_)
        rintro _ _ _ _ ⟨rfl, rfl, rfl, rfl⟩
        obtain ⟨-, ⟨ka, hka, eka⟩, -⟩ := hSo.1 p hp
        have hac : ¬ σ 2 p < 0 := by rw [eka]; exact nI_pos (by omega)
        have e : sp_mo (L 7) (σ 2) (L 5) (σ 0 1) p (nI n0) = (if L 7 p - σ 0 1 ≤ σ 2 p then σ 2 p else L 7 p - σ 0 1) + nI n0 * (if L 5 p = 2 then 2 else 1) := by
          rw [sp_mo, if_neg (nI_ne0 hn (by omega)), if_pos (show nI n0 < 1000 from nI_lt (a := n0) (b := 1000) (by omega) (by omega)), a_rdy hac]
          congr 1
          by_cases hk2 : L 5 p = 2
          · rw [if_pos hk2, if_pos hk2, Int32.mul_comm]
          · rw [if_neg hk2, if_neg hk2, Int32.mul_one]
        rw [← e]
        exact K1 (sp_any_iff.mpr ⟨i, by omega, hT⟩)

theorem l_rt2 (hW : fc_Wd mr) (hA : ra mi 0 n m t sm L σ) {x w gg : Int32} {n0 : Nat} {K0 : fc_Q} (K : ∀ (r : Nat → Int32) (x5 : Option Value) (x6 x7 : Option Value), cn0 T r → cn1 T (L 4) m 0 r → fc_T E mX11_tour (d + 3) (0, 0) fc_sh 169 [some (.ref 252), some (.int x), some (.int w), some (.int gg), some (.int (nI n0)), x5, x6, x7] [] (fc_ur mi 271 r) ml mr K0) : ∀ (j i : Nat) (c : Int32) (x6 x7 : Option Value) (r : Nat → Int32), i + j = 896 → c = nI (896 + i) → cn0 T r → (∀ k, k < i → r (896 + k) = 0) → fc_T E mX11_tour (d + 3) (0, 0) fc_sh 147 [some (.ref 252), some (.int x), some (.int w), some (.int gg), some (.int (nI n0)), some (.int c), x6, x7] [] (fc_ur mi 271 r) ml mr (K0) := by
  intro j
  induction j with
  | zero =>
    intro i c x6 x7 r hi hc h0 h1
    subst hc
    refine fc_run oX11_tour (fun pc => pc == 147 || pc == 169) 400 ?_
    refine And.intro (fun h152 => ?_) (fun h152 => ?_)
    · refine K _ _ _ _ h0 (fun q S' hq hS => ?_)
      have := h1 (128 * q + S') (by omega)
      rw [← Nat.add_assoc] at this
      rw [this, tj, sp_any]; simp [fc_b]
    · exact absurd (nI_le (a := 1792) (b := 896 + i) (by omega) (by omega)) h152
  | succ j ih =>
    intro i c x6 x7 r hi hc h0 h1
    subst hc
    refine fc_run oX11_tour (fun pc => pc == 147 || pc == 169) 400 ?_
    refine And.intro (fun h152 => ?_) (fun h152 => ?_)
    · exact absurd h152 (nI_ge (a := 896 + i) (b := 1792) (by omega) (by omega))
    · refine And.intro rfl (Exists.intro _ (And.intro (hW 252 28 271 rfl) ?_))
      refine Exists.intro _ (Exists.intro _ (And.intro rfl (And.intro (fc_ixn rfl (by omega) (by decide)) ?_)))
      rw [fc_u_ur]
      refine ih (i + 1) _ _ _ _ (by omega) (fc_inc (896 + i)) (fun k S hk hS => ?_) (fun k hk => ?_)
      · rw [if_neg (by omega)]; exact h0 k S hk hS
      · by_cases e : k = i
        · rw [if_pos (by omega)]; rfl
        · rw [if_neg (by omega)]; exact h1 k (by omega)

theorem l_rt4 (hW : fc_Wd mr) (hA : ra mi 0 n m t sm L σ) {x w gg : Int32} {n0 : Nat} {I : Nat} (hI : I < 128 * m) (hTI : T (I % 128) (I / 128) = true) {K0 : fc_Q} (K : ∀ (r : Nat → Int32) (x6 x7 : Option Value), cn0 T r → cn1 T (L 4) m (I + 1) r → fc_T E mX11_tour (d + 3) (0, 0) fc_sh 278 [some (.ref 252), some (.int x), some (.int w), some (.int gg), some (.int (nI n0)), some (.int (nI I)), x6, x7] [] (fc_ur mi 271 r) ml mr K0) : ∀ (j i : Nat) (c : Int32) (x7 : Option Value) (r : Nat → Int32), i + j = m → c = nI i → cn0 T r → (∀ q S', q < 7 → S' < 128 → r (896 + 128 * q + S') = fc_b ((decide (q < m) && tj T (L 4) S' q I) || (decide (q < i) && (decide (S' = I % 128 ||| 2 ^ q) && bt (L 4 (I / 128)) q)))) → fc_T E mX11_tour (d + 3) (0, 0) fc_sh 188 [some (.ref 252), some (.int x), some (.int w), some (.int gg), some (.int (nI n0)), some (.int (nI I)), some (.int c), x7] [] (fc_ur mi 271 r) ml mr (K0) := by
  intro j
  induction j with
  | zero =>
    intro i c x7 r hi hc h0 h1
    subst hc
    have hA' : ra (fc_ur mi 271 r) 0 n m t sm L σ := hA.off rfl rfl
    obtain ⟨⟨e0, e2, e3, e4⟩, hB, hLo, hSo, hLg, hSg⟩ := id hA
    obtain ⟨h5, h7, h6, hs1, hs2, hLp, hLt⟩ := id hLo
    have hdiv : nI I / 128 = nI (I / 128) := pk_div (a := I) (d := 128) (by omega) (by omega) (by omega)
    have hcI : (fc_ur mi 271 r) 271 I = 1 := by
      have := h0 (I / 128) (I % 128) (by omega) (Nat.mod_lt _ (by omega))
      rw [show 128 * (I / 128) + I % 128 = I by omega, hTI] at this
      exact this
    refine fc_run oX11_tour (fun pc => pc == 188 || pc == 278) 400 ?_
    refine And.intro rfl (Exists.intro _ (And.intro (c_rplaces hW hA') ?_))
    rintro _ _ _ _ ⟨rfl, rfl, rfl, rfl⟩
    refine And.intro (fun h194 => ?_) (fun h194 => ?_)
    · refine K _ _ _ h0 (fun q S' hq hS => ?_)
      rw [h1 q S' hq hS, show i = m by omega]
      unfold tj
      rw [sp_any, hTI]
      by_cases e : q < m
      · simp [e]
      · simp [e]
    · exact absurd (nI_le (by omega) (by omega)) h194
  | succ j ih =>
    intro i c x7 r hi hc h0 h1
    subst hc
    have hA' : ra (fc_ur mi 271 r) 0 n m t sm L σ := hA.off rfl rfl
    obtain ⟨⟨e0, e2, e3, e4⟩, hB, hLo, hSo, hLg, hSg⟩ := id hA
    obtain ⟨h5, h7, h6, hs1, hs2, hLp, hLt⟩ := id hLo
    have hor : (nI I - nI I / 128 * 128) ||| ((1 : Int32) <<< (nI i &&& 31)) = nI (I % 128 ||| 2 ^ i) ∧ I % 128 ||| 2 ^ i < 128 := by
      have := or_one (I % 128) (Nat.mod_lt _ (by omega)) i (by omega)
      rw [show nI I - nI I / 128 * 128 = nI (I % 128) from pk_rem (a := I) (d := 128) (by omega) (by omega) (by omega)]
      exact this
    have hdiv : nI I / 128 = nI (I / 128) := pk_div (a := I) (d := 128) (by omega) (by omega) (by omega)
    have hcI : (fc_ur mi 271 r) 271 I = 1 := by
      have := h0 (I / 128) (I % 128) (by omega) (Nat.mod_lt _ (by omega))
      rw [show 128 * (I / 128) + I % 128 = I by omega, hTI] at this
      exact this
    refine fc_run oX11_tour (fun pc => pc == 188 || pc == 278) 400 ?_
    refine And.intro rfl (Exists.intro _ (And.intro (c_rplaces hW hA') ?_))
    rintro _ _ _ _ ⟨rfl, rfl, rfl, rfl⟩
    refine And.intro (fun h194 => ?_) (fun h194 => ?_)
    · exact absurd h194 (nI_ge (by omega) (by omega))
    · refine And.intro rfl (Exists.intro _ (And.intro (hW 252 28 271 rfl) ?_))
      refine Exists.intro _ (Exists.intro _ (And.intro rfl (And.intro (fc_ixn rfl (by omega) (by decide)) ?_)))
      refine And.intro (fun h204 => ?_) (fun h204 => ?_)
      · rw [hcI] at h204; exact absurd h204 (by decide)
      · refine And.intro (by decide) ?_
        refine And.intro rfl (Exists.intro _ (And.intro (hW 252 28 271 rfl) ?_))
        refine And.intro rfl (Exists.intro _ (And.intro (hW 252 28 271 rfl) ?_))
        refine Exists.intro _ (Exists.intro _ (And.intro rfl (And.intro (fc_ixn (fc_na (fc_na (fc_nl 896) (fc_nm (fc_nl 128) rfl)) hor.1) (by omega) (by decide)) ?_)))
        refine And.intro (fun h244 => ?_) (fun h244 => ?_)
        · refine And.intro (by decide) ?_
          refine And.intro rfl (Exists.intro _ (And.intro (c_rpath hW hA' hdiv (by omega)) ?_))
          rintro _ _ _ _ ⟨rfl, rfl, rfl, rfl⟩
          refine And.intro (fun h263 => ?_) (fun h263 => ?_)
          · refine Exists.intro _ (Exists.intro _ (And.intro rfl (And.intro (fc_ixn (fc_na (fc_na (fc_nl 896) (fc_nm (fc_nl 128) rfl)) hor.1) (by omega) (by decide)) ?_)))
            rw [fc_u_ur]
            have hold := h1 i (I % 128 ||| 2 ^ i) (by omega) hor.2
            rw [decide_eq_true (show i < m by omega), decide_eq_false (show ¬ i < i by omega)] at hold
            simp only [Bool.true_and, Bool.false_and, Bool.or_false] at hold
            have hnew : vp_nar .boolean 1 = fc_b (tj T (L 4) (I % 128 ||| 2 ^ i) i I || bt (L 4 (I / 128)) i) := by
              have ht : tj T (L 4) (I % 128 ||| 2 ^ i) i I = false := by rw [fc_ur_row, hold] at h244; exact fc_b0.mp h244
              rw [ht, ← fb_in _ (show i < 32 by omega), sp_in, decide_eq_true h263]; rfl
            refine ih (i + 1) _ _ _ (by omega) (fc_inc i) (fun k S hk hS => ?_) (fun q S' hq hS => ?_)
            · rw [if_neg (by omega)]; exact h0 k S hk hS
            · by_cases e : q = i ∧ S' = I % 128 ||| 2 ^ i
              · obtain ⟨e1, e2⟩ := e
                subst e1 e2
                rw [if_pos (by omega), hnew]
                simp [show q < m by omega]
              · rw [if_neg (by have := hor.2; omega), h1 q S' hq hS]
                by_cases e1 : q = i
                · have e2 : ¬ S' = I % 128 ||| 2 ^ i := fun z => e ⟨e1, z⟩
                  subst e1
                  simp [e2]
                · by_cases e3 : q < i
                  · simp [e3, show q < i + 1 by omega]
                  · simp [e3, show ¬ q < i + 1 by omega]
          · refine Exists.intro _ (Exists.intro _ (And.intro rfl (And.intro (fc_ixn (fc_na (fc_na (fc_nl 896) (fc_nm (fc_nl 128) rfl)) hor.1) (by omega) (by decide)) ?_)))
            rw [fc_u_ur]
            have hold := h1 i (I % 128 ||| 2 ^ i) (by omega) hor.2
            rw [decide_eq_true (show i < m by omega), decide_eq_false (show ¬ i < i by omega)] at hold
            simp only [Bool.true_and, Bool.false_and, Bool.or_false] at hold
            have hnew : vp_nar .boolean 0 = fc_b (tj T (L 4) (I % 128 ||| 2 ^ i) i I || bt (L 4 (I / 128)) i) := by
              have ht : tj T (L 4) (I % 128 ||| 2 ^ i) i I = false := by rw [fc_ur_row, hold] at h244; exact fc_b0.mp h244
              rw [ht, ← fb_in _ (show i < 32 by omega), sp_in, decide_eq_false h263]; rfl
            refine ih (i + 1) _ _ _ (by omega) (fc_inc i) (fun k S hk hS => ?_) (fun q S' hq hS => ?_)
            · rw [if_neg (by omega)]; exact h0 k S hk hS
            · by_cases e : q = i ∧ S' = I % 128 ||| 2 ^ i
              · obtain ⟨e1, e2⟩ := e
                subst e1 e2
                rw [if_pos (by omega), hnew]
                simp [show q < m by omega]
              · rw [if_neg (by have := hor.2; omega), h1 q S' hq hS]
                by_cases e1 : q = i
                · have e2 : ¬ S' = I % 128 ||| 2 ^ i := fun z => e ⟨e1, z⟩
                  subst e1
                  simp [e2]
                · by_cases e3 : q < i
                  · simp [e3, show q < i + 1 by omega]
                  · simp [e3, show ¬ q < i + 1 by omega]
        · refine Exists.intro _ (Exists.intro _ (And.intro rfl (And.intro (fc_ixn (fc_na (fc_na (fc_nl 896) (fc_nm (fc_nl 128) rfl)) hor.1) (by omega) (by decide)) ?_)))
          rw [fc_u_ur]
          have hold := h1 i (I % 128 ||| 2 ^ i) (by omega) hor.2
          rw [decide_eq_true (show i < m by omega), decide_eq_false (show ¬ i < i by omega)] at hold
          simp only [Bool.true_and, Bool.false_and, Bool.or_false] at hold
          have hnew : vp_nar .boolean 1 = fc_b (tj T (L 4) (I % 128 ||| 2 ^ i) i I || bt (L 4 (I / 128)) i) := by
            have ht : tj T (L 4) (I % 128 ||| 2 ^ i) i I = true := by rw [fc_ur_row, hold] at h244; exact fc_b1.mp h244
            rw [ht]; rfl
          refine ih (i + 1) _ _ _ (by omega) (fc_inc i) (fun k S hk hS => ?_) (fun q S' hq hS => ?_)
          · rw [if_neg (by omega)]; exact h0 k S hk hS
          · by_cases e : q = i ∧ S' = I % 128 ||| 2 ^ i
            · obtain ⟨e1, e2⟩ := e
              subst e1 e2
              rw [if_pos (by omega), hnew]
              simp [show q < m by omega]
            · rw [if_neg (by have := hor.2; omega), h1 q S' hq hS]
              by_cases e1 : q = i
              · have e2 : ¬ S' = I % 128 ||| 2 ^ i := fun z => e ⟨e1, z⟩
                subst e1
                simp [e2]
              · by_cases e3 : q < i
                · simp [e3, show q < i + 1 by omega]
                · simp [e3, show ¬ q < i + 1 by omega]

theorem l_rt3 (hW : fc_Wd mr) (hA : ra mi 0 n m t sm L σ) {x w gg : Int32} {n0 : Nat} {K0 : fc_Q} (K : ∀ (r : Nat → Int32) (x5 x6 x7 : Option Value), cn0 T r → cn1 T (L 4) m (128 * m) r → fc_T E mX11_tour (d + 3) (0, 0) fc_sh 284 [some (.ref 252), some (.int x), some (.int w), some (.int gg), some (.int (nI n0)), x5, x6, x7] [] (fc_ur mi 271 r) ml mr K0) : ∀ (j i : Nat) (c : Int32) (x6 x7 : Option Value) (r : Nat → Int32), i + j = 128 * m → c = nI i → cn0 T r → cn1 T (L 4) m i r → fc_T E mX11_tour (d + 3) (0, 0) fc_sh 172 [some (.ref 252), some (.int x), some (.int w), some (.int gg), some (.int (nI n0)), some (.int c), x6, x7] [] (fc_ur mi 271 r) ml mr (K0) := by
  intro j
  induction j with
  | zero =>
    intro i c x6 x7 r hi hc h0 h1
    subst hc
    have hA' : ra (fc_ur mi 271 r) 0 n m t sm L σ := hA.off rfl rfl
    have h128 : (128 : Int32) * nI m = nI (128 * m) := fc_nm (fc_nl 128) rfl
    obtain ⟨⟨e0, e2, e3, e4⟩, hB, hLo, hSo, hLg, hSg⟩ := id hA
    obtain ⟨h5, h7, h6, hs1, hs2, hLp, hLt⟩ := id hLo
    refine fc_run oX11_tour (fun pc => pc == 172 || pc == 188 || pc == 284) 400 ?_
    refine And.intro rfl (Exists.intro _ (And.intro (c_rplaces hW hA') ?_))
    rintro _ _ _ _ ⟨rfl, rfl, rfl, rfl⟩
    refine And.intro (fun h182 => ?_) (fun h182 => ?_)
    · rw [show i = 128 * m by omega] at h1
      exact K _ _ _ _ h0 h1
    · exact absurd (by rw [h128]; exact nI_le (by omega) (by omega)) h182
  | succ j ih =>
    intro i c x6 x7 r hi hc h0 h1
    subst hc
    have hA' : ra (fc_ur mi 271 r) 0 n m t sm L σ := hA.off rfl rfl
    have h128 : (128 : Int32) * nI m = nI (128 * m) := fc_nm (fc_nl 128) rfl
    obtain ⟨⟨e0, e2, e3, e4⟩, hB, hLo, hSo, hLg, hSg⟩ := id hA
    obtain ⟨h5, h7, h6, hs1, hs2, hLp, hLt⟩ := id hLo
    refine fc_run oX11_tour (fun pc => pc == 172 || pc == 188 || pc == 284) 400 ?_
    refine And.intro rfl (Exists.intro _ (And.intro (c_rplaces hW hA') ?_))
    rintro _ _ _ _ ⟨rfl, rfl, rfl, rfl⟩
    refine And.intro (fun h182 => ?_) (fun h182 => ?_)
    · exact absurd h182 (by rw [h128]; exact nI_ge (by omega) (by omega))
    · cases hTI : T (i % 128) (i / 128) with
      | true =>
        refine l_rt4 hW hA (show i < 128 * m by omega) hTI (fun r' y6 y7 k0 k1 => ?_) m 0 _ _ _ (by omega) rfl h0 (fun q S' hq hS => by rw [h1 q S' hq hS]; simp)
        refine fc_run oX11_tour (fun pc => pc == 172) 400 ?_
        exact ih (i + 1) _ _ _ _ (by omega) (fc_inc i) k0 k1
      | false =>
        have hcI : (fc_ur mi 271 r) 271 i = 0 := by
          have := h0 (i / 128) (i % 128) (by omega) (Nat.mod_lt _ (by omega))
          rw [show 128 * (i / 128) + i % 128 = i by omega, hTI] at this
          exact this
        have k1 : cn1 T (L 4) m (i + 1) r := fun q S' hq hS => by rw [h1 q S' hq hS]; unfold tj; rw [sp_any, hTI]; simp
        refine fc_run oX11_tour (fun pc => pc == 172) 400 ?_
        refine And.intro rfl (Exists.intro _ (And.intro (c_rplaces hW hA') ?_))
        rintro _ _ _ _ ⟨rfl, rfl, rfl, rfl⟩
        refine And.intro (fun h194 => ?_) (fun h194 => ?_)
        · exact ih (i + 1) _ _ _ _ (by omega) (fc_inc i) h0 k1
        · refine And.intro rfl (Exists.intro _ (And.intro (hW 252 28 271 rfl) ?_))
          refine Exists.intro _ (Exists.intro _ (And.intro rfl (And.intro (fc_ixn rfl (by omega) (by decide)) ?_)))
          refine And.intro (fun h204 => ?_) (fun h204 => ?_)
          · exact ih (i + 1) _ _ _ _ (by omega) (fc_inc i) h0 k1
          · exact absurd hcI h204

theorem l_rt5 (hW : fc_Wd mr) (hA : ra mi 0 n m t sm L σ) {x w gg : Int32} {n0 : Nat} {r0 : Nat → Int32} {T' : Nat → Nat → Bool} (hU : ∀ q S', q < 7 → S' < 128 → r0 (896 + 128 * q + S') = fc_b (T' S' q)) {K0 : fc_Q} (K : ∀ (r : Nat → Int32) (c : Int32) (x5 x6 x7 : Option Value), cn0 T' r → c = nI (n0 + 1) → fc_T E mX11_tour (d + 3) (0, 0) fc_sh 83 [some (.ref 252), some (.int x), some (.int w), some (.int gg), some (.int c), x5, x6, x7] [] (fc_ur mi 271 r) ml mr K0) : ∀ (j i : Nat) (c : Int32) (x6 x7 : Option Value) (r : Nat → Int32), i + j = 896 → c = nI i → (∀ k, k < 896 → r (896 + k) = r0 (896 + k)) → (∀ k, k < i → r k = r0 (896 + k)) → fc_T E mX11_tour (d + 3) (0, 0) fc_sh 287 [some (.ref 252), some (.int x), some (.int w), some (.int gg), some (.int (nI n0)), some (.int c), x6, x7] [] (fc_ur mi 271 r) ml mr (K0) := by
  intro j
  induction j with
  | zero =>
    intro i c x6 x7 r hi hc h0 h1
    subst hc
    refine fc_run oX11_tour (fun pc => pc == 287 || pc == 83) 400 ?_
    refine And.intro (fun h292 => ?_) (fun h292 => ?_)
    · refine K _ _ _ _ _ (fun k S hk hS => ?_) (fc_inc n0)
      rw [h1 (128 * k + S) (by omega), ← Nat.add_assoc]; exact hU k S hk hS
    · exact absurd (nI_le (a := 896) (b := i) (by omega) (by omega)) h292
  | succ j ih =>
    intro i c x6 x7 r hi hc h0 h1
    subst hc
    refine fc_run oX11_tour (fun pc => pc == 287 || pc == 83) 400 ?_
    refine And.intro (fun h292 => ?_) (fun h292 => ?_)
    · exact absurd h292 (nI_ge (a := i) (b := 896) (by omega) (by omega))
    · refine And.intro rfl (Exists.intro _ (And.intro (hW 252 28 271 rfl) ?_))
      refine And.intro rfl (Exists.intro _ (And.intro (hW 252 28 271 rfl) ?_))
      refine Exists.intro _ (Exists.intro _ (And.intro rfl (And.intro (fc_ixn (fc_na (fc_nl 896) rfl) (by omega) (by decide)) ?_)))
      refine Exists.intro _ (Exists.intro _ (And.intro rfl (And.intro (fc_ixn rfl (by omega) (by decide)) ?_)))
      rw [fc_u_ur]
      have hv : vp_nar .boolean ((fc_ur mi 271 r) 271 (896 + i)) = r0 (896 + i) := by
        rw [fc_ur_row, h0 i (by omega)]
        have := hU (i / 128) (i % 128) (by omega) (Nat.mod_lt _ (by omega))
        rw [show 896 + 128 * (i / 128) + i % 128 = 896 + i by omega] at this
        rw [this]; exact nar_b _
      refine ih (i + 1) _ _ _ _ (by omega) (fc_inc i) (fun k hk => ?_) (fun k hk => ?_)
      · rw [if_neg (by omega)]; exact h0 k hk
      · by_cases e : k = i
        · rw [if_pos e, hv, e]
        · rw [if_neg e]; exact h1 k (by omega)

theorem l_rt1z (hW : fc_Wd mr) {x w gg : Int32} {n0 : Nat} (hgg : gg = nI g) (hg : g < 128) {mm : fc_Mi} (hmA : ra mm 0 n m t sm L σ) (hc0 : cn0 T (mm 271)) {K0 : fc_Q} (hno : sp_any (T g) m = false) (K2 : ∀ (x5 x6 x7 : Option Value), fc_T E mX11_tour (d + 3) (0, 0) fc_sh 142 [some (.ref 252), some (.int x), some (.int w), some (.int gg), some (.int (nI n0)), x5, x6, x7] [] mm ml mr K0) : ∀ (j i : Nat) (c : Int32) (x6 x7 : Option Value), i + j = m → c = nI i → fc_T E mX11_tour (d + 3) (0, 0) fc_sh 93 [some (.ref 252), some (.int x), some (.int w), some (.int gg), some (.int (nI n0)), some (.int c), x6, x7] [] mm ml mr (K0) := by
  intro j
  induction j with
  | zero =>
    intro i c x6 x7 hi hc
    subst hc
    obtain ⟨h5, h7, h6, hs1, hs2, hLp, hLt⟩ := id hmA.2.2.1
    refine fc_run oX11_tour (fun pc => pc == 93 || pc == 142) 400 ?_
    refine And.intro rfl (Exists.intro _ (And.intro (c_rplaces hW hmA) ?_))
    rintro _ _ _ _ ⟨rfl, rfl, rfl, rfl⟩
    refine And.intro (fun h99 => ?_) (fun h99 => ?_)
    · exact K2 _ _ _
    · exact absurd (nI_le (by omega) (by omega)) h99
  | succ j ih =>
    intro i c x6 x7 hi hc
    subst hc
    obtain ⟨h5, h7, h6, hs1, hs2, hLp, hLt⟩ := id hmA.2.2.1
    refine fc_run oX11_tour (fun pc => pc == 93 || pc == 142) 400 ?_
    refine And.intro rfl (Exists.intro _ (And.intro (c_rplaces hW hmA) ?_))
    rintro _ _ _ _ ⟨rfl, rfl, rfl, rfl⟩
    refine And.intro (fun h99 => ?_) (fun h99 => ?_)
    · exact absurd h99 (nI_ge (by omega) (by omega))
    · refine And.intro rfl (Exists.intro _ (And.intro (hW 252 28 271 rfl) ?_))
      refine Exists.intro _ (Exists.intro _ (And.intro rfl (And.intro (fc_ixn (fc_na (fc_nm (fc_nl 128) rfl) hgg) (by omega) (by decide)) ?_)))
      refine And.intro (fun h115 => ?_) (fun h115 => ?_)
      · exact ih (i + 1) _ _ _ (by omega) (fc_inc i)
      · rw [hc0 i g (by omega) hg] at h115
        rw [sp_any_iff.mpr ⟨i, by omega, fc_b1.mp h115⟩] at hno; cases hno

theorem l_rtour (hW : fc_Wd mr) (hA : ra mi 0 n m t sm L σ) {x w gg : Int32} {p : Nat} (hx : x = nI p) (hp : p < n) (hgg : gg = nI g) (hg : g < 128) (hf : fr < m) : ∀ (j i : Nat) (c : Int32) (x5 x6 x7 : Option Value) (r : Nat → Int32), i + j = 15 → c = nI i → (i = 0 → sp_any (tw (L 4) m fr 0 g) m = false) → cn0 (tw (L 4) m fr i) r → fc_T E mX11_tour (d + 3) (0, 0) fc_sh 83 [some (.ref 252), some (.int x), some (.int w), some (.int gg), some (.int c), x5, x6, x7] [] (fc_ur mi 271 r) ml mr (fun v mi' ml' mr' => v = some (.int (sp_non (sp_mo (L 7) (σ 2) (L 5) (σ 0 1) p (tp (fun i => sp_any (tw (L 4) m fr i g) m) j i)))) ∧ (∃ r, mi' = fc_ur mi 271 r) ∧ ml = ml' ∧ mr = mr') := by
  intro j
  induction j with
  | zero =>
    intro i c x5 x6 x7 r hi hc hz h0
    subst hc
    refine fc_run oX11_tour (fun _ => false) 400 ?_
    refine And.intro (fun h87 => ?_) (fun h87 => ?_)
    · refine ⟨congrArg (fun q => some (Value.int q)) ?_, ⟨r, rfl⟩, rfl, rfl⟩
      rw [tp, sp_mo, if_neg (by decide), if_neg (by decide)]; rfl
    · exact absurd (nI_lt (a := 14) (b := i) (by omega) (by omega)) h87
  | succ j ih =>
    intro i c x5 x6 x7 r hi hc hz h0
    subst hc
    obtain ⟨⟨e0, e2, e3, e4⟩, hB, hLo, hSo, hLg, hSg⟩ := id hA
    obtain ⟨h5, h7, h6, hs1, hs2, hLp, hLt⟩ := id hLo
    have hA' : ra (fc_ur mi 271 r) 0 n m t sm L σ := hA.off rfl rfl
    -- the step on, whoever has got so far
    have step : sp_any (tw (L 4) m fr i g) m = false → ∀ (y5 y6 y7 : Option Value), fc_T E mX11_tour (d + 3) (0, 0) fc_sh 142 [some (.ref 252), some (.int x), some (.int w), some (.int gg), some (.int (nI i)), y5, y6, y7] [] (fc_ur mi 271 r) ml mr (fun v mi' ml' mr' => v = some (.int (sp_non (sp_mo (L 7) (σ 2) (L 5) (σ 0 1) p (tp (fun i => sp_any (tw (L 4) m fr i g) m) (j + 1) i)))) ∧ (∃ r, mi' = fc_ur mi 271 r) ∧ ml = ml' ∧ mr = mr') := by
      intro hno y5 y6 y7
      rw [tp, if_neg (by rw [hno]; decide)]
      refine fc_run oX11_tour (fun pc => pc == 147) 400 ?_
      refine l_rt2 (mi := mi) (T := tw (L 4) m fr i) hW hA (fun r1 z5 z6 z7 a0 a1 => ?_) 896 0 _ _ _ _ (by omega) rfl h0 (fun k hk => absurd hk (Nat.not_lt_zero k))
      refine fc_run oX11_tour (fun pc => pc == 172) 400 ?_
      refine l_rt3 hW hA (fun r2 z5 z6 z7 b0 b1 => ?_) (128 * m) 0 _ _ _ _ (by omega) rfl a0 a1
      refine fc_run oX11_tour (fun pc => pc == 287) 400 ?_
      refine l_rt5 (r0 := r2) (T' := tw (L 4) m fr (i + 1)) hW hA (fun q S' hq hS => ?_) (fun r3 c3 z5 z6 z7 c0 hc3 => ?_) 896 0 _ _ _ _ (by omega) rfl (fun k hk => rfl) (fun k hk => absurd hk (Nat.not_lt_zero k))
      · rw [b1 q S' hq hS, tj_tq, tw]; rfl
      · exact ih (i + 1) _ _ _ _ _ (by omega) hc3 (fun q => absurd q (by omega)) c0
    by_cases hi0 : i = 0
    · refine fc_run oX11_tour (fun pc => pc == 93) 400 ?_
      refine And.intro (fun h87 => ?_) (fun h87 => ?_)
      · exact absurd h87 (nI_nlt (b := i) (a := 14) (by omega) (by omega))
      · subst hi0
        exact l_rt1z hW hgg hg hA' h0 (hz rfl) (step (hz rfl)) m 0 _ _ _ (by omega) rfl
    · refine fc_run oX11_tour (fun pc => pc == 93) 400 ?_
      refine And.intro (fun h87 => ?_) (fun h87 => ?_)
      · exact absurd h87 (nI_nlt (b := i) (a := 14) (by omega) (by omega))
      · exact l_rt1 hW hA hx hp hgg hg (by omega) (by omega) hA' h0 (fun hy => ⟨by rw [tp, if_pos hy], ⟨r, rfl⟩, rfl, rfl⟩) step m 0 _ _ _ (by omega) rfl (fun k hk => absurd hk (Nat.not_lt_zero k))
theorem l_rt0 (hW : fc_Wd mr) {x w gg : Int32} {K0 : fc_Q} (K : ∀ (r : Nat → Int32) (x4 : Option Value), (∀ k, k < 896 → r k = 0) → fc_T E mX11_tour (d + 3) (0, 0) fc_sh 65 [some (.ref 252), some (.int x), some (.int w), some (.int gg), x4, none, none, none] [] (fc_ur mi 271 r) ml mr K0) : ∀ (j i : Nat) (c : Int32) (r : Nat → Int32), i + j = 896 → c = nI i → (∀ k, k < i → r k = 0) → fc_T E mX11_tour (d + 3) (0, 0) fc_sh 43 [some (.ref 252), some (.int x), some (.int w), some (.int gg), some (.int c), none, none, none] [] (fc_ur mi 271 r) ml mr (K0) := by
  intro j
  induction j with
  | zero =>
    intro i c r hi hc h1
    subst hc
    refine fc_run oX11_tour (fun pc => pc == 43 || pc == 65) 400 ?_
    refine And.intro (fun h48 => ?_) (fun h48 => ?_)
    · exact K _ _ (fun k hk => h1 k (by omega))
    · exact absurd (nI_le (a := 896) (b := i) (by omega) (by omega)) h48
  | succ j ih =>
    intro i c r hi hc h1
    subst hc
    refine fc_run oX11_tour (fun pc => pc == 43 || pc == 65) 400 ?_
    refine And.intro (fun h48 => ?_) (fun h48 => ?_)
    · exact absurd h48 (nI_ge (a := i) (b := 896) (by omega) (by omega))
    · refine And.intro rfl (Exists.intro _ (And.intro (hW 252 28 271 rfl) ?_))
      refine Exists.intro _ (Exists.intro _ (And.intro rfl (And.intro (fc_ixn rfl (by omega) (by decide)) ?_)))
      rw [fc_u_ur]
      refine ih (i + 1) _ _ (by omega) (fc_inc i) (fun k hk => ?_)
      by_cases e : k = i
      · rw [if_pos e]; rfl
      · rw [if_neg e]; exact h1 k (by omega)

theorem c_rtour (hW : fc_Wd mr) (hA : ra mi 0 n m t sm L σ) (hG : fg_ok m (L 4)) (x : Int32) : fc_R E mX11_tour (d + 3) fc_sh [.ref 252, .int x] mi ml mr (fun v mi' ml' mr' => v = some (.int (if sp_has (nI n) x then sp_non (sp_mo (L 7) (σ 2) (L 5) (σ 0 1) x.toNatClampNeg (tp (fun i => sp_any (tw (L 4) m (σ 1 x.toNatClampNeg).toNatClampNeg i (fg_it (L 4) m 0 (sp_one (σ 1 x.toNatClampNeg).toNatClampNeg) 7).toNatClampNeg) m) 15 0)) else -1)) ∧ (∃ r, mi' = fc_ur (fc_u mi 252 0 0) 271 r) ∧ ml = ml' ∧ mr = mr') := by
  replace hA : ra (fc_u mi 252 0 0) 0 n m t sm L σ := hA.off rfl rfl
  obtain ⟨⟨e0, e2, e3, e4⟩, hB, hLo, hSo, hLg, hSg⟩ := id hA
  obtain ⟨h5, h7, h6, hs1, hs2, hLp, hLt⟩ := id hLo
  refine fc_met rfl (Nat.le_of_ble_eq_true rfl) (fc_run oX11_tour (fun pc => pc == 43) 400 ?_)
  refine And.intro rfl ?_
  refine And.intro rfl (Exists.intro _ (And.intro (c_risPerson hW hA _) ?_))
  rintro _ _ _ _ ⟨rfl, rfl, rfl, rfl⟩
  refine And.intro (fun h10 => ?_) (fun h10 => ?_)
  · replace h10 := fc_b0.mp h10
    rw [if_neg (by rw [h10]; decide)]
    exact ⟨rfl, ⟨(fc_u mi 252 0 0) 271, by rw [fc_ur_self]⟩, rfl, rfl⟩
  · replace h10 := fc_b1.mp h10
    obtain ⟨p, hp, ep⟩ := sp_hasN (by omega) h10
    have hcp : x.toNatClampNeg = p := by rw [ep]; exact nI_clamp (by omega)
    obtain ⟨⟨jj, hj, ej⟩, -⟩ := hSo.1 p hp
    have hw := ra_w0 hA hp
    have hcl : (σ 1 p).toNatClampNeg = jj := by rw [ej]; exact nI_clamp (by omega)
    have hlo : lo7 (fg_it (L 4) m 0 (sp_one jj) 7) := fun i hi h7' => fg_it_lo h7 hG (fg_one_lo hj h7) 7 i hi (by omega)
    obtain ⟨g, hg, eg⟩ := lo7_n hlo
    have hgc : (fg_it (L 4) m 0 (sp_one jj) 7).toNatClampNeg = g := by rw [eg]; exact nI_clamp (by omega)
    rw [if_pos h10, hcp, hcl, hgc]
    have h1n := one_n jj (by omega)
    have h1n2 := h1n.2
    refine And.intro rfl (Exists.intro _ (And.intro (hW 252 24 268 rfl) ?_))
    refine Exists.intro _ (Exists.intro _ (And.intro rfl (And.intro (fc_ixn (fc_na (fc_nl 2) ep) (by omega) (by decide)) ?_)))
    refine And.intro rfl (Exists.intro _ (And.intro (c_rreachBy hW hA (hw.trans ej) _) ?_))
    rintro _ _ _ _ ⟨rfl, rfl, rfl, rfl⟩
    refine And.intro (fun h35 => ?_) (fun h35 => ?_)
    · have hgj : g = 2 ^ jj := by
        rw [hw, ej, h1n.1, eg] at h35
        exact (nI_eq (by omega) (by omega)).mp h35
      refine ⟨congrArg (fun q => some (Value.int q)) ?_, ⟨(fc_u mi 252 0 0) 271, by rw [fc_ur_self]⟩, rfl, rfl⟩
      have hF : sp_any (tw (L 4) m jj 0 g) m = true := sp_any_iff.mpr ⟨jj, hj, by rw [tw, decide_eq_true hgj, decide_eq_true rfl]; rfl⟩
      rw [tp, if_pos hF, sp_mo, if_pos (show nI 0 = 0 from rfl)]; rfl
    · have hgj : ¬ g = 2 ^ jj := fun q => h35 (by rw [hw, ej, h1n.1, eg, q])
      have hF0 : sp_any (tw (L 4) m jj 0 g) m = false := by
        cases h : sp_any (tw (L 4) m jj 0 g) m with
        | false => rfl
        | true =>
          obtain ⟨k, k1, k2⟩ := sp_any_iff.mp h
          rw [tw, Bool.and_eq_true] at k2
          exact absurd (of_decide_eq_true k2.1) hgj
      have h := l_rt0 (E := E) (d := d) (ml := ml) (mi := fc_u mi 252 0 0) hW (x := x) (w := (fc_u mi 252 0 0) 268 (2 + p)) (gg := fg_it (L 4) m 0 (sp_one jj) 7) (K0 := fun v mi' ml' mr' => v = some (.int (sp_non (sp_mo (L 7) (σ 2) (L 5) (σ 0 1) p (tp (fun i => sp_any (tw (L 4) m jj i g) m) 15 0)))) ∧ (∃ r, mi' = fc_ur (fc_u mi 252 0 0) 271 r) ∧ ml = ml' ∧ mr = mr') (fun r y4 h0 => ?_) 896 0 _ ((fc_u mi 252 0 0) 271) (by omega) rfl (fun k hk => absurd hk (Nat.not_lt_zero k))
      · rw [fc_ur_self] at h
        exact h
      · refine fc_run oX11_tour (fun pc => pc == 83) 400 ?_
        refine And.intro rfl (Exists.intro _ (And.intro (hW 252 28 271 rfl) ?_))
        refine Exists.intro _ (Exists.intro _ (And.intro rfl (And.intro (fc_ixn (fc_na (fc_nm (fc_nl 128) (hw.trans ej)) (by rw [hw, ej]; exact h1n.1)) (by omega) (by decide)) ?_)))
        rw [fc_u_ur]
        refine l_rtour hW hA ep hp eg hg hj 15 0 _ _ _ _ _ (by omega) rfl (fun _ => hF0) (fun k S hk hS => ?_)
        rw [tw]
        generalize 2 ^ jj = pw at h1n2 ⊢
        by_cases e : k = jj ∧ S = pw
        · rw [if_pos (by omega), decide_eq_true e.2, decide_eq_true e.1]; rfl
        · rw [if_neg (by omega), h0 _ (by omega)]
          by_cases e2 : S = pw
          · rw [decide_eq_false (fun q => e ⟨q, e2⟩)]; simp [fc_b]
          · rw [decide_eq_false e2]; rfl

end M60
