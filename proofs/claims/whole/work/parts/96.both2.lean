/-! ===== questions that class and reference answer by other roads ===== -/
theorem sp_mn_cg {f g : Nat → Int32} : ∀ {m : Nat}, (∀ i, i < m → f i = g i) → sp_mn f m = sp_mn g m
  | 0, _ => rfl
  | m + 1, h => by rw [sp_mn, sp_mn, sp_mn_cg (fun i hi => h i (by omega)), h m (by omega)]
theorem sp_mx_cg {f g : Nat → Int32} : ∀ {m : Nat}, (∀ i, i < m → f i = g i) → sp_mx f m = sp_mx g m
  | 0, _ => rfl
  | m + 1, h => by rw [sp_mx, sp_mx, sp_mx_cg (fun i hi => h i (by omega)), h m (by omega)]
theorem sp_ag_cg {f g : Nat → Int32} : ∀ {m : Nat}, (∀ i, i < m → f i = g i) → sp_ag f m = sp_ag g m
  | 0, _ => rfl
  | m + 1, h => by rw [sp_ag, sp_ag, sp_ag_cg (fun i hi => h i (by omega)), h m (by omega)]
theorem sp_ax_cg {f g : Nat → Int32} : ∀ {m : Nat}, (∀ i, i < m → f i = g i) → sp_ax f m = sp_ax g m
  | 0, _ => rfl
  | m + 1, h => by rw [sp_ax, sp_ax, sp_ax_cg (fun i hi => h i (by omega)), h m (by omega)]
theorem sp_fr_cg {f g : Nat → Int32} : ∀ {m : Nat}, (∀ i, i < m → f i = g i) → sp_fr f m = sp_fr g m
  | 0, _ => rfl
  | m + 1, h => by rw [sp_fr, sp_fr, sp_fr_cg (fun i hi => h i (by omega)), h m (by omega)]
theorem sp_sw_cg {P R : Nat → Bool} {f : Nat → Int32} : ∀ {m : Nat}, (∀ i, i < m → P i = R i) → sp_sw P f m = sp_sw R f m
  | 0, _ => rfl
  | m + 1, h => by rw [sp_sw, sp_sw, sp_sw_cg (fun i hi => h i (by omega)), h m (by omega)]
theorem sp_al_cg {P R : Nat → Bool} : ∀ (j i : Nat), (∀ k, i ≤ k → k < i + j → P k = R k) → sp_al P j i = sp_al R j i
  | 0, _, _ => rfl
  | j + 1, i, h => by rw [sp_al, sp_al, h i (by omega) (by omega), sp_al_cg j (i + 1) (fun k h1 h2 => h k (by omega) (by omega))]
theorem sp_a1_cg {f g : Nat → Nat → Int32} {mn : Nat} {s : Int32 × Int32} : ∀ {m : Nat}, (∀ i, i < m → f mn i = g mn i) → sp_a1 f mn s m = sp_a1 g mn s m
  | 0, _ => rfl
  | m + 1, h => by rw [sp_a1, sp_a1, sp_a1_cg (fun i hi => h i (by omega)), h m (by omega)]
theorem sp_a2_cg {f g : Nat → Nat → Int32} {m : Nat} {s : Int32 × Int32} (h : ∀ mn i, i < m → f mn i = g mn i) : ∀ (k : Nat), sp_a2 f m s k = sp_a2 g m s k
  | 0 => rfl
  | k + 1 => by rw [sp_a2, sp_a2, sp_a2_cg h k, sp_a1_cg (fun i hi => h k i hi)]
theorem sp_w1_cg {f g : Nat → Nat → Int32} {k : Nat} {s : Int32 × Int32} : ∀ {i : Nat}, (∀ j, j < i → f k (k + 1 + j) = g k (k + 1 + j)) → sp_w1 f k s i = sp_w1 g k s i
  | 0, _ => rfl
  | i + 1, h => by rw [sp_w1, sp_w1, sp_w1_cg (fun j hj => h j (by omega)), h i (by omega)]
theorem sp_w2_cg {f g : Nat → Nat → Int32} {m : Nat} (h : ∀ x y, x < m → y < m → f x y = g x y) : ∀ (i : Nat), i ≤ m → sp_w2 f m i = sp_w2 g m i
  | 0, _ => rfl
  | i + 1, hi => by rw [sp_w2, sp_w2, sp_w2_cg h i (by omega), sp_w1_cg (fun j hj => h i (i + 1 + j) (by omega) (by omega))]
theorem sp_sum_x {f : Nat → Int32} {n : Nat} : ∀ {k : Nat}, n ≤ k → (∀ p, n ≤ p → p < k → f p = 0) → sp_sum f k = sp_sum f n
  | 0, h, _ => by rw [show n = 0 by omega]
  | k + 1, h, g => by
    by_cases e : n = k + 1
    · rw [e]
    · rw [sp_sum, g k (by omega) (by omega), sp_sum_x (k := k) (by omega) (fun p h1 h2 => g p h1 (by omega)), Int32.add_zero]
theorem slp : ∀ w, w < 31 → ∀ mn, mn < 60 → (if (0 : Int32) < nI w - nI mn then nI w - nI mn else 0) = nI (w - mn) := by decide +kernel
theorem mo_x : ∀ z, z < 31 → ∀ ac, ac < 3 → ∀ x, x < 7 → ∃ v, v < 99 ∧ ∃ v2, v2 < 99 ∧ (if nI z < nI ac then nI ac else nI z) + nI x = nI v ∧ (if nI z < nI ac then nI ac else nI z) + 2 * nI x = nI v2 := by
  intro z hz ac hac x hx
  have e : (if nI z < nI ac then nI ac else nI z) = nI (if z < ac then ac else z) := by
    by_cases q : z < ac
    · rw [if_pos q, if_pos (nI_lt q (by omega))]
    · rw [if_neg q, if_neg (nI_nlt (by omega) (by omega))]
  have hv : (if z < ac then ac else z) < 31 := by split <;> omega
  rw [e]
  exact ⟨_, by omega, _, by omega, nI_add _ x, fc_na rfl (fc_nm (fc_nl 2) rfl)⟩
/-- how soon one is there: soon, or never -/
theorem mo_c {n m t sm : Nat} {L σ : fc_Mi} {p : Nat} (hL : as_lok n m t sm L) (hS : as_ok n m t sm σ) (hp : p < n) {x : Int32} (hx : (∃ s, s < 7 ∧ x = nI s) ∨ x = 1000) : (∃ v, v < 99 ∧ sp_mo (L 7) (σ 2) (L 5) (σ 0 1) p x = nI v) ∨ sp_mo (L 7) (σ 2) (L 5) (σ 0 1) p x = 1000 := by
  obtain ⟨-, -, -, h1, h2, hLp, -⟩ := hL
  obtain ⟨⟨-, w, hw, ew⟩⟩ := And.intro (hLp p hp) trivial
  obtain ⟨hSp, -, mn, hmn, emn⟩ := hS
  obtain ⟨-, ⟨ac, hac, eac⟩, -⟩ := hSp p hp
  rcases hx with ⟨s, hs, rfl⟩ | rfl
  · left
    unfold sp_mo
    rw [ew, emn, eac, slp w (by omega) mn (by omega)]
    obtain ⟨v, hv, v2, hv2, e1, e2⟩ := mo_x (w - mn) (by omega) ac (by omega) s hs
    by_cases q0 : nI s = 0
    · rw [if_pos q0]; exact ⟨s, by omega, rfl⟩
    · rw [if_neg q0, if_pos (show nI s < 1000 from nI_lt (b := 1000) (by omega) (by omega))]
      by_cases qk : L 5 p = 2
      · rw [if_pos qk]; exact ⟨v2, hv2, e2⟩
      · rw [if_neg qk]; exact ⟨v, hv, e1⟩
  · right
    unfold sp_mo
    rw [if_neg (by decide), if_neg (by decide)]
theorem far_c {pt : Nat → Int32} {m x y : Nat} (hy : y < 32) : (∃ s, s < 7 ∧ fg_far pt m x (nI y) = nI s) ∨ fg_far pt m x (nI y) = 1000 := by
  rcases fg_fa_c (pt := pt) (m := m) (x := sp_one x) hy 7 0 with ⟨s, -, h2, -, -, h5⟩ | ⟨-, h2⟩
  · exact .inl ⟨s, by omega, h5⟩
  · exact .inr h2
def sn (x : Int32) : Prop := (∃ v, v < 99 ∧ x = nI v) ∨ x = 1000
theorem sn_mx {f : Nat → Int32} : ∀ {n : Nat}, (∀ i, i < n → sn (f i)) → sn (sp_mx f n)
  | 0, _ => .inl ⟨0, by omega, rfl⟩
  | n + 1, h => by
    rw [sp_mx]
    split
    · exact h n (by omega)
    · exact sn_mx (fun i hi => h i (by omega))
theorem sn_ag {f : Nat → Int32} : ∀ {m : Nat}, (∀ i, i < m → sn (f i)) → sp_ag f m = (-1, 1000) ∨ ∃ v, v < 99 ∧ (sp_ag f m).2 = nI v
  | 0, _ => .inl rfl
  | m + 1, h => by
    rw [sp_ag]
    split
    · exact sn_ag (fun i hi => h i (by omega))
    · rename_i hq
      right
      rcases h m (by omega) with ⟨v, hv, e⟩ | e
      · exact ⟨v, hv, e⟩
      · exfalso
        apply hq
        rw [e]
        rcases sn_ag (f := f) (m := m) (fun i hi => h i (by omega)) with g | ⟨v, hv, g⟩
        · rw [g]; decide
        · rw [g]; exact nI_le (b := 1000) (by omega) (by omega)
theorem one_bc : ∀ v, v < 128 → ∀ i, i < 7 → ((sp_bc (nI v) = 1 ∧ bt (nI v) i = true) ↔ nI v = sp_one i) := by decide +kernel
theorem sw_n {P : Nat → Bool} {f : Nat → Int32} : ∀ {t : Nat}, t ≤ 6 → (∀ q, q < t → ∃ w, w ≤ 30 ∧ f q = nI w) → ∃ v, v ≤ 30 * t ∧ sp_sw P f t = nI v
  | 0, _, _ => ⟨0, by omega, rfl⟩
  | t + 1, h6, h => by
    obtain ⟨v, hv, e⟩ := sw_n (P := P) (f := f) (t := t) (by omega) (fun q hq => h q (by omega))
    obtain ⟨w, hw, e2⟩ := h t (by omega)
    rw [sp_sw]
    split
    · exact ⟨v + w, by omega, by rw [e, e2, nI_add]⟩
    · exact ⟨v, by omega, e⟩
theorem ri_ax {f : Nat → Int32} : ∀ {n : Nat}, n ≤ 5 → (∀ p, p < n → ∃ v, v < 1000 ∧ f p = nI v) → (n = 0 ∧ sp_ax f n = (-1, -1) ∧ a_ri f n = -1) ∨ ∃ p, p < n ∧ sp_ax f n = (nI p, f p) ∧ a_ri f n = nI p
  | 0, _, _ => .inl ⟨rfl, rfl, rfl⟩
  | n + 1, h5, h => by
    right
    obtain ⟨v, hv, ev⟩ := h n (by omega)
    rcases ri_ax (f := f) (n := n) (by omega) (fun p hp => h p (by omega)) with ⟨g0, g1, g2⟩ | ⟨p, hp, g1, g2⟩
    · rw [sp_ax, a_ri, g1, g2, if_neg, if_pos (by decide)]
      · exact ⟨n, by omega, rfl, rfl⟩
      · rw [ev]; intro q; exact absurd (Int32.lt_of_le_of_lt q (show (-1 : Int32) < 0 by decide)) (nI_pos (by omega))
    · rw [sp_ax, a_ri, g1, g2, if_neg (nI_pos (by omega)), nI_clamp (by omega)]
      by_cases q : f n ≤ f p
      · rw [if_pos q, if_pos q]; exact ⟨p, by omega, rfl, rfl⟩
      · rw [if_neg q, if_neg q]; exact ⟨n, by omega, rfl, rfl⟩
theorem has_nI {n i : Nat} (hi : i < n) (hn : n < 2 ^ 31) : sp_has (nI n) (nI i) = true := by
  unfold sp_has
  rw [decide_eq_false (nI_pos (by omega)), decide_eq_false (nI_ge hi hn)]; rfl
section M96
variable {E : fc_E} {mi mi' : fc_Mi} {ml ml' : fc_Ml} {mr mr' : fc_Mr} {b b2 sc sc2 n m t sm np len sl kp k q T : Nat}
theorem mt_eq (hC : SimC mi ml mr b b2 sc sc2 n m t sm np len sl kp k q T) {p y : Nat} (hp : p < n) (hy : y < m) : q_mt mi b p y = a_mt (cl mi b) (cv mi 17) m p (nI y) := by
  obtain ⟨j, hj, ej⟩ := hC.1.2.2.2.2.2.1.1 p hp
  have hm7 : m ≤ 7 := hC.1.2.2.2.2.1.2.2.2.1
  unfold q_mt a_mt
  rw [show cv mi 17 1 p = nI j from ej, show mi 18 p = nI j from ej, nI_clamp (by omega), hC.2.2.1.2.2.2.2.1 j y hj hy]
  rfl
theorem mt_sn (hC : SimC mi ml mr b b2 sc sc2 n m t sm np len sl kp k q T) {p y : Nat} (hp : p < n) (hy : y < m) : sn (a_mt (cl mi b) (cv mi 17) m p (nI y)) := by
  have hm7 : m ≤ 7 := hC.1.2.2.2.2.1.2.2.2.1
  exact mo_c hC.2.2.1.1.2.1 hC.2.2.1.1.2.2 hp (far_c (by omega))
theorem SimC.e (hC : SimC mi ml mr b b2 sc sc2 n m t sm np len sl kp k q T) : mi b 12 = nI n ∧ mi b 10 = nI m ∧ mi b 13 = nI t ∧ mi b 14 = nI sm ∧ n ≤ 5 ∧ m ≤ 7 ∧ t ≤ 6 := by
  obtain ⟨e1, e2, e3, e4, e5, e6⟩ := hC.1.2.2.2.2.1
  exact ⟨e1, e3, e5, hC.2.2.1.1.1, e2, e4, e6⟩
theorem b_soon (hC : SimC mi ml mr b b2 sc sc2 n m t sm np len sl kp k q T) (hR : SimR mi ml n m t sm np (cl mi b) (cv mi 17) (cw mi b len) (sA ml b m n t) T (mi 2) k (fun x => mi (sc + x)) q (fun x => mi (214 + x)) kp (fun u => cv mi (psl sl kp u)) (mi 37) (fun j => cv mi (166 + 12 * j)) (fun j x => mi (174 + 12 * j + x))) (x z : Int32) : Both E mX10_soon mX11_soon [.int x, .int z] mi ml mr := by
  obtain ⟨e1, e2, e3, e4, l5, l7, l6⟩ := hC.e
  refine both_q hC hR ?_ (c_soon (d := 37) hC.1 x z) (c_rsoon (d := 36) hC.w hR.1 x z)
  unfold q_soon
  rw [e1, e2]
  by_cases h : (sp_has (nI n) x && sp_has (nI m) z) = true
  · rw [if_pos h, if_pos h]
    rw [Bool.and_eq_true] at h
    obtain ⟨p, hp, rfl⟩ := sp_hasN (by omega) h.1
    obtain ⟨y, hy, rfl⟩ := sp_hasN (by omega) h.2
    rw [nI_clamp (by omega), nI_clamp (by omega), mt_eq hC hp hy]
  · rw [if_neg h, if_neg h]
theorem b_intime (hC : SimC mi ml mr b b2 sc sc2 n m t sm np len sl kp k q T) (hR : SimR mi ml n m t sm np (cl mi b) (cv mi 17) (cw mi b len) (sA ml b m n t) T (mi 2) k (fun x => mi (sc + x)) q (fun x => mi (214 + x)) kp (fun u => cv mi (psl sl kp u)) (mi 37) (fun j => cv mi (166 + 12 * j)) (fun j x => mi (174 + 12 * j + x))) (x z : Int32) : Both E mX10_intime mX11_intime [.int x, .int z] mi ml mr := by
  obtain ⟨e1, e2, e3, e4, l5, l7, l6⟩ := hC.e
  refine both_q hC hR ?_ (c_intime (d := 37) hC.1 x z) (c_rintime (d := 36) hC.w hR.1 x z)
  unfold q_intime
  rw [e1, e2, e4]
  by_cases h : (sp_has (nI n) x && sp_has (nI m) z) = true
  · have h' := h
    rw [Bool.and_eq_true] at h
    obtain ⟨p, hp, rfl⟩ := sp_hasN (by omega) h.1
    obtain ⟨y, hy, rfl⟩ := sp_hasN (by omega) h.2
    rw [nI_clamp (by omega), nI_clamp (by omega), mt_eq hC hp hy, show cv mi 17 0 1 = mi 17 1 from rfl]
  · rw [Bool.not_eq_true] at h
    rw [h, Bool.false_and, Bool.false_and]
theorem b_meet (hC : SimC mi ml mr b b2 sc sc2 n m t sm np len sl kp k q T) (hR : SimR mi ml n m t sm np (cl mi b) (cv mi 17) (cw mi b len) (sA ml b m n t) T (mi 2) k (fun x => mi (sc + x)) q (fun x => mi (214 + x)) kp (fun u => cv mi (psl sl kp u)) (mi 37) (fun j => cv mi (166 + 12 * j)) (fun j x => mi (174 + 12 * j + x))) (x z : Int32) : Both E mX10_meet mX11_meet [.int x, .int z] mi ml mr := by
  obtain ⟨e1, e2, e3, e4, l5, l7, l6⟩ := hC.e
  refine both_q hC hR ?_ (c_meet (d := 37) hC.1 x z) (c_rmeet (d := 36) hC.w hR.1 x z)
  rw [e1]
  by_cases h : (sp_has (nI n) x && (sp_has (nI n) z && !decide (x = z))) = true
  · rw [if_pos h, if_pos h]
    rw [Bool.and_eq_true, Bool.and_eq_true] at h
    obtain ⟨p, hp, rfl⟩ := sp_hasN (by omega) h.1
    obtain ⟨y, hy, rfl⟩ := sp_hasN (by omega) h.2.1
    rw [nI_clamp (by omega), nI_clamp (by omega)]
    refine congrArg sp_non (sp_mn_cg (fun i hi => ?_))
    unfold q_mf
    rw [mt_eq hC hp hi, mt_eq hC hy hi]
  · rw [if_neg h, if_neg h]
theorem b_all (hC : SimC mi ml mr b b2 sc sc2 n m t sm np len sl kp k q T) (hR : SimR mi ml n m t sm np (cl mi b) (cv mi 17) (cw mi b len) (sA ml b m n t) T (mi 2) k (fun x => mi (sc + x)) q (fun x => mi (214 + x)) kp (fun u => cv mi (psl sl kp u)) (mi 37) (fun j => cv mi (166 + 12 * j)) (fun j x => mi (174 + 12 * j + x))) (w : Int32) : Both E mX10_all mX11_all [.int w] mi ml mr := by
  obtain ⟨e1, e2, e3, e4, l5, l7, l6⟩ := hC.e
  refine both_q hC hR ?_ (c_all (d := 36) hC.1 w) (c_rall (d := 36) hC.w hR.1 w)
  have eF : sp_ag (fun k => sp_mx (fun p => q_mt mi b p k) n) m = sp_ag (fun k => sp_mx (fun p => a_mt (cl mi b) (cv mi 17) m p (nI k)) n) m := sp_ag_cg (fun i hi => sp_mx_cg (fun p hp => mt_eq hC hp hi))
  have hs := sn_ag (f := fun k => sp_mx (fun p => a_mt (cl mi b) (cv mi 17) m p (nI k)) n) (m := m) (fun i hi => sn_mx (fun p hp => mt_sn hC hp hi))
  rw [eF, e1]
  generalize sp_ag (fun k => sp_mx (fun p => a_mt (cl mi b) (cv mi 17) m p (nI k)) n) m = r at hs ⊢
  by_cases h0 : n = 0
  · rw [h0, if_pos (show nI 0 = 0 from rfl), if_pos rfl]
  · rw [if_neg (nI_ne0 (by omega) (by omega)), if_neg h0]
    have hw : w < 0 ∨ w = 0 ∨ w = 1 ∨ (¬ w < 0 ∧ ¬ w ≤ 1 ∧ ¬ w = 0 ∧ ¬ w = 1) := by
      by_cases a : w < 0
      · exact .inl a
      · by_cases c : w ≤ 1
        · obtain ⟨j, hj, e⟩ := nI_of2 (M := 1) (n := 1) rfl a c
          have : j = 0 ∨ j = 1 := by omega
          rcases this with rfl | rfl
          · exact .inr (.inl e)
          · exact .inr (.inr (.inl e))
        · exact .inr (.inr (.inr ⟨a, c, fun q => c (by rw [q]; decide), fun q => c (by rw [q]; decide)⟩))
    rcases hs with hs | ⟨v, hv, hs⟩
    · rw [hs]
      rw [if_pos (show (99 : Int32) < (-1, 1000).2 by decide)]
      rcases hw with a | rfl | rfl | ⟨a, c, -, -⟩
      · rw [if_pos a]
      · rfl
      · rfl
      · rw [if_neg a, if_neg c]
    · rw [hs, if_neg (show ¬ (99 : Int32) < nI v from nI_nlt (a := 99) (b := v) (by omega) (by omega)), sp_non, if_neg (show ¬ (99 : Int32) < nI v from nI_nlt (a := 99) (b := v) (by omega) (by omega))]
      rcases hw with a | rfl | rfl | ⟨a, c, c0, c1⟩
      · rw [if_pos a, if_neg (fun q => absurd a (by rw [q]; decide)), if_neg (fun q => absurd a (by rw [q]; decide))]
      · rfl
      · rfl
      · rw [if_neg a, if_neg c, if_neg c0, if_neg c1]
theorem b_could (hC : SimC mi ml mr b b2 sc sc2 n m t sm np len sl kp k q T) (hR : SimR mi ml n m t sm np (cl mi b) (cv mi 17) (cw mi b len) (sA ml b m n t) T (mi 2) k (fun x => mi (sc + x)) q (fun x => mi (214 + x)) kp (fun u => cv mi (psl sl kp u)) (mi 37) (fun j => cv mi (166 + 12 * j)) (fun j x => mi (174 + 12 * j + x))) (x : Int32) : Both E mX10_could mX11_could [.int x] mi ml mr := by
  obtain ⟨e1, e2, e3, e4, l5, l7, l6⟩ := hC.e
  refine both_q hC hR ?_ (c_could (d := 37) hC.1 x) (c_rcould (d := 36) hC.w hR.1 x)
  rw [e1, e3]
  by_cases h : sp_has (nI t) x = true
  · rw [if_pos h, if_pos h]
    refine sp_set_congr (fun i hi => ?_)
    unfold sp_cg
    rw [h, show sp_has (nI n) (nI i) = true from has_nI hi (by omega), nI_clamp (by omega)]
    rfl
  · rw [if_neg h, if_neg h]
theorem b_sees (hC : SimC mi ml mr b b2 sc sc2 n m t sm np len sl kp k q T) (hR : SimR mi ml n m t sm np (cl mi b) (cv mi 17) (cw mi b len) (sA ml b m n t) T (mi 2) k (fun x => mi (sc + x)) q (fun x => mi (214 + x)) kp (fun u => cv mi (psl sl kp u)) (mi 37) (fun j => cv mi (166 + 12 * j)) (fun j x => mi (174 + 12 * j + x))) (x : Int32) : Both E mX10_sees mX11_sees [.int x] mi ml mr := by
  obtain ⟨e1, e2, e3, e4, l5, l7, l6⟩ := hC.e
  refine both_q hC hR ?_ (c_sees (d := 39) hC.1 x) (c_rsees (d := 37) hC.w hR.1 x)
  rw [e1]
  by_cases h : sp_has (nI n) x = true
  · rw [if_pos h, if_pos h]
    obtain ⟨p, hp, rfl⟩ := sp_hasN (by omega) h
    rw [nI_clamp (by omega)]
    obtain ⟨j, hj, ej⟩ := hC.1.2.2.2.2.2.1.1 p hp
    dsimp only
    rw [show cv mi 17 1 p = nI j from ej, show mi 18 p = nI j from ej]
    refine congrArg (· &&& (sp_one p ^^^ (-1))) (b_ext (fun i hi => ?_))
    rw [Bool.eq_iff_iff, b_or, Bool.or_eq_true, fg_or_bt, fg_or_bt]
    constructor
    · rintro ⟨k, hk, h1, h2⟩
      rw [Bool.or_eq_true] at h1
      rcases h1 with h1 | h1
      · rw [← of_decide_eq_true h1]; exact .inl h2
      · exact .inr ⟨k, hk, h1, h2⟩
    · rintro (h1 | ⟨k, hk, h1, h2⟩)
      · exact ⟨j, hj, by rw [decide_eq_true rfl]; rfl, h1⟩
      · exact ⟨k, hk, by rw [Bool.or_eq_true]; exact .inr h1, h2⟩
  · rw [if_neg h, if_neg h]
theorem b_alone (hC : SimC mi ml mr b b2 sc sc2 n m t sm np len sl kp k q T) (hR : SimR mi ml n m t sm np (cl mi b) (cv mi 17) (cw mi b len) (sA ml b m n t) T (mi 2) k (fun x => mi (sc + x)) q (fun x => mi (214 + x)) kp (fun u => cv mi (psl sl kp u)) (mi 37) (fun j => cv mi (166 + 12 * j)) (fun j x => mi (174 + 12 * j + x)))  : Both E mX10_alone mX11_alone [] mi ml mr := by
  obtain ⟨e1, e2, e3, e4, l5, l7, l6⟩ := hC.e
  refine both_q hC hR ?_ (c_alone (d := 38) hC.1 ) (c_ralone (d := 37) hC.w hR.1 )
  have hlo : ∀ (P R : Nat → Bool), lo7 (sp_set P n &&& sp_set R n) := fun P R => lo7_and (lo7_set (by omega))
  refine b_ext (fun i hi => ?_)
  rw [Bool.eq_iff_iff, fg_or_bt, fb_set (by omega) hi, Bool.and_eq_true, decide_eq_true_iff, decide_eq_true_iff]
  constructor
  · rintro ⟨k, hk, h1, h2⟩
    have h3 := h2
    rw [b_and, Bool.and_eq_true, fb_set (by omega) hi, Bool.and_eq_true, decide_eq_true_iff, decide_eq_true_iff] at h3
    obtain ⟨⟨hin, hk2⟩, -⟩ := h3
    refine ⟨hin, ?_⟩
    rw [show cv mi 17 1 i = nI k from hk2]
    obtain ⟨v, hv, ev⟩ := lo7_n (hlo (fun q => decide (mi 18 q = nI k)) (sp_aw (mi (b + 7)) (mi 17 1)))
    have h4 := of_decide_eq_true h1
    rw [ev] at h4 h2
    refine Eq.trans ev ?_
    exact (one_bc v hv i (by omega)).mp ⟨h4, h2⟩
  · rintro ⟨hin, h1⟩
    obtain ⟨k, hk, ek⟩ := hC.1.2.2.2.2.2.1.1 i hin
    rw [show cv mi 17 1 i = nI k from ek] at h1
    obtain ⟨v, hv, ev⟩ := lo7_n (hlo (fun q => decide (mi 18 q = nI k)) (sp_aw (mi (b + 7)) (mi 17 1)))
    have h2 := (one_bc v hv i (by omega)).mpr (ev.symm.trans h1)
    refine ⟨k, hk, ?_, ?_⟩
    · rw [ev, h2.1]; rfl
    · rw [ev]; exact h2.2
theorem b_reach (hC : SimC mi ml mr b b2 sc sc2 n m t sm np len sl kp k q T) (hR : SimR mi ml n m t sm np (cl mi b) (cv mi 17) (cw mi b len) (sA ml b m n t) T (mi 2) k (fun x => mi (sc + x)) q (fun x => mi (214 + x)) kp (fun u => cv mi (psl sl kp u)) (mi 37) (fun j => cv mi (166 + 12 * j)) (fun j x => mi (174 + 12 * j + x))) (x : Int32) : Both E mX10_reach mX11_reach [.int x] mi ml mr := by
  obtain ⟨e1, e2, e3, e4, l5, l7, l6⟩ := hC.e
  refine both_q hC hR ?_ (c_reach (d := 37) hC.1 x) (c_rreach (d := 37) hC.w hR.1 x)
  rw [e2]
  by_cases h : sp_has (nI m) x = true
  · rw [if_pos h, if_pos h]
    obtain ⟨p, hp, rfl⟩ := sp_hasN (by omega) h
    rw [nI_clamp (by omega)]
    exact fg_reach l7 hC.2.2.1.2.2.2.1 hp
  · rw [if_neg h, if_neg h]
theorem b_far (hC : SimC mi ml mr b b2 sc sc2 n m t sm np len sl kp k q T) (hR : SimR mi ml n m t sm np (cl mi b) (cv mi 17) (cw mi b len) (sA ml b m n t) T (mi 2) k (fun x => mi (sc + x)) q (fun x => mi (214 + x)) kp (fun u => cv mi (psl sl kp u)) (mi 37) (fun j => cv mi (166 + 12 * j)) (fun j x => mi (174 + 12 * j + x))) (x z : Int32) : Both E mX10_far mX11_far [.int x, .int z] mi ml mr := by
  obtain ⟨e1, e2, e3, e4, l5, l7, l6⟩ := hC.e
  refine both_q hC hR ?_ (c_far (d := 39) hC.1 x z) (c_rfar (d := 37) hC.w hR.1 x z)
  rw [e2]
  by_cases h : (sp_has (nI m) x && sp_has (nI m) z) = true
  · rw [if_pos h, if_pos h]
    rw [Bool.and_eq_true] at h
    obtain ⟨p, hp, rfl⟩ := sp_hasN (by omega) h.1
    obtain ⟨y, hy, rfl⟩ := sp_hasN (by omega) h.2
    rw [nI_clamp (by omega), nI_clamp (by omega), hC.2.2.1.2.2.2.2.1 p y hp hy]
    rfl
  · rw [if_neg h, if_neg h]
theorem b_cuts (hC : SimC mi ml mr b b2 sc sc2 n m t sm np len sl kp k q T) (hR : SimR mi ml n m t sm np (cl mi b) (cv mi 17) (cw mi b len) (sA ml b m n t) T (mi 2) k (fun x => mi (sc + x)) q (fun x => mi (214 + x)) kp (fun u => cv mi (psl sl kp u)) (mi 37) (fun j => cv mi (166 + 12 * j)) (fun j x => mi (174 + 12 * j + x)))  : Both E mX10_cuts mX11_cuts [] mi ml mr := by
  obtain ⟨e1, e2, e3, e4, l5, l7, l6⟩ := hC.e
  refine both_q hC hR ?_ (c_cuts (d := 36) hC.1 ) (c_rcuts (d := 37) hC.w hR.1 )
  exact sp_set_congr (fun i hi => fg_cut_eq l7 hC.2.2.1.2.2.2.1 hi)
theorem b_hub (hC : SimC mi ml mr b b2 sc sc2 n m t sm np len sl kp k q T) (hR : SimR mi ml n m t sm np (cl mi b) (cv mi 17) (cw mi b len) (sA ml b m n t) T (mi 2) k (fun x => mi (sc + x)) q (fun x => mi (214 + x)) kp (fun u => cv mi (psl sl kp u)) (mi 37) (fun j => cv mi (166 + 12 * j)) (fun j x => mi (174 + 12 * j + x)))  : Both E mX10_hub mX11_hub [] mi ml mr := by
  obtain ⟨e1, e2, e3, e4, l5, l7, l6⟩ := hC.e
  refine both_q hC hR ?_ (c_hub (d := 39) hC.1 ) (c_rhub (d := 37) hC.w hR.1 )
  exact congrArg Prod.fst (sp_ag_cg (fun i hi => sp_fr_cg (fun y hy => hC.2.2.1.2.2.2.2.1 i y hi hy)))
theorem b_wide (hC : SimC mi ml mr b b2 sc sc2 n m t sm np len sl kp k q T) (hR : SimR mi ml n m t sm np (cl mi b) (cv mi 17) (cw mi b len) (sA ml b m n t) T (mi 2) k (fun x => mi (sc + x)) q (fun x => mi (214 + x)) kp (fun u => cv mi (psl sl kp u)) (mi 37) (fun j => cv mi (166 + 12 * j)) (fun j x => mi (174 + 12 * j + x)))  : Both E mX10_wide mX11_wide [] mi ml mr := by
  obtain ⟨e1, e2, e3, e4, l5, l7, l6⟩ := hC.e
  refine both_q hC hR ?_ (c_wide (d := 40) hC.1 ) (c_rwide (d := 37) hC.w hR.1 )
  exact congrArg Prod.fst (sp_w2_cg (fun x y hx hy => hC.2.2.1.2.2.2.2.1 x y hx hy) m (Nat.le_refl m))
theorem sim_rsn (hC : SimC mi ml mr b b2 sc sc2 n m t sm np len sl kp k q T) (hR : SimR mi ml n m t sm np (cl mi b) (cv mi 17) (cw mi b len) (sA ml b m n t) T (mi 2) k (fun x => mi (sc + x)) q (fun x => mi (214 + x)) kp (fun u => cv mi (psl sl kp u)) (mi 37) (fun j => cv mi (166 + 12 * j)) (fun j x => mi (174 + 12 * j + x))) : rsn mi m q (mi 215) (mi 216) (mi 217) := by
  obtain ⟨s1, s2, s3, s4⟩ := hC.2.2.2.2.2.2.1
  obtain ⟨r1, r2⟩ := hR.2.2.2.2.2.2.1
  refine ⟨r1, s2, fun s hs => ⟨?_, s3 s hs, s4 s hs⟩⟩
  have := r2 s hs
  rw [show 0 + 40 + 3 * s = 40 + 3 * s by omega] at this
  exact this
theorem fit_eq (hC : SimC mi ml mr b b2 sc sc2 n m t sm np len sl kp k q T) {p : Nat} (hp : p < n) : sp_al (q_fit mi b p) q 0 = sp_al (a_fit (cl mi b) (cv mi 17) m (mi 215) (mi 216) (mi 217) p) q 0 := by
  obtain ⟨s1, s2, s3, s4⟩ := hC.2.2.2.2.2.2.1
  refine sp_al_cg q 0 (fun i _ hi => ?_)
  obtain ⟨j, hj, ej⟩ := s3 i (by omega)
  have hm7 := hC.e.2.2.2.2.2.1
  unfold q_fit a_fit
  rw [ej, nI_clamp (by omega), mt_eq hC hp hj]
theorem b_who (hC : SimC mi ml mr b b2 sc sc2 n m t sm np len sl kp k q T) (hR : SimR mi ml n m t sm np (cl mi b) (cv mi 17) (cw mi b len) (sA ml b m n t) T (mi 2) k (fun x => mi (sc + x)) q (fun x => mi (214 + x)) kp (fun u => cv mi (psl sl kp u)) (mi 37) (fun j => cv mi (166 + 12 * j)) (fun j x => mi (174 + 12 * j + x)))  : Both E mX10_who mX11_who [] mi ml mr := by
  obtain ⟨e1, e2, e3, e4, l5, l7, l6⟩ := hC.e
  refine both_q hC hR ?_ (c_who (d := 36) hC.1 hC.2.2.2.2.2.2.1 ) (c_rwho (d := 35) hC.w hR.1 (sim_rsn hC hR) )
  exact sp_set_congr (fun i hi => fit_eq hC hi)
theorem b_ask (hC : SimC mi ml mr b b2 sc sc2 n m t sm np len sl kp k q T) (hR : SimR mi ml n m t sm np (cl mi b) (cv mi 17) (cw mi b len) (sA ml b m n t) T (mi 2) k (fun x => mi (sc + x)) q (fun x => mi (214 + x)) kp (fun u => cv mi (psl sl kp u)) (mi 37) (fun j => cv mi (166 + 12 * j)) (fun j x => mi (174 + 12 * j + x)))  : Both E mX10_ask mX11_ask [] mi ml mr := by
  obtain ⟨e1, e2, e3, e4, l5, l7, l6⟩ := hC.e
  refine both_q hC hR ?_ (c_ask (d := 35) hC.1 hC.2.2.2.2.2.2.1 ) (c_rask (d := 35) hC.w hR.1 (sim_rsn hC hR) )
  rw [show sp_set (fun p => sp_al (q_fit mi b p) q 0) n = sp_set (fun p => sp_al (a_fit (cl mi b) (cv mi 17) m (mi 215) (mi 216) (mi 217) p) q 0) n from sp_set_congr (fun i hi => fit_eq hC hi)]
  generalize sp_set (fun p => sp_al (a_fit (cl mi b) (cv mi 17) m (mi 215) (mi 216) (mi 217) p) q 0) n = s
  refine congrArg Prod.fst (sp_a2_cg (fun mn i hi => ?_) 100)
  have ex : sp_num (fun p => sp_in s (nI p) && !decide (nI mn < q_mt mi b p i)) n = sp_num (fun p => sp_in s (nI p) && !decide (nI mn < a_mt (cl mi b) (cv mi 17) m p (nI i))) n := sp_num_congr (fun p hp => by rw [mt_eq hC hp hi])
  unfold q_lw a_lw
  rw [ex]
theorem wo_eq (hC : SimC mi ml mr b b2 sc sc2 n m t sm np len sl kp k q T) (x r : Int32) : q_wo mi b t x r = sp_sw (fun q => decide (cv mi 17 (if r = 0 then 6 else 7) q = x)) (cl mi b 8) t := by
  have l6 := hC.e.2.2.2.2.2.2
  have er : cv mi 17 (if r = 0 then 6 else 7) = mi (q_row r) := by
    unfold q_row
    split <;> rfl
  unfold q_wo
  rw [er]
  refine sp_sw_cg (fun i hi => ?_)
  rw [fb_in _ (by omega), fb_set (by omega) (by omega), decide_eq_true hi]
  rfl
theorem b_has (hC : SimC mi ml mr b b2 sc sc2 n m t sm np len sl kp k q T) (hR : SimR mi ml n m t sm np (cl mi b) (cv mi 17) (cw mi b len) (sA ml b m n t) T (mi 2) k (fun x => mi (sc + x)) q (fun x => mi (214 + x)) kp (fun u => cv mi (psl sl kp u)) (mi 37) (fun j => cv mi (166 + 12 * j)) (fun j x => mi (174 + 12 * j + x))) (x r : Int32) : Both E mX10_has mX11_has [.int x, .int r] mi ml mr := by
  obtain ⟨e1, e2, e3, e4, l5, l7, l6⟩ := hC.e
  refine both_q hC hR ?_ (c_has (d := 38) hC.1 x r) (c_rhas (d := 37) hC.w hR.1 x r)
  rw [e1, wo_eq hC]
theorem b_rich (hC : SimC mi ml mr b b2 sc sc2 n m t sm np len sl kp k q T) (hR : SimR mi ml n m t sm np (cl mi b) (cv mi 17) (cw mi b len) (sA ml b m n t) T (mi 2) k (fun x => mi (sc + x)) q (fun x => mi (214 + x)) kp (fun u => cv mi (psl sl kp u)) (mi 37) (fun j => cv mi (166 + 12 * j)) (fun j x => mi (174 + 12 * j + x))) (r : Int32) : Both E mX10_rich mX11_rich [.int r] mi ml mr := by
  obtain ⟨e1, e2, e3, e4, l5, l7, l6⟩ := hC.e
  refine both_q hC hR ?_ (c_rich (d := 38) hC.1 r) (c_rrich (d := 37) hC.w hR.1 r)
  rw [show (fun p => q_wo mi b t (nI p) r) = fun p => sp_sw (fun q => decide (cv mi 17 (if r = 0 then 6 else 7) q = nI p)) (cl mi b 8) t from funext (fun p => wo_eq hC (nI p) r)]
  have hv : ∀ p, p < n → ∃ v, v < 1000 ∧ (fun p => sp_sw (fun q => decide (cv mi 17 (if r = 0 then 6 else 7) q = nI p)) (cl mi b 8) t) p = nI v := fun p hp => by
    obtain ⟨v, hv, e⟩ := sw_n (P := fun q => decide (cv mi 17 (if r = 0 then 6 else 7) q = nI p)) l6 (fun q hq => (hC.2.2.1.1.2.1.2.2.2.2.2.2 q hq).1)
    exact ⟨v, by omega, e⟩
  rcases ri_ax (f := fun p => sp_sw (fun q => decide (cv mi 17 (if r = 0 then 6 else 7) q = nI p)) (cl mi b 8) t) (n := n) l5 hv with ⟨g0, g1, g2⟩ | ⟨p, hp, g1, g2⟩
  · rw [g1, g2]
  · rw [g1, g2]
theorem sim_mn (hC : SimC mi ml mr b b2 sc sc2 n m t sm np len sl kp k q T) : ∃ mn, mn < sm ∧ mi 17 1 = nI mn := hC.2.2.1.1.2.2.2.2
theorem b_chance (hC : SimC mi ml mr b b2 sc sc2 n m t sm np len sl kp k q T) (hR : SimR mi ml n m t sm np (cl mi b) (cv mi 17) (cw mi b len) (sA ml b m n t) T (mi 2) k (fun x => mi (sc + x)) q (fun x => mi (214 + x)) kp (fun u => cv mi (psl sl kp u)) (mi 37) (fun j => cv mi (166 + 12 * j)) (fun j x => mi (174 + 12 * j + x))) (x z : Int32) : Both E mX10_chance mX11_chance [.int x, .int z] mi ml mr := by
  obtain ⟨e1, e2, e3, e4, l5, l7, l6⟩ := hC.e
  obtain ⟨mn, h1, h2⟩ := sim_mn hC
  refine both_q hC hR ?_ (c_chance (d := 39) hC.1 x z) (c_rchance (d := 39) hC.w hR.1 (mn := mn) h2 h1 x z)
  unfold q_chance
  rw [e4]; rfl
theorem b_count (hC : SimC mi ml mr b b2 sc sc2 n m t sm np len sl kp k q T) (hR : SimR mi ml n m t sm np (cl mi b) (cv mi 17) (cw mi b len) (sA ml b m n t) T (mi 2) k (fun x => mi (sc + x)) q (fun x => mi (214 + x)) kp (fun u => cv mi (psl sl kp u)) (mi 37) (fun j => cv mi (166 + 12 * j)) (fun j x => mi (174 + 12 * j + x))) (w : Int32) : Both E mX10_count mX11_count [.int w] mi ml mr := by
  obtain ⟨e1, e2, e3, e4, l5, l7, l6⟩ := hC.e
  refine both_q hC hR ?_ (c_count (d := 38) hC.1 w) (c_rcount (d := 37) hC.w hR.1 w)
  obtain ⟨r1, r2, r3, ⟨r4, r5, r6⟩, r7, r8, r9, ⟨r10, r11⟩, r12⟩ := id hR
  have z4 : ∀ y : Nat, (y = 4 ∨ y = 5) → sp_pr (mi (17 + y)) = sp_sum (fun p => sp_bc (cv mi 17 y p)) n / 2 := by
    intro y hy
    have hcv : ∀ p, cv mi 17 y p = mi (17 + y) p := fun p => congrFun (cv_at mi 17 (by omega)) p
    have hz := hC.2.2.1.2.2.2.2.2
    unfold sp_pr
    rw [sp_sum_x (n := n) l5 (fun p h1 h2 => by
      have := hz p h1 h2
      rw [show mi (17 + y) p = 0 from by rw [← hcv]; rcases hy with rfl | rfl; exact this.1; exact this.2]; rfl)]
    exact congrArg (· / 2) (sp_sum_congr (fun p _ => by rw [hcv]))
  unfold q_count
  rw [e1, e2, e3, e4, hC.2.2.1.2.1, show sp_pr (mi 21) = _ from z4 4 (.inl rfl), show sp_pr (mi 22) = _ from z4 5 (.inr rfl), hC.2.2.2.2.2.1.1, hC.2.2.2.2.2.2.1.1, hC.2.2.2.2.2.2.2.1.1.2.2.1, hC.2.2.2.1.1.1, r2, r8.1, show mi 268 39 = nI q from r9.1, r10, r4.1]
  rfl
end M96
