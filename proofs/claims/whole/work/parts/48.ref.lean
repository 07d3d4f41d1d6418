/-! ===== the reference: its rows, and what they say ===== -/
theorem fc_nl (k : Nat) : Int32.ofNat k = nI k := rfl
theorem fc_na {x y : Int32} {a b : Nat} (hx : x = nI a) (hy : y = nI b) : x + y = nI (a + b) := by rw [hx, hy, nI_add]
theorem fc_nm {x y : Int32} {a b : Nat} (hx : x = nI a) (hy : y = nI b) : x * y = nI (a * b) := by rw [hx, hy, pk_mul]
theorem fc_ixn {x : Int32} {N k : Nat} (h : x = nI k) (hk : k < N) (hN : N < 2 ^ 31) : fc_ix x N k := by rw [h]; exact fc_ix_nI hk hN
theorem fc_or0 (x : Int32) : x ||| 0 = x := b_ext (fun i _ => by rw [b_or, b_0]; simp)
theorem nd_t {p : Prop} [Decidable p] (h : ¬ p) : (!decide p) = true := by rw [decide_eq_false h]; rfl
theorem nd_f {p : Prop} [Decidable p] (h : p) : (!decide p) = false := by rw [decide_eq_true h]; rfl
theorem sp_aw_f {wk : Nat → Int32} {mn : Int32} {p : Nat} (h : mn < wk p) : sp_aw wk mn p = false := nd_f h
theorem sp_aw_t {wk : Nat → Int32} {mn : Int32} {p : Nat} (h : ¬ mn < wk p) : sp_aw wk mn p = true := nd_t h
/-! sets below seven -/
def lo7 (x : Int32) : Prop := ∀ i, i < 32 → 7 ≤ i → bt x i = false
theorem b_127 : ∀ i, i < 32 → bt 127 i = decide (i < 7) := by decide +kernel
theorem lo7_n {x : Int32} (h : lo7 x) : ∃ k, k < 128 ∧ x = nI k := by
  have e : x = x &&& 127 := b_ext (fun i hi => by
    rw [b_and, b_127 i hi]
    by_cases h7 : i < 7
    · simp [h7]
    · rw [h i hi (by omega)]; rfl)
  refine ⟨x.toBitVec.toNat % 2 ^ 7, Nat.mod_lt _ (by decide), ?_⟩
  have := pk_and x (m := 127) 7 (by decide)
  rw [← this]; exact e
theorem lo7_set {P : Nat → Bool} {n : Nat} (hn : n ≤ 7) : lo7 (sp_set P n) := fun i hi h => by rw [fb_set (by omega) hi, decide_eq_false (by omega)]; rfl
theorem lo7_and {x z : Int32} (h : lo7 x) : lo7 (x &&& z) := fun i hi h7 => by rw [b_and, h i hi h7]; rfl
theorem lo7_and2 {x z : Int32} (h : lo7 z) : lo7 (x &&& z) := fun i hi h7 => by rw [b_and, h i hi h7]; simp
theorem lo7_or {x z : Int32} (h : lo7 x) (g : lo7 z) : lo7 (x ||| z) := fun i hi h7 => by rw [b_or, h i hi h7, g i hi h7]; rfl
theorem lo7_one {k : Nat} (h : k < 7) : lo7 (sp_one k) := fun i hi h7 => by rw [sp_one, fb_one (by omega) hi, decide_eq_false (by omega)]
def rb (x : Int32) : Int32 := sp_sum (fun k => (x >>> (nI k &&& 31)) &&& 1) 30
theorem rb_n : ∀ k, k < 128 → rb (nI k) = sp_bc (nI k) := by decide +kernel
theorem rb_bc {x : Int32} (h : lo7 x) : rb x = sp_bc x := by obtain ⟨k, hk, rfl⟩ := lo7_n h; exact rb_n k hk
theorem bc_num_n : ∀ k, k < 128 → sp_bc (nI k) = sp_num (bt (nI k)) 7 := by decide +kernel
theorem bc_num {x : Int32} (h : lo7 x) : sp_bc x = sp_num (bt x) 7 := by obtain ⟨k, hk, rfl⟩ := lo7_n h; exact bc_num_n k hk
theorem sp_num_ext {P : Nat → Bool} {n : Nat} : ∀ {k : Nat}, n ≤ k → (∀ i, n ≤ i → i < k → P i = false) → sp_num P k = sp_num P n
  | 0, h, _ => by rw [show n = 0 by omega]
  | k + 1, h, g => by
    by_cases e : n = k + 1
    · rw [e]
    · rw [sp_num, if_neg (by rw [g k (by omega) (by omega)]; decide)]
      exact sp_num_ext (by omega) (fun i h1 h2 => g i h1 (by omega))
theorem bc_and {x : Int32} {P : Nat → Bool} {n : Nat} (hn : n ≤ 7) : sp_bc (x &&& sp_set P n) = sp_num (fun q => sp_in x (nI q) && P q) n := by
  rw [bc_num (lo7_and2 (lo7_set hn))]
  rw [sp_num_ext (n := n) hn (fun i h1 h2 => by rw [b_and, fb_set (by omega) (by omega), decide_eq_false (by omega)]; simp)]
  exact sp_num_congr (fun i hi => by rw [b_and, fb_set (by omega) (by omega), fb_in _ (by omega), decide_eq_true hi]; simp)
/-! the reference's land and state, by their rows -/
def rl (r : Nat → Int32) : fc_Mi := fun x j => if x = 4 then r (6 + j) else if x = 5 then r (13 + 3 * j + 0) else if x = 6 then r (13 + 3 * j + 1) else if x = 7 then r (13 + 3 * j + 2) else if x = 8 then r (28 + 2 * j + 0) else r (28 + 2 * j + 1)
def rv (r : Nat → Int32) (B : Nat) : fc_Mi := fun x j => if x = 0 then r (B + j) else if x = 1 then r (B + 2 + j) else if x = 2 then r (B + 7 + j) else if x = 3 then r (B + 34 + j) else if x = 4 then r (B + 24 + j) else if x = 5 then r (B + 29 + j) else if x = 6 then r (B + 12 + j) else r (B + 18 + j)
/-- the reference holds the land L and, from B on, the state σ -/
def ra (mi : fc_Mi) (B n m t sm : Nat) (L σ : fc_Mi) : Prop := (mi 258 0 = nI m ∧ mi 258 2 = nI n ∧ mi 258 3 = nI t ∧ mi 258 4 = nI sm) ∧ B ≤ 1408 ∧ as_lok n m t sm L ∧ as_ok n m t sm σ ∧ as_lg n m t L (rl (mi 258)) ∧ as_ag n t σ (rv (mi 268) B)
section M48
variable {E : fc_E} {d : Nat} {mi : fc_Mi} {ml : fc_Ml} {mr : fc_Mr} {B n m t sm : Nat} {L σ : fc_Mi}
theorem ra_0 (h : ra mi B n m t sm L σ) : mi 268 (B + 0) = σ 0 0 := h.2.2.2.2.2.1.1.symm
theorem ra_1 (h : ra mi B n m t sm L σ) : mi 268 (B + 1) = σ 0 1 := h.2.2.2.2.2.1.2.symm
theorem ra_w (h : ra mi B n m t sm L σ) {p : Nat} (hp : p < n) : mi 268 (B + 2 + p) = σ 1 p := (h.2.2.2.2.2.2.1 p hp).1.symm
theorem ra_a (h : ra mi B n m t sm L σ) {p : Nat} (hp : p < n) : mi 268 (B + 7 + p) = σ 2 p := (h.2.2.2.2.2.2.1 p hp).2.1.symm
theorem ra_h (h : ra mi B n m t sm L σ) {p : Nat} (hp : p < n) : mi 268 (B + 34 + p) = σ 3 p := (h.2.2.2.2.2.2.1 p hp).2.2.1.symm
theorem ra_v (h : ra mi B n m t sm L σ) {p : Nat} (hp : p < n) : mi 268 (B + 24 + p) = σ 4 p := (h.2.2.2.2.2.2.1 p hp).2.2.2.1.symm
theorem ra_b (h : ra mi B n m t sm L σ) {p : Nat} (hp : p < n) : mi 268 (B + 29 + p) = σ 5 p := (h.2.2.2.2.2.2.1 p hp).2.2.2.2.symm
theorem ra_o (h : ra mi B n m t sm L σ) {q : Nat} (hq : q < t) : mi 268 (B + 12 + q) = σ 6 q := (h.2.2.2.2.2.2.2 q hq).1.symm
theorem ra_r (h : ra mi B n m t sm L σ) {q : Nat} (hq : q < t) : mi 268 (B + 18 + q) = σ 7 q := (h.2.2.2.2.2.2.2 q hq).2.symm
theorem ra_p (h : ra mi B n m t sm L σ) {k : Nat} (hk : k < m) : mi 258 (6 + k) = L 4 k := (h.2.2.2.2.1.1 k hk).symm
theorem ra_l0 (h : ra mi B n m t sm L σ) {p : Nat} (hp : p < n) : mi 258 (13 + 3 * p + 0) = L 5 p := (h.2.2.2.2.1.2.1 p hp).1.symm
theorem ra_l1 (h : ra mi B n m t sm L σ) {p : Nat} (hp : p < n) : mi 258 (13 + 3 * p + 1) = L 6 p := (h.2.2.2.2.1.2.1 p hp).2.1.symm
theorem ra_l2 (h : ra mi B n m t sm L σ) {p : Nat} (hp : p < n) : mi 258 (13 + 3 * p + 2) = L 7 p := (h.2.2.2.2.1.2.1 p hp).2.2.symm
theorem ra_t0 (h : ra mi B n m t sm L σ) {q : Nat} (hq : q < t) : mi 258 (28 + 2 * q + 0) = L 8 q := (h.2.2.2.2.1.2.2 q hq).1.symm
theorem ra_t1 (h : ra mi B n m t sm L σ) {q : Nat} (hq : q < t) : mi 258 (28 + 2 * q + 1) = L 9 q := (h.2.2.2.2.1.2.2 q hq).2.symm
theorem ra_w0 (h : ra mi 0 n m t sm L σ) {p : Nat} (hp : p < n) : mi 268 (2 + p) = σ 1 p := ra_w h hp
theorem ra_a0 (h : ra mi 0 n m t sm L σ) {p : Nat} (hp : p < n) : mi 268 (7 + p) = σ 2 p := ra_a h hp
theorem ra_h0 (h : ra mi 0 n m t sm L σ) {p : Nat} (hp : p < n) : mi 268 (34 + p) = σ 3 p := ra_h h hp
theorem ra_v0 (h : ra mi 0 n m t sm L σ) {p : Nat} (hp : p < n) : mi 268 (24 + p) = σ 4 p := ra_v h hp
theorem ra_b0 (h : ra mi 0 n m t sm L σ) {p : Nat} (hp : p < n) : mi 268 (29 + p) = σ 5 p := ra_b h hp
theorem ra_o0 (h : ra mi 0 n m t sm L σ) {q : Nat} (hq : q < t) : mi 268 (12 + q) = σ 6 q := ra_o h hq
theorem ra_r0 (h : ra mi 0 n m t sm L σ) {q : Nat} (hq : q < t) : mi 268 (18 + q) = σ 7 q := ra_r h hq
theorem ra_10 (h : ra mi 0 n m t sm L σ) : mi 268 1 = σ 0 1 := ra_1 h
theorem ra_00 (h : ra mi 0 n m t sm L σ) : mi 268 0 = σ 0 0 := ra_0 h
/-- what else changes doesn't matter -/
theorem ra.off {mm : fc_Mi} (h : ra mi B n m t sm L σ) (h1 : mm 258 = mi 258) (h2 : mm 268 = mi 268) : ra mm B n m t sm L σ := by unfold ra at *; rw [h1, h2]; exact h
theorem c_rplaces (hW : fc_Wd mr) (hA : ra mi B n m t sm L σ) : fc_R E mX11_places d fc_sh [.ref 252] mi ml mr (fc_is (some (.int (nI m))) mi ml mr) := by
  obtain ⟨⟨e0, e2, e3, e4⟩, hB, hLo, hSo, hLg, hSg⟩ := id hA
  obtain ⟨h5, h7, h6, hs1, hs2, hLp, hLt⟩ := id hLo
  refine fc_met rfl (Nat.le_of_ble_eq_true rfl) (fc_run oX11_places (fun _ => false) 400 ?_)
  refine And.intro rfl (Exists.intro _ (And.intro (hW 252 10 258 rfl) ?_))
  refine Exists.intro _ (Exists.intro _ (And.intro rfl (And.intro (fc_ixn (fc_nl 0) (by omega) (by decide)) ?_)))
  exact ⟨by rw [e0], rfl, rfl, rfl⟩

theorem c_rpersons (hW : fc_Wd mr) (hA : ra mi B n m t sm L σ) : fc_R E mX11_persons d fc_sh [.ref 252] mi ml mr (fc_is (some (.int (nI n))) mi ml mr) := by
  obtain ⟨⟨e0, e2, e3, e4⟩, hB, hLo, hSo, hLg, hSg⟩ := id hA
  obtain ⟨h5, h7, h6, hs1, hs2, hLp, hLt⟩ := id hLo
  refine fc_met rfl (Nat.le_of_ble_eq_true rfl) (fc_run oX11_persons (fun _ => false) 400 ?_)
  refine And.intro rfl (Exists.intro _ (And.intro (hW 252 10 258 rfl) ?_))
  refine Exists.intro _ (Exists.intro _ (And.intro rfl (And.intro (fc_ixn (fc_nl 2) (by omega) (by decide)) ?_)))
  exact ⟨by rw [e2], rfl, rfl, rfl⟩

theorem c_rthings (hW : fc_Wd mr) (hA : ra mi B n m t sm L σ) : fc_R E mX11_things d fc_sh [.ref 252] mi ml mr (fc_is (some (.int (nI t))) mi ml mr) := by
  obtain ⟨⟨e0, e2, e3, e4⟩, hB, hLo, hSo, hLg, hSg⟩ := id hA
  obtain ⟨h5, h7, h6, hs1, hs2, hLp, hLt⟩ := id hLo
  refine fc_met rfl (Nat.le_of_ble_eq_true rfl) (fc_run oX11_things (fun _ => false) 400 ?_)
  refine And.intro rfl (Exists.intro _ (And.intro (hW 252 10 258 rfl) ?_))
  refine Exists.intro _ (Exists.intro _ (And.intro rfl (And.intro (fc_ixn (fc_nl 3) (by omega) (by decide)) ?_)))
  exact ⟨by rw [e3], rfl, rfl, rfl⟩

theorem c_rsmokeAt (hW : fc_Wd mr) (hA : ra mi B n m t sm L σ) : fc_R E mX11_smokeAt d fc_sh [.ref 252] mi ml mr (fc_is (some (.int (nI sm))) mi ml mr) := by
  obtain ⟨⟨e0, e2, e3, e4⟩, hB, hLo, hSo, hLg, hSg⟩ := id hA
  obtain ⟨h5, h7, h6, hs1, hs2, hLp, hLt⟩ := id hLo
  refine fc_met rfl (Nat.le_of_ble_eq_true rfl) (fc_run oX11_smokeAt (fun _ => false) 400 ?_)
  refine And.intro rfl (Exists.intro _ (And.intro (hW 252 10 258 rfl) ?_))
  refine Exists.intro _ (Exists.intro _ (And.intro rfl (And.intro (fc_ixn (fc_nl 4) (by omega) (by decide)) ?_)))
  exact ⟨by rw [e4], rfl, rfl, rfl⟩

theorem c_rpath (hW : fc_Wd mr) (hA : ra mi B n m t sm L σ) {x : Int32} {k : Nat} (hx : x = nI k) (hk : k < m) : fc_R E mX11_pathsFrom d fc_sh [.ref 252, .int x] mi ml mr (fc_is (some (.int (L 4 k))) mi ml mr) := by
  obtain ⟨⟨e0, e2, e3, e4⟩, hB, hLo, hSo, hLg, hSg⟩ := id hA
  obtain ⟨h5, h7, h6, hs1, hs2, hLp, hLt⟩ := id hLo
  refine fc_met rfl (Nat.le_of_ble_eq_true rfl) (fc_run oX11_pathsFrom (fun _ => false) 400 ?_)
  refine And.intro rfl (Exists.intro _ (And.intro (hW 252 10 258 rfl) ?_))
  refine Exists.intro _ (Exists.intro _ (And.intro rfl (And.intro (fc_ixn (fc_na (fc_nl 6) hx) (by omega) (by decide)) ?_)))
  exact ⟨by rw [ra_p hA hk], rfl, rfl, rfl⟩

theorem c_rper0 (hW : fc_Wd mr) (hA : ra mi B n m t sm L σ) {x : Int32} {p : Nat} (hx : x = nI p) (hp : p < n) : fc_R E mX11_personOf d fc_sh [.ref 252, .int x, .int 0] mi ml mr (fc_is (some (.int (L 5 p))) mi ml mr) := by
  obtain ⟨⟨e0, e2, e3, e4⟩, hB, hLo, hSo, hLg, hSg⟩ := id hA
  obtain ⟨h5, h7, h6, hs1, hs2, hLp, hLt⟩ := id hLo
  refine fc_met rfl (Nat.le_of_ble_eq_true rfl) (fc_run oX11_personOf (fun _ => false) 400 ?_)
  refine And.intro rfl (Exists.intro _ (And.intro (hW 252 10 258 rfl) ?_))
  refine Exists.intro _ (Exists.intro _ (And.intro rfl (And.intro (fc_ixn (fc_na (fc_na (fc_nl 13) (fc_nm (fc_nl 3) hx)) (fc_nl 0)) (by omega) (by decide)) ?_)))
  exact ⟨by rw [ra_l0 hA hp], rfl, rfl, rfl⟩

theorem c_rper1 (hW : fc_Wd mr) (hA : ra mi B n m t sm L σ) {x : Int32} {p : Nat} (hx : x = nI p) (hp : p < n) : fc_R E mX11_personOf d fc_sh [.ref 252, .int x, .int 1] mi ml mr (fc_is (some (.int (L 6 p))) mi ml mr) := by
  obtain ⟨⟨e0, e2, e3, e4⟩, hB, hLo, hSo, hLg, hSg⟩ := id hA
  obtain ⟨h5, h7, h6, hs1, hs2, hLp, hLt⟩ := id hLo
  refine fc_met rfl (Nat.le_of_ble_eq_true rfl) (fc_run oX11_personOf (fun _ => false) 400 ?_)
  refine And.intro rfl (Exists.intro _ (And.intro (hW 252 10 258 rfl) ?_))
  refine Exists.intro _ (Exists.intro _ (And.intro rfl (And.intro (fc_ixn (fc_na (fc_na (fc_nl 13) (fc_nm (fc_nl 3) hx)) (fc_nl 1)) (by omega) (by decide)) ?_)))
  exact ⟨by rw [ra_l1 hA hp], rfl, rfl, rfl⟩

theorem c_rper2 (hW : fc_Wd mr) (hA : ra mi B n m t sm L σ) {x : Int32} {p : Nat} (hx : x = nI p) (hp : p < n) : fc_R E mX11_personOf d fc_sh [.ref 252, .int x, .int 2] mi ml mr (fc_is (some (.int (L 7 p))) mi ml mr) := by
  obtain ⟨⟨e0, e2, e3, e4⟩, hB, hLo, hSo, hLg, hSg⟩ := id hA
  obtain ⟨h5, h7, h6, hs1, hs2, hLp, hLt⟩ := id hLo
  refine fc_met rfl (Nat.le_of_ble_eq_true rfl) (fc_run oX11_personOf (fun _ => false) 400 ?_)
  refine And.intro rfl (Exists.intro _ (And.intro (hW 252 10 258 rfl) ?_))
  refine Exists.intro _ (Exists.intro _ (And.intro rfl (And.intro (fc_ixn (fc_na (fc_na (fc_nl 13) (fc_nm (fc_nl 3) hx)) (fc_nl 2)) (by omega) (by decide)) ?_)))
  exact ⟨by rw [ra_l2 hA hp], rfl, rfl, rfl⟩

theorem c_rthi0 (hW : fc_Wd mr) (hA : ra mi B n m t sm L σ) {x : Int32} {q : Nat} (hx : x = nI q) (hq : q < t) : fc_R E mX11_thingOf d fc_sh [.ref 252, .int x, .int 0] mi ml mr (fc_is (some (.int (L 8 q))) mi ml mr) := by
  obtain ⟨⟨e0, e2, e3, e4⟩, hB, hLo, hSo, hLg, hSg⟩ := id hA
  obtain ⟨h5, h7, h6, hs1, hs2, hLp, hLt⟩ := id hLo
  refine fc_met rfl (Nat.le_of_ble_eq_true rfl) (fc_run oX11_thingOf (fun _ => false) 400 ?_)
  refine And.intro rfl (Exists.intro _ (And.intro (hW 252 10 258 rfl) ?_))
  refine Exists.intro _ (Exists.intro _ (And.intro rfl (And.intro (fc_ixn (fc_na (fc_na (fc_nl 28) (fc_nm (fc_nl 2) hx)) (fc_nl 0)) (by omega) (by decide)) ?_)))
  exact ⟨by rw [ra_t0 hA hq], rfl, rfl, rfl⟩

theorem c_rthi1 (hW : fc_Wd mr) (hA : ra mi B n m t sm L σ) {x : Int32} {q : Nat} (hx : x = nI q) (hq : q < t) : fc_R E mX11_thingOf d fc_sh [.ref 252, .int x, .int 1] mi ml mr (fc_is (some (.int (L 9 q))) mi ml mr) := by
  obtain ⟨⟨e0, e2, e3, e4⟩, hB, hLo, hSo, hLg, hSg⟩ := id hA
  obtain ⟨h5, h7, h6, hs1, hs2, hLp, hLt⟩ := id hLo
  refine fc_met rfl (Nat.le_of_ble_eq_true rfl) (fc_run oX11_thingOf (fun _ => false) 400 ?_)
  refine And.intro rfl (Exists.intro _ (And.intro (hW 252 10 258 rfl) ?_))
  refine Exists.intro _ (Exists.intro _ (And.intro rfl (And.intro (fc_ixn (fc_na (fc_na (fc_nl 28) (fc_nm (fc_nl 2) hx)) (fc_nl 1)) (by omega) (by decide)) ?_)))
  exact ⟨by rw [ra_t1 hA hq], rfl, rfl, rfl⟩

theorem c_risPlace (hW : fc_Wd mr) (hA : ra mi B n m t sm L σ) (x : Int32) : fc_R E mX11_isPlace (d + 1) fc_sh [.ref 252, .int x] mi ml mr (fc_is (some (.int (fc_b (sp_has (nI m) x)))) mi ml mr) := by
  obtain ⟨⟨e0, e2, e3, e4⟩, hB, hLo, hSo, hLg, hSg⟩ := id hA
  obtain ⟨h5, h7, h6, hs1, hs2, hLp, hLt⟩ := id hLo
  refine fc_met rfl (Nat.le_of_ble_eq_true rfl) (fc_run oX11_isPlace (fun _ => false) 400 ?_)
  refine And.intro (fun h1 => ?_) (fun h1 => ?_)
  · refine And.intro (by first | exact Or.inl rfl | exact Or.inr rfl | exact fc_bb _ | assumption) ?_
    exact ⟨by rw [sp_has, decide_eq_true h1]; rfl, rfl, rfl, rfl⟩
  · refine And.intro rfl (Exists.intro _ (And.intro (c_rplaces hW hA) ?_))
    rintro _ _ _ _ ⟨rfl, rfl, rfl, rfl⟩
    refine And.intro (fun h9 => ?_) (fun h9 => ?_)
    · refine And.intro (by first | exact Or.inl rfl | exact Or.inr rfl | exact fc_bb _ | assumption) ?_
      exact ⟨by rw [sp_has, decide_eq_false h1, decide_eq_true h9]; rfl, rfl, rfl, rfl⟩
    · refine And.intro (by first | exact Or.inl rfl | exact Or.inr rfl | exact fc_bb _ | assumption) ?_
      exact ⟨by rw [sp_has, decide_eq_false h1, decide_eq_false h9]; rfl, rfl, rfl, rfl⟩

theorem c_risPerson (hW : fc_Wd mr) (hA : ra mi B n m t sm L σ) (x : Int32) : fc_R E mX11_isPerson (d + 1) fc_sh [.ref 252, .int x] mi ml mr (fc_is (some (.int (fc_b (sp_has (nI n) x)))) mi ml mr) := by
  obtain ⟨⟨e0, e2, e3, e4⟩, hB, hLo, hSo, hLg, hSg⟩ := id hA
  obtain ⟨h5, h7, h6, hs1, hs2, hLp, hLt⟩ := id hLo
  refine fc_met rfl (Nat.le_of_ble_eq_true rfl) (fc_run oX11_isPerson (fun _ => false) 400 ?_)
  refine And.intro (fun h1 => ?_) (fun h1 => ?_)
  · refine And.intro (by first | exact Or.inl rfl | exact Or.inr rfl | exact fc_bb _ | assumption) ?_
    exact ⟨by rw [sp_has, decide_eq_true h1]; rfl, rfl, rfl, rfl⟩
  · refine And.intro rfl (Exists.intro _ (And.intro (c_rpersons hW hA) ?_))
    rintro _ _ _ _ ⟨rfl, rfl, rfl, rfl⟩
    refine And.intro (fun h9 => ?_) (fun h9 => ?_)
    · refine And.intro (by first | exact Or.inl rfl | exact Or.inr rfl | exact fc_bb _ | assumption) ?_
      exact ⟨by rw [sp_has, decide_eq_false h1, decide_eq_true h9]; rfl, rfl, rfl, rfl⟩
    · refine And.intro (by first | exact Or.inl rfl | exact Or.inr rfl | exact fc_bb _ | assumption) ?_
      exact ⟨by rw [sp_has, decide_eq_false h1, decide_eq_false h9]; rfl, rfl, rfl, rfl⟩

theorem c_risThing (hW : fc_Wd mr) (hA : ra mi B n m t sm L σ) (x : Int32) : fc_R E mX11_isThing (d + 1) fc_sh [.ref 252, .int x] mi ml mr (fc_is (some (.int (fc_b (sp_has (nI t) x)))) mi ml mr) := by
  obtain ⟨⟨e0, e2, e3, e4⟩, hB, hLo, hSo, hLg, hSg⟩ := id hA
  obtain ⟨h5, h7, h6, hs1, hs2, hLp, hLt⟩ := id hLo
  refine fc_met rfl (Nat.le_of_ble_eq_true rfl) (fc_run oX11_isThing (fun _ => false) 400 ?_)
  refine And.intro (fun h1 => ?_) (fun h1 => ?_)
  · refine And.intro (by first | exact Or.inl rfl | exact Or.inr rfl | exact fc_bb _ | assumption) ?_
    exact ⟨by rw [sp_has, decide_eq_true h1]; rfl, rfl, rfl, rfl⟩
  · refine And.intro rfl (Exists.intro _ (And.intro (c_rthings hW hA) ?_))
    rintro _ _ _ _ ⟨rfl, rfl, rfl, rfl⟩
    refine And.intro (fun h9 => ?_) (fun h9 => ?_)
    · refine And.intro (by first | exact Or.inl rfl | exact Or.inr rfl | exact fc_bb _ | assumption) ?_
      exact ⟨by rw [sp_has, decide_eq_false h1, decide_eq_true h9]; rfl, rfl, rfl, rfl⟩
    · refine And.intro (by first | exact Or.inl rfl | exact Or.inr rfl | exact fc_bb _ | assumption) ?_
      exact ⟨by rw [sp_has, decide_eq_false h1, decide_eq_false h9]; rfl, rfl, rfl, rfl⟩

theorem c_rwithin (x lo hi : Int32) : fc_R E mX11_within d fc_sh [.int x, .int lo, .int hi] mi ml mr (fc_is (some (.int (fc_b (sp_from lo x hi)))) mi ml mr) := by
  refine fc_met rfl (Nat.le_of_ble_eq_true rfl) (fc_run oX11_within (fun _ => false) 400 ?_)
  refine And.intro (fun h2 => ?_) (fun h2 => ?_)
  · refine And.intro (by first | exact Or.inl rfl | exact Or.inr rfl | exact fc_bb _ | assumption) ?_
    exact ⟨by rw [sp_from, decide_eq_true h2]; rfl, rfl, rfl, rfl⟩
  · refine And.intro (fun h7 => ?_) (fun h7 => ?_)
    · refine And.intro (by first | exact Or.inl rfl | exact Or.inr rfl | exact fc_bb _ | assumption) ?_
      exact ⟨by rw [sp_from, decide_eq_false h2, decide_eq_true h7]; rfl, rfl, rfl, rfl⟩
    · refine And.intro (by first | exact Or.inl rfl | exact Or.inr rfl | exact fc_bb _ | assumption) ?_
      exact ⟨by rw [sp_from, decide_eq_false h2, decide_eq_false h7]; rfl, rfl, rfl, rfl⟩

theorem c_rtold (x : Int32) : fc_R E mX11_told d fc_sh [.int x] mi ml mr (fc_is (some (.int (sp_non x))) mi ml mr) := by
  refine fc_met rfl (Nat.le_of_ble_eq_true rfl) (fc_run oX11_told (fun _ => false) 400 ?_)
  refine And.intro (fun h3 => ?_) (fun h3 => ?_)
  · exact ⟨by rw [sp_non, if_neg (Int32.not_lt.mpr h3)], rfl, rfl, rfl⟩
  · exact ⟨by rw [sp_non, if_pos (Int32.not_le.mp h3)], rfl, rfl, rfl⟩

theorem l_rbits {x : Int32} (hx : lo7 x) : ∀ (j i : Nat) (c : Int32) (acc : Int32), i + j = 30 → c = nI i → acc = sp_sum (fun k => (x >>> (nI k &&& 31)) &&& 1) i → fc_T E mX11_bits d (0, 0) fc_sh 4 [some (.int x), some (.int acc), some (.int c)] [] mi ml mr (fc_is (some (.int (sp_bc x))) mi ml mr) := by
  intro j
  induction j with
  | zero =>
    intro i c acc  hi hc h_acc
    subst hc
    
    refine fc_run oX11_bits (fun pc => pc == 4) 400 ?_
    refine And.intro (fun h7 => ?_) (fun h7 => ?_)
    · exact ⟨by rw [← rb_bc hx, h_acc, show i = 30 by omega]; rfl, rfl, rfl, rfl⟩
    · exact absurd (nI_le (a := 30) (b := i) (by omega) (by omega)) h7
  | succ j ih =>
    intro i c acc  hi hc h_acc
    subst hc
    
    refine fc_run oX11_bits (fun pc => pc == 4) 400 ?_
    refine And.intro (fun h7 => ?_) (fun h7 => ?_)
    · exact absurd h7 (nI_ge (a := i) (b := 30) (by omega) (by omega))
    · exact ih (i + 1) _ _ (by omega) (fc_inc i) (by rw [h_acc]; rfl)

theorem c_rbits {x : Int32} (hx : lo7 x) : fc_R E mX11_bits d fc_sh [.int x] mi ml mr (fc_is (some (.int (sp_bc x))) mi ml mr) := by
  refine fc_met rfl (Nat.le_of_ble_eq_true rfl) (fc_run oX11_bits (fun pc => pc == 4) 400 ?_)
  exact l_rbits hx 30 0 _ _ (by omega) rfl rfl

theorem l_rawakeAt (hW : fc_Wd mr) (hA : ra mi B n m t sm L σ) (mn : Int32) : ∀ (j i : Nat) (c : Int32) (acc : Int32), i + j = n → c = nI i → acc = sp_set (sp_aw (L 7) mn) i → fc_T E mX11_awakeAt (d + 1) (0, 0) fc_sh 4 [some (.ref 252), some (.int mn), some (.int acc), some (.int c)] [] mi ml mr (fc_is (some (.int (sp_set (sp_aw (L 7) mn) n))) mi ml mr) := by
  intro j
  induction j with
  | zero =>
    intro i c acc  hi hc h_acc
    subst hc
    obtain ⟨⟨e0, e2, e3, e4⟩, hB, hLo, hSo, hLg, hSg⟩ := id hA
    obtain ⟨h5, h7, h6, hs1, hs2, hLp, hLt⟩ := id hLo
    refine fc_run oX11_awakeAt (fun pc => pc == 4) 400 ?_
    refine And.intro rfl (Exists.intro _ (And.intro (c_rpersons hW hA) ?_))
    rintro _ _ _ _ ⟨rfl, rfl, rfl, rfl⟩
    refine And.intro (fun h9 => ?_) (fun h9 => ?_)
    · exact ⟨by rw [h_acc, show i = n by omega], rfl, rfl, rfl⟩
    · exact absurd (nI_le (by omega) (by omega)) h9
  | succ j ih =>
    intro i c acc  hi hc h_acc
    subst hc
    obtain ⟨⟨e0, e2, e3, e4⟩, hB, hLo, hSo, hLg, hSg⟩ := id hA
    obtain ⟨h5, h7, h6, hs1, hs2, hLp, hLt⟩ := id hLo
    refine fc_run oX11_awakeAt (fun pc => pc == 4) 400 ?_
    refine And.intro rfl (Exists.intro _ (And.intro (c_rpersons hW hA) ?_))
    rintro _ _ _ _ ⟨rfl, rfl, rfl, rfl⟩
    refine And.intro (fun h9 => ?_) (fun h9 => ?_)
    · exact absurd h9 (nI_ge (by omega) (by omega))
    · refine And.intro rfl (Exists.intro _ (And.intro (c_rper2 hW hA rfl (by omega)) ?_))
      rintro _ _ _ _ ⟨rfl, rfl, rfl, rfl⟩
      refine And.intro (fun h20 => ?_) (fun h20 => ?_)
      · exact ih (i + 1) _ _ (by omega) (fc_inc i) (by rw [h_acc, fc_or0]; exact sp_set_f (P := sp_aw (L 7) mn) (sp_aw_f h20))
      · exact ih (i + 1) _ _ (by omega) (fc_inc i) (by rw [h_acc]; exact sp_set_t (P := sp_aw (L 7) mn) (sp_aw_t h20))

theorem c_rawakeAt (hW : fc_Wd mr) (hA : ra mi B n m t sm L σ) (mn : Int32) : fc_R E mX11_awakeAt (d + 1) fc_sh [.ref 252, .int mn] mi ml mr (fc_is (some (.int (sp_set (sp_aw (L 7) mn) n))) mi ml mr) := by
  obtain ⟨⟨e0, e2, e3, e4⟩, hB, hLo, hSo, hLg, hSg⟩ := id hA
  obtain ⟨h5, h7, h6, hs1, hs2, hLp, hLt⟩ := id hLo
  refine fc_met rfl (Nat.le_of_ble_eq_true rfl) (fc_run oX11_awakeAt (fun pc => pc == 4) 400 ?_)
  exact l_rawakeAt hW hA mn n 0 _ _ (by omega) rfl rfl

theorem l_rwhoIn (hW : fc_Wd mr) (hA : ra mi B n m t sm L σ) {y : Int32} (hy : y = nI B) (k : Int32) : ∀ (j i : Nat) (c : Int32) (acc : Int32), i + j = n → c = nI i → acc = sp_set (fun p => decide (σ 1 p = k)) i → fc_T E mX11_whoIn (d + 1) (0, 0) fc_sh 5 [some (.ref 252), some (.int y), some (.int k), some (.int acc), some (.int c)] [] mi ml mr (fc_is (some (.int (sp_set (fun p => decide (σ 1 p = k)) n))) mi ml mr) := by
  intro j
  induction j with
  | zero =>
    intro i c acc  hi hc h_acc
    subst hc
    obtain ⟨⟨e0, e2, e3, e4⟩, hB, hLo, hSo, hLg, hSg⟩ := id hA
    obtain ⟨h5, h7, h6, hs1, hs2, hLp, hLt⟩ := id hLo
    refine fc_run oX11_whoIn (fun pc => pc == 5) 400 ?_
    refine And.intro rfl (Exists.intro _ (And.intro (c_rpersons hW hA) ?_))
    rintro _ _ _ _ ⟨rfl, rfl, rfl, rfl⟩
    refine And.intro (fun h11 => ?_) (fun h11 => ?_)
    · exact ⟨by rw [h_acc, show i = n by omega], rfl, rfl, rfl⟩
    · exact absurd (nI_le (by omega) (by omega)) h11
  | succ j ih =>
    intro i c acc  hi hc h_acc
    subst hc
    obtain ⟨⟨e0, e2, e3, e4⟩, hB, hLo, hSo, hLg, hSg⟩ := id hA
    obtain ⟨h5, h7, h6, hs1, hs2, hLp, hLt⟩ := id hLo
    refine fc_run oX11_whoIn (fun pc => pc == 5) 400 ?_
    refine And.intro rfl (Exists.intro _ (And.intro (c_rpersons hW hA) ?_))
    rintro _ _ _ _ ⟨rfl, rfl, rfl, rfl⟩
    refine And.intro (fun h11 => ?_) (fun h11 => ?_)
    · exact absurd h11 (nI_ge (by omega) (by omega))
    · refine And.intro rfl (Exists.intro _ (And.intro (hW 252 24 268 rfl) ?_))
      refine Exists.intro _ (Exists.intro _ (And.intro rfl (And.intro (fc_ixn (fc_na (fc_na hy (fc_nl 2)) rfl) (by omega) (by decide)) ?_)))
      refine And.intro (fun h27 => ?_) (fun h27 => ?_)
      · rw [ra_w hA (show i < n by omega)] at h27
        exact ih (i + 1) _ _ (by omega) (fc_inc i) (by rw [h_acc]; exact sp_set_t (P := fun p => decide (σ 1 p = k)) (decide_eq_true h27))
      · rw [ra_w hA (show i < n by omega)] at h27
        exact ih (i + 1) _ _ (by omega) (fc_inc i) (by rw [h_acc, fc_or0]; exact sp_set_f (P := fun p => decide (σ 1 p = k)) (decide_eq_false h27))

theorem c_rwhoIn (hW : fc_Wd mr) (hA : ra mi B n m t sm L σ) {y : Int32} (hy : y = nI B) (k : Int32) : fc_R E mX11_whoIn (d + 1) fc_sh [.ref 252, .int y, .int k] mi ml mr (fc_is (some (.int (sp_set (fun p => decide (σ 1 p = k)) n))) mi ml mr) := by
  obtain ⟨⟨e0, e2, e3, e4⟩, hB, hLo, hSo, hLg, hSg⟩ := id hA
  obtain ⟨h5, h7, h6, hs1, hs2, hLp, hLt⟩ := id hLo
  refine fc_met rfl (Nat.le_of_ble_eq_true rfl) (fc_run oX11_whoIn (fun pc => pc == 5) 400 ?_)
  exact l_rwhoIn hW hA hy k n 0 _ _ (by omega) rfl rfl

theorem l_rbenches (hW : fc_Wd mr) (hA : ra mi B n m t sm L σ) : ∀ (j i : Nat) (c : Int32) (acc : Int32), i + j = n → c = nI i → acc = sp_set (fun p => decide (L 5 p = 1)) i → fc_T E mX11_benches (d + 1) (0, 0) fc_sh 4 [some (.ref 252), some (.int acc), some (.int c)] [] mi ml mr (fc_is (some (.int (sp_set (fun p => decide (L 5 p = 1)) n))) mi ml mr) := by
  intro j
  induction j with
  | zero =>
    intro i c acc  hi hc h_acc
    subst hc
    obtain ⟨⟨e0, e2, e3, e4⟩, hB, hLo, hSo, hLg, hSg⟩ := id hA
    obtain ⟨h5, h7, h6, hs1, hs2, hLp, hLt⟩ := id hLo
    refine fc_run oX11_benches (fun pc => pc == 4) 400 ?_
    refine And.intro rfl (Exists.intro _ (And.intro (c_rpersons hW hA) ?_))
    rintro _ _ _ _ ⟨rfl, rfl, rfl, rfl⟩
    refine And.intro (fun h9 => ?_) (fun h9 => ?_)
    · exact ⟨by rw [h_acc, show i = n by omega], rfl, rfl, rfl⟩
    · exact absurd (nI_le (by omega) (by omega)) h9
  | succ j ih =>
    intro i c acc  hi hc h_acc
    subst hc
    obtain ⟨⟨e0, e2, e3, e4⟩, hB, hLo, hSo, hLg, hSg⟩ := id hA
    obtain ⟨h5, h7, h6, hs1, hs2, hLp, hLt⟩ := id hLo
    refine fc_run oX11_benches (fun pc => pc == 4) 400 ?_
    refine And.intro rfl (Exists.intro _ (And.intro (c_rpersons hW hA) ?_))
    rintro _ _ _ _ ⟨rfl, rfl, rfl, rfl⟩
    refine And.intro (fun h9 => ?_) (fun h9 => ?_)
    · exact absurd h9 (nI_ge (by omega) (by omega))
    · refine And.intro rfl (Exists.intro _ (And.intro (c_rper0 hW hA rfl (by omega)) ?_))
      rintro _ _ _ _ ⟨rfl, rfl, rfl, rfl⟩
      refine And.intro (fun h20 => ?_) (fun h20 => ?_)
      · exact ih (i + 1) _ _ (by omega) (fc_inc i) (by rw [h_acc]; exact sp_set_t (P := fun p => decide (L 5 p = 1)) (decide_eq_true h20))
      · exact ih (i + 1) _ _ (by omega) (fc_inc i) (by rw [h_acc, fc_or0]; exact sp_set_f (P := fun p => decide (L 5 p = 1)) (decide_eq_false h20))

theorem c_rbenches (hW : fc_Wd mr) (hA : ra mi B n m t sm L σ) : fc_R E mX11_benches (d + 1) fc_sh [.ref 252] mi ml mr (fc_is (some (.int (sp_set (fun p => decide (L 5 p = 1)) n))) mi ml mr) := by
  obtain ⟨⟨e0, e2, e3, e4⟩, hB, hLo, hSo, hLg, hSg⟩ := id hA
  obtain ⟨h5, h7, h6, hs1, hs2, hLp, hLt⟩ := id hLo
  refine fc_met rfl (Nat.le_of_ble_eq_true rfl) (fc_run oX11_benches (fun pc => pc == 4) 400 ?_)
  exact l_rbenches hW hA n 0 _ _ (by omega) rfl rfl

theorem l_rthingsWith (hW : fc_Wd mr) (hA : ra mi B n m t sm L σ) {y : Int32} (hy : y = nI B) (k : Int32) : ∀ (j i : Nat) (c : Int32) (acc : Int32), i + j = t → c = nI i → acc = sp_set (fun q => decide (σ 6 q = k)) i → fc_T E mX11_thingsWith (d + 1) (0, 0) fc_sh 5 [some (.ref 252), some (.int y), some (.int k), some (.int acc), some (.int c)] [] mi ml mr (fc_is (some (.int (sp_set (fun q => decide (σ 6 q = k)) t))) mi ml mr) := by
  intro j
  induction j with
  | zero =>
    intro i c acc  hi hc h_acc
    subst hc
    obtain ⟨⟨e0, e2, e3, e4⟩, hB, hLo, hSo, hLg, hSg⟩ := id hA
    obtain ⟨h5, h7, h6, hs1, hs2, hLp, hLt⟩ := id hLo
    refine fc_run oX11_thingsWith (fun pc => pc == 5) 400 ?_
    refine And.intro rfl (Exists.intro _ (And.intro (c_rthings hW hA) ?_))
    rintro _ _ _ _ ⟨rfl, rfl, rfl, rfl⟩
    refine And.intro (fun h11 => ?_) (fun h11 => ?_)
    · exact ⟨by rw [h_acc, show i = t by omega], rfl, rfl, rfl⟩
    · exact absurd (nI_le (by omega) (by omega)) h11
  | succ j ih =>
    intro i c acc  hi hc h_acc
    subst hc
    obtain ⟨⟨e0, e2, e3, e4⟩, hB, hLo, hSo, hLg, hSg⟩ := id hA
    obtain ⟨h5, h7, h6, hs1, hs2, hLp, hLt⟩ := id hLo
    refine fc_run oX11_thingsWith (fun pc => pc == 5) 400 ?_
    refine And.intro rfl (Exists.intro _ (And.intro (c_rthings hW hA) ?_))
    rintro _ _ _ _ ⟨rfl, rfl, rfl, rfl⟩
    refine And.intro (fun h11 => ?_) (fun h11 => ?_)
    · exact absurd h11 (nI_ge (by omega) (by omega))
    · refine And.intro rfl (Exists.intro _ (And.intro (hW 252 24 268 rfl) ?_))
      refine Exists.intro _ (Exists.intro _ (And.intro rfl (And.intro (fc_ixn (fc_na (fc_na hy (fc_nl 12)) rfl) (by omega) (by decide)) ?_)))
      refine And.intro (fun h28 => ?_) (fun h28 => ?_)
      · rw [ra_o hA (show i < t by omega)] at h28
        exact ih (i + 1) _ _ (by omega) (fc_inc i) (by rw [h_acc]; exact sp_set_t (P := fun q => decide (σ 6 q = k)) (decide_eq_true h28))
      · rw [ra_o hA (show i < t by omega)] at h28
        exact ih (i + 1) _ _ (by omega) (fc_inc i) (by rw [h_acc, fc_or0]; exact sp_set_f (P := fun q => decide (σ 6 q = k)) (decide_eq_false h28))

theorem c_rthingsWith (hW : fc_Wd mr) (hA : ra mi B n m t sm L σ) {y : Int32} (hy : y = nI B) (k : Int32) : fc_R E mX11_thingsWith (d + 1) fc_sh [.ref 252, .int y, .int k] mi ml mr (fc_is (some (.int (sp_set (fun q => decide (σ 6 q = k)) t))) mi ml mr) := by
  obtain ⟨⟨e0, e2, e3, e4⟩, hB, hLo, hSo, hLg, hSg⟩ := id hA
  obtain ⟨h5, h7, h6, hs1, hs2, hLp, hLt⟩ := id hLo
  refine fc_met rfl (Nat.le_of_ble_eq_true rfl) (fc_run oX11_thingsWith (fun pc => pc == 5) 400 ?_)
  exact l_rthingsWith hW hA hy k t 0 _ _ (by omega) rfl rfl

theorem l_rwrongThings (hW : fc_Wd mr) (hA : ra mi B n m t sm L σ) {y : Int32} (hy : y = nI B) : ∀ (j i : Nat) (c : Int32) (acc : Int32), i + j = t → c = nI i → acc = sp_set (fun q => !decide (σ 6 q = σ 7 q)) i → fc_T E mX11_wrongThings (d + 1) (0, 0) fc_sh 4 [some (.ref 252), some (.int y), some (.int acc), some (.int c)] [] mi ml mr (fc_is (some (.int (sp_set (fun q => !decide (σ 6 q = σ 7 q)) t))) mi ml mr) := by
  intro j
  induction j with
  | zero =>
    intro i c acc  hi hc h_acc
    subst hc
    obtain ⟨⟨e0, e2, e3, e4⟩, hB, hLo, hSo, hLg, hSg⟩ := id hA
    obtain ⟨h5, h7, h6, hs1, hs2, hLp, hLt⟩ := id hLo
    refine fc_run oX11_wrongThings (fun pc => pc == 4) 400 ?_
    refine And.intro rfl (Exists.intro _ (And.intro (c_rthings hW hA) ?_))
    rintro _ _ _ _ ⟨rfl, rfl, rfl, rfl⟩
    refine And.intro (fun h9 => ?_) (fun h9 => ?_)
    · exact ⟨by rw [h_acc, show i = t by omega], rfl, rfl, rfl⟩
    · exact absurd (nI_le (by omega) (by omega)) h9
  | succ j ih =>
    intro i c acc  hi hc h_acc
    subst hc
    obtain ⟨⟨e0, e2, e3, e4⟩, hB, hLo, hSo, hLg, hSg⟩ := id hA
    obtain ⟨h5, h7, h6, hs1, hs2, hLp, hLt⟩ := id hLo
    refine fc_run oX11_wrongThings (fun pc => pc == 4) 400 ?_
    refine And.intro rfl (Exists.intro _ (And.intro (c_rthings hW hA) ?_))
    rintro _ _ _ _ ⟨rfl, rfl, rfl, rfl⟩
    refine And.intro (fun h9 => ?_) (fun h9 => ?_)
    · exact absurd h9 (nI_ge (by omega) (by omega))
    · refine And.intro rfl (Exists.intro _ (And.intro (hW 252 24 268 rfl) ?_))
      refine Exists.intro _ (Exists.intro _ (And.intro rfl (And.intro (fc_ixn (fc_na (fc_na hy (fc_nl 12)) rfl) (by omega) (by decide)) ?_)))
      refine And.intro rfl (Exists.intro _ (And.intro (hW 252 24 268 rfl) ?_))
      refine Exists.intro _ (Exists.intro _ (And.intro rfl (And.intro (fc_ixn (fc_na (fc_na hy (fc_nl 18)) rfl) (by omega) (by decide)) ?_)))
      refine And.intro (fun h35 => ?_) (fun h35 => ?_)
      · rw [ra_o hA (show i < t by omega), ra_r hA (show i < t by omega)] at h35
        exact ih (i + 1) _ _ (by omega) (fc_inc i) (by rw [h_acc, fc_or0]; exact sp_set_f (P := fun q => !decide (σ 6 q = σ 7 q)) (nd_f h35))
      · rw [ra_o hA (show i < t by omega), ra_r hA (show i < t by omega)] at h35
        exact ih (i + 1) _ _ (by omega) (fc_inc i) (by rw [h_acc]; exact sp_set_t (P := fun q => !decide (σ 6 q = σ 7 q)) (nd_t h35))

theorem c_rwrongThings (hW : fc_Wd mr) (hA : ra mi B n m t sm L σ) {y : Int32} (hy : y = nI B) : fc_R E mX11_wrongThings (d + 1) fc_sh [.ref 252, .int y] mi ml mr (fc_is (some (.int (sp_set (fun q => !decide (σ 6 q = σ 7 q)) t))) mi ml mr) := by
  obtain ⟨⟨e0, e2, e3, e4⟩, hB, hLo, hSo, hLg, hSg⟩ := id hA
  obtain ⟨h5, h7, h6, hs1, hs2, hLp, hLt⟩ := id hLo
  refine fc_met rfl (Nat.le_of_ble_eq_true rfl) (fc_run oX11_wrongThings (fun pc => pc == 4) 400 ?_)
  exact l_rwrongThings hW hA hy t 0 _ _ (by omega) rfl rfl

theorem c_risAwake (hW : fc_Wd mr) (hA : ra mi B n m t sm L σ) {y : Int32} (hy : y = nI B) {x : Int32} {p : Nat} (hx : x = nI p) (hp : p < n) : fc_R E mX11_isAwake (d + 1) fc_sh [.ref 252, .int y, .int x] mi ml mr (fc_is (some (.int (fc_b (sp_aw (L 7) (σ 0 1) p)))) mi ml mr) := by
  obtain ⟨⟨e0, e2, e3, e4⟩, hB, hLo, hSo, hLg, hSg⟩ := id hA
  obtain ⟨h5, h7, h6, hs1, hs2, hLp, hLt⟩ := id hLo
  refine fc_met rfl (Nat.le_of_ble_eq_true rfl) (fc_run oX11_isAwake (fun _ => false) 400 ?_)
  refine And.intro rfl (Exists.intro _ (And.intro (c_rper2 hW hA hx (by omega)) ?_))
  rintro _ _ _ _ ⟨rfl, rfl, rfl, rfl⟩
  refine And.intro rfl (Exists.intro _ (And.intro (hW 252 24 268 rfl) ?_))
  refine Exists.intro _ (Exists.intro _ (And.intro rfl (And.intro (fc_ixn (fc_na hy (fc_nl 1)) (by omega) (by decide)) ?_)))
  refine And.intro (fun h14 => ?_) (fun h14 => ?_)
  · rw [ra_1 hA] at h14
    refine And.intro (by first | exact Or.inl rfl | exact Or.inr rfl | exact fc_bb _ | assumption) ?_
    exact ⟨by rw [sp_aw_f h14]; rfl, rfl, rfl, rfl⟩
  · rw [ra_1 hA] at h14
    refine And.intro (by first | exact Or.inl rfl | exact Or.inr rfl | exact fc_bb _ | assumption) ?_
    exact ⟨by rw [sp_aw_t h14]; rfl, rfl, rfl, rfl⟩

theorem c_risReady (hW : fc_Wd mr) (hA : ra mi B n m t sm L σ) {y : Int32} (hy : y = nI B) {x : Int32} {p : Nat} (hx : x = nI p) (hp : p < n) : fc_R E mX11_isReady (d + 2) fc_sh [.ref 252, .int y, .int x] mi ml mr (fc_is (some (.int (fc_b (sp_rd (L 7) (σ 2) (σ 0 1) p)))) mi ml mr) := by
  obtain ⟨⟨e0, e2, e3, e4⟩, hB, hLo, hSo, hLg, hSg⟩ := id hA
  obtain ⟨h5, h7, h6, hs1, hs2, hLp, hLt⟩ := id hLo
  refine fc_met rfl (Nat.le_of_ble_eq_true rfl) (fc_run oX11_isReady (fun _ => false) 400 ?_)
  refine And.intro rfl (Exists.intro _ (And.intro (c_risAwake hW hA hy hx (by omega)) ?_))
  rintro _ _ _ _ ⟨rfl, rfl, rfl, rfl⟩
  refine And.intro (fun h6 => ?_) (fun h6 => ?_)
  · replace h6 := fc_b0.mp h6
    refine And.intro (by first | exact Or.inl rfl | exact Or.inr rfl | exact fc_bb _ | assumption) ?_
    exact ⟨by rw [sp_rd, h6]; rfl, rfl, rfl, rfl⟩
  · replace h6 := fc_b1.mp h6
    refine And.intro rfl (Exists.intro _ (And.intro (hW 252 24 268 rfl) ?_))
    refine Exists.intro _ (Exists.intro _ (And.intro rfl (And.intro (fc_ixn (fc_na (fc_na hy (fc_nl 7)) hx) (by omega) (by decide)) ?_)))
    refine And.intro (fun h20 => ?_) (fun h20 => ?_)
    · rw [ra_a hA hp] at h20
      refine And.intro (by first | exact Or.inl rfl | exact Or.inr rfl | exact fc_bb _ | assumption) ?_
      exact ⟨by rw [sp_rd, h6, decide_eq_true h20]; rfl, rfl, rfl, rfl⟩
    · rw [ra_a hA hp] at h20
      refine And.intro (by first | exact Or.inl rfl | exact Or.inr rfl | exact fc_bb _ | assumption) ?_
      exact ⟨by rw [sp_rd, h6, decide_eq_false h20]; rfl, rfl, rfl, rfl⟩

theorem c_rmayWalk (hW : fc_Wd mr) (hA : ra mi B n m t sm L σ) {y : Int32} (hy : y = nI B) {x : Int32} {p : Nat} (hx : x = nI p) (hp : p < n) (k : Int32) : fc_R E mX11_mayWalk (d + 3) fc_sh [.ref 252, .int y, .int x, .int k] mi ml mr (fc_is (some (.int (fc_b (sp_rd (L 7) (σ 2) (σ 0 1) p && sp_in (L 4 (σ 1 p).toNatClampNeg) k)))) mi ml mr) := by
  obtain ⟨⟨e0, e2, e3, e4⟩, hB, hLo, hSo, hLg, hSg⟩ := id hA
  obtain ⟨h5, h7, h6, hs1, hs2, hLp, hLt⟩ := id hLo
  obtain ⟨⟨jj, hj, ej⟩, -⟩ := hSo.1 p hp
  have hcl : (σ 1 p).toNatClampNeg = jj := by rw [ej]; exact nI_clamp (by omega)
  refine fc_met rfl (Nat.le_of_ble_eq_true rfl) (fc_run oX11_mayWalk (fun _ => false) 400 ?_)
  refine And.intro rfl (Exists.intro _ (And.intro (c_risReady hW hA hy hx (by omega)) ?_))
  rintro _ _ _ _ ⟨rfl, rfl, rfl, rfl⟩
  refine And.intro (fun h6 => ?_) (fun h6 => ?_)
  · replace h6 := fc_b0.mp h6
    refine And.intro (by first | exact Or.inl rfl | exact Or.inr rfl | exact fc_bb _ | assumption) ?_
    exact ⟨by rw [h6]; rfl, rfl, rfl, rfl⟩
  · replace h6 := fc_b1.mp h6
    refine And.intro rfl (Exists.intro _ (And.intro (hW 252 24 268 rfl) ?_))
    refine Exists.intro _ (Exists.intro _ (And.intro rfl (And.intro (fc_ixn (fc_na (fc_na hy (fc_nl 2)) hx) (by omega) (by decide)) ?_)))
    refine And.intro rfl (Exists.intro _ (And.intro (c_rpath hW hA ((ra_w hA hp).trans ej) hj) ?_))
    rintro _ _ _ _ ⟨rfl, rfl, rfl, rfl⟩
    refine And.intro (fun h28 => ?_) (fun h28 => ?_)
    · refine And.intro (by first | exact Or.inl rfl | exact Or.inr rfl | exact fc_bb _ | assumption) ?_
      exact ⟨by rw [h6, hcl, sp_in, decide_eq_true h28]; rfl, rfl, rfl, rfl⟩
    · refine And.intro (by first | exact Or.inl rfl | exact Or.inr rfl | exact fc_bb _ | assumption) ?_
      exact ⟨by rw [h6, hcl, sp_in, decide_eq_false h28]; rfl, rfl, rfl, rfl⟩

theorem c_rmayGive (hW : fc_Wd mr) (hA : ra mi B n m t sm L σ) {y : Int32} (hy : y = nI B) {x z : Int32} {q o : Nat} (hx : x = nI q) (hz : z = nI o) (hq : q < t) (ho : o < n) : fc_R E mX11_mayGive (d + 3) fc_sh [.ref 252, .int y, .int x, .int z] mi ml mr (fc_is (some (.int (fc_b (!decide (σ 6 q = z) && (sp_rd (L 7) (σ 2) (σ 0 1) (σ 6 q).toNatClampNeg && (sp_aw (L 7) (σ 0 1) o && decide (σ 1 (σ 6 q).toNatClampNeg = σ 1 o))))))) mi ml mr) := by
  obtain ⟨⟨e0, e2, e3, e4⟩, hB, hLo, hSo, hLg, hSg⟩ := id hA
  obtain ⟨h5, h7, h6, hs1, hs2, hLp, hLt⟩ := id hLo
  obtain ⟨⟨pp, hpp, ep⟩, -⟩ := hSo.2.1 q hq
  have hcl : (σ 6 q).toNatClampNeg = pp := by rw [ep]; exact nI_clamp (by omega)
  refine fc_met rfl (Nat.le_of_ble_eq_true rfl) (fc_run oX11_mayGive (fun _ => false) 400 ?_)
  refine And.intro rfl (Exists.intro _ (And.intro (hW 252 24 268 rfl) ?_))
  refine Exists.intro _ (Exists.intro _ (And.intro rfl (And.intro (fc_ixn (fc_na (fc_na hy (fc_nl 12)) hx) (by omega) (by decide)) ?_)))
  refine And.intro (fun h16 => ?_) (fun h16 => ?_)
  · rw [ra_o hA hq] at h16
    refine And.intro (by first | exact Or.inl rfl | exact Or.inr rfl | exact fc_bb _ | assumption) ?_
    exact ⟨by rw [nd_f h16]; rfl, rfl, rfl, rfl⟩
  · rw [ra_o hA hq] at h16
    refine And.intro rfl (Exists.intro _ (And.intro (c_risReady hW hA hy ((ra_o hA hq).trans ep) (by omega)) ?_))
    rintro _ _ _ _ ⟨rfl, rfl, rfl, rfl⟩
    refine And.intro (fun h26 => ?_) (fun h26 => ?_)
    · replace h26 := fc_b0.mp h26
      refine And.intro (by first | exact Or.inl rfl | exact Or.inr rfl | exact fc_bb _ | assumption) ?_
      exact ⟨by rw [nd_t h16, hcl, h26]; rfl, rfl, rfl, rfl⟩
    · replace h26 := fc_b1.mp h26
      refine And.intro rfl (Exists.intro _ (And.intro (c_risAwake hW hA hy hz (by omega)) ?_))
      rintro _ _ _ _ ⟨rfl, rfl, rfl, rfl⟩
      refine And.intro (fun h35 => ?_) (fun h35 => ?_)
      · replace h35 := fc_b0.mp h35
        refine And.intro (by first | exact Or.inl rfl | exact Or.inr rfl | exact fc_bb _ | assumption) ?_
        exact ⟨by rw [nd_t h16, hcl, h26, h35]; rfl, rfl, rfl, rfl⟩
      · replace h35 := fc_b1.mp h35
        refine And.intro rfl (Exists.intro _ (And.intro (hW 252 24 268 rfl) ?_))
        refine Exists.intro _ (Exists.intro _ (And.intro rfl (And.intro (fc_ixn (fc_na (fc_na hy (fc_nl 2)) ((ra_o hA hq).trans ep)) (by omega) (by decide)) ?_)))
        refine And.intro rfl (Exists.intro _ (And.intro (hW 252 24 268 rfl) ?_))
        refine Exists.intro _ (Exists.intro _ (And.intro rfl (And.intro (fc_ixn (fc_na (fc_na hy (fc_nl 2)) hz) (by omega) (by decide)) ?_)))
        refine And.intro (fun h59 => ?_) (fun h59 => ?_)
        · rw [ra_w hA hpp, ra_w hA ho] at h59
          refine And.intro (by first | exact Or.inl rfl | exact Or.inr rfl | exact fc_bb _ | assumption) ?_
          exact ⟨by rw [nd_t h16, hcl, h26, h35, decide_eq_true h59]; rfl, rfl, rfl, rfl⟩
        · rw [ra_w hA hpp, ra_w hA ho] at h59
          refine And.intro (by first | exact Or.inl rfl | exact Or.inr rfl | exact fc_bb _ | assumption) ?_
          exact ⟨by rw [nd_t h16, hcl, h26, h35, decide_eq_false h59]; rfl, rfl, rfl, rfl⟩

theorem fb_01 (x : Int32) : x &&& 1 = 0 ∨ x &&& 1 = 1 := by
  by_cases h : bt x 0 = true
  · exact Or.inr ((fb_and1 x).mpr h)
  · refine Or.inl (b_ext (fun i hi => ?_))
    have h1 : ∀ i, i < 32 → bt 1 i = decide (i = 0) := by decide +kernel
    rw [b_and, h1 i hi, b_0]
    by_cases h0 : i = 0
    · subst h0; simp at h; simp [h]
    · simp [h0]
theorem c_rmayVow (hW : fc_Wd mr) (hA : ra mi B n m t sm L σ) {y : Int32} (hy : y = nI B) {x z : Int32} {p o : Nat} (hx : x = nI p) (hz : z = nI o) (hp : p < n) (ho : o < n) : fc_R E mX11_mayVow (d + 3) fc_sh [.ref 252, .int y, .int x, .int z] mi ml mr (fc_is (some (.int (fc_b (!decide (x = z) && (sp_rd (L 7) (σ 2) (σ 0 1) p && (sp_rd (L 7) (σ 2) (σ 0 1) o && (decide (σ 1 p = σ 1 o) && (!decide (L 5 p = 3) && (!decide (L 5 o = 3) && !sp_in (σ 4 p) z))))))))) mi ml mr) := by
  obtain ⟨⟨e0, e2, e3, e4⟩, hB, hLo, hSo, hLg, hSg⟩ := id hA
  obtain ⟨h5, h7, h6, hs1, hs2, hLp, hLt⟩ := id hLo
  refine fc_met rfl (Nat.le_of_ble_eq_true rfl) (fc_run oX11_mayVow (fun _ => false) 400 ?_)
  refine And.intro (fun h2 => ?_) (fun h2 => ?_)
  · refine And.intro (fun h55 => ?_) (fun h55 => ?_)
    · refine And.intro (by first | exact Or.inl rfl | exact Or.inr rfl | exact fc_bb _ | assumption) ?_
      exact ⟨by rw [nd_f h2]; rfl, rfl, rfl, rfl⟩
    · exact absurd rfl h55
  · refine And.intro rfl (Exists.intro _ (And.intro (c_risReady hW hA hy hx (by omega)) ?_))
    rintro _ _ _ _ ⟨rfl, rfl, rfl, rfl⟩
    refine And.intro (fun h11 => ?_) (fun h11 => ?_)
    · replace h11 := fc_b0.mp h11
      refine And.intro (fun h55 => ?_) (fun h55 => ?_)
      · refine And.intro (by first | exact Or.inl rfl | exact Or.inr rfl | exact fc_bb _ | assumption) ?_
        exact ⟨by rw [nd_t h2, h11]; rfl, rfl, rfl, rfl⟩
      · exact absurd rfl h55
    · replace h11 := fc_b1.mp h11
      refine And.intro rfl (Exists.intro _ (And.intro (c_risReady hW hA hy hz (by omega)) ?_))
      rintro _ _ _ _ ⟨rfl, rfl, rfl, rfl⟩
      refine And.intro (fun h20 => ?_) (fun h20 => ?_)
      · replace h20 := fc_b0.mp h20
        refine And.intro (fun h55 => ?_) (fun h55 => ?_)
        · refine And.intro (by first | exact Or.inl rfl | exact Or.inr rfl | exact fc_bb _ | assumption) ?_
          exact ⟨by rw [nd_t h2, h11, h20]; rfl, rfl, rfl, rfl⟩
        · exact absurd rfl h55
      · replace h20 := fc_b1.mp h20
        refine And.intro rfl (Exists.intro _ (And.intro (hW 252 24 268 rfl) ?_))
        refine Exists.intro _ (Exists.intro _ (And.intro rfl (And.intro (fc_ixn (fc_na (fc_na hy (fc_nl 2)) hx) (by omega) (by decide)) ?_)))
        refine And.intro rfl (Exists.intro _ (And.intro (hW 252 24 268 rfl) ?_))
        refine Exists.intro _ (Exists.intro _ (And.intro rfl (And.intro (fc_ixn (fc_na (fc_na hy (fc_nl 2)) hz) (by omega) (by decide)) ?_)))
        refine And.intro (fun h43 => ?_) (fun h43 => ?_)
        · rw [ra_w hA hp, ra_w hA ho] at h43
          refine And.intro (fun h55 => ?_) (fun h55 => ?_)
          · exact absurd h55 (by decide)
          · refine And.intro rfl (Exists.intro _ (And.intro (c_rper0 hW hA hx (by omega)) ?_))
            rintro _ _ _ _ ⟨rfl, rfl, rfl, rfl⟩
            refine And.intro (fun h65 => ?_) (fun h65 => ?_)
            · refine And.intro (by first | exact Or.inl rfl | exact Or.inr rfl | exact fc_bb _ | assumption) ?_
              exact ⟨by rw [nd_t h2, h11, h20, decide_eq_true h43, nd_f h65]; rfl, rfl, rfl, rfl⟩
            · refine And.intro rfl (Exists.intro _ (And.intro (c_rper0 hW hA hz (by omega)) ?_))
              rintro _ _ _ _ ⟨rfl, rfl, rfl, rfl⟩
              refine And.intro (fun h75 => ?_) (fun h75 => ?_)
              · refine And.intro (by first | exact Or.inl rfl | exact Or.inr rfl | exact fc_bb _ | assumption) ?_
                exact ⟨by rw [nd_t h2, h11, h20, decide_eq_true h43, nd_t h65, nd_f h75]; rfl, rfl, rfl, rfl⟩
              · refine And.intro rfl (Exists.intro _ (And.intro (hW 252 24 268 rfl) ?_))
                refine Exists.intro _ (Exists.intro _ (And.intro rfl (And.intro (fc_ixn (fc_na (fc_na hy (fc_nl 24)) hx) (by omega) (by decide)) ?_)))
                refine And.intro (fun h93 => ?_) (fun h93 => ?_)
                · replace h93 : sp_in (σ 4 p) z = false := by rw [ra_v hA hp] at h93; exact decide_eq_false (fun q => by rw [h93] at q; exact absurd q (by decide))
                  refine And.intro (by first | exact Or.inl rfl | exact Or.inr rfl | exact fc_bb _ | assumption) ?_
                  exact ⟨by rw [nd_t h2, h11, h20, decide_eq_true h43, nd_t h65, nd_t h75, h93]; rfl, rfl, rfl, rfl⟩
                · replace h93 : sp_in (σ 4 p) z = true := by rw [ra_v hA hp] at h93; exact decide_eq_true ((fb_01 _).resolve_left h93)
                  refine And.intro (by first | exact Or.inl rfl | exact Or.inr rfl | exact fc_bb _ | assumption) ?_
                  exact ⟨by rw [nd_t h2, h11, h20, decide_eq_true h43, nd_t h65, nd_t h75, h93]; rfl, rfl, rfl, rfl⟩
        · rw [ra_w hA hp, ra_w hA ho] at h43
          refine And.intro (fun h55 => ?_) (fun h55 => ?_)
          · refine And.intro (by first | exact Or.inl rfl | exact Or.inr rfl | exact fc_bb _ | assumption) ?_
            exact ⟨by rw [nd_t h2, h11, h20, decide_eq_false h43]; rfl, rfl, rfl, rfl⟩
          · exact absurd rfl h55

theorem as_lo3 {p : Nat} (h : as_ok n m t sm σ) (hp : p < n) : lo7 (σ 3 p) := fun i hi h7 => (h.1 p hp).2.2.1 i hi (by omega)
theorem as_lo4 {p : Nat} (h : as_ok n m t sm σ) (hp : p < n) : lo7 (σ 4 p) := fun i hi h7 => (h.1 p hp).2.2.2.1 i hi (by omega)
theorem as_lo5 {p : Nat} (h : as_ok n m t sm σ) (hp : p < n) : lo7 (σ 5 p) := fun i hi h7 => (h.1 p hp).2.2.2.2 i hi (by omega)
theorem l_rheardAll (hW : fc_Wd mr) (hA : ra mi B n m t sm L σ) {y : Int32} (hy : y = nI B) : ∀ (j i : Nat) (c : Int32) (acc : Int32), i + j = n → c = nI i → acc = sp_sum (fun p => sp_bc (σ 3 p)) i → fc_T E mX11_heardOfAll (d + 1) (0, 0) fc_sh 4 [some (.ref 252), some (.int y), some (.int acc), some (.int c)] [] mi ml mr (fc_is (some (.int (sp_sum (fun p => sp_bc (σ 3 p)) n))) mi ml mr) := by
  intro j
  induction j with
  | zero =>
    intro i c acc  hi hc h_acc
    subst hc
    obtain ⟨⟨e0, e2, e3, e4⟩, hB, hLo, hSo, hLg, hSg⟩ := id hA
    obtain ⟨h5, h7, h6, hs1, hs2, hLp, hLt⟩ := id hLo
    refine fc_run oX11_heardOfAll (fun pc => pc == 4) 400 ?_
    refine And.intro rfl (Exists.intro _ (And.intro (c_rpersons hW hA) ?_))
    rintro _ _ _ _ ⟨rfl, rfl, rfl, rfl⟩
    refine And.intro (fun h9 => ?_) (fun h9 => ?_)
    · exact ⟨by rw [h_acc, show i = n by omega], rfl, rfl, rfl⟩
    · exact absurd (nI_le (by omega) (by omega)) h9
  | succ j ih =>
    intro i c acc  hi hc h_acc
    subst hc
    obtain ⟨⟨e0, e2, e3, e4⟩, hB, hLo, hSo, hLg, hSg⟩ := id hA
    obtain ⟨h5, h7, h6, hs1, hs2, hLp, hLt⟩ := id hLo
    refine fc_run oX11_heardOfAll (fun pc => pc == 4) 400 ?_
    refine And.intro rfl (Exists.intro _ (And.intro (c_rpersons hW hA) ?_))
    rintro _ _ _ _ ⟨rfl, rfl, rfl, rfl⟩
    refine And.intro (fun h9 => ?_) (fun h9 => ?_)
    · exact absurd h9 (nI_ge (by omega) (by omega))
    · refine And.intro rfl (Exists.intro _ (And.intro (hW 252 24 268 rfl) ?_))
      refine Exists.intro _ (Exists.intro _ (And.intro rfl (And.intro (fc_ixn (fc_na (fc_na hy (fc_nl 34)) rfl) (by omega) (by decide)) ?_)))
      refine Exists.intro _ (And.intro (c_rbits (by rw [ra_h hA (show i < n by omega)]; exact as_lo3 hSo (by omega))) ?_)
      rintro _ _ _ _ ⟨rfl, rfl, rfl, rfl⟩
      exact ih (i + 1) _ _ (by omega) (fc_inc i) (by rw [h_acc, sp_sum, ra_h hA (show i < n by omega)])

theorem c_rheardAll (hW : fc_Wd mr) (hA : ra mi B n m t sm L σ) {y : Int32} (hy : y = nI B) : fc_R E mX11_heardOfAll (d + 1) fc_sh [.ref 252, .int y] mi ml mr (fc_is (some (.int (sp_sum (fun p => sp_bc (σ 3 p)) n))) mi ml mr) := by
  obtain ⟨⟨e0, e2, e3, e4⟩, hB, hLo, hSo, hLg, hSg⟩ := id hA
  obtain ⟨h5, h7, h6, hs1, hs2, hLp, hLt⟩ := id hLo
  refine fc_met rfl (Nat.le_of_ble_eq_true rfl) (fc_run oX11_heardOfAll (fun pc => pc == 4) 400 ?_)
  exact l_rheardAll hW hA hy n 0 _ _ (by omega) rfl rfl

theorem sp_sw_t {P : Nat → Bool} {f : Nat → Int32} {n : Nat} (h : P n = true) : sp_sw P f n + f n = sp_sw P f (n + 1) := by rw [sp_sw, if_pos h]
theorem sp_sw_f {P : Nat → Bool} {f : Nat → Int32} {n : Nat} (h : P n = false) : sp_sw P f n = sp_sw P f (n + 1) := by rw [sp_sw, if_neg (by rw [h]; decide)]
theorem l_rworth (hW : fc_Wd mr) (hA : ra mi 0 n m t sm L σ) (x r : Int32) : ∀ (j i : Nat) (c : Int32) (acc : Int32), i + j = t → c = nI i → acc = sp_sw (fun q => decide (σ (if r = 0 then 6 else 7) q = x)) (L 8) i → fc_T E mX11_worthOf (d + 1) (0, 0) fc_sh 5 [some (.ref 252), some (.int x), some (.int r), some (.int acc), some (.int c)] [] mi ml mr (fc_is (some (.int (sp_sw (fun q => decide (σ (if r = 0 then 6 else 7) q = x)) (L 8) t))) mi ml mr) := by
  intro j
  induction j with
  | zero =>
    intro i c acc  hi hc h_acc
    subst hc
    obtain ⟨⟨e0, e2, e3, e4⟩, hB, hLo, hSo, hLg, hSg⟩ := id hA
    obtain ⟨h5, h7, h6, hs1, hs2, hLp, hLt⟩ := id hLo
    refine fc_run oX11_worthOf (fun pc => pc == 5) 400 ?_
    refine And.intro rfl (Exists.intro _ (And.intro (c_rthings hW hA) ?_))
    rintro _ _ _ _ ⟨rfl, rfl, rfl, rfl⟩
    refine And.intro (fun h11 => ?_) (fun h11 => ?_)
    · exact ⟨by rw [h_acc, show i = t by omega], rfl, rfl, rfl⟩
    · exact absurd (nI_le (by omega) (by omega)) h11
  | succ j ih =>
    intro i c acc  hi hc h_acc
    subst hc
    obtain ⟨⟨e0, e2, e3, e4⟩, hB, hLo, hSo, hLg, hSg⟩ := id hA
    obtain ⟨h5, h7, h6, hs1, hs2, hLp, hLt⟩ := id hLo
    refine fc_run oX11_worthOf (fun pc => pc == 5) 400 ?_
    refine And.intro rfl (Exists.intro _ (And.intro (c_rthings hW hA) ?_))
    rintro _ _ _ _ ⟨rfl, rfl, rfl, rfl⟩
    refine And.intro (fun h11 => ?_) (fun h11 => ?_)
    · exact absurd h11 (nI_ge (by omega) (by omega))
    · refine And.intro rfl (Exists.intro _ (And.intro (hW 252 24 268 rfl) ?_))
      refine And.intro (fun h20 => ?_) (fun h20 => ?_)
      · refine Exists.intro _ (Exists.intro _ (And.intro rfl (And.intro (fc_ixn (fc_na (fc_nl 12) rfl) (by omega) (by decide)) ?_)))
        refine And.intro (fun h35 => ?_) (fun h35 => ?_)
        · first | rw [ra_o0 hA (show i < t by omega)] at h35 | rw [ra_r0 hA (show i < t by omega)] at h35
          refine And.intro rfl (Exists.intro _ (And.intro (c_rthi0 hW hA rfl (by omega)) ?_))
          rintro _ _ _ _ ⟨rfl, rfl, rfl, rfl⟩
          exact ih (i + 1) _ _ (by omega) (fc_inc i) (by rw [h_acc]; exact sp_sw_t (P := fun q => decide (σ (if r = 0 then 6 else 7) q = x)) (f := L 8) (by show decide (σ (if r = 0 then 6 else 7) i = x) = true; rw [if_pos h20]; exact decide_eq_true h35))
        · first | rw [ra_o0 hA (show i < t by omega)] at h35 | rw [ra_r0 hA (show i < t by omega)] at h35
          exact ih (i + 1) _ _ (by omega) (fc_inc i) (by rw [h_acc, Int32.add_zero]; exact sp_sw_f (P := fun q => decide (σ (if r = 0 then 6 else 7) q = x)) (f := L 8) (by show decide (σ (if r = 0 then 6 else 7) i = x) = false; rw [if_pos h20]; exact decide_eq_false h35))
      · refine Exists.intro _ (Exists.intro _ (And.intro rfl (And.intro (fc_ixn (fc_na (fc_nl 18) rfl) (by omega) (by decide)) ?_)))
        refine And.intro (fun h35 => ?_) (fun h35 => ?_)
        · first | rw [ra_o0 hA (show i < t by omega)] at h35 | rw [ra_r0 hA (show i < t by omega)] at h35
          refine And.intro rfl (Exists.intro _ (And.intro (c_rthi0 hW hA rfl (by omega)) ?_))
          rintro _ _ _ _ ⟨rfl, rfl, rfl, rfl⟩
          exact ih (i + 1) _ _ (by omega) (fc_inc i) (by rw [h_acc]; exact sp_sw_t (P := fun q => decide (σ (if r = 0 then 6 else 7) q = x)) (f := L 8) (by show decide (σ (if r = 0 then 6 else 7) i = x) = true; rw [if_neg h20]; exact decide_eq_true h35))
        · first | rw [ra_o0 hA (show i < t by omega)] at h35 | rw [ra_r0 hA (show i < t by omega)] at h35
          exact ih (i + 1) _ _ (by omega) (fc_inc i) (by rw [h_acc, Int32.add_zero]; exact sp_sw_f (P := fun q => decide (σ (if r = 0 then 6 else 7) q = x)) (f := L 8) (by show decide (σ (if r = 0 then 6 else 7) i = x) = false; rw [if_neg h20]; exact decide_eq_false h35))

theorem c_rworth (hW : fc_Wd mr) (hA : ra mi 0 n m t sm L σ) (x r : Int32) : fc_R E mX11_worthOf (d + 1) fc_sh [.ref 252, .int x, .int r] mi ml mr (fc_is (some (.int (sp_sw (fun q => decide (σ (if r = 0 then 6 else 7) q = x)) (L 8) t))) mi ml mr) := by
  obtain ⟨⟨e0, e2, e3, e4⟩, hB, hLo, hSo, hLg, hSg⟩ := id hA
  obtain ⟨h5, h7, h6, hs1, hs2, hLp, hLt⟩ := id hLo
  refine fc_met rfl (Nat.le_of_ble_eq_true rfl) (fc_run oX11_worthOf (fun pc => pc == 5) 400 ?_)
  exact l_rworth hW hA x r t 0 _ _ (by omega) rfl rfl

theorem l_rpairs4 (hW : fc_Wd mr) (hA : ra mi 0 n m t sm L σ) : ∀ (j i : Nat) (c : Int32) (acc : Int32), i + j = n → c = nI i → acc = sp_sum (fun p => sp_bc (σ 4 p)) i → fc_T E mX11_pairsOf (d + 1) (0, 0) fc_sh 4 [some (.ref 252), some (.int 24), some (.int acc), some (.int c)] [] mi ml mr (fc_is (some (.int (sp_sum (fun p => sp_bc (σ 4 p)) n / 2))) mi ml mr) := by
  intro j
  induction j with
  | zero =>
    intro i c acc  hi hc h_acc
    subst hc
    obtain ⟨⟨e0, e2, e3, e4⟩, hB, hLo, hSo, hLg, hSg⟩ := id hA
    obtain ⟨h5, h7, h6, hs1, hs2, hLp, hLt⟩ := id hLo
    refine fc_run oX11_pairsOf (fun pc => pc == 4) 400 ?_
    refine And.intro rfl (Exists.intro _ (And.intro (c_rpersons hW hA) ?_))
    rintro _ _ _ _ ⟨rfl, rfl, rfl, rfl⟩
    refine And.intro (fun h9 => ?_) (fun h9 => ?_)
    · refine And.intro (by decide) ?_
      exact ⟨by rw [h_acc, show i = n by omega], rfl, rfl, rfl⟩
    · exact absurd (nI_le (by omega) (by omega)) h9
  | succ j ih =>
    intro i c acc  hi hc h_acc
    subst hc
    obtain ⟨⟨e0, e2, e3, e4⟩, hB, hLo, hSo, hLg, hSg⟩ := id hA
    obtain ⟨h5, h7, h6, hs1, hs2, hLp, hLt⟩ := id hLo
    refine fc_run oX11_pairsOf (fun pc => pc == 4) 400 ?_
    refine And.intro rfl (Exists.intro _ (And.intro (c_rpersons hW hA) ?_))
    rintro _ _ _ _ ⟨rfl, rfl, rfl, rfl⟩
    refine And.intro (fun h9 => ?_) (fun h9 => ?_)
    · exact absurd h9 (nI_ge (by omega) (by omega))
    · refine And.intro rfl (Exists.intro _ (And.intro (hW 252 24 268 rfl) ?_))
      refine Exists.intro _ (Exists.intro _ (And.intro rfl (And.intro (fc_ixn (fc_na (fc_nl 24) rfl) (by omega) (by decide)) ?_)))
      refine Exists.intro _ (And.intro (c_rbits (by rw [ra_v0 hA (show i < n by omega)]; exact as_lo4 hSo (by omega))) ?_)
      rintro _ _ _ _ ⟨rfl, rfl, rfl, rfl⟩
      exact ih (i + 1) _ _ (by omega) (fc_inc i) (by rw [h_acc, sp_sum, ra_v0 hA (show i < n by omega)])

theorem c_rpairs4 (hW : fc_Wd mr) (hA : ra mi 0 n m t sm L σ) : fc_R E mX11_pairsOf (d + 1) fc_sh [.ref 252, .int 24] mi ml mr (fc_is (some (.int (sp_sum (fun p => sp_bc (σ 4 p)) n / 2))) mi ml mr) := by
  obtain ⟨⟨e0, e2, e3, e4⟩, hB, hLo, hSo, hLg, hSg⟩ := id hA
  obtain ⟨h5, h7, h6, hs1, hs2, hLp, hLt⟩ := id hLo
  refine fc_met rfl (Nat.le_of_ble_eq_true rfl) (fc_run oX11_pairsOf (fun pc => pc == 4) 400 ?_)
  exact l_rpairs4 hW hA n 0 _ _ (by omega) rfl rfl

theorem l_rpairs5 (hW : fc_Wd mr) (hA : ra mi 0 n m t sm L σ) : ∀ (j i : Nat) (c : Int32) (acc : Int32), i + j = n → c = nI i → acc = sp_sum (fun p => sp_bc (σ 5 p)) i → fc_T E mX11_pairsOf (d + 1) (0, 0) fc_sh 4 [some (.ref 252), some (.int 29), some (.int acc), some (.int c)] [] mi ml mr (fc_is (some (.int (sp_sum (fun p => sp_bc (σ 5 p)) n / 2))) mi ml mr) := by
  intro j
  induction j with
  | zero =>
    intro i c acc  hi hc h_acc
    subst hc
    obtain ⟨⟨e0, e2, e3, e4⟩, hB, hLo, hSo, hLg, hSg⟩ := id hA
    obtain ⟨h5, h7, h6, hs1, hs2, hLp, hLt⟩ := id hLo
    refine fc_run oX11_pairsOf (fun pc => pc == 4) 400 ?_
    refine And.intro rfl (Exists.intro _ (And.intro (c_rpersons hW hA) ?_))
    rintro _ _ _ _ ⟨rfl, rfl, rfl, rfl⟩
    refine And.intro (fun h9 => ?_) (fun h9 => ?_)
    · refine And.intro (by decide) ?_
      exact ⟨by rw [h_acc, show i = n by omega], rfl, rfl, rfl⟩
    · exact absurd (nI_le (by omega) (by omega)) h9
  | succ j ih =>
    intro i c acc  hi hc h_acc
    subst hc
    obtain ⟨⟨e0, e2, e3, e4⟩, hB, hLo, hSo, hLg, hSg⟩ := id hA
    obtain ⟨h5, h7, h6, hs1, hs2, hLp, hLt⟩ := id hLo
    refine fc_run oX11_pairsOf (fun pc => pc == 4) 400 ?_
    refine And.intro rfl (Exists.intro _ (And.intro (c_rpersons hW hA) ?_))
    rintro _ _ _ _ ⟨rfl, rfl, rfl, rfl⟩
    refine And.intro (fun h9 => ?_) (fun h9 => ?_)
    · exact absurd h9 (nI_ge (by omega) (by omega))
    · refine And.intro rfl (Exists.intro _ (And.intro (hW 252 24 268 rfl) ?_))
      refine Exists.intro _ (Exists.intro _ (And.intro rfl (And.intro (fc_ixn (fc_na (fc_nl 29) rfl) (by omega) (by decide)) ?_)))
      refine Exists.intro _ (And.intro (c_rbits (by rw [ra_b0 hA (show i < n by omega)]; exact as_lo5 hSo (by omega))) ?_)
      rintro _ _ _ _ ⟨rfl, rfl, rfl, rfl⟩
      exact ih (i + 1) _ _ (by omega) (fc_inc i) (by rw [h_acc, sp_sum, ra_b0 hA (show i < n by omega)])

theorem c_rpairs5 (hW : fc_Wd mr) (hA : ra mi 0 n m t sm L σ) : fc_R E mX11_pairsOf (d + 1) fc_sh [.ref 252, .int 29] mi ml mr (fc_is (some (.int (sp_sum (fun p => sp_bc (σ 5 p)) n / 2))) mi ml mr) := by
  obtain ⟨⟨e0, e2, e3, e4⟩, hB, hLo, hSo, hLg, hSg⟩ := id hA
  obtain ⟨h5, h7, h6, hs1, hs2, hLp, hLt⟩ := id hLo
  refine fc_met rfl (Nat.le_of_ble_eq_true rfl) (fc_run oX11_pairsOf (fun pc => pc == 4) 400 ?_)
  exact l_rpairs5 hW hA n 0 _ _ (by omega) rfl rfl

end M48
