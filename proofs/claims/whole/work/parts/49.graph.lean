/-! ===== places and paths, by sets ===== -/
def fg_on (pt : Nat → Int32) (m : Nat) (but x : Int32) : Int32 := (x ||| sp_nb pt m x) &&& (but ^^^ (-1))
def fg_it (pt : Nat → Int32) (m : Nat) (but x : Int32) : Nat → Int32
  | 0 => x
  | i + 1 => fg_on pt m but (fg_it pt m but x i)
def fg_lo (m : Nat) (x : Int32) : Prop := ∀ i, i < 32 → m ≤ i → bt x i = false
/-- paths lead to places, both ways -/
def fg_ok (m : Nat) (pt : Nat → Int32) : Prop := ∀ k, k < m → fg_lo m (pt k) ∧ ∀ j, j < m → bt (pt k) j = bt (pt j) k
section M49
variable {pt : Nat → Int32} {m : Nat}
theorem fg_or_bt {P : Nat → Bool} {f : Nat → Int32} {i : Nat} : ∀ {n : Nat}, bt (sp_or P f n) i = true ↔ ∃ p, p < n ∧ P p = true ∧ bt (f p) i = true
  | 0 => by simp [sp_or, b_0]
  | n + 1 => by
    have ih := fg_or_bt (P := P) (f := f) (i := i) (n := n)
    rw [sp_or]
    by_cases h : P n = true
    · rw [if_pos h, b_or, Bool.or_eq_true, ih]
      constructor
      · rintro (⟨p, h1, h2, h3⟩ | h3)
        · exact ⟨p, by omega, h2, h3⟩
        · exact ⟨n, by omega, h, h3⟩
      · rintro ⟨p, h1, h2, h3⟩
        by_cases e : p = n
        · subst e; exact Or.inr h3
        · exact Or.inl ⟨p, by omega, h2, h3⟩
    · rw [if_neg h, ih]
      constructor
      · rintro ⟨p, h1, h2, h3⟩; exact ⟨p, by omega, h2, h3⟩
      · rintro ⟨p, h1, h2, h3⟩
        by_cases e : p = n
        · subst e; exact absurd h2 h
        · exact ⟨p, by omega, h2, h3⟩
theorem fg_nb_bt (hm : m ≤ 7) {x : Int32} {i : Nat} : bt (sp_nb pt m x) i = true ↔ ∃ p, p < m ∧ bt x p = true ∧ bt (pt p) i = true := by
  unfold sp_nb
  rw [fg_or_bt]
  constructor
  · rintro ⟨p, h1, h2, h3⟩; exact ⟨p, h1, by rw [fb_in x (by omega)] at h2; exact h2, h3⟩
  · rintro ⟨p, h1, h2, h3⟩; exact ⟨p, h1, by rw [fb_in x (by omega)]; exact h2, h3⟩
theorem fg_nb_lo (hm : m ≤ 7) (h : fg_ok m pt) (x : Int32) : fg_lo m (sp_nb pt m x) := by
  intro i hi hmi
  by_cases q : bt (sp_nb pt m x) i = true
  · obtain ⟨p, h1, h2, h3⟩ := (fg_nb_bt hm).mp q
    rw [(h p h1).1 i hi hmi] at h3; cases h3
  · simpa using q
theorem fg_on_bt {but x : Int32} {i : Nat} (hi : i < 32) : bt (fg_on pt m but x) i = ((bt x i || bt (sp_nb pt m x) i) && !bt but i) := by
  unfold fg_on; rw [b_and, b_or, fb_not _ hi]
def fg_dj (shut x : Int32) : Prop := ∀ i, i < 32 → bt x i = true → bt shut i = false
theorem fg_dj0 (x : Int32) : fg_dj 0 x := fun i _ _ => b_0 i
theorem fg_it_dj {shut x : Int32} (hd : fg_dj shut x) : ∀ k, fg_dj shut (fg_it pt m shut x k)
  | 0 => hd
  | k + 1 => fun i hi h => by
    rw [fg_it, fg_on_bt hi] at h
    simp at h
    exact h.2
theorem fg_sp {shut x : Int32} (hd : fg_dj shut x) : ∀ k, sp_sp pt m shut x k = fg_it pt m shut x k
  | 0 => rfl
  | k + 1 => by
    rw [sp_sp, fg_sp hd k, fg_it]
    apply b_ext
    intro i hi
    rw [b_or, b_and, fb_not _ hi, fg_on_bt hi]
    cases hs : bt (fg_it pt m shut x k) i with
    | false => simp
    | true => rw [fg_it_dj hd k i hi hs]; simp
theorem fg_it_lo {shut x : Int32} (hm : m ≤ 7) (h : fg_ok m pt) (hx : fg_lo m x) : ∀ k, fg_lo m (fg_it pt m shut x k)
  | 0 => hx
  | k + 1 => fun i hi hmi => by rw [fg_it, fg_on_bt hi, fg_it_lo hm h hx k i hi hmi, fg_nb_lo hm h _ i hi hmi]; rfl
theorem fg_mono1 {shut x : Int32} (hd : fg_dj shut x) (k : Nat) {i : Nat} (hi : i < 32) (h : bt (fg_it pt m shut x k) i = true) : bt (fg_it pt m shut x (k + 1)) i = true := by
  rw [fg_it, fg_on_bt hi, h, fg_it_dj hd k i hi h]; rfl
theorem fg_mono {shut x : Int32} (hd : fg_dj shut x) {i : Nat} (hi : i < 32) (k : Nat) (h : bt (fg_it pt m shut x k) i = true) : ∀ j, bt (fg_it pt m shut x (k + j)) i = true
  | 0 => h
  | j + 1 => fg_mono1 hd (k + j) hi (fg_mono hd hi k h j)
/-! how many -/
def fg_ct (x : Int32) : Nat → Nat
  | 0 => 0
  | k + 1 => fg_ct x k + (if bt x k then 1 else 0)
theorem fg_ct_le (x : Int32) : ∀ k, fg_ct x k ≤ k
  | 0 => Nat.le_refl _
  | k + 1 => by rw [fg_ct]; have := fg_ct_le x k; split <;> omega
theorem fg_ct_mono {x z : Int32} : ∀ {k : Nat}, (∀ i, i < k → bt x i = true → bt z i = true) → fg_ct x k ≤ fg_ct z k
  | 0, _ => Nat.le_refl _
  | k + 1, h => by
    rw [fg_ct, fg_ct]
    have ih := fg_ct_mono (x := x) (z := z) (k := k) (fun i hi => h i (by omega))
    by_cases q : bt x k = true
    · rw [if_pos q, if_pos (h k (by omega) q)]; omega
    · rw [if_neg q]; omega
theorem fg_ct_lt {x z : Int32} {j : Nat} : ∀ {k : Nat}, (∀ i, i < k → bt x i = true → bt z i = true) → j < k → bt x j = false → bt z j = true → fg_ct x k < fg_ct z k
  | 0, _, hj, _, _ => absurd hj (by omega)
  | k + 1, h, hj, h1, h2 => by
    rw [fg_ct, fg_ct]
    by_cases e : j = k
    · subst e
      have := fg_ct_mono (x := x) (z := z) (k := j) (fun i hi => h i (by omega))
      rw [h1, h2]; simp; omega
    · have ih := fg_ct_lt (x := x) (z := z) (j := j) (k := k) (fun i hi => h i (by omega)) (by omega) h1 h2
      by_cases q : bt x k = true
      · rw [if_pos q, if_pos (h k (by omega) q)]; omega
      · rw [if_neg q]; omega
theorem fg_stab {shut x : Int32} (hm : m ≤ 7) (h : fg_ok m pt) (hx : fg_lo m x) (hd : fg_dj shut x) {a : Nat} (ha : a < m) (hxa : bt x a = true) : ∃ i, i < m ∧ fg_it pt m shut x (i + 1) = fg_it pt m shut x i := by
  by_cases q : ∃ i, i < m ∧ fg_it pt m shut x (i + 1) = fg_it pt m shut x i
  · exact q
  · exfalso
    have key : ∀ i, i ≤ m → i + 1 ≤ fg_ct (fg_it pt m shut x i) m := by
      intro i
      induction i with
      | zero =>
        intro _
        have := fg_ct_lt (x := 0) (z := x) (j := a) (k := m) (fun i _ g => by rw [b_0] at g; cases g) ha (b_0 a) hxa
        show 0 + 1 ≤ fg_ct x m
        omega
      | succ i ih =>
        intro hi
        have ih := ih (by omega)
        have hne : ¬ fg_it pt m shut x (i + 1) = fg_it pt m shut x i := fun e => q ⟨i, by omega, e⟩
        by_cases g : ∃ j, j < m ∧ bt (fg_it pt m shut x i) j = false ∧ bt (fg_it pt m shut x (i + 1)) j = true
        · obtain ⟨j, hj, g1, g2⟩ := g
          have := fg_ct_lt (fun y hy => fg_mono1 hd i (by omega)) hj g1 g2
          omega
        · exfalso
          apply hne
          apply b_ext
          intro y hy
          by_cases hym : y < m
          · cases h1 : bt (fg_it pt m shut x i) y with
            | true => exact fg_mono1 hd i hy h1
            | false =>
              cases h2 : bt (fg_it pt m shut x (i + 1)) y with
              | false => rfl
              | true => exact absurd ⟨y, hym, h1, h2⟩ g
          · rw [fg_it_lo hm h hx i y hy (by omega), fg_it_lo hm h hx (i + 1) y hy (by omega)]
    have := key m (Nat.le_refl _)
    have := fg_ct_le (fg_it pt m shut x m) m
    omega
theorem fg_fix {shut x : Int32} {i : Nat} (h : fg_it pt m shut x (i + 1) = fg_it pt m shut x i) : ∀ k, fg_it pt m shut x (i + k) = fg_it pt m shut x i
  | 0 => rfl
  | k + 1 => by
    show fg_on pt m shut (fg_it pt m shut x (i + k)) = _
    rw [fg_fix h k]; exact h
theorem fg_full {shut x : Int32} (hm : m ≤ 7) (h : fg_ok m pt) (hx : fg_lo m x) (hd : fg_dj shut x) {a : Nat} (ha : a < m) (hxa : bt x a = true) {j k : Nat} (hj : m ≤ j + 1) (hk : m ≤ k + 1) : fg_it pt m shut x j = fg_it pt m shut x k := by
  obtain ⟨i, hi, e⟩ := fg_stab hm h hx hd ha hxa
  have h1 := fg_fix e (j - i)
  have h2 := fg_fix e (k - i)
  rw [show i + (j - i) = j by omega] at h1
  rw [show i + (k - i) = k by omega] at h2
  rw [h1, h2]
theorem fg_one_lo {a : Nat} (ha : a < m) (hm : m ≤ 7) : fg_lo m (sp_one a) := fun i hi hmi => by rw [sp_one, fb_one (by omega) hi, decide_eq_false (by omega)]
theorem fg_one_bt {a i : Nat} (ha : a < 32) (hi : i < 32) : bt (sp_one a) i = decide (i = a) := by rw [sp_one, fb_one ha hi]
theorem fg_one_at {a : Nat} (ha : a < 32) : bt (sp_one a) a = true := by rw [fg_one_bt ha ha]; simp
/-! how far -/
def fg_fa (pt : Nat → Int32) (m : Nat) (y : Int32) : Nat → Nat → Int32 → Int32
  | 0, _, _ => 1000
  | j + 1, i, s => if sp_in s y then nI i else fg_fa pt m y j (i + 1) (fg_on pt m 0 s)
def fg_far (pt : Nat → Int32) (m x : Nat) (y : Int32) : Int32 := fg_fa pt m y 7 0 (sp_one x)
theorem fg_fa_c {x : Int32} {y : Nat} (hy : y < 32) : ∀ j i, (∃ s, i ≤ s ∧ s < i + j ∧ bt (fg_it pt m 0 x s) y = true ∧ (∀ r, i ≤ r → r < s → bt (fg_it pt m 0 x r) y = false) ∧ fg_fa pt m (nI y) j i (fg_it pt m 0 x i) = nI s) ∨ ((∀ r, i ≤ r → r < i + j → bt (fg_it pt m 0 x r) y = false) ∧ fg_fa pt m (nI y) j i (fg_it pt m 0 x i) = 1000)
  | 0, i => Or.inr ⟨fun r h1 h2 => absurd h2 (by omega), rfl⟩
  | j + 1, i => by
    rw [fg_fa, fb_in _ hy]
    cases hb : bt (fg_it pt m 0 x i) y with
    | true => exact Or.inl ⟨i, Nat.le_refl _, by omega, hb, fun r h1 h2 => absurd h1 (by omega), by simp⟩
    | false =>
      have ih := fg_fa_c (x := x) hy j (i + 1)
      rw [if_neg (by decide)]
      show (∃ s, _ ∧ _ ∧ _ ∧ _ ∧ fg_fa pt m (nI y) j (i + 1) (fg_it pt m 0 x (i + 1)) = nI s) ∨ (_ ∧ fg_fa pt m (nI y) j (i + 1) (fg_it pt m 0 x (i + 1)) = 1000)
      rcases ih with ⟨s, h1, h2, h3, h4, h5⟩ | ⟨h1, h2⟩
      · refine Or.inl ⟨s, by omega, by omega, h3, fun r g1 g2 => ?_, h5⟩
        by_cases e : r = i
        · subst e; exact hb
        · exact h4 r (by omega) g2
      · refine Or.inr ⟨fun r g1 g2 => ?_, h2⟩
        by_cases e : r = i
        · subst e; exact hb
        · exact h1 r (by omega) (by omega)
theorem fg_me_c (hm : m ≤ 7) {x : Nat} {r0 : Nat → Int32} : ∀ i,
    (∀ k, k < 32 → bt (sp_me pt m x r0 i).2.1 k = (decide (0 < i) && bt (fg_it pt m 0 (sp_one x) (i - 1)) k)) ∧
    (∀ k, k < 32 → bt (sp_me pt m x r0 i).1 k = (bt (fg_it pt m 0 (sp_one x) i) k && !(decide (0 < i) && bt (fg_it pt m 0 (sp_one x) (i - 1)) k))) ∧
    (∀ y, y < m → (∃ s, s < i ∧ bt (fg_it pt m 0 (sp_one x) s) y = true ∧ (∀ r, r < s → bt (fg_it pt m 0 (sp_one x) r) y = false) ∧ (sp_me pt m x r0 i).2.2 y = nI s) ∨ ((∀ r, r < i → bt (fg_it pt m 0 (sp_one x) r) y = false) ∧ (sp_me pt m x r0 i).2.2 y = 1000))
  | 0 => by
    refine ⟨fun k hk => by simp [sp_me, b_0], fun k hk => by simp [sp_me, fg_it], fun y hy => Or.inr ⟨fun r hr => absurd hr (by omega), ?_⟩⟩
    show (if y < 7 then (1000 : Int32) else r0 y) = 1000
    rw [if_pos (by omega)]
  | i + 1 => by
    obtain ⟨ih1, ih2, ih3⟩ := fg_me_c hm i
    have hbn : ∀ k, k < 32 → bt ((sp_me pt m x r0 i).2.1 ||| (sp_me pt m x r0 i).1) k = bt (fg_it pt m 0 (sp_one x) i) k := by
      intro k hk
      rw [b_or, ih1 k hk, ih2 k hk]
      by_cases h0 : 0 < i
      · rw [decide_eq_true h0]
        cases hs : bt (fg_it pt m 0 (sp_one x) (i - 1)) k with
        | false => simp
        | true =>
          have := fg_mono1 (pt := pt) (m := m) (fg_dj0 (sp_one x)) (i - 1) hk hs
          rw [show i - 1 + 1 = i by omega] at this
          rw [this]; rfl
      · rw [decide_eq_false h0]; simp
    refine ⟨fun k hk => ?_, fun k hk => ?_, fun y hy => ?_⟩
    · show bt ((sp_me pt m x r0 i).2.1 ||| (sp_me pt m x r0 i).1) k = _
      rw [hbn k hk, decide_eq_true (by omega)]; simp
    · show bt (sp_nb pt m (sp_me pt m x r0 i).1 &&& (((sp_me pt m x r0 i).2.1 ||| (sp_me pt m x r0 i).1) ^^^ (-1))) k = _
      rw [b_and, fb_not _ hk, hbn k hk, decide_eq_true (by omega : 0 < i + 1), fg_it, fg_on_bt hk, b_0]
      simp only [Nat.add_sub_cancel, Bool.true_and, Bool.not_false, Bool.and_true]
      cases hs : bt (fg_it pt m 0 (sp_one x) i) k with
      | true => simp
      | false =>
        simp only [Bool.not_false, Bool.and_true, Bool.false_or]
        have e : bt (sp_nb pt m (sp_me pt m x r0 i).1) k = true ↔ bt (sp_nb pt m (fg_it pt m 0 (sp_one x) i)) k = true := by
          rw [fg_nb_bt hm, fg_nb_bt hm]
          constructor
          · rintro ⟨p, h1, h2, h3⟩
            refine ⟨p, h1, ?_, h3⟩
            rw [ih2 p (by omega)] at h2
            simp at h2
            exact h2.1
          · rintro ⟨p, h1, h2, h3⟩
            refine ⟨p, h1, ?_, h3⟩
            rw [ih2 p (by omega), h2]
            by_cases h0 : 0 < i
            · cases hq : bt (fg_it pt m 0 (sp_one x) (i - 1)) p with
              | false => simp
              | true =>
                exfalso
                have : bt (fg_it pt m 0 (sp_one x) (i - 1 + 1)) k = true := by
                  rw [fg_it, fg_on_bt hk, b_0, (fg_nb_bt hm).mpr ⟨p, h1, hq, h3⟩]; simp
                rw [show i - 1 + 1 = i by omega] at this
                rw [this] at hs; cases hs
            · rw [decide_eq_false h0]; rfl
        cases h1 : bt (sp_nb pt m (sp_me pt m x r0 i).1) k with
        | true => rw [e.mp h1]
        | false =>
          cases h2 : bt (sp_nb pt m (fg_it pt m 0 (sp_one x) i)) k with
          | false => rfl
          | true => rw [e.mpr h2] at h1; cases h1
    · show (∃ s, _ ∧ _ ∧ _ ∧ (if decide (y < m) && sp_in (sp_me pt m x r0 i).1 (nI y) then nI i else (sp_me pt m x r0 i).2.2 y) = nI s) ∨ (_ ∧ (if decide (y < m) && sp_in (sp_me pt m x r0 i).1 (nI y) then nI i else (sp_me pt m x r0 i).2.2 y) = 1000)
      rw [decide_eq_true hy, Bool.true_and, fb_in _ (by omega), ih2 y (by omega)]
      rcases ih3 y hy with ⟨s, h1, h2, h3, h4⟩ | ⟨h1, h2⟩
      · refine Or.inl ⟨s, by omega, h2, h3, ?_⟩
        have hq : bt (fg_it pt m 0 (sp_one x) (i - 1)) y = true := by
          have := fg_mono (pt := pt) (m := m) (fg_dj0 (sp_one x)) (i := y) (by omega) s h2 (i - 1 - s)
          rwa [show s + (i - 1 - s) = i - 1 by omega] at this
        rw [hq, decide_eq_true (by omega : 0 < i)]
        simp [h4]
      · have hq : (decide (0 < i) && bt (fg_it pt m 0 (sp_one x) (i - 1)) y) = false := by
          by_cases h0 : 0 < i
          · rw [h1 (i - 1) (by omega)]; simp
          · rw [decide_eq_false h0]; rfl
        rw [hq]
        cases hs : bt (fg_it pt m 0 (sp_one x) i) y with
        | true => exact Or.inl ⟨i, by omega, hs, h1, by simp⟩
        | false =>
          refine Or.inr ⟨fun r hr => ?_, by simp [h2]⟩
          by_cases e : r = i
          · subst e; exact hs
          · exact h1 r (by omega)
theorem fg_me (hm : m ≤ 7) (h : fg_ok m pt) {x y : Nat} {r0 : Nat → Int32} (hx : x < m) (hy : y < m) : (sp_me pt m x r0 m).2.2 y = fg_far pt m x (nI y) := by
  obtain ⟨-, -, h3⟩ := fg_me_c hm (pt := pt) (x := x) (r0 := r0) m
  have hf := fg_fa_c (pt := pt) (m := m) (x := sp_one x) (y := y) (by omega) 7 0
  have full : ∀ r, m ≤ r + 1 → fg_it pt m 0 (sp_one x) r = fg_it pt m 0 (sp_one x) (m - 1) := fun r hr => fg_full hm h (fg_one_lo hx hm) (fg_dj0 _) hx (fg_one_at (by omega)) hr (by omega)
  have mono : ∀ s r, s ≤ r → bt (fg_it pt m 0 (sp_one x) s) y = true → bt (fg_it pt m 0 (sp_one x) r) y = true := by
    intro s r hsr hb
    have := fg_mono (pt := pt) (m := m) (fg_dj0 (sp_one x)) (i := y) (by omega) s hb (r - s)
    rwa [show s + (r - s) = r by omega] at this
  show _ = fg_fa pt m (nI y) 7 0 (fg_it pt m 0 (sp_one x) 0)
  rcases h3 y hy with ⟨s, h1, h2, h4, h5⟩ | ⟨h1, h2⟩
  · rcases hf with ⟨s', g1, g2, g3, g4, g5⟩ | ⟨g1, g2⟩
    · rw [h5, g5]
      have : s = s' := by
        rcases Nat.lt_trichotomy s s' with q | q | q
        · rw [g4 s (by omega) q] at h2; cases h2
        · exact q
        · rw [h4 s' q] at g3; cases g3
      rw [this]
    · rw [g1 s (by omega) (by omega)] at h2; cases h2
  · rcases hf with ⟨s', g1, g2, g3, g4, g5⟩ | ⟨g1, g2⟩
    · exfalso
      by_cases q : s' < m
      · rw [h1 s' q] at g3; cases g3
      · have := full s' (by omega)
        rw [this, h1 (m - 1) (by omega)] at g3; cases g3
    · rw [h2, g2]
/-! all that one comes to -/
theorem fg_reach (hm : m ≤ 7) (h : fg_ok m pt) {x : Nat} (hx : x < m) : sp_sp pt m 0 (sp_one x) m = fg_it pt m 0 (sp_one x) 7 := by
  rw [fg_sp (fg_dj0 _)]
  exact fg_full hm h (fg_one_lo hx hm) (fg_dj0 _) hx (fg_one_at (by omega)) (by omega) (by omega)
theorem fg_least {shut : Int32} {o : Nat} {C : Nat → Prop} (hm : m ≤ 7) (ho : o < 32) (h0 : C o) (hC : ∀ y z, y < m → z < 32 → C y → bt (pt y) z = true → bt shut z = false → C z) : ∀ k z, z < 32 → bt (fg_it pt m shut (sp_one o) k) z = true → C z
  | 0, z, hz, hb => by
    change bt (sp_one o) z = true at hb
    rw [fg_one_bt ho hz] at hb
    have : z = o := by simpa using hb
    rw [this]; exact h0
  | k + 1, z, hz, hb => by
    rw [fg_it, fg_on_bt hz] at hb
    simp at hb
    obtain ⟨hb, hs⟩ := hb
    rcases hb with hb | hb
    · exact fg_least hm ho h0 hC k z hz hb
    · obtain ⟨p, h1, h2, h3⟩ := (fg_nb_bt hm).mp hb
      exact hC p z h1 hz (fg_least hm ho h0 hC k p (by omega) h2) h3 hs
theorem fg_closed {shut : Int32} {o : Nat} (hm : m ≤ 7) (h : fg_ok m pt) (ho : o < m) (hd : fg_dj shut (sp_one o)) {y z : Nat} (hy : y < m) (hz : z < 32) (hb : bt (fg_it pt m shut (sp_one o) 7) y = true) (hp : bt (pt y) z = true) (hs : bt shut z = false) : bt (fg_it pt m shut (sp_one o) 7) z = true := by
  have e := fg_full hm h (fg_one_lo ho hm) hd ho (fg_one_at (by omega)) (j := 7 + 1) (k := 7) (by omega) (by omega)
  rw [← e, fg_it, fg_on_bt hz, hs, (fg_nb_bt hm).mpr ⟨y, hy, hb, hp⟩]; simp
def sp_any (P : Nat → Bool) : Nat → Bool
  | 0 => false
  | n + 1 => sp_any P n || P n
theorem sp_any_iff {P : Nat → Bool} : ∀ {n : Nat}, sp_any P n = true ↔ ∃ i, i < n ∧ P i = true
  | 0 => by simp [sp_any]
  | n + 1 => by
    rw [sp_any, Bool.or_eq_true, sp_any_iff]
    constructor
    · rintro (⟨i, h1, h2⟩ | h)
      · exact ⟨i, by omega, h2⟩
      · exact ⟨n, by omega, h⟩
    · rintro ⟨i, h1, h2⟩
      by_cases e : i = n
      · subst e; exact Or.inr h2
      · exact Or.inl ⟨i, by omega, h2⟩
theorem sp_ff_c {P R : Nat → Bool} : ∀ j i, (∃ s, i ≤ s ∧ s < i + j ∧ P s = true ∧ sp_ff P R j i = R s) ∨ ((∀ r, i ≤ r → r < i + j → P r = false) ∧ sp_ff P R j i = false)
  | 0, i => Or.inr ⟨fun r h1 h2 => absurd h2 (by omega), rfl⟩
  | j + 1, i => by
    rw [sp_ff]
    cases hP : P i with
    | true => exact Or.inl ⟨i, Nat.le_refl _, by omega, hP, by simp⟩
    | false =>
      rw [if_neg (by decide)]
      rcases sp_ff_c (P := P) (R := R) j (i + 1) with ⟨s, h1, h2, h3, h4⟩ | ⟨h1, h2⟩
      · exact Or.inl ⟨s, by omega, by omega, h3, h4⟩
      · refine Or.inr ⟨fun r g1 g2 => ?_, h2⟩
        by_cases e : r = i
        · subst e; exact hP
        · exact h1 r (by omega) (by omega)
def fg_ot (pt : Nat → Int32) (m x : Nat) : Int32 := fg_it pt m 0 (sp_one x) 7 &&& (sp_one x ^^^ (-1))
def fg_cut (pt : Nat → Int32) (m x : Nat) : Bool := sp_any (fun o => sp_in (fg_ot pt m x) (nI o) && !decide (fg_ot pt m x &&& (fg_it pt m (sp_one x) (sp_one o) 7 ^^^ (-1)) = 0)) m
theorem fg_cut_eq (hm : m ≤ 7) (h : fg_ok m pt) {x : Nat} (hx : x < m) : sp_cut pt m x m 0 = fg_cut pt m x := by
  have eo : sp_ot pt m x = fg_ot pt m x := by unfold sp_ot fg_ot; rw [fg_reach hm h hx]
  have obt : ∀ i, i < 32 → bt (fg_ot pt m x) i = (bt (fg_it pt m 0 (sp_one x) 7) i && !decide (i = x)) := fun i hi => by unfold fg_ot; rw [b_and, fb_not _ hi, fg_one_bt (by omega) hi]
  have olo : fg_lo m (fg_ot pt m x) := fun i hi hmi => by rw [obt i hi, fg_it_lo hm h (fg_one_lo hx hm) 7 i hi hmi]; rfl
  have one : ∀ o, bt (fg_ot pt m x) o = true → o < m ∧ ¬ o = x := by
    intro o ho
    have h32 : o < 32 := by
      by_cases q : o < 32
      · exact q
      · rw [b_big (by omega)] at ho; cases ho
    have hm' : o < m := by
      by_cases q : o < m
      · exact q
      · rw [olo o h32 (by omega)] at ho; cases ho
    rw [obt o h32] at ho
    simp at ho
    exact ⟨hm', ho.2⟩
  have dj : ∀ o, o < m → ¬ o = x → fg_dj (sp_one x) (sp_one o) := by
    intro o ho hne i hi hb
    rw [fg_one_bt (by omega) hi] at hb
    have : i = o := by simpa using hb
    rw [fg_one_bt (by omega) hi, decide_eq_false (by omega)]
  -- F5
  have sub : ∀ q, bt (fg_ot pt m x) q = true → ∀ z, z < 32 → bt (fg_it pt m (sp_one x) (sp_one q) 7) z = true → bt (fg_ot pt m x) z = true := by
    intro q hq z hz hb
    obtain ⟨q1, q2⟩ := one q hq
    refine fg_least (C := fun y => bt (fg_ot pt m x) y = true) hm (by omega) hq ?_ 7 z hz hb
    intro y w hy hw hCy hp hs
    rw [obt w hw]
    rw [obt y (by omega)] at hCy
    simp at hCy
    rw [fg_closed hm h hx (fg_dj0 _) hy hw hCy.1 hp (b_0 w)]
    rw [fg_one_bt (by omega) hw] at hs
    rw [hs]; rfl
  have symm : ∀ q, bt (fg_ot pt m x) q = true → ∀ o, o < 32 → bt (fg_it pt m (sp_one x) (sp_one q) 7) o = true → bt (fg_it pt m (sp_one x) (sp_one o) 7) q = true ∧ o < m ∧ ¬ o = x := by
    intro q hq o ho hb
    obtain ⟨q1, q2⟩ := one q hq
    refine fg_least (C := fun y => bt (fg_it pt m (sp_one x) (sp_one y) 7) q = true ∧ y < m ∧ ¬ y = x) hm (by omega) ⟨?_, q1, q2⟩ ?_ 7 o ho hb
    · have := fg_mono (pt := pt) (m := m) (dj q q1 q2) (i := q) (by omega) 0 (fg_one_at (by omega)) 7
      simpa using this
    · intro y z hy hz hCy hp hs
      obtain ⟨c1, c2, c3⟩ := hCy
      have hzm : z < m := by
        by_cases g : z < m
        · exact g
        · rw [(h y hy).1 z hz (by omega)] at hp; cases hp
      have hzx : ¬ z = x := by
        intro e
        rw [fg_one_bt (by omega) hz, decide_eq_true e] at hs; cases hs
      refine ⟨?_, hzm, hzx⟩
      refine fg_least (C := fun w => bt (fg_it pt m (sp_one x) (sp_one z) 7) w = true) hm (by omega) ?_ ?_ 7 q (by omega) c1
      · refine fg_closed hm h hzm (dj z hzm hzx) hzm (by omega) ?_ (by rw [← (h y hy).2 z hzm]; exact hp) ?_
        · have := fg_mono (pt := pt) (m := m) (dj z hzm hzx) (i := z) (by omega) 0 (fg_one_at (by omega)) 7
          simpa using this
        · rw [fg_one_bt (by omega) (by omega), decide_eq_false c3]
      · intro u v hu hv hCu hpu hsv
        exact fg_closed hm h hzm (dj z hzm hzx) hu hv hCu hpu hsv
  unfold sp_cut
  rw [eo]
  have hR : ∀ o, o < m → ¬ o = x → sp_sp pt m (sp_one x) (sp_one o) m = fg_it pt m (sp_one x) (sp_one o) 7 := fun o ho hne => by
    rw [fg_sp (dj o ho hne)]
    exact fg_full hm h (fg_one_lo ho hm) (dj o ho hne) ho (fg_one_at (by omega)) (by omega) (by omega)
  rcases sp_ff_c (P := fun q => sp_in (fg_ot pt m x) (nI q)) (R := fun q => !decide (sp_sp pt m (sp_one x) (sp_one q) m = fg_ot pt m x)) m 0 with ⟨s, h1, h2, h3, h4⟩ | ⟨h1, h2⟩
  · rw [h4]
    have hs : bt (fg_ot pt m x) s = true := by rw [← fb_in _ (by omega)]; exact h3
    obtain ⟨s1, s2⟩ := one s hs
    show (!decide (sp_sp pt m (sp_one x) (sp_one s) m = fg_ot pt m x)) = _
    rw [hR s s1 s2]
    by_cases e : fg_it pt m (sp_one x) (sp_one s) 7 = fg_ot pt m x
    · rw [decide_eq_true e]
      symm
      rw [show (!true) = false from rfl]
      have : ¬ fg_cut pt m x = true := by
        unfold fg_cut
        rw [sp_any_iff]
        rintro ⟨o, ho, hb⟩
        simp only [Bool.and_eq_true] at hb
        obtain ⟨b1, b2⟩ := hb
        have hob : bt (fg_ot pt m x) o = true := by rw [← fb_in _ (by omega)]; exact b1
        have hsy := symm s hs o (by omega) (by rw [e]; exact hob)
        obtain ⟨g1, g2, g3⟩ := hsy
        apply absurd b2
        rw [decide_eq_true]
        · decide
        · apply b_ext
          intro i hi
          rw [b_and, fb_not _ hi, b_0]
          cases hoi : bt (fg_ot pt m x) i with
          | false => rfl
          | true =>
            have : bt (fg_it pt m (sp_one x) (sp_one o) 7) i = true := by
              refine fg_least (C := fun w => bt (fg_it pt m (sp_one x) (sp_one o) 7) w = true) hm (by omega) g1 ?_ 7 i hi (by rw [e]; exact hoi)
              intro u v hu hv hCu hpu hsv
              exact fg_closed hm h g2 (dj o g2 g3) hu hv hCu hpu hsv
            rw [this]; rfl
      simpa using this
    · rw [decide_eq_false e]
      symm
      rw [show (!false) = true from rfl]
      unfold fg_cut
      rw [sp_any_iff]
      refine ⟨s, s1, ?_⟩
      rw [Bool.and_eq_true]
      refine ⟨h3, nd_t (fun q => e ?_)⟩
      apply b_ext
      intro i hi
      cases hi2 : bt (fg_it pt m (sp_one x) (sp_one s) 7) i with
      | true => exact (sub s hs i hi hi2).symm
      | false =>
        cases hoi : bt (fg_ot pt m x) i with
        | false => rfl
        | true =>
          have : bt (fg_ot pt m x &&& (fg_it pt m (sp_one x) (sp_one s) 7 ^^^ (-1))) i = false := by rw [q, b_0]
          rw [b_and, fb_not _ hi, hoi, hi2] at this; cases this
  · rw [h2]
    symm
    have : ¬ fg_cut pt m x = true := by
      unfold fg_cut
      rw [sp_any_iff]
      rintro ⟨o, ho, hb⟩
      simp only [Bool.and_eq_true] at hb
      have hq := hb.1
      have hp := h1 o (by omega) (by omega)
      rw [hp] at hq; cases hq
    simpa using this
end M49
