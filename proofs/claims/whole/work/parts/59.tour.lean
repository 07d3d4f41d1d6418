/-! ===== how soon one has been everywhere ===== -/
/-- in i steps one can have been at just the places S, and be at k -/
def tw (pt : Nat → Int32) (m fr : Nat) : Nat → Nat → Nat → Bool
  | 0, S, k => decide (S = 2 ^ fr) && decide (k = fr)
  | i + 1, S', q => decide (q < m) && sp_any (fun S => sp_any (fun k => tw pt m fr i S k && (decide (S' = S ||| 2 ^ q) && bt (pt k) q)) m) 128
/-- the first of whom F is so -/
def tp (F : Nat → Bool) : Nat → Nat → Int32
  | 0, _ => 1000
  | j + 1, i => if F i then nI i else tp F j (i + 1)
theorem or_one : ∀ b, b < 128 → ∀ p, p < 7 → nI b ||| ((1 : Int32) <<< (nI p &&& 31)) = nI (b ||| 2 ^ p) ∧ b ||| 2 ^ p < 128 := by decide +kernel
theorem one_n : ∀ p, p < 7 → (1 : Int32) <<< (nI p &&& 31) = nI (2 ^ p) ∧ 2 ^ p < 128 := by decide +kernel
theorem bt_zero {x : Int32} (h : ∀ i, i < 32 → bt x i = false) : x = 0 := b_ext (fun i hi => by rw [h i hi, b_0])
theorem tw_k {pt : Nat → Int32} {m fr : Nat} (hf : fr < m) : ∀ i S k, tw pt m fr i S k = true → k < m
  | 0, S, k, h => by
    rw [tw, Bool.and_eq_true] at h
    have := of_decide_eq_true h.2
    omega
  | i + 1, S, k, h => by
    rw [tw, Bool.and_eq_true] at h
    exact of_decide_eq_true h.1
section M59
variable {E : fc_E} {d : Nat} {mi : fc_Mi} {ml : fc_Ml} {mr : fc_Mr} {b n m t fr ea eb sc : Nat}
/-- a step on: which places S' with q behind the sets below k -/
def tq (T : Nat → Nat → Bool) (pt : Nat → Int32) (m : Nat) (S' q : Nat) (k : Nat) : Bool := sp_any (fun S => sp_any (fun k => T S k && (decide (S' = S ||| 2 ^ q) && bt (pt k) q)) m) k
/-- how the row of ends says it -/
def trw (T : Nat → Nat → Bool) (r : Nat → Int32) : Prop := ∀ S k, S < 128 → k < 32 → bt (r S) k = T S k
theorem tq_in (T : Nat → Bool) (D : Bool) (B' : Nat → Bool) (m : Nat) : (D && sp_any (fun k => T k && B' k) m) = sp_any (fun k => T k && (D && B' k)) m := by
  cases D with
  | false =>
    have : ∀ j, sp_any (fun k => T k && (false && B' k)) j = false := fun j => by
      induction j with
      | zero => rfl
      | succ j ih => rw [sp_any, ih]; simp
    rw [this]; rfl
  | true => simp
theorem l_step2 (hW : fc_Wd mr) (hL : fc_L mr b) (hb : 200 ≤ b) (hM : mi b 10 = nI m) (h7 : m ≤ 7) (hE1 : mr 6 1 = some ea) (hE1s : fc_sh[ea]? = some (20, 128)) (hE2 : mr 6 2 = some eb) (hE2s : fc_sh[eb]? = some (20, 128)) (hab : ea ≠ eb) (heb : eb < 200) {T : Nat → Nat → Bool} {bn : Nat} (hbn : bn < 128) {ar : Int32} (har : ∀ q, q < 32 → bt ar q = sp_any (fun k => T bn k && bt (mi (b + 4) k) q) m) {K0 : fc_Q} (K : ∀ (r : Nat → Int32) (c : Int32) (x3 x4 : Option Value), (∀ S' q, S' < 128 → q < 32 → bt (r S') q = (decide (q < m) && tq T (mi (b + 4)) m S' q (bn + 1))) → c = nI (bn + 1) → fc_T E mX9_stepOn (d + 2) (0, 0) fc_sh 10 [some (.ref 6), some (.ref b), some (.int c), x3, x4] [] (fc_ur mi eb r) ml mr K0) : ∀ (j i : Nat) (c : Int32) (r : Nat → Int32), i + j = m → c = nI i → (∀ S' q, S' < 128 → q < 32 → bt (r S') q = ((decide (q < m) && tq T (mi (b + 4)) m S' q bn) || (decide (q < i) && (decide (S' = bn ||| 2 ^ q) && bt ar q)))) → fc_T E mX9_stepOn (d + 2) (0, 0) fc_sh 31 [some (.ref 6), some (.ref b), some (.int (nI bn)), some (.int ar), some (.int c)] [] (fc_ur mi eb r) ml mr (K0) := by
  intro j
  induction j with
  | zero =>
    intro i c r hi hc hr
    subst hc
    have hM' : (fc_ur mi eb r) b 10 = nI m := by rw [fc_ur_off _ _ (by omega)]; exact hM
    refine fc_run oX9_stepOn (fun pc => pc == 31 || pc == 10) 400 ?_
    refine And.intro (fc_L_0 hL) ?_
    refine And.intro (fun h37 => ?_) (fun h37 => ?_)
    · refine K _ _ _ _ (fun S' q h1 h2 => ?_) (fc_inc bn)
      rw [hr S' q h1 h2, har q h2, show i = m by omega]
      unfold tq
      rw [sp_any]
      by_cases hq : q < m
      · rw [decide_eq_true hq]
        simp only [Bool.true_and]
        congr 1
        exact tq_in _ _ _ _
      · rw [decide_eq_false hq]; rfl
    · exact absurd (by rw [hM']; exact nI_le (by omega) (by omega)) h37
  | succ j ih =>
    intro i c r hi hc hr
    subst hc
    have hM' : (fc_ur mi eb r) b 10 = nI m := by rw [fc_ur_off _ _ (by omega)]; exact hM
    refine fc_run oX9_stepOn (fun pc => pc == 31 || pc == 10) 400 ?_
    refine And.intro (fc_L_0 hL) ?_
    refine And.intro (fun h37 => ?_) (fun h37 => ?_)
    · exact absurd h37 (by rw [hM']; exact nI_ge (by omega) (by omega))
    · refine Exists.intro _ (And.intro (c_isIn _ _) ?_)
      rintro _ _ _ _ ⟨rfl, rfl, rfl, rfl⟩
      refine And.intro (fun h46 => ?_) (fun h46 => ?_)
      · replace h46 := fc_b0.mp h46
        refine ih (i + 1) _ _ (by omega) (fc_inc i) (fun S' q h1 h2 => ?_)
        rw [hr S' q h1 h2]
        have har' : bt ar i = false := by rw [← fb_in _ (by omega)]; exact h46
        by_cases g : q = i
        · subst g; simp [har']
        · by_cases g2 : q < i
          · simp [g2, show q < i + 1 by omega]
          · simp [g2, show ¬ q < i + 1 by omega]
      · replace h46 := fc_b1.mp h46
        have ho := or_one bn hbn i (by omega)
        refine And.intro rfl (Exists.intro _ (And.intro hE2 ?_))
        refine Exists.intro _ (Exists.intro _ (And.intro hE2s (And.intro (fc_ixn ho.1 ho.2 (by decide)) ?_)))
        refine Exists.intro _ (Exists.intro _ (And.intro hE2s (And.intro (fc_ixn ho.1 ho.2 (by decide)) ?_)))
        rw [fc_u_ur]
        refine ih (i + 1) _ _ (by omega) (fc_inc i) (fun S' q h1 h2 => ?_)
        show bt (if S' = bn ||| 2 ^ i then (fc_ur mi eb r) eb (bn ||| 2 ^ i) ||| ((1 : Int32) <<< (nI i &&& 31)) else r S') q = _
        rw [fc_ur_row]
        have har' : bt ar i = true := by rw [← fb_in _ (by omega)]; exact h46
        by_cases e : S' = bn ||| 2 ^ i
        · rw [if_pos e, b_or, fb_one (by omega) h2, ← e, hr S' q h1 h2]
          by_cases g : q = i
          · subst g; simp [har', e]
          · by_cases g2 : q < i
            · simp [g, g2, show q < i + 1 by omega]
            · simp [g, g2, show ¬ q < i + 1 by omega]
        · rw [if_neg e, hr S' q h1 h2]
          by_cases g : q = i
          · subst g; simp [e]
          · by_cases g2 : q < i
            · simp [g2, show q < i + 1 by omega]
            · simp [g2, show ¬ q < i + 1 by omega]

theorem l_step1 (hW : fc_Wd mr) (hL : fc_L mr b) (hb : 200 ≤ b) (hM : mi b 10 = nI m) (h7 : m ≤ 7) (hE1 : mr 6 1 = some ea) (hE1s : fc_sh[ea]? = some (20, 128)) (hE2 : mr 6 2 = some eb) (hE2s : fc_sh[eb]? = some (20, 128)) (hab : ea ≠ eb) (heb : eb < 200) {T : Nat → Nat → Bool} (hT : trw T (mi ea)) (hTk : ∀ S k, T S k = true → k < m) : ∀ (j i : Nat) (c : Int32) (x3 x4 : Option Value) (r : Nat → Int32), i + j = 128 → c = nI i → (∀ S' q, S' < 128 → q < 32 → bt (r S') q = (decide (q < m) && tq T (mi (b + 4)) m S' q i)) → fc_T E mX9_stepOn (d + 2) (0, 0) fc_sh 10 [some (.ref 6), some (.ref b), some (.int c), x3, x4] [] (fc_ur mi eb r) ml mr (fun v mi' ml' mr' => v = none ∧ (∃ r, mi' = fc_ur mi eb r ∧ ∀ S' q, S' < 128 → q < 32 → bt (r S') q = (decide (q < m) && tq T (mi (b + 4)) m S' q 128)) ∧ ml = ml' ∧ fc_u (fc_u mr 6 1 (some eb)) 6 2 (some ea) = mr') := by
  intro j
  induction j with
  | zero =>
    intro i c x3 x4 r hi hc hr
    subst hc
    have hM' : (fc_ur mi eb r) b 10 = nI m := by rw [fc_ur_off _ _ (by omega)]; exact hM
    refine fc_run oX9_stepOn (fun pc => pc == 10 || pc == 31) 400 ?_
    refine And.intro (fun h14 => ?_) (fun h14 => ?_)
    · refine And.intro rfl (Exists.intro _ (And.intro hE1 ?_))
      refine And.intro rfl (Exists.intro _ (And.intro hE2 ?_))
      refine And.intro rfl ?_
      refine And.intro rfl ?_
      rw [show i = 128 by omega] at hr
      exact ⟨rfl, ⟨r, rfl, hr⟩, rfl, rfl⟩
    · exact absurd (nI_le (a := 128) (b := i) (by omega) (by omega)) h14
  | succ j ih =>
    intro i c x3 x4 r hi hc hr
    subst hc
    have hM' : (fc_ur mi eb r) b 10 = nI m := by rw [fc_ur_off _ _ (by omega)]; exact hM
    refine fc_run oX9_stepOn (fun pc => pc == 10 || pc == 31) 400 ?_
    refine And.intro (fun h14 => ?_) (fun h14 => ?_)
    · exact absurd h14 (nI_ge (a := i) (b := 128) (by omega) (by omega))
    · refine And.intro rfl (Exists.intro _ (And.intro hE1 ?_))
      refine Exists.intro _ (Exists.intro _ (And.intro hE1s (And.intro (fc_ixn rfl (by omega) (by decide)) ?_)))
      refine Exists.intro _ (And.intro (c_neighbours hL _ hM' h7) ?_)
      rintro _ _ _ _ ⟨rfl, rfl, rfl, rfl⟩
      rw [fc_ur_off mi r hab, fc_ur_off mi r (show b + 4 ≠ eb by omega)]
      refine l_step2 hW hL hb hM h7 hE1 hE1s hE2 hE2s hab heb (T := T) (show i < 128 by omega) (fun q hq => ?_) (fun r' c' y3 y4 h1 h2 => ih (i + 1) _ _ _ _ (by omega) h2 h1) m 0 _ _ (by omega) rfl (fun S' q h1 h2 => by rw [hr S' q h1 h2]; simp)
      cases h : sp_any (fun k => T i k && bt (mi (b + 4) k) q) m with
      | true =>
        obtain ⟨k, k1, k2⟩ := sp_any_iff.mp h
        rw [Bool.and_eq_true] at k2
        exact (fg_nb_bt h7).mpr ⟨k, k1, by rw [hT i k (by omega) (by omega)]; exact k2.1, k2.2⟩
      | false =>
        cases g : bt (sp_nb (mi (b + 4)) m (mi ea i)) q with
        | false => rfl
        | true =>
          obtain ⟨k, k1, k2, k3⟩ := (fg_nb_bt h7).mp g
          rw [hT i k (by omega) (by omega)] at k2
          have := (sp_any_iff (P := fun k => T i k && bt (mi (b + 4) k) q)).mpr ⟨k, k1, (by show (T i k && bt (mi (b + 4) k) q) = true; rw [k2, k3]; rfl)⟩
          rw [this] at h; cases h

theorem c_stepOn (hW : fc_Wd mr) (hL : fc_L mr b) (hb : 200 ≤ b) (hM : mi b 10 = nI m) (h7 : m ≤ 7) (hE1 : mr 6 1 = some ea) (hE1s : fc_sh[ea]? = some (20, 128)) (hE2 : mr 6 2 = some eb) (hE2s : fc_sh[eb]? = some (20, 128)) (hab : ea ≠ eb) (heb : eb < 200) {T : Nat → Nat → Bool} (hT : trw T (mi ea)) (hTk : ∀ S k, T S k = true → k < m) : fc_R E mX9_stepOn (d + 2) fc_sh [.ref 6, .ref b] mi ml mr (fun v mi' ml' mr' => v = none ∧ (∃ r, mi' = fc_ur mi eb r ∧ trw (fun S' q => decide (q < m) && tq T (mi (b + 4)) m S' q 128) r) ∧ ml = ml' ∧ fc_u (fc_u mr 6 1 (some eb)) 6 2 (some ea) = mr') := by
  refine fc_met rfl (Nat.le_of_ble_eq_true rfl) (fc_run oX9_stepOn (fun pc => pc == 10) 400 ?_)
  refine And.intro rfl (Exists.intro _ (And.intro hE2 ?_))
  refine Exists.intro _ (And.intro (c_fill hE2s (by omega) _) ?_)
  rintro _ _ _ _ ⟨rfl, rfl, rfl, rfl⟩
  refine fc_conT (l_step1 hW hL hb hM h7 hE1 hE1s hE2 hE2s hab heb hT hTk 128 0 _ none none _ (by omega) rfl (fun S' q h1 h2 => ?_)) ?_
  · rw [if_pos h1, b_0]; unfold tq; rw [sp_any]; simp
  · rintro v a1 a2 a3 ⟨q1, ⟨r, q2, q3⟩, q4, q5⟩
    exact ⟨q1, ⟨r, q2, q3⟩, q4, q5⟩

/-- the rows of ends lie at 15 and 16, one way or the other -/
def fc_en (mr : fc_Mr) : Prop := (mr 6 1 = some 15 ∧ mr 6 2 = some 16) ∨ (mr 6 1 = some 16 ∧ mr 6 2 = some 15)
theorem fc_Wd.en {x y : Option Nat} (h : fc_Wd mr) : fc_Wd (fc_u (fc_u mr 6 1 x) 6 2 y) := by
  intro a k r q
  have := h a k r q
  by_cases e : a = 6
  · subst e
    by_cases e2 : k = 1
    · subst e2; rw [show fc_fr 6 1 = none by decide] at q; cases q
    · by_cases e3 : k = 2
      · subst e3; rw [show fc_fr 6 2 = none by decide] at q; cases q
      · rw [fc_u_nj _ _ _ _ e3, fc_u_nj _ _ _ _ e2]; exact this
  · rw [fc_u_off _ _ _ e, fc_u_off _ _ _ e]; exact this
theorem fc_L.en {x y : Option Nat} (h : fc_L mr b) (hb : 200 ≤ b) : fc_L (fc_u (fc_u mr 6 1 x) 6 2 y) b := by
  unfold fc_L at *
  rw [fc_u_off _ _ _ (show b ≠ 6 by omega), fc_u_off _ _ _ (show b ≠ 6 by omega), fc_u_off _ _ _ (show b + 10 ≠ 6 by omega), fc_u_off _ _ _ (show b + 10 ≠ 6 by omega)]
  exact h
/-- nothing but the rows of ends has changed -/
def fc_tr (mi mi' : fc_Mi) (mr mr' : fc_Mr) : Prop := (∀ x, x ≠ 15 → x ≠ 16 → mi' x = mi x) ∧ fc_en mr' ∧ ∃ x y, mr' = fc_u (fc_u mr 6 1 x) 6 2 y
theorem fc_u12 {x y x' y' : Option Nat} : fc_u (fc_u (fc_u (fc_u mr 6 1 x) 6 2 y) 6 1 x') 6 2 y' = fc_u (fc_u mr 6 1 x') 6 2 y' := by
  funext a k
  simp only [fc_u]
  by_cases e : a = 6
  · simp only [e, if_true]
    by_cases e2 : k = 2
    · simp [e2]
    · by_cases e3 : k = 1
      · simp [e3]
      · simp [e2, e3]
  · simp [e]
theorem l_ptour (hW : fc_Wd mr) (hL : fc_L mr b) (hb : 200 ≤ b) (hM : mi b 10 = nI m) (h7 : m ≤ 7) (hf : fr < m) {g : Nat} (hg : g < 128) {x2 : Option Value} : ∀ (j i : Nat) (c : Int32) (mm : fc_Mi) (mq : fc_Mr), i + j = 15 → c = nI i → fc_tr mi mm mr mq → (∀ ea, mq 6 1 = some ea → trw (tw (mi (b + 4)) m fr i) (mm ea)) → fc_T E mX9_pathsOfTour (d + 3) (0, 0) fc_sh 30 [some (.ref 6), some (.ref b), x2, some (.int (nI g)), some (.int c)] [] mm ml mq (fun v mi' ml' mr' => v = some (.int (tp (fun i => sp_any (tw (mi (b + 4)) m fr i g) m) j i)) ∧ fc_tr mi mi' mr mr' ∧ ml = ml') := by
  intro j
  induction j with
  | zero =>
    intro i c mm mq hi hc hm hr
    subst hc
    refine fc_run oX9_pathsOfTour (fun pc => pc == 30) 400 ?_
    refine And.intro (fun h34 => ?_) (fun h34 => ?_)
    · exact ⟨rfl, hm, rfl⟩
    · exact absurd (nI_lt (a := 14) (b := i) (by omega) (by omega)) h34
  | succ j ih =>
    intro i c mm mq hi hc hm hr
    subst hc
    have key : ∀ ea eb, mq 6 1 = some ea → mq 6 2 = some eb → fc_sh[ea]? = some (20, 128) → fc_sh[eb]? = some (20, 128) → ea ≠ eb → eb < 200 → ea < 200 → ((ea = 15 ∧ eb = 16) ∨ (ea = 16 ∧ eb = 15)) → fc_T E mX9_pathsOfTour (d + 3) (0, 0) fc_sh 30 [some (.ref 6), some (.ref b), x2, some (.int (nI g)), some (.int (nI i))] [] mm ml mq (fun v mi' ml' mr' => v = some (.int (tp (fun i => sp_any (tw (mi (b + 4)) m fr i g) m) (j + 1) i)) ∧ fc_tr mi mi' mr mr' ∧ ml = ml') := by
      intro ea eb hE1 hE2 hE1s hE2s hab heb hea hcase
      obtain ⟨hm1, hm2, x', y', hm3⟩ := id hm
      have hT := hr ea hE1
      have hWq : fc_Wd mq := by rw [hm3]; exact hW.en
      have hLq : fc_L mq b := by rw [hm3]; exact hL.en hb
      have hMq : mm b 10 = nI m := by rw [hm1 b (by omega) (by omega)]; exact hM
      have h4 : mm (b + 4) = mi (b + 4) := hm1 _ (by omega) (by omega)
      have hz : mm ea g = 0 ↔ sp_any (tw (mi (b + 4)) m fr i g) m = false := by
        constructor
        · intro q
          cases h : sp_any (tw (mi (b + 4)) m fr i g) m with
          | false => rfl
          | true =>
            obtain ⟨k, k1, k2⟩ := sp_any_iff.mp h
            have := hT g k hg (by omega)
            rw [q, b_0, k2] at this; cases this
        · intro q
          refine bt_zero (fun k hk => ?_)
          rw [hT g k hg hk]
          cases h : tw (mi (b + 4)) m fr i g k with
          | false => rfl
          | true =>
            rw [sp_any_iff.mpr ⟨k, tw_k hf i g k h, h⟩] at q; cases q
      refine fc_run oX9_pathsOfTour (fun pc => pc == 30) 400 ?_
      refine And.intro (fun h34 => ?_) (fun h34 => ?_)
      · exact absurd h34 (nI_nlt (b := i) (a := 14) (by omega) (by omega))
      · refine And.intro rfl (Exists.intro _ (And.intro hE1 ?_))
        refine Exists.intro _ (Exists.intro _ (And.intro hE1s (And.intro (fc_ixn rfl (by omega) (by decide)) ?_)))
        refine And.intro (fun h43 => ?_) (fun h43 => ?_)
        · refine And.intro rfl (Exists.intro _ (And.intro (c_stepOn hWq hLq hb hMq h7 hE1 hE1s hE2 hE2s hab heb hT (fun S k h => tw_k hf i S k h)) ?_))
          rintro _ m1 _ r1 ⟨rfl, ⟨rr, rfl, hrr⟩, rfl, rfl⟩
          have hF : sp_any (tw (mi (b + 4)) m fr i g) m = false := hz.mp h43
          rw [tp, if_neg (by rw [hF]; decide)]
          refine ih (i + 1) _ _ _ (by omega) (fc_inc i) ⟨fun x q1 q2 => ?_, ?_, ?_⟩ (fun e he => ?_)
          · rw [fc_ur_off _ _ (by omega)]; exact hm1 x q1 q2
          · rcases hcase with ⟨rfl, rfl⟩ | ⟨rfl, rfl⟩
            · exact Or.inr ⟨rfl, rfl⟩
            · exact Or.inl ⟨rfl, rfl⟩
          · exact ⟨some eb, some ea, by rw [hm3, fc_u12]⟩
          · have ee : e = eb := by
              have : some eb = some e := he
              exact (Option.some.inj this).symm
            subst ee
            rw [fc_ur_row]
            rw [h4] at hrr
            intro S q h1 h2
            rw [hrr S q h1 h2, tw]; rfl
        · have hF : sp_any (tw (mi (b + 4)) m fr i g) m = true := by
            cases h : sp_any (tw (mi (b + 4)) m fr i g) m with
            | true => rfl
            | false => exact absurd (hz.mpr h) h43
          exact ⟨by rw [tp, if_pos hF], hm, rfl⟩
    rcases hm.2.1 with ⟨q1, q2⟩ | ⟨q1, q2⟩
    · exact key 15 16 q1 q2 rfl rfl (by decide) (by decide) (by decide) (Or.inl ⟨rfl, rfl⟩)
    · exact key 16 15 q1 q2 rfl rfl (by decide) (by decide) (by decide) (Or.inr ⟨rfl, rfl⟩)
theorem fill_trw {r : Nat → Int32} (hf : fr < m) (h7 : m ≤ 7) (hr : ∀ S, S < 128 → r S = if S = 2 ^ fr then (1 : Int32) <<< (nI fr &&& 31) else 0) {pt : Nat → Int32} : trw (tw pt m fr 0) r := by
  intro S k h1 h2
  rw [hr S h1, tw]
  by_cases e : S = 2 ^ fr
  · rw [if_pos e, fb_one (by omega) h2, decide_eq_true e]; rfl
  · rw [if_neg e, b_0, decide_eq_false e]; rfl
theorem c_ptour (hW : fc_Wd mr) (hL : fc_L mr b) (hb : 200 ≤ b) (hM : mi b 10 = nI m) (h7 : m ≤ 7) (hf : fr < m) (hen : fc_en mr) {g : Nat} (hg : g < 128) (hgs : sp_sp (mi (b + 4)) m 0 (sp_one fr) m = nI g) : fc_R E mX9_pathsOfTour (d + 3) fc_sh [.ref 6, .ref b, .int (nI fr)] mi ml mr (fun v mi' ml' mr' => v = some (.int (tp (fun i => sp_any (tw (mi (b + 4)) m fr i g) m) 15 0)) ∧ fc_tr mi mi' mr mr' ∧ ml = ml') := by
  have ho := one_n fr (by omega)
  suffices key : ∀ ea eb, mr 6 1 = some ea → mr 6 2 = some eb → fc_sh[ea]? = some (20, 128) → ((ea = 15 ∧ eb = 16) ∨ (ea = 16 ∧ eb = 15)) → fc_R E mX9_pathsOfTour (d + 3) fc_sh [.ref 6, .ref b, .int (nI fr)] mi ml mr (fun v mi' ml' mr' => v = some (.int (tp (fun i => sp_any (tw (mi (b + 4)) m fr i g) m) 15 0)) ∧ fc_tr mi mi' mr mr' ∧ ml = ml') by
    rcases hen with ⟨q1, q2⟩ | ⟨q1, q2⟩
    · exact key 15 16 q1 q2 rfl (Or.inl ⟨rfl, rfl⟩)
    · exact key 16 15 q1 q2 rfl (Or.inr ⟨rfl, rfl⟩)
  intro ea eb hE1 hE2 hE1s hcase
  refine fc_met rfl (Nat.le_of_ble_eq_true rfl) (fc_run oX9_pathsOfTour (fun pc => pc == 30) 400 ?_)
  refine And.intro rfl (Exists.intro _ (And.intro (c_spread hL _ _ hM h7) ?_))
  rintro _ _ _ _ ⟨rfl, rfl, rfl, rfl⟩
  rw [hgs]
  refine And.intro rfl (Exists.intro _ (And.intro hE1 ?_))
  refine Exists.intro _ (And.intro (c_fill hE1s (by omega) _) ?_)
  rintro _ _ _ _ ⟨rfl, rfl, rfl, rfl⟩
  refine And.intro rfl (Exists.intro _ (And.intro hE1 ?_))
  refine Exists.intro _ (Exists.intro _ (And.intro hE1s (And.intro (fc_ixn ho.1 ho.2 (by decide)) ?_)))
  refine l_ptour hW hL hb hM h7 hf hg 15 0 _ _ _ (by omega) rfl ⟨fun x q1 q2 => ?_, hen, mr 6 1, mr 6 2, ?_⟩ (fun e he => ?_)
  · rw [fc_u_off _ _ _ (by omega), fc_ur_off _ _ (by omega)]
  · rw [fc_u_self, fc_u_self]
  · have ee : e = ea := by rw [hE1] at he; exact (Option.some.inj he).symm
    subst ee
    refine fill_trw hf h7 (fun S hS => ?_)
    rw [fc_u_row]
    by_cases q : S = 2 ^ fr
    · simp only [q, if_true]
    · simp only [q, if_false]; rw [fc_ur_row, if_pos hS]

theorem c_tour (hH : fc_H mi mr b sc n m t) (hen : fc_en mr) (hG : fg_ok m (mi (b + 4))) (x : Int32) : fc_R E mX10_tour (d + 4) fc_sh [.ref 0, .int x] mi ml mr (fun v mi' ml' mr' => v = some (.int (if sp_has (mi b 12) x then sp_non (sp_mo (mi (b + 7)) (mi 19) (mi (b + 5)) (mi 17 1) x.toNatClampNeg (tp (fun i => sp_any (tw (mi (b + 4)) m (mi 18 x.toNatClampNeg).toNatClampNeg i (fg_it (mi (b + 4)) m 0 (sp_one (mi 18 x.toNatClampNeg).toNatClampNeg) 7).toNatClampNeg) m) 15 0)) else -1)) ∧ fc_tr mi mi' mr mr' ∧ ml = ml') := by
  obtain ⟨hW, hB, hL, hb, hN, hV, hC, hQ, hsc⟩ := id hH
  obtain ⟨hN1, hN2, hN3, hN4, hN5, hN6⟩ := id hN
  refine fc_met rfl (Nat.le_of_ble_eq_true rfl) (fc_run oX10_tour (fun _ => false) 400 ?_)
  refine And.intro rfl (Exists.intro _ (And.intro hB ?_))
  refine And.intro (fc_L_0 hL) (Exists.intro _ (And.intro (c_hasPerson hL _) ?_))
  rintro _ _ _ _ ⟨rfl, rfl, rfl, rfl⟩
  refine And.intro (fun h8 => ?_) (fun h8 => ?_)
  · replace h8 := fc_b0.mp h8
    rw [if_neg (by rw [h8]; decide)]
    exact ⟨rfl, ⟨fun _ _ _ => rfl, hen, mr 6 1, mr 6 2, by rw [fc_u_self, fc_u_self]⟩, rfl⟩
  · replace h8 := fc_b1.mp h8
    rw [hN1] at h8
    obtain ⟨p, hp, ep⟩ := sp_hasN (by omega) h8
    rw [← hN1] at h8
    have hcp : x.toNatClampNeg = p := by rw [ep]; exact nI_clamp (by omega)
    obtain ⟨jj, hj, ej⟩ := hV.1 p hp
    have ej' : mi 18 p = nI jj := ej
    have hcl : (mi 18 p).toNatClampNeg = jj := by rw [ej']; exact nI_clamp (by omega)
    have hlo : lo7 (fg_it (mi (b + 4)) m 0 (sp_one jj) 7) := fun i hi h7' => fg_it_lo hN4 hG (fg_one_lo hj hN4) 7 i hi (by omega)
    obtain ⟨g, hg, eg⟩ := lo7_n hlo
    have hgs : sp_sp (mi (b + 4)) m 0 (sp_one jj) m = nI g := by rw [fg_reach hN4 hG hj]; exact eg
    have hgc : (fg_it (mi (b + 4)) m 0 (sp_one jj) 7).toNatClampNeg = g := by rw [eg]; exact nI_clamp (by omega)
    rw [if_pos h8, hcp, hcl, hgc]
    subst ep
    refine And.intro rfl (Exists.intro _ (And.intro (hW 0 2 6 rfl) ?_))
    refine And.intro rfl (Exists.intro _ (And.intro hB ?_))
    refine And.intro rfl (Exists.intro _ (And.intro (hW 0 3 17 rfl) ?_))
    refine And.intro (fc_S_0 (fc_S_at17 hW)) (Exists.intro _ (And.intro (fc_S_r2 (fc_S_at17 hW)) ?_))
    refine Exists.intro _ (Exists.intro _ (And.intro (fc_S_1 (fc_S_at17 hW)) (And.intro (fc_ixn rfl (by omega) (by decide)) ?_)))
    rw [show (mi (17 + 1) p) = nI jj from ej]
    refine And.intro rfl (Exists.intro _ (And.intro (c_ptour hW hL (by omega) hN3 hN4 hj hen hg hgs) ?_))
    rintro _ m1 _ r1 ⟨rfl, hT, rfl⟩
    have hT1 := hT.1
    have hLr : fc_L r1 b := by obtain ⟨x', y', e⟩ := hT.2.2; rw [e]; exact hL.en (by omega)
    have hWr : fc_Wd r1 := by obtain ⟨x', y', e⟩ := hT.2.2; rw [e]; exact hW.en
    have hBr : r1 0 7 = some b := by obtain ⟨x', y', e⟩ := hT.2.2; rw [e, fc_u_off _ _ _ (by decide), fc_u_off _ _ _ (by decide)]; exact hB
    refine And.intro rfl (Exists.intro _ (And.intro (hWr 0 3 17 rfl) ?_))
    refine And.intro rfl (Exists.intro _ (And.intro hBr ?_))
    refine And.intro (fc_S_0 (fc_S_at17 hWr)) (Exists.intro _ (And.intro (c_minutesOver (fc_S_at17 hWr) hLr (show p < 5 by omega) _) ?_))
    rintro _ _ _ _ ⟨rfl, rfl, rfl, rfl⟩
    refine Exists.intro _ (And.intro (c_orNone _) ?_)
    rintro _ _ _ _ ⟨rfl, rfl, rfl, rfl⟩
    refine ⟨?_, hT, rfl⟩
    rw [hT1 (b + 7) (by omega) (by omega), hT1 (b + 5) (by omega) (by omega), hT1 17 (by decide) (by decide), hT1 (17 + 2) (by decide) (by decide)]

end M59
