/-! ===== the reference reads the law: codes told so far, and how a level ends ===== -/
def fc_S2 (a b : Nat → Int32) : List Int32 → Prop
  | [] => True
  | x :: w => lwr x (a (1100 + w.length)) (b (1100 + w.length)) ∧ fc_S2 a b w
theorem fc_S2.cg {a b a' b' : Nat → Int32} : ∀ {w : List Int32}, (∀ j, j < w.length → a' (1100 + j) = a (1100 + j) ∧ b' (1100 + j) = b (1100 + j)) → fc_S2 a b w → fc_S2 a' b' w
  | [], _, _ => trivial
  | x :: w, h, q => ⟨by rw [(h _ (Nat.lt_succ_self _)).1, (h _ (Nat.lt_succ_self _)).2]; exact q.1, fc_S2.cg (fun j hj => h j (Nat.lt_succ_of_lt hj)) q.2⟩
theorem fc_S2.get {a b : Nat → Int32} : ∀ {w : List Int32} (j : Nat), fc_S2 a b w → j < w.length → lwr (w.reverse.getD j 0) (a (1100 + j)) (b (1100 + j))
  | [], j, _, h => absurd h (Nat.not_lt_zero _)
  | x :: w, j, q, h => by
    by_cases e : j = w.length
    · rw [e]
      have : (x :: w).reverse.getD w.length 0 = x := by simp [List.getD_eq_getElem?_getD, List.reverse_cons]
      rw [this]; exact q.1
    · have hj : j < w.length := by rw [List.length_cons] at h; omega
      have : (x :: w).reverse.getD j 0 = w.reverse.getD j 0 := by
        simp only [List.getD_eq_getElem?_getD, List.reverse_cons]
        rw [List.getElem?_append_left (by simpa using hj)]
      rw [this]; exact fc_S2.get j q.2 hj
/-- what the reading of a law may move -/
def rFO (mi mi' : fc_Mi) : Prop := (∀ x, x ≠ 252 → x ≠ 259 → x ≠ 260 → mi' x = mi x) ∧ (∀ k, k < 1100 → mi' 259 k = mi 259 k ∧ mi' 260 k = mi 260 k) ∧ ∀ k, k ≠ 7 → k ≠ 8 → k ≠ 13 → mi' 252 k = mi 252 k
theorem rFO.rf {mi : fc_Mi} : rFO mi mi := ⟨fun _ _ _ _ => rfl, fun _ _ => ⟨rfl, rfl⟩, fun _ _ _ _ => rfl⟩
theorem rFO.tr {a b c : fc_Mi} (h : rFO a b) (g : rFO b c) : rFO a c := ⟨fun x q1 q2 q3 => (g.1 x q1 q2 q3).trans (h.1 x q1 q2 q3), fun k q => ⟨(g.2.1 k q).1.trans (h.2.1 k q).1, (g.2.1 k q).2.trans (h.2.1 k q).2⟩, fun k q1 q2 q3 => (g.2.2 k q1 q2 q3).trans (h.2.2 k q1 q2 q3)⟩
theorem rfr.fo {mi mm : fc_Mi} (h : rfr mi mm) : rFO mi mm := ⟨fun x q _ _ => h.1 x q, fun k _ => ⟨by rw [h.1 259 (by decide)], by rw [h.1 260 (by decide)]⟩, fun k q1 q2 _ => h.2 k q1 q2⟩
/-- a code more -/
def rem (m : fc_Mi) (c : Nat) (x z : Int32) : fc_Mi := fc_u (fc_u (fc_u m 259 (1100 + c) x) 260 (1100 + c) z) 252 13 (nI (c + 1))
section M82
variable {E : fc_E} {D d t : Nat} {mi mm : fc_Mi} {ml : fc_Ml} {mr : fc_Mr} {n N i j c dp q0 : Nat} {s : Nat → Int32} {f x y z : Int32} {o o1 : List Int32}
theorem rem_rst (h : rst s n N i f mi ml) : rst s n N i f (rem mi c x z) ml := h.rows rfl rfl rfl rfl rfl rfl
theorem rem_c : rem mi c x z 252 13 = nI (c + 1) := fc_u_at _ _ _ _
theorem rem_fo : rFO mi (rem mi c x z) := by
  refine ⟨fun a q1 q2 q3 => ?_, fun k hk => ⟨?_, ?_⟩, fun k q1 q2 q3 => ?_⟩
  · unfold rem
    rw [fc_u_off _ _ _ q1, fc_u_off _ _ _ q3, fc_u_off _ _ _ q2]
  · unfold rem
    rw [fc_u_off _ _ _ (by decide), fc_u_off _ _ _ (by decide), fc_u_nj _ _ _ _ (by omega)]
  · unfold rem
    rw [fc_u_off _ _ _ (by decide), fc_u_nj _ _ _ _ (by omega), fc_u_off _ _ _ (by decide)]
  · unfold rem
    rw [fc_u_nj _ _ _ _ q3, fc_u_off _ _ _ (by decide), fc_u_off _ _ _ (by decide)]
theorem rem_s2 (h : fc_S2 (mi 259) (mi 260) o) (hl : lwr y x z) : fc_S2 (rem mi o.length x z 259) (rem mi o.length x z 260) (y :: o) := by
  refine ⟨?_, h.cg (fun k hk => ?_)⟩
  · unfold rem
    rw [fc_u_off _ _ _ (show 259 ≠ 252 by decide), fc_u_off _ _ _ (show 259 ≠ 260 by decide), fc_u_at, fc_u_off _ _ _ (show 260 ≠ 252 by decide), fc_u_at]
    exact hl
  · unfold rem
    rw [fc_u_off _ _ _ (show 259 ≠ 252 by decide), fc_u_off _ _ _ (show 259 ≠ 260 by decide), fc_u_nj _ _ _ _ (show 1100 + k ≠ 1100 + o.length by omega), fc_u_off _ _ _ (show 260 ≠ 252 by decide), fc_u_nj _ _ _ _ (show 1100 + k ≠ 1100 + o.length by omega), fc_u_off _ _ _ (show 260 ≠ 259 by decide)]
    exact ⟨rfl, rfl⟩
theorem c_remt (hW : fc_Wd mr) {c : Nat} (hc : mi 252 13 = nI c) (hcL : c < 1100) (x z : Int32) : fc_R E mX11_emit d fc_sh [.ref 252, .int x, .int z] mi ml mr (fc_is none (rem mi c x z) ml mr) := c_remit hW hc hcL x z
theorem rkn_c (x : Int32) : (rkn x = 4 ∧ x = 42) ∨ (rkn x = 3 ∧ (x = 43 ∨ x = 45)) ∨ (rkn x = 2 ∧ (x = 60 ∨ x = 61)) ∨ (rkn x = 1 ∧ (x = 147 ∨ x = 148)) ∨ (rkn x = 0 ∧ ¬ x = 42 ∧ ¬ x = 43 ∧ ¬ x = 45 ∧ ¬ x = 60 ∧ ¬ x = 61 ∧ ¬ x = 147 ∧ ¬ x = 148) := by
  by_cases e1 : x = 42
  · exact .inl ⟨by rw [e1]; rfl, e1⟩
  · by_cases e2 : x = 43
    · exact .inr (.inl ⟨by rw [e2]; rfl, .inl e2⟩)
    · by_cases e3 : x = 45
      · exact .inr (.inl ⟨by rw [e3]; rfl, .inr e3⟩)
      · by_cases e4 : x = 60
        · exact .inr (.inr (.inl ⟨by rw [e4]; rfl, .inl e4⟩))
        · by_cases e5 : x = 61
          · exact .inr (.inr (.inl ⟨by rw [e5]; rfl, .inr e5⟩))
          · by_cases e6 : x = 147
            · exact .inr (.inr (.inr (.inl ⟨by rw [e6]; rfl, .inl e6⟩)))
            · by_cases e7 : x = 148
              · exact .inr (.inr (.inr (.inl ⟨by rw [e7]; rfl, .inr e7⟩)))
              · exact .inr (.inr (.inr (.inr ⟨by rw [rkn, if_neg e1, if_neg e2, if_neg e3, if_neg e4, if_neg e5, if_neg e6, if_neg e7], e1, e2, e3, e4, e5, e6, e7⟩)))
end M82
/-- how a level ends: entered at i + 1 with q0 codes -/
def rlq (s : Nat → Int32) (n N i q0 : Nat) (mi : fc_Mi) (ml : fc_Ml) (mr : fc_Mr) (K : Nat → List Int32 → Prop) (F : Int32 → Prop) : fc_Q := fun v mi' ml' mr' => v = none ∧ ml = ml' ∧ mr = mr' ∧ rFO mi mi' ∧ ∃ j c, mi' 252 13 = nI c ∧ c + i ≤ q0 + j ∧ ((∃ o' : List Int32, c = o'.length ∧ rst s n N (j + 1) 0 mi' ml ∧ fc_S2 (mi' 259) (mi' 260) o' ∧ K j o') ∨ ∃ e, ¬ e = 0 ∧ fok e ∧ rst s n N (j + 1) e mi' ml ∧ F e)
def rKd (E : fc_E) (s : Nat → Int32) (n N : Nat) (mr : fc_Mr) (t : Nat) (y : fc_M) (x : Nat) (K : Nat → Nat → List Int32 → Nat → List Int32 → Prop) (F : Nat → Nat → List Int32 → Int32 → Prop) : Prop :=
  ∀ (i dp D : Nat) (o : List Int32) (mi : fc_Mi) (ml : fc_Ml) (x0 : Int32), x0 = nI dp → N - i ≤ t → 5 * (5 - dp) ≤ D → dp ≤ 5 → o.length ≤ i → rst s n N (i + 1) 0 mi ml → mi 252 13 = nI o.length → fc_S2 (mi 259) (mi 260) o → fc_R E y (D + x) fc_sh [.ref 252, .int x0] mi ml mr (rlq s n N i o.length mi ml mr (K dp i o) (F dp i o))
def TPc (E : fc_E) (s : Nat → Int32) (n N : Nat) (mr : fc_Mr) (t : Nat) : Prop := rKd E s n N mr t mX11_takePart 3 (fun dp i o j o' => PK s n N dp i o j o') (fun dp i o e => PE s n N dp i o e)
def PRc (E : fc_E) (s : Nat → Int32) (n N : Nat) (mr : fc_Mr) (t : Nat) : Prop := rKd E s n N mr t mX11_products 4 (fun dp i o j o' => LL s n N 4 dp i o j o' false ∧ rkn (tK s n (j + 1)) ≤ 3) (fun dp i o e => LE s n N 4 dp i o e)
def SUc (E : fc_E) (s : Nat → Int32) (n N : Nat) (mr : fc_Mr) (t : Nat) : Prop := rKd E s n N mr t mX11_sums 5 (fun dp i o j o' => LL s n N 3 dp i o j o' false ∧ rkn (tK s n (j + 1)) ≤ 2) (fun dp i o e => LE s n N 3 dp i o e)
def TEc (E : fc_E) (s : Nat → Int32) (n N : Nat) (mr : fc_Mr) (t : Nat) : Prop := rKd E s n N mr t mX11_test 6 (fun dp i o j o' => ∃ b, LL s n N 2 dp i o j o' b ∧ (rkn (tK s n (j + 1)) ≤ 1 ∨ (rkn (tK s n (j + 1)) = 2 ∧ b = true))) (fun dp i o e => LE s n N 2 dp i o e)
def WHc (E : fc_E) (s : Nat → Int32) (n N : Nat) (mr : fc_Mr) (t : Nat) : Prop := rKd E s n N mr t mX11_whole 7 (fun dp i o j o' => ∃ b, LL s n N 1 dp i o j o' b ∧ lex s n j b) (fun dp i o e => LE s n N 1 dp i o e)
section M82b
variable {E : fc_E} {D t : Nat} {mi mm : fc_Mi} {ml : fc_Ml} {mr : fc_Mr} {n N i j c dp q0 : Nat} {s : Nat → Int32} {e : Int32} {o o1 : List Int32}
theorem l_rprodF (hW : fc_Wd mr) (hS : rst s n N (j + 1) e mm ml) (hne : ¬ e = 0) (hfk : fok e) (hF : rFO mi mm) (hc : mm 252 13 = nI c) (hb : c + i ≤ q0 + j) {K : Nat → List Int32 → Prop} {F : Int32 → Prop} (hFe : F e) {x1 : Option Value} : fc_T E mX11_products (D + 4) (0, 0) fc_sh 5 [some (.ref 252), x1] [] mm ml mr (rlq s n N i q0 mi ml mr K F) := by
  refine fc_run oX11_products (fun _ => false) 400 ?_
  refine And.intro rfl (Exists.intro _ (And.intro (c_rhasSign hW hS (c := 42) (by omega) (by decide) rfl) ?_))
  rintro _ m1 _ _ ⟨rfl, g1, u1, rfl, rfl⟩
  rw [if_neg (fun q => hne q.1)] at g1
  refine And.intro (fun h11 => ?_) (fun h11 => ?_)
  · replace h11 := fc_b0.mp h11
    exact ⟨rfl, rfl, rfl, hF.tr u1.fo, j, c, (u1.2 13 (by decide) (by decide)).trans hc, hb, .inr ⟨e, hne, hfk, g1, hFe⟩⟩
  · replace h11 := fc_b1.mp h11
    rw [decide_eq_false hne, Bool.false_and] at h11; cases h11
theorem l_rprod (hW : fc_Wd mr) (hdp : dp ≤ 5) (hD : 5 * (5 - dp) ≤ D) (ht : N - i ≤ t) (ho : o.length ≤ i) (TP : TPc E s n N mr t) : ∀ (q j : Nat) (o1 : List Int32) (mm : fc_Mi), N - j ≤ q → LL s n N 4 dp i o j o1 false → o1.length + i ≤ o.length + j → rst s n N (j + 1) 0 mm ml → mm 252 13 = nI o1.length → fc_S2 (mm 259) (mm 260) o1 → rFO mi mm → fc_T E mX11_products (D + 4) (0, 0) fc_sh 5 [some (.ref 252), some (.int (nI dp))] [] mm ml mr (rlq s n N i o.length mi ml mr (fun j o' => LL s n N 4 dp i o j o' false ∧ rkn (tK s n (j + 1)) ≤ 3) (fun e => LE s n N 4 dp i o e)) := by
  intro q
  induction q with
  | zero => intro j o1 mm hq hL hb hS; exact absurd hS.2.1 (by omega)
  | succ q ih =>
    intro j o1 mm hq hL hb hS hc hs hF
    have hN : N ≤ 1000 := Nat.le_trans hS.1.2.1 hS.1.2.2.1
    have hjN := hS.2.1
    have hij := hL.2.1
    refine fc_run oX11_products (fun pc => pc == 5) 400 ?_
    refine And.intro rfl (Exists.intro _ (And.intro (c_rhasSign hW hS (c := 42) (by omega) (by decide) rfl) ?_))
    rintro _ m1 _ _ ⟨rfl, g1, u1, rfl, rfl⟩
    refine And.intro (fun h11 => ?_) (fun h11 => ?_)
    · replace h11 := fc_b0.mp h11
      have hk11 : ¬ tK s n (j + 1) = 42 := fun q => by rw [decide_eq_true (show (0 : Int32) = 0 from rfl), decide_eq_true (show tK s n (j + 1) = nI _ from q)] at h11; cases h11
      rw [if_neg (fun q => hk11 q.2)] at g1
      refine ⟨rfl, rfl, rfl, hF.tr u1.fo, j, o1.length, (u1.2 13 (by decide) (by decide)).trans hc, hb, .inl ⟨o1, rfl, g1, ?_, hL, ?_⟩⟩
      · rw [u1.1 259 (by decide), u1.1 260 (by decide)]; exact hs
      · rcases rkn_c (tK s n (j + 1)) with ⟨_, q⟩ | ⟨q, _⟩ | ⟨q, _⟩ | ⟨q, _⟩ | ⟨q, _⟩
        · exact absurd q hk11
        all_goals omega
    · replace h11 := fc_b1.mp h11
      have hk11 : tK s n (j + 1) = 42 := by rw [Bool.and_eq_true] at h11; exact of_decide_eq_true h11.2
      rw [if_pos ⟨rfl, hk11⟩] at g1
      refine And.intro rfl (Exists.intro _ (And.intro (TP (j + 1) dp D o1 m1 ml _ rfl (by omega) hD hdp (by omega) g1 ((u1.2 13 (by decide) (by decide)).trans hc) (by rw [u1.1 259 (by decide), u1.1 260 (by decide)]; exact hs)) ?_))
      rintro _ m2 _ _ ⟨rfl, rfl, rfl, f2, j2, c2, hc2, hb2, hk2⟩
      have hj2 : j2 + 1 ≤ N := by rcases hk2 with ⟨_, _, q, _⟩ | ⟨_, _, _, q, _⟩ <;> exact q.2.1
      refine And.intro rfl (Exists.intro _ (And.intro (c_remt hW hc2 (by omega) _ _) ?_))
      rintro _ _ _ _ ⟨rfl, rfl, rfl, rfl⟩
      rcases hk2 with ⟨o2, rfl, a1, a2, a3⟩ | ⟨e, a1, a2, a3, a4⟩
      · have hz := LL_op (R := 4) (.inl rfl) hdp hL (by omega) (by rw [hk11]; rfl) (by omega) (LL_5 a3)
        rw [hk11] at hz
        have := a3.2.1
        exact ih j2 _ _ (by omega) hz (by rw [List.length_cons]; omega) (rem_rst a1) rem_c (rem_s2 a2 (.inr (.inr (.inr (.inr (.inr (.inl ⟨rfl, rfl⟩))))))) (hF.tr (u1.fo.tr (f2.tr rem_fo)))
      · exact l_rprodF hW (rem_rst a3) a1 a2 (hF.tr (u1.fo.tr (f2.tr rem_fo))) rem_c (by omega) (LE_op (R := 4) (.inl rfl) hdp hL (by omega) (by rw [hk11]; rfl) (by omega) (LE_5 a4))
theorem c_rproducts (hW : fc_Wd mr) (TP : TPc E s n N mr t) : PRc E s n N mr t := by
  intro i dp D o mi ml x0 hx0 ht hD hdp ho hS hc hs
  subst hx0
  refine fc_met rfl (Nat.le_of_ble_eq_true rfl) (fc_run oX11_products (fun pc => pc == 5) 400 ?_)
  refine And.intro rfl (Exists.intro _ (And.intro (TP i dp D o mi ml _ rfl ht hD hdp ho hS hc hs) ?_))
  rintro _ m1 _ _ ⟨rfl, rfl, rfl, f1, j1, c1, hc1, hb1, hk1⟩
  have hj1 : j1 + 1 ≤ N := by rcases hk1 with ⟨_, _, q, _⟩ | ⟨_, _, _, q, _⟩ <;> exact q.2.1
  rcases hk1 with ⟨o1, rfl, a1, a2, a3⟩ | ⟨e, a1, a2, a3, a4⟩
  · exact l_rprod hW hdp hD ht ho TP _ j1 o1 m1 (Nat.le_refl _) (LL_up (LL_5 a3)) hb1 a1 hc1 a2 f1
  · exact l_rprodF hW a3 a1 a2 f1 hc1 hb1 (LE_up (LE_5 a4))
end M82b
