/-! ===== states and lands, apart from where they lie ===== -/
section M43
variable {n m t : Nat}
abbrev fc_Ev : Type := Int32 → Int32 → Int32 → Int32 → Bool
/-- the State at a: rows 0 (morning, minute), 1 where, 2 acted, 3 news, 4 vowed, 5 rightVows, 6 holders, 7 owners -/
def cv (mi : fc_Mi) (a : Nat) : fc_Mi := fun x => if x < 8 then mi (a + x) else fun _ => 0
/-- the Land at b: rows 4 paths, 5 kinds, 6 houses, 7 wakes, 8 worths, 9 givers -/
def cl (mi : fc_Mi) (b : Nat) : fc_Mi := fun x => if 4 ≤ x ∧ x < 10 then mi (b + x) else fun _ => 0
theorem cv_at (mi : fc_Mi) (a : Nat) {x : Nat} (h : x < 8) : cv mi a x = mi (a + x) := by unfold cv; rw [if_pos h]
theorem cl_at (mi : fc_Mi) (b : Nat) {x : Nat} (h : 4 ≤ x) (h2 : x < 10) : cl mi b x = mi (b + x) := by unfold cl; rw [if_pos ⟨h, h2⟩]
theorem cv_u (f : fc_Mi) (a : Nat) {x : Nat} (h : x < 8) (j : Nat) (v : Int32) : cv (fc_u f (a + x) j v) a = fc_u (cv f a) x j v := by
  funext q
  unfold cv fc_u
  by_cases e : q < 8
  · by_cases e2 : q = x
    · subst e2; simp [e]
    · simp [e, e2]
  · simp [e, show ¬ q = x by omega]
theorem cv_u0 (f : fc_Mi) (a : Nat) (j : Nat) (v : Int32) : cv (fc_u f a j v) a = fc_u (cv f a) 0 j v := cv_u f a (x := 0) (by omega) j v
theorem cv_ur (f : fc_Mi) (a : Nat) {x : Nat} (h : x < 8) (g : Nat → Int32) : cv (fc_ur f (a + x) g) a = fc_ur (cv f a) x g := by
  funext q
  unfold cv fc_ur
  by_cases e : q < 8
  · by_cases e2 : q = x
    · subst e2; simp [e]
    · simp [e, e2]
  · simp [e, show ¬ q = x by omega]
theorem cv_uo (f : fc_Mi) (a : Nat) {y : Nat} (h : y < a ∨ a + 8 ≤ y) (j : Nat) (v : Int32) : cv (fc_u f y j v) a = cv f a := by
  funext q
  unfold cv fc_u
  by_cases e : q < 8
  · simp [e, show ¬ a + q = y by omega]
  · simp [e]
theorem cv_uro (f : fc_Mi) (a : Nat) {y : Nat} (h : y < a ∨ a + 8 ≤ y) (g : Nat → Int32) : cv (fc_ur f y g) a = cv f a := by
  funext q
  unfold cv fc_ur
  by_cases e : q < 8
  · simp [e, show ¬ a + q = y by omega]
  · simp [e]
theorem cv_off {f g : fc_Mi} {a : Nat} (h : ∀ x, a ≤ x → x < a + 8 → f x = g x) : cv f a = cv g a := by
  funext q
  unfold cv
  by_cases e : q < 8
  · rw [if_pos e, if_pos e, h _ (by omega) (by omega)]
  · rw [if_neg e, if_neg e]
theorem cl_off {f g : fc_Mi} {b : Nat} (h : ∀ x, b + 4 ≤ x → x < b + 10 → f x = g x) : cl f b = cl g b := by
  funext q
  unfold cl
  by_cases e : 4 ≤ q ∧ q < 10
  · rw [if_pos e, if_pos e, h _ (by omega) (by omega)]
  · rw [if_neg e, if_neg e]
/-- whether something between p and o binds -/
def as_bd (L σ : fc_Mi) (n : Nat) (ev : fc_Ev) (pr ck : Int32) (p o : Nat) : Bool :=
  ev ck pr (sp_bc (sp_cd n (σ 1) (L 7) ck p o)) (sp_num (fun q => sp_in (sp_cd n (σ 1) (L 7) ck p o) (nI q) && decide (L 5 q = 1)) n)
def as_wk (L σ : fc_Mi) (p : Nat) (k : Int32) : fc_Mi := fc_u (fc_u σ 1 p k) 2 p (if L 5 p = 2 then 2 else 1)
def as_gv (σ : fc_Mi) (q p : Nat) (o : Int32) (bd : Bool) : fc_Mi := if bd then fc_u (fc_u (fc_u σ 2 p 1) 6 q o) 7 q o else fc_u (fc_u σ 2 p 1) 6 q o
def as_vw (σ : fc_Mi) (p o : Nat) (bd : Bool) : fc_Mi := if bd then sp_vw1 (sp_vw0 σ 0 p o) 0 p o else sp_vw0 σ 0 p o
def as_tick (L σ : fc_Mi) (n m : Nat) : fc_Mi := fc_u (fc_ur (fc_ur σ 3 (sp_nw n (σ 1) (L 7) (σ 3) (σ 0 1) m)) 2 (sp_ac (σ 2) 5)) 0 1 (σ 0 1 + 1)
def as_smoke (L σ : fc_Mi) : fc_Mi :=
  fc_u (fc_u (fc_ur (fc_ur (fc_ur (fc_ur σ 6 (va_cpy (σ 7) (σ 6) 0 0 6)) 4 (va_cpy (σ 5) (σ 4) 0 0 5)) 1 (va_cpy (L 6) (σ 1) 0 0 5)) 2 (fun j => if j < 5 then 0 else σ 2 j)) 0 1 0) 0 0 (σ 0 0 + 1)
def as_pass (L σ : fc_Mi) (n m : Nat) (sm : Int32) : fc_Mi := if sm ≤ σ 0 1 + 1 then as_smoke L (as_tick L σ n m) else as_tick L σ n m
/-- how all is when the land has been told -/
def as_beg (L : fc_Mi) : fc_Mi := fun x j => if x = 1 then L 6 j else if x = 3 then (1 : Int32) <<< (nI j &&& 31) else if x = 6 then L 9 j else if x = 7 then L 9 j else 0
/-- two states that are alike as far as n persons and t things go -/
def as_ag (n t : Nat) (σ τ : fc_Mi) : Prop := (σ 0 0 = τ 0 0 ∧ σ 0 1 = τ 0 1) ∧ (∀ p, p < n → σ 1 p = τ 1 p ∧ σ 2 p = τ 2 p ∧ σ 3 p = τ 3 p ∧ σ 4 p = τ 4 p ∧ σ 5 p = τ 5 p) ∧ (∀ q, q < t → σ 6 q = τ 6 q ∧ σ 7 q = τ 7 q)
theorem as_ag.rf {σ : fc_Mi} : as_ag n t σ σ := ⟨⟨rfl, rfl⟩, fun _ _ => ⟨rfl, rfl, rfl, rfl, rfl⟩, fun _ _ => ⟨rfl, rfl⟩⟩
theorem as_ag.sy {σ τ : fc_Mi} (h : as_ag n t σ τ) : as_ag n t τ σ := ⟨⟨h.1.1.symm, h.1.2.symm⟩, fun p hp => ⟨(h.2.1 p hp).1.symm, (h.2.1 p hp).2.1.symm, (h.2.1 p hp).2.2.1.symm, (h.2.1 p hp).2.2.2.1.symm, (h.2.1 p hp).2.2.2.2.symm⟩, fun q hq => ⟨(h.2.2 q hq).1.symm, (h.2.2 q hq).2.symm⟩⟩
theorem as_ag.tr {σ τ ρ : fc_Mi} (h : as_ag n t σ τ) (k : as_ag n t τ ρ) : as_ag n t σ ρ := ⟨⟨h.1.1.trans k.1.1, h.1.2.trans k.1.2⟩, fun p hp => ⟨(h.2.1 p hp).1.trans (k.2.1 p hp).1, (h.2.1 p hp).2.1.trans (k.2.1 p hp).2.1, (h.2.1 p hp).2.2.1.trans (k.2.1 p hp).2.2.1, (h.2.1 p hp).2.2.2.1.trans (k.2.1 p hp).2.2.2.1, (h.2.1 p hp).2.2.2.2.trans (k.2.1 p hp).2.2.2.2⟩, fun q hq => ⟨(h.2.2 q hq).1.trans (k.2.2 q hq).1, (h.2.2 q hq).2.trans (k.2.2 q hq).2⟩⟩
/-- two lands that are alike -/
def as_lg (n m t : Nat) (L K : fc_Mi) : Prop := (∀ k, k < m → L 4 k = K 4 k) ∧ (∀ p, p < n → L 5 p = K 5 p ∧ L 6 p = K 6 p ∧ L 7 p = K 7 p) ∧ (∀ q, q < t → L 8 q = K 8 q ∧ L 9 q = K 9 q)
theorem as_lg.rf {L : fc_Mi} : as_lg n m t L L := ⟨fun _ _ => rfl, fun _ _ => ⟨rfl, rfl, rfl⟩, fun _ _ => ⟨rfl, rfl⟩⟩
/-- a state that can be: all are somewhere, things are with somebody, rows of bits are bits of persons -/
def as_ok (n m t sm : Nat) (σ : fc_Mi) : Prop := (∀ p, p < n → (∃ j, j < m ∧ σ 1 p = nI j) ∧ (∃ k, k ≤ 2 ∧ σ 2 p = nI k) ∧ (∀ i, i < 32 → 5 ≤ i → bt (σ 3 p) i = false) ∧ (∀ i, i < 32 → 5 ≤ i → bt (σ 4 p) i = false) ∧ (∀ i, i < 32 → 5 ≤ i → bt (σ 5 p) i = false)) ∧ (∀ q, q < t → (∃ p, p < n ∧ σ 6 q = nI p) ∧ ∃ p, p < n ∧ σ 7 q = nI p) ∧ ∃ mn, mn < sm ∧ σ 0 1 = nI mn
/-- a land that can be -/
def as_lok (n m t sm : Nat) (L : fc_Mi) : Prop := n ≤ 5 ∧ m ≤ 7 ∧ t ≤ 6 ∧ 1 ≤ sm ∧ sm ≤ 60 ∧ (∀ p, p < n → (∃ j, j < m ∧ L 6 p = nI j) ∧ (∃ w, w ≤ 30 ∧ L 7 p = nI w)) ∧ (∀ q, q < t → (∃ w, w ≤ 30 ∧ L 8 q = nI w) ∧ ∃ p, p < n ∧ L 9 q = nI p)
theorem as_ok.ag {sm : Nat} {σ τ : fc_Mi} (h : as_ok n m t sm σ) (g : as_ag n t σ τ) : as_ok n m t sm τ := by
  obtain ⟨h1, h2, h3⟩ := h
  obtain ⟨g1, g2, g3⟩ := g
  refine ⟨fun p hp => ?_, fun q hq => ?_, ?_⟩
  · obtain ⟨e1, e2, e3, e4, e5⟩ := g2 p hp
    rw [← e1, ← e2, ← e3, ← e4, ← e5]; exact h1 p hp
  · obtain ⟨e6, e7⟩ := g3 q hq
    rw [← e6, ← e7]; exact h2 q hq
  · rw [← g1.2]; exact h3
theorem sp_num_0 {P : Nat → Bool} (h : ∀ i, i < n → P i = false) : sp_num P n = 0 := by
  induction n with
  | zero => rfl
  | succ n ih => rw [sp_num, if_neg (by rw [h n (by omega)]; decide), ih (fun i hi => h i (by omega))]
/-- the crowd hangs on who is where alone -/
theorem sp_cd_congr {w w' wk wk' : Nat → Int32} {ck : Int32} {p o : Nat} (h : ∀ q, q < n → w q = w' q) (hk : ∀ q, q < n → wk q = wk' q) (hp : p < n) : sp_cd n w wk ck p o = sp_cd n w' wk' ck p o := by
  unfold sp_cd
  rw [sp_set_congr (n := n) (P := fun q => decide (w q = w p)) (P' := fun q => decide (w' q = w' p)) (fun i hi => by rw [h i hi, h p hp]), sp_set_congr (n := n) (P := sp_aw wk ck) (P' := sp_aw wk' ck) (fun i hi => by unfold sp_aw; rw [hk i hi])]
theorem as_bd_congr {L K σ τ : fc_Mi} {ev ev' : fc_Ev} {pr ck : Int32} {p o : Nat} (hL : as_lg n m t L K) (hS : as_ag n t σ τ) (hp : p < n) (he : ∀ a b c d, ev a b c d = ev' a b c d) : as_bd L σ n ev pr ck p o = as_bd K τ n ev' pr ck p o := by
  unfold as_bd
  rw [sp_cd_congr (w := σ 1) (w' := τ 1) (wk := L 7) (wk' := K 7) (fun q hq => (hS.2.1 q hq).1) (fun q hq => (hL.2.1 q hq).2.2) hp, he]
  congr 1
  exact sp_num_congr (fun i hi => by rw [(hL.2.1 i hi).1])
theorem sp_nw_congr {w w' wk wk' nw nw' : Nat → Int32} {mn : Int32} {k p : Nat} (h : ∀ q, q < n → w q = w' q) (hk : ∀ q, q < n → wk q = wk' q) (hn : ∀ q, q < n → nw q = nw' q) (hp : p < n) : sp_nw n w wk nw mn k p = sp_nw n w' wk' nw' mn k p := by
  unfold sp_nw
  rw [sp_or_congr (n := n) (P := fun q => decide (w q = w p) && sp_aw wk mn q) (P' := fun q => decide (w' q = w' p) && sp_aw wk' mn q) (f := nw) (f' := nw') (fun i hi => ⟨by unfold sp_aw; rw [h i hi, h p hp, hk i hi], fun _ => hn i hi⟩)]
  unfold sp_aw
  rw [h p hp, hk p hp, hn p hp]
theorem as_tick_congr {L K σ τ : fc_Mi} (hL : as_lg n m t L K) (hS : as_ag n t σ τ) : as_ag n t (as_tick L σ n m) (as_tick K τ n m) := by
  obtain ⟨⟨s1, s2⟩, s3, s4⟩ := hS
  refine ⟨⟨?_, ?_⟩, fun p hp => ?_, fun q hq => ?_⟩
  · simp [as_tick, fc_u, fc_ur, s1]
  · simp [as_tick, fc_u, s2]
  · obtain ⟨e1, e2, e3, e4, e5⟩ := s3 p hp
    refine ⟨?_, ?_, ?_, ?_, ?_⟩
    · simpa [as_tick, fc_u, fc_ur] using e1
    · simp [as_tick, fc_u, fc_ur, sp_ac, e2]
    · have := sp_nw_congr (w := σ 1) (w' := τ 1) (wk := L 7) (wk' := K 7) (nw := σ 3) (nw' := τ 3) (mn := σ 0 1) (k := m) (p := p) (fun q hq => (s3 q hq).1) (fun q hq => (hL.2.1 q hq).2.2) (fun q hq => (s3 q hq).2.2.1) hp
      rw [s2] at this
      simpa [as_tick, fc_u, fc_ur, s2] using this
    · simpa [as_tick, fc_u, fc_ur] using e4
    · simpa [as_tick, fc_u, fc_ur] using e5
  · simpa [as_tick, fc_u, fc_ur] using s4 q hq
theorem as_smoke_congr {L K σ τ : fc_Mi} (hn : n ≤ 5) (ht : t ≤ 6) (hL : as_lg n m t L K) (hS : as_ag n t σ τ) : as_ag n t (as_smoke L σ) (as_smoke K τ) := by
  obtain ⟨⟨s1, s2⟩, s3, s4⟩ := hS
  refine ⟨⟨?_, ?_⟩, fun p hp => ?_, fun q hq => ?_⟩
  · simp [as_smoke, fc_u, s1]
  · simp [as_smoke, fc_u]
  · obtain ⟨e1, e2, e3, e4, e5⟩ := s3 p hp
    have h5 : p < 5 := by omega
    refine ⟨?_, ?_, ?_, ?_, ?_⟩
    · simpa [as_smoke, fc_u, fc_ur, va_cpy, h5] using (hL.2.1 p hp).2.1
    · simp [as_smoke, fc_u, fc_ur, h5]
    · simpa [as_smoke, fc_u, fc_ur] using e3
    · simpa [as_smoke, fc_u, fc_ur, va_cpy, h5] using e5
    · simpa [as_smoke, fc_u, fc_ur] using e5
  · have h6 : q < 6 := by omega
    simpa [as_smoke, fc_u, fc_ur, va_cpy, h6] using (s4 q hq).2
theorem as_pass_congr {L K σ τ : fc_Mi} {sm : Int32} (hn : n ≤ 5) (ht : t ≤ 6) (hL : as_lg n m t L K) (hS : as_ag n t σ τ) : as_ag n t (as_pass L σ n m sm) (as_pass K τ n m sm) := by
  unfold as_pass
  rw [hS.1.2]
  split
  · exact as_smoke_congr hn ht hL (as_tick_congr hL hS)
  · exact as_tick_congr hL hS
theorem as_wk_congr {L K σ τ : fc_Mi} {p : Nat} {k : Int32} (hp : p < n) (hL : as_lg n m t L K) (hS : as_ag n t σ τ) : as_ag n t (as_wk L σ p k) (as_wk K τ p k) := by
  obtain ⟨⟨s1, s2⟩, s3, s4⟩ := hS
  refine ⟨⟨?_, ?_⟩, fun q hq => ?_, fun q hq => ?_⟩
  · simp [as_wk, fc_u, s1]
  · simp [as_wk, fc_u, s2]
  · obtain ⟨e1, e2, e3, e4, e5⟩ := s3 q hq
    simp [as_wk, fc_u, e1, e2, e3, e4, e5, (hL.2.1 p hp).1]
  · simp [as_wk, fc_u, (s4 q hq).1, (s4 q hq).2]
theorem as_gv_congr {σ τ : fc_Mi} {k p : Nat} {o : Int32} {bd : Bool} (hS : as_ag n t σ τ) : as_ag n t (as_gv σ k p o bd) (as_gv τ k p o bd) := by
  obtain ⟨⟨s1, s2⟩, s3, s4⟩ := hS
  refine ⟨⟨?_, ?_⟩, fun q hq => ?_, fun q hq => ?_⟩
  · cases bd <;> simp [as_gv, fc_u, s1]
  · cases bd <;> simp [as_gv, fc_u, s2]
  · obtain ⟨e1, e2, e3, e4, e5⟩ := s3 q hq
    cases bd <;> simp [as_gv, fc_u, e1, e2, e3, e4, e5]
  · cases bd <;> simp [as_gv, fc_u, (s4 q hq).1, (s4 q hq).2]
theorem as_vw_congr {σ τ : fc_Mi} {p o : Nat} {bd : Bool} (hp : p < n) (ho : o < n) (hS : as_ag n t σ τ) : as_ag n t (as_vw σ p o bd) (as_vw τ p o bd) := by
  obtain ⟨⟨s1, s2⟩, s3, s4⟩ := hS
  obtain ⟨a1, a2, a3, a4, a5⟩ := s3 p hp
  obtain ⟨b1, b2, b3, b4, b5⟩ := s3 o ho
  refine ⟨⟨?_, ?_⟩, fun q hq => ?_, fun q hq => ?_⟩
  · cases bd <;> simp [as_vw, sp_vw0, sp_vw1, fc_u, s1]
  · cases bd <;> simp [as_vw, sp_vw0, sp_vw1, fc_u, s2]
  · obtain ⟨e1, e2, e3, e4, e5⟩ := s3 q hq
    cases bd <;> simp [as_vw, sp_vw0, sp_vw1, fc_u, e1, e2, e3, e4, e5, a4, a5, b4, b5]
  · cases bd <;> simp [as_vw, sp_vw0, sp_vw1, fc_u, (s4 q hq).1, (s4 q hq).2]
theorem as_beg_congr {L K : fc_Mi} (hL : as_lg n m t L K) : as_ag n t (as_beg L) (as_beg K) :=
  ⟨⟨rfl, rfl⟩, fun p hp => ⟨(hL.2.1 p hp).2.1, rfl, rfl, rfl, rfl⟩, fun q hq => ⟨(hL.2.2 q hq).2, (hL.2.2 q hq).2⟩⟩
end M43

