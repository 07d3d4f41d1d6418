/-! ===== the reference reads a land ===== -/
/-- the law of a land told, in the reference -/
def rlA (A : fc_Ab) (mi : fc_Mi) : Prop := (A.1 5 = 0 → mi 258 5 = -1) ∧ (A.1 5 = 1 → mi 258 5 = 0 ∧ lwx mi (A.2.1 11) (A.1 6))
/-- the reference holds the land told -/
def rhA (A : fc_Ab) (mi : fc_Mi) (ml : fc_Ml) : Prop := (mi 258 0 = nI (A.1 0) ∧ mi 258 1 = nI (A.1 1) ∧ mi 258 2 = nI (A.1 2) ∧ mi 258 3 = nI (A.1 3) ∧ mi 258 4 = A.2.1 0 14) ∧ as_lg (A.1 2) (A.1 0) (A.1 3) A.2.1 (rl (mi 258)) ∧ (mi 252 18 = nI (A.1 0 + A.1 2 + A.1 3) ∧ nmr A (ml 261) (mi 263) (A.1 0 + A.1 2 + A.1 3)) ∧ rlA A mi
/-- what reading a text never moves in the reference -/
def rfA (mi mi' : fc_Mi) (ml ml' : fc_Ml) : Prop := (∀ x, x < 252 → mi' x = mi x) ∧ (∀ x, x < 256 ∨ x = 257 ∨ 262 < x → ml' x = ml x)
/-- what a text with a fault leaves -/
def rfE (mi mi' : fc_Mi) (ml ml' : fc_Ml) : Prop := (∀ k, k < 50 → mi' 258 k = mi 258 k) ∧ (∀ k, k < 1100 → mi' 259 k = mi 259 k ∧ mi' 260 k = mi 260 k) ∧ (∀ x, x = 263 ∨ x = 265 ∨ x = 268 ∨ x = 269 → mi' x = mi x) ∧ mi' 252 18 = mi 252 18 ∧ mi' 252 25 = mi 252 25 ∧ ml' 261 = ml 261
def rldq (mi : fc_Mi) (ml : fc_Ml) (mr : fc_Mr) (r : Except Int32 fc_Ab) : fc_Q := fun v mi' ml' mr' => mr = mr' ∧ rfA mi mi' ml ml' ∧ (mi' 252 0 = mi 252 0 ∧ mi' 252 2 = mi 252 2) ∧ (match r with
  | .error e => v = some (.int e) ∧ ¬ e = 0 ∧ rfE mi mi' ml ml'
  | .ok A => v = some (.int 0) ∧ fc_AI A ∧ Aok A ∧ nd A ∧ lwh A ∧ rhA A mi' ml' ∧ as_ag (A.1 2) (A.1 3) (as_beg A.2.1) (rv (mi' 268) 0) ∧ mi' 268 39 = 0 ∧ mi' 265 0 = 0 ∧ mi' 252 25 = 0 ∧ ∀ j, j < 4 → mi' 269 j = 0)
section M89
variable {E : fc_E} {d : Nat} {mi m0 : fc_Mi} {ml l0 : fc_Ml} {mr : fc_Mr} {n N i : Nat} {s : Nat → Int32} {A : fc_Ab} {f : Int32}
theorem ps_lr_le : ∀ (k i : Nat) (c : fc_Lc) (q : List Int32 × Nat), ps_lr s n k i c = .ok q → i ≤ q.2
  | 0, i, c, q, h => by rw [ps_lr] at h; cases h
  | k + 1, i, c, q, h => by
    rw [ps_lr] at h
    split at h
    · injection h with h; rw [← h]; exact Nat.le_succ i
    · split at h
      · cases h
      · exact Nat.le_trans (Nat.le_succ i) (ps_lr_le k (i + 1) _ q h)
theorem ps_line_le {q : fc_Ab × Nat} (e : ps_line s n A i = .ok q) : i ≤ q.2 := by
  unfold ps_line at e
  split at e
  · unfold ps_place at e
    repeat' split at e
    all_goals first | cases e | skip
    all_goals exact Nat.le_add_right _ _
  split at e
  · unfold ps_path at e
    repeat' split at e
    all_goals first | cases e | skip
    all_goals exact Nat.le_add_right _ _
  split at e
  · unfold ps_person at e
    repeat' split at e
    all_goals first | cases e | skip
    all_goals exact Nat.le_add_right _ _
  split at e
  · unfold ps_thing at e
    repeat' split at e
    all_goals first | cases e | skip
    all_goals exact Nat.le_add_right _ _
  split at e
  · unfold ps_smoke at e
    repeat' split at e
    all_goals first | cases e | skip
    all_goals exact Nat.le_add_right _ _
  split at e
  · unfold ps_binds at e
    split at e
    · rcases z : ps_lr s n 1000 i ([], 0, true, []) with g | c
      · rw [z] at e; cases e
      · rw [z] at e
        cases e
        exact ps_lr_le 1000 i _ c z
    · cases e
  · cases e
/-- a fault is a fault's number and a place -/
def isF (s : Nat → Int32) (n : Nat) (e : Int32) : Prop := ∃ c i, 1 ≤ c ∧ c ≤ 5 ∧ e = tF s n (nI c) i
theorem isF_ok {e : Int32} (hn : n ≤ 1000) (h : isF s n e) : fok e ∧ ¬ e = 0 := by
  obtain ⟨c, i, h1, h2, rfl⟩ := h
  exact ⟨tF_ok h2 hn i, tF_ne h1 h2 hn i⟩
theorem isF_1 (i : Nat) : isF s n (tF s n 1 i) := ⟨1, i, by omega, by omega, rfl⟩
theorem isF_2 (i : Nat) : isF s n (tF s n 2 i) := ⟨2, i, by omega, by omega, rfl⟩
theorem isF_3 (i : Nat) : isF s n (tF s n 3 i) := ⟨3, i, by omega, by omega, rfl⟩
theorem isF_4 (i : Nat) : isF s n (tF s n 4 i) := ⟨4, i, by omega, by omega, rfl⟩
theorem isF_5 (i : Nat) : isF s n (tF s n 5 i) := ⟨5, i, by omega, by omega, rfl⟩
theorem ps_part_F {w o : List Int32} {dp e : Int32} (h : ps_part s n i w dp o = .error e) : isF s n e := by
  unfold ps_part at h
  repeat' split at h
  all_goals first | (injection h with h; rw [← h]; first | exact isF_1 _ | exact isF_5 _) | cases h
theorem ps_beh_F {w o : List Int32} {dp e : Int32} (h : ps_beh s n i w dp o = .error e) : isF s n e := by
  unfold ps_beh at h
  repeat' split at h
  all_goals first | (injection h with h; rw [← h]; first | exact isF_1 _ | exact isF_5 _) | cases h
theorem ps_lr_F {e : Int32} : ∀ (k i : Nat) (c : fc_Lc), ps_lr s n k i c = .error e → isF s n e
  | 0, i, c, h => by rw [ps_lr] at h; injection h with h; rw [← h]; exact isF_1 _
  | k + 1, i, c, h => by
    rw [ps_lr] at h
    split at h
    · cases h
    · split at h
      · rename_i f hf
        injection h with h
        rw [← h]
        split at hf
        · exact ps_part_F hf
        · exact ps_beh_F hf
      · exact ps_lr_F k (i + 1) _ h
theorem ps_line_F {e : Int32} (h : ps_line s n A i = .error e) : isF s n e := by
  unfold ps_line at h
  split at h
  · unfold ps_place at h
    repeat' split at h
    all_goals first | (injection h with h; rw [← h]; first | exact isF_1 _ | exact isF_2 _ | exact isF_3 _ | exact isF_4 _ | exact isF_5 _) | cases h
  split at h
  · unfold ps_path at h
    repeat' split at h
    all_goals first | (injection h with h; rw [← h]; first | exact isF_1 _ | exact isF_2 _ | exact isF_3 _ | exact isF_4 _ | exact isF_5 _) | cases h
  split at h
  · unfold ps_person at h
    repeat' split at h
    all_goals first | (injection h with h; rw [← h]; first | exact isF_1 _ | exact isF_2 _ | exact isF_3 _ | exact isF_4 _ | exact isF_5 _) | cases h
  split at h
  · unfold ps_thing at h
    repeat' split at h
    all_goals first | (injection h with h; rw [← h]; first | exact isF_1 _ | exact isF_2 _ | exact isF_3 _ | exact isF_4 _ | exact isF_5 _) | cases h
  split at h
  · unfold ps_smoke at h
    repeat' split at h
    all_goals first | (injection h with h; rw [← h]; first | exact isF_1 _ | exact isF_2 _ | exact isF_3 _ | exact isF_4 _ | exact isF_5 _) | cases h
  split at h
  · unfold ps_binds at h
    split at h
    · rcases z : ps_lr s n 1000 i ([], 0, true, []) with g | c
      · rw [z] at h
        injection h with h
        rw [← h]; exact ps_lr_F 1000 i _ z
      · rw [z] at h; cases h
    · injection h with h; rw [← h]; exact isF_3 _
  · injection h with h; rw [← h]; exact isF_1 _
theorem ps_ld_F {e : Int32} : ∀ (j i : Nat) (A : fc_Ab), ps_ld s n j i A = .error e → isF s n e
  | 0, i, A, h => by rw [ps_ld] at h; cases h
  | j + 1, i, A, h => by
    rw [ps_ld] at h
    split at h
    · cases h
    · split at h
      · rename_i f hf
        injection h with h
        rw [← h]; exact ps_line_F hf
      · split at h
        · exact ps_ld_F j _ _ h
        · injection h with h; rw [← h]; exact isF_1 _
theorem rst.z (h : rst s n N i f mi ml) : mi 254 i = 0 ↔ tK s n i = 1 := by
  rw [← h.end]
  constructor
  · intro q
    rcases Nat.lt_or_ge i N with g | g
    · have h1 := h.1.2.2.2.1 i g
      rw [h1.2.1, rk, if_neg (by omega)] at q
      repeat' split at q
      all_goals exact absurd q (by decide)
    · have := h.2.1; omega
  · rintro rfl; exact h.1.2.2.2.2.1
theorem sp_hg_1 {code : Nat → Int32} {len : Nat} (h : sp_hg code len = 1) : 1 ≤ len := by
  cases len with
  | zero => exact absurd h (by show ¬ (0 : Nat) = 1; decide)
  | succ k => exact Nat.le_add_left _ _
theorem l_rl53 (hW : fc_Wd mr) (hS : rst s n N i f mi ml) {Q : fc_Q} (K : ∀ m1, rst s n N (p_sg s n (nI 59) (i, f)).1 (p_sg s n (nI 59) (i, f)).2 m1 ml → rfr mi m1 → fc_T E mX11_land (d + 35) (0, 0) fc_sh 30 [some (.ref 252), none] [] m1 ml mr Q) : fc_T E mX11_land (d + 35) (0, 0) fc_sh 53 [some (.ref 252), none] [] mi ml mr Q := by
  refine fc_run oX11_land (fun pc => pc == 30) 400 ?_
  refine And.intro rfl (Exists.intro _ (And.intro (c_rtakeSign hW hS (c := 59) (by omega) (by decide) rfl) ?_))
  rintro _ m1 _ _ ⟨rfl, g1, u1, rfl, rfl⟩
  exact K m1 g1 u1
theorem l_rl30F (hW : fc_Wd mr) (hS : rst s n N i f mi ml) (hne : ¬ f = 0) (hfk : fok f) (hF : rFL m0 mi l0 ml) : fc_T E mX11_land (d + 35) (0, 0) fc_sh 30 [some (.ref 252), none] [] mi ml mr (rldq m0 l0 mr (.error f)) := by
  have hfa := hS.2.2.2.1
  refine fc_run oX11_land (fun _ => false) 400 ?_
  refine And.intro rfl ?_
  refine And.intro (fun h34 => ?_) (fun h34 => ?_)
  · rw [hfa] at h34; exact absurd h34 hne
  · refine And.intro rfl ?_
    refine And.intro (fun h66 => ?_) (fun h66 => ?_)
    · rw [hfa] at h66; exact absurd ((fok_le hfk).mp h66) hne
    · refine And.intro rfl ?_
      rw [hfa]
      exact ⟨rfl, ⟨fun x q => hF.1 x (by omega) (by omega) (by omega) (by omega) (by omega), fun x q => hF.2.2.2.2 x (by omega)⟩, ⟨hF.2.2.2.1 0 (by decide) (by decide) (by decide) (by decide) (by decide), hF.2.2.2.1 2 (by decide) (by decide) (by decide) (by decide) (by decide)⟩, rfl, hne, hF.2.1, hF.2.2.1, fun x q => hF.1 x (by omega) (by omega) (by omega) (by omega) (by omega), hF.2.2.2.1 18 (by decide) (by decide) (by decide) (by decide) (by decide), hF.2.2.2.1 25 (by decide) (by decide) (by decide) (by decide) (by decide), hF.2.2.2.2 261 (by decide)⟩
theorem na_cg {nm nm' : Nat → Int64} {of of' : Nat → Int32} {v : Int64} {K : Nat} (h : ∀ k, k < K → nm' k = nm k ∧ of' k = of k) : na nm' of' v K 0 = na nm of v K 0 := by
  have key : ∀ j k, k + j = K → na nm' of' v j k = na nm of v j k := by
    intro j
    induction j with
    | zero => intro k _; rfl
    | succ j ih =>
      intro k hk
      rw [na, na, (h k (by omega)).1, (h k (by omega)).2, ih (k + 1) (by omega)]
  exact key K 0 (by omega)
theorem l_rlN (hW : fc_Wd mr) (hI : fc_AI A) (hok : Aok A) (hD : nd A) (hH : lwh A) (hR : rRA A (A.1 2) (A.1 3) mi ml) (hF : rFL m0 mi l0 ml) {cc : Nat} (hcc : mi 252 13 = nI cc) (hC : cc ≤ 1001) : ∀ (j i : Nat) (c : Int32) (M : fc_Mi) (q : fc_Ml), i + j = A.1 0 + A.1 2 + A.1 3 → c = nI i → (∀ x, x ≠ 258 → x ≠ 259 → x ≠ 260 → x ≠ 263 → M x = mi x) → (∀ k, k < 50 → M 258 k = mi 258 (50 + k)) → (∀ k, k < cc → M 259 k = mi 259 (1100 + k) ∧ M 260 k = mi 260 (1100 + k)) → (∀ k, k < i → M 263 k = mi 264 k ∧ q 261 k = ml 262 k) → (∀ x, x ≠ 261 → q x = ml x) → fc_T E mX11_land (d + 35) (0, 0) fc_sh 153 [some (.ref 252), some (.int c)] [] M q mr (rldq m0 l0 mr (.ok A)) := by
  intro j
  induction j with
  | zero =>
    intro i c M q hi hc h1 h2 h3 h4 h5
    subst hc
    obtain ⟨b_0, b_1, b_2, b_3, b_4, b_5, b_6⟩ := id hI.1
    obtain ⟨r1, r2, r3, r4, r5⟩ := id hR
    refine fc_run oX11_land (fun pc => pc == 153) 400 ?_
    refine And.intro rfl ?_
    rw [h1 252 (by decide) (by decide) (by decide) (by decide), r4.1]
    refine And.intro (fun h158 => ?_) (fun h158 => ?_)
    · refine And.intro rfl ?_
      rw [h1 252 (by decide) (by decide) (by decide) (by decide), r4.1]
      refine And.intro rfl ?_
      have hz0 : ∀ k, k < 50 → (fc_u M 252 18 (nI (A.1 0 + A.1 2 + A.1 3))) 258 k = mi 258 (50 + k) := fun k hk => (congrFun (fc_u_off M 18 (nI (A.1 0 + A.1 2 + A.1 3)) (show 258 ≠ 252 by decide)) k).trans (h2 k hk)
      obtain ⟨o1, o2, ⟨sm, os1, os2, o3⟩, o4, o5⟩ := id hok
      have hlg : as_lg (A.1 2) (A.1 0) (A.1 3) A.2.1 (rl ((fc_u M 252 18 (nI (A.1 0 + A.1 2 + A.1 3))) 258)) := by
        refine ⟨fun k hk => ?_, fun p hp => ⟨?_, ?_, ?_⟩, fun q hq => ⟨?_, ?_⟩⟩
        · exact ((hz0 (6 + k) (by omega)).trans ((congrArg (mi 258) (show 50 + (6 + k) = 56 + k by omega)).trans (r3.1 k (by omega)))).symm
        · exact ((hz0 (13 + 3 * p + 0) (by omega)).trans ((congrArg (mi 258) (show 50 + (13 + 3 * p + 0) = 63 + 3 * p by omega)).trans (r3.2.1 p hp).1)).symm
        · exact ((hz0 (13 + 3 * p + 1) (by omega)).trans ((congrArg (mi 258) (show 50 + (13 + 3 * p + 1) = 63 + 3 * p + 1 by omega)).trans (r3.2.1 p hp).2.1)).symm
        · exact ((hz0 (13 + 3 * p + 2) (by omega)).trans ((congrArg (mi 258) (show 50 + (13 + 3 * p + 2) = 63 + 3 * p + 2 by omega)).trans (r3.2.1 p hp).2.2)).symm
        · exact ((hz0 (28 + 2 * q + 0) (by omega)).trans ((congrArg (mi 258) (show 50 + (28 + 2 * q + 0) = 78 + 2 * q by omega)).trans (r3.2.2 q hq).1)).symm
        · exact ((hz0 (28 + 2 * q + 1) (by omega)).trans ((congrArg (mi 258) (show 50 + (28 + 2 * q + 1) = 78 + 2 * q + 1 by omega)).trans (r3.2.2 q hq).2)).symm
      have hZ : rz (fc_u M 252 18 (nI (A.1 0 + A.1 2 + A.1 3))) (A.1 2) (A.1 0) (A.1 3) sm A.2.1 := ⟨⟨(hz0 0 (by omega)).trans r1.1, (hz0 2 (by omega)).trans r1.2.2.1, (hz0 3 (by omega)).trans r1.2.2.2.1, (hz0 4 (by omega)).trans (r1.2.2.2.2.trans o3)⟩, ⟨b_2, b_0, b_3, os1, os2, o1, o2⟩, hlg⟩
      refine And.intro rfl (Exists.intro _ (And.intro (c_rbegins (d := d + 32) hW hZ) ?_))
      rintro _ m2 _ _ ⟨rfl, rfl, rfl, g1, g2, g3, g4, g5, g6, g7⟩
      have e258 : ∀ k, k < 50 → m2 258 k = mi 258 (50 + k) := fun k hk => (congrFun (g6 258 (by decide) (by decide) (by decide) (by decide) (by decide) (by decide) (by decide)) k).trans (hz0 k hk)
      have e259 : m2 259 = M 259 := g6 259 (by decide) (by decide) (by decide) (by decide) (by decide) (by decide) (by decide)
      have e260 : m2 260 = M 260 := g6 260 (by decide) (by decide) (by decide) (by decide) (by decide) (by decide) (by decide)
      have e263 : m2 263 = M 263 := g6 263 (by decide) (by decide) (by decide) (by decide) (by decide) (by decide) (by decide)
      have e252 : ∀ k, k ≠ 18 → k ≠ 25 → m2 252 k = mi 252 k := fun k q1 q2 => by rw [g7 k q2, fc_u_nj _ _ _ _ q1, h1 252 (by decide) (by decide) (by decide) (by decide)]
      refine ⟨rfl, ⟨fun x q => ?_, fun x q => ?_⟩, ⟨?_, ?_⟩, rfl, hI, hok, hD, hH, ⟨⟨?_, ?_, ?_, ?_, ?_⟩, ?_, ⟨?_, ?_⟩, ?_⟩, g1, g2, g3, g4, g5⟩
      · rw [g6 x (by omega) (by omega) (by omega) (by omega) (by omega) (by omega) (by omega), fc_u_off _ _ _ (by omega), h1 x (by omega) (by omega) (by omega) (by omega)]
        exact hF.1 x (by omega) (by omega) (by omega) (by omega) (by omega)
      · rw [h5 x (by omega)]; exact hF.2.2.2.2 x (by omega)
      · rw [e252 0 (by decide) (by decide)]; exact hF.2.2.2.1 0 (by decide) (by decide) (by decide) (by decide) (by decide)
      · rw [e252 2 (by decide) (by decide)]; exact hF.2.2.2.1 2 (by decide) (by decide) (by decide) (by decide) (by decide)
      · exact (e258 0 (by omega)).trans r1.1
      · exact (e258 1 (by omega)).trans r1.2.1
      · exact (e258 2 (by omega)).trans r1.2.2.1
      · exact (e258 3 (by omega)).trans r1.2.2.2.1
      · exact (e258 4 (by omega)).trans r1.2.2.2.2
      · rw [g6 258 (by decide) (by decide) (by decide) (by decide) (by decide) (by decide) (by decide)]; exact hlg
      · rw [g7 18 (by decide)]; exact fc_u_at _ _ _ _
      · rw [e263]
        have hm := r4.2
        refine ⟨fun a b hab => ?_, fun k hk => ?_⟩
        · rw [← hm.1 a b hab]
          exact na_cg (fun k hk => ⟨(h4 k (by omega)).2, (h4 k (by omega)).1⟩)
        · rw [(h4 k (by omega)).1]; exact hm.2 k hk
      · refine ⟨fun q => (e258 5 (by omega)).trans (r5.1 q).2, fun q => ?_⟩
        obtain ⟨s1, s2, s3, s4, s5⟩ := r5.2 q
        have hcl : cc = A.1 6 + 1 := by
          rw [hcc] at s2
          have h99 := hC
          exact (nI_eq (by omega) (by omega)).mp s2
        refine ⟨(e258 5 (by omega)).trans s1, sp_hg_1 (hH q), s3, hH q, fun k hk => ?_, ?_⟩
        · rw [e259, e260, (h3 k (by omega)).1, (h3 k (by omega)).2]; exact s4 k hk
        · rw [e259, (h3 _ (by omega)).1]; exact s5
    · exact absurd (nI_le (by omega) (by omega)) h158
  | succ j ih =>
    intro i c M q hi hc h1 h2 h3 h4 h5
    subst hc
    obtain ⟨b_0, b_1, b_2, b_3, b_4, b_5, b_6⟩ := id hI.1
    obtain ⟨r1, r2, r3, r4, r5⟩ := id hR
    refine fc_run oX11_land (fun pc => pc == 153) 400 ?_
    refine And.intro rfl ?_
    rw [h1 252 (by decide) (by decide) (by decide) (by decide), r4.1]
    refine And.intro (fun h158 => ?_) (fun h158 => ?_)
    · exact absurd h158 (nI_ge (by omega) (by omega))
    · refine And.intro rfl (Exists.intro _ (And.intro (hW 252 14 261 rfl) ?_))
      refine And.intro rfl (Exists.intro _ (And.intro (hW 252 15 262 rfl) ?_))
      refine Exists.intro _ (Exists.intro _ (And.intro rfl (And.intro (fc_ixn rfl (by omega) (by decide)) ?_)))
      refine Exists.intro _ (Exists.intro _ (And.intro rfl (And.intro (fc_ixn rfl (by omega) (by decide)) ?_)))
      refine And.intro rfl (Exists.intro _ (And.intro (hW 252 16 263 rfl) ?_))
      refine And.intro rfl (Exists.intro _ (And.intro (hW 252 17 264 rfl) ?_))
      refine Exists.intro _ (Exists.intro _ (And.intro rfl (And.intro (fc_ixn rfl (by omega) (by decide)) ?_)))
      refine Exists.intro _ (Exists.intro _ (And.intro rfl (And.intro (fc_ixn rfl (by omega) (by decide)) ?_)))
      refine ih (i + 1) _ _ _ (by omega) (fc_inc i) (fun x q1 q2 q3 q4 => ?_) h2 h3 (fun k q => ?_) (fun x q1 => ?_)
      · rw [fc_u_off _ _ _ q4]; exact h1 x q1 q2 q3 q4
      · by_cases e : k = i
        · rw [e]
          refine ⟨(fc_u_at _ _ _ _).trans ?_, (fc_u_at _ _ _ _).trans ?_⟩
          · rw [h1 264 (by decide) (by decide) (by decide) (by decide)]
          · rw [h5 262 (by decide)]
        · rw [fc_u_nj _ _ _ _ e, fc_u_nj _ _ _ _ e]; exact h4 k (by omega)
      · rw [fc_u_off _ _ _ q1]; exact h5 x q1

theorem l_rlC (hW : fc_Wd mr) (hI : fc_AI A) (hok : Aok A) (hD : nd A) (hH : lwh A) (hR : rRA A (A.1 2) (A.1 3) mi ml) (hF : rFL m0 mi l0 ml) {cc : Nat} (hcc : mi 252 13 = nI cc) (hC : cc ≤ 1001) : ∀ (j i : Nat) (c : Int32) (M : fc_Mi), i + j = cc → c = nI i → (∀ x, x ≠ 258 → x ≠ 259 → x ≠ 260 → M x = mi x) → (∀ k, k < 50 → M 258 k = mi 258 (50 + k)) → (∀ k, k < i → M 259 k = mi 259 (1100 + k) ∧ M 260 k = mi 260 (1100 + k)) → (∀ k, 1100 ≤ k → M 259 k = mi 259 k ∧ M 260 k = mi 260 k) → fc_T E mX11_land (d + 35) (0, 0) fc_sh 105 [some (.ref 252), some (.int c)] [] M ml mr (rldq m0 l0 mr (.ok A)) := by
  intro j
  induction j with
  | zero =>
    intro i c M hi hc h1 h2 h3 h4
    subst hc
    obtain ⟨b_0, b_1, b_2, b_3, b_4, b_5, b_6⟩ := id hI.1
    obtain ⟨r1, r2, r3, r4, r5⟩ := id hR
    refine fc_run oX11_land (fun pc => pc == 105 || pc == 153) 400 ?_
    refine And.intro rfl ?_
    rw [h1 252 (by decide) (by decide) (by decide), hcc]
    refine And.intro (fun h110 => ?_) (fun h110 => ?_)
    · exact l_rlN hW hI hok hD hH hR hF hcc hC _ 0 _ _ _ (Nat.zero_add _) rfl (fun x q1 q2 q3 _ => h1 x q1 q2 q3) h2 (fun k q => h3 k (by omega)) (fun k q => absurd q (Nat.not_lt_zero k)) (fun _ _ => rfl)
    · exact absurd (nI_le (by omega) (by omega)) h110
  | succ j ih =>
    intro i c M hi hc h1 h2 h3 h4
    subst hc
    obtain ⟨b_0, b_1, b_2, b_3, b_4, b_5, b_6⟩ := id hI.1
    obtain ⟨r1, r2, r3, r4, r5⟩ := id hR
    refine fc_run oX11_land (fun pc => pc == 105 || pc == 153) 400 ?_
    refine And.intro rfl ?_
    rw [h1 252 (by decide) (by decide) (by decide), hcc]
    refine And.intro (fun h110 => ?_) (fun h110 => ?_)
    · exact absurd h110 (nI_ge (by omega) (by omega))
    · refine And.intro rfl (Exists.intro _ (And.intro (hW 252 11 259 rfl) ?_))
      refine And.intro rfl (Exists.intro _ (And.intro (hW 252 11 259 rfl) ?_))
      refine Exists.intro _ (Exists.intro _ (And.intro rfl (And.intro (fc_ixn (fc_na (fc_nl 1100) rfl) (by omega) (by decide)) ?_)))
      refine Exists.intro _ (Exists.intro _ (And.intro rfl (And.intro (fc_ixn rfl (by omega) (by decide)) ?_)))
      refine And.intro rfl (Exists.intro _ (And.intro (hW 252 12 260 rfl) ?_))
      refine And.intro rfl (Exists.intro _ (And.intro (hW 252 12 260 rfl) ?_))
      refine Exists.intro _ (Exists.intro _ (And.intro rfl (And.intro (fc_ixn (fc_na (fc_nl 1100) rfl) (by omega) (by decide)) ?_)))
      refine Exists.intro _ (Exists.intro _ (And.intro rfl (And.intro (fc_ixn rfl (by omega) (by decide)) ?_)))
      refine ih (i + 1) _ _ (by omega) (fc_inc i) (fun x q1 q2 q3 => ?_) h2 (fun k q => ?_) (fun k q => ?_)
      · rw [fc_u_off _ _ _ q3, fc_u_off _ _ _ q2]; exact h1 x q1 q2 q3
      · rw [fc_u_off _ _ _ (show 259 ≠ 260 by decide)]
        by_cases e : k = i
        · rw [e]
          refine ⟨(fc_u_at _ _ _ _).trans ?_, (fc_u_at _ _ _ _).trans ?_⟩
          · exact (h4 (1100 + i) (by omega)).1
          · rw [fc_u_off _ _ _ (show 260 ≠ 259 by decide)]; exact (h4 (1100 + i) (by omega)).2
        · rw [fc_u_nj _ _ _ _ e, fc_u_nj _ _ _ _ e]; rw [fc_u_off _ _ _ (show 260 ≠ 259 by decide)]; exact h3 k (by omega)
      · rw [fc_u_off _ _ _ (show 259 ≠ 260 by decide), fc_u_nj _ _ _ _ (by omega), fc_u_nj _ _ _ _ (by omega), fc_u_off _ _ _ (show 260 ≠ 259 by decide)]; exact h4 k q

theorem l_rlL (hW : fc_Wd mr) (hI : fc_AI A) (hok : Aok A) (hD : nd A) (hH : lwh A) (hR : rRA A (A.1 2) (A.1 3) mi ml) (hF : rFL m0 mi l0 ml) {cc : Nat} (hcc : mi 252 13 = nI cc) (hC : cc ≤ 1001) : ∀ (j i : Nat) (c : Int32) (M : fc_Mi), i + j = 50 → c = nI i → (∀ x, x ≠ 258 → M x = mi x) → (∀ k, k < i → M 258 k = mi 258 (50 + k)) → (∀ k, i ≤ k → M 258 k = mi 258 k) → fc_T E mX11_land (d + 35) (0, 0) fc_sh 76 [some (.ref 252), some (.int c)] [] M ml mr (rldq m0 l0 mr (.ok A)) := by
  intro j
  induction j with
  | zero =>
    intro i c M hi hc h1 h2 h3
    subst hc
    refine fc_run oX11_land (fun pc => pc == 76 || pc == 105) 400 ?_
    refine And.intro (fun h79 => ?_) (fun h79 => ?_)
    · exact l_rlC hW hI hok hD hH hR hF hcc hC _ 0 _ _ (Nat.zero_add _) rfl (fun x q1 _ _ => h1 x q1) (fun k q => h2 k (by omega)) (fun k q => absurd q (Nat.not_lt_zero k)) (fun k q => by rw [h1 259 (by decide), h1 260 (by decide)]; exact ⟨rfl, rfl⟩)
    · exact absurd (nI_le (a := 50) (b := i) (by omega) (by omega)) h79
  | succ j ih =>
    intro i c M hi hc h1 h2 h3
    subst hc
    refine fc_run oX11_land (fun pc => pc == 76 || pc == 105) 400 ?_
    refine And.intro (fun h79 => ?_) (fun h79 => ?_)
    · exact absurd h79 (nI_ge (a := i) (b := 50) (by omega) (by omega))
    · refine And.intro rfl (Exists.intro _ (And.intro (hW 252 10 258 rfl) ?_))
      refine And.intro rfl (Exists.intro _ (And.intro (hW 252 10 258 rfl) ?_))
      refine Exists.intro _ (Exists.intro _ (And.intro rfl (And.intro (fc_ixn (fc_na (fc_nl 50) rfl) (by omega) (by decide)) ?_)))
      refine Exists.intro _ (Exists.intro _ (And.intro rfl (And.intro (fc_ixn rfl (by omega) (by decide)) ?_)))
      refine ih (i + 1) _ _ (by omega) (fc_inc i) (fun x q1 => ?_) (fun k q => ?_) (fun k q => ?_)
      · rw [fc_u_off _ _ _ q1]; exact h1 x q1
      · by_cases e : k = i
        · rw [e]; exact (fc_u_at _ _ _ _).trans (h3 _ (by omega))
        · rw [fc_u_nj _ _ _ _ e]; exact h2 k (by omega)
      · rw [fc_u_nj _ _ _ _ (by omega)]; exact h3 k (by omega)

theorem l_rl30 (hW : fc_Wd mr) : ∀ (j i : Nat) (A : fc_Ab) (mi : fc_Mi) (ml : fc_Ml), N ≤ i + j → rst s n N i 0 mi ml → fc_AI A → Aok A → nd A → lwh A → rRA A (A.1 2) (A.1 3) mi ml → rFL m0 mi l0 ml → fc_T E mX11_land (d + 35) (0, 0) fc_sh 30 [some (.ref 252), none] [] mi ml mr (rldq m0 l0 mr (ps_ld s n j i A)) := by
  intro j
  induction j with
  | zero =>
    intro i A mi ml hj hS hI hok hD hH hR hF
    have hat := hS.2.2.1
    have hfa := hS.2.2.2.1
    have hn := hS.1.2.2.1
    have hN : N ≤ 1000 := Nat.le_trans hS.1.2.1 hn
    have hiN := hS.2.1
    refine fc_run oX11_land (fun pc => pc == 53 || pc == 76) 400 ?_
    refine And.intro rfl ?_
    refine And.intro (fun h34 => ?_) (fun h34 => ?_)
    · refine And.intro rfl (Exists.intro _ (And.intro (hW 252 4 254 rfl) ?_))
      refine And.intro rfl ?_
      rw [hat]
      refine Exists.intro _ (Exists.intro _ (And.intro rfl (And.intro (fc_ixn rfl (by omega) (by decide)) ?_)))
      refine And.intro (fun h46 => ?_) (fun h46 => ?_)
      · refine And.intro rfl ?_
        refine And.intro (fun h66 => ?_) (fun h66 => ?_)
        · rw [show ps_ld s n 0 i A = .ok A from rfl]
          have hcx : ∃ cc, mi 252 13 = nI cc ∧ cc ≤ 1001 := by
            rcases Nat.lt_or_ge 0 (A.1 5) with q | q
            · have q5 : A.1 5 = 1 := by have := hI.1.2.2.2.2.2.1; omega
              exact ⟨_, (hR.2.2.2.2.2 q5).2.1, by have := (hR.2.2.2.2.2 q5).2.2.1; omega⟩
            · exact ⟨0, (hR.2.2.2.2.1 (by omega)).1, by omega⟩
          obtain ⟨cc, hcc, hC⟩ := hcx
          exact l_rlL hW hI hok hD hH hR hF hcc hC 50 0 _ _ (by omega) rfl (fun _ _ => rfl) (fun k q => absurd q (Nat.not_lt_zero k)) (fun _ _ => rfl)
        · rw [hfa] at h66; exact absurd (by decide) h66
      · exact absurd (hS.z.mpr (hS.end.mp (by omega))) h46
    · exact absurd hfa h34
  | succ j ih =>
    intro i A mi ml hj hS hI hok hD hH hR hF
    have hat := hS.2.2.1
    have hfa := hS.2.2.2.1
    have hn := hS.1.2.2.1
    have hN : N ≤ 1000 := Nat.le_trans hS.1.2.1 hn
    have hiN := hS.2.1
    refine fc_run oX11_land (fun pc => pc == 53 || pc == 76) 400 ?_
    refine And.intro rfl ?_
    refine And.intro (fun h34 => ?_) (fun h34 => ?_)
    · refine And.intro rfl (Exists.intro _ (And.intro (hW 252 4 254 rfl) ?_))
      refine And.intro rfl ?_
      rw [hat]
      refine Exists.intro _ (Exists.intro _ (And.intro rfl (And.intro (fc_ixn rfl (by omega) (by decide)) ?_)))
      refine And.intro (fun h46 => ?_) (fun h46 => ?_)
      · refine And.intro rfl ?_
        refine And.intro (fun h66 => ?_) (fun h66 => ?_)
        · rw [ps_ld, if_pos (hS.z.mp h46)]
          have hcx : ∃ cc, mi 252 13 = nI cc ∧ cc ≤ 1001 := by
            rcases Nat.lt_or_ge 0 (A.1 5) with q | q
            · have q5 : A.1 5 = 1 := by have := hI.1.2.2.2.2.2.1; omega
              exact ⟨_, (hR.2.2.2.2.2 q5).2.1, by have := (hR.2.2.2.2.2 q5).2.2.1; omega⟩
            · exact ⟨0, (hR.2.2.2.2.1 (by omega)).1, by omega⟩
          obtain ⟨cc, hcc, hC⟩ := hcx
          exact l_rlL hW hI hok hD hH hR hF hcc hC 50 0 _ _ (by omega) rfl (fun _ _ => rfl) (fun k q => absurd q (Nat.not_lt_zero k)) (fun _ _ => rfl)
        · rw [hfa] at h66; exact absurd (by decide) h66
      · have hk1 : ¬ tK s n i = 1 := fun q => h46 (hS.z.mpr q)
        have hiL : i < N := hS.lt hk1
        refine And.intro rfl (Exists.intro _ (And.intro (c_rreadLine (d := d) hW hS hiL hI.1 hD hH hR) ?_))
        intro v m1 l1 _ h1
        obtain rfl : v = none := h1.1
        obtain rfl := h1.2.1
        rw [ps_ld, if_neg hk1]
        obtain ⟨-, -, f1, h2⟩ := h1
        cases hr : ps_line s n A i with
        | error e =>
          rw [hr] at h2
          dsimp only
          rcases h2 with ⟨hne, j1, g1⟩ | ⟨j1, rfl, h59, g1⟩
          · refine l_rl53 hW g1 (fun m2 g2 u2 => ?_)
            rw [p_sg_f hne] at g2
            exact l_rl30F hW g2 hne (isF_ok hn (ps_line_F hr)).1 (hF.tr (f1.tr u2.fl))
          · refine l_rl53 hW g1 (fun m2 g2 u2 => ?_)
            rw [show p_sg s n (nI 59) (j1, 0) = (j1, tF s n 1 j1) from (if_pos rfl).trans (if_neg h59)] at g2
            exact l_rl30F hW g2 (tF_ne (c := 1) (by omega) (by omega) hn _) (tF_ok (c := 1) (by omega) hn _) (hF.tr (f1.tr u2.fl))
        | ok q =>
          rw [hr] at h2
          obtain ⟨g1, g3, g4⟩ := h2
          dsimp only
          have hle := ps_line_le hr
          have hAo := Aok_line hI.1 hok hD hr
          have hI2 := ps_line_I hI hr
          by_cases h59 : tK s n q.2 = 59
          · rw [if_pos h59]
            refine l_rl53 hW g1 (fun m2 g2 u2 => ?_)
            rw [show p_sg s n (nI 59) (q.2, 0) = (q.2 + 1, 0) from (if_pos rfl).trans (if_pos h59)] at g2
            exact ih (q.2 + 1) q.1 m2 l1 (by omega) g2 hI2 hAo.1 hAo.2 g4 (g3.fr u2) (hF.tr (f1.tr u2.fl))
          · rw [if_neg h59]
            refine l_rl53 hW g1 (fun m2 g2 u2 => ?_)
            rw [show p_sg s n (nI 59) (q.2, 0) = (q.2, tF s n 1 q.2) from (if_pos rfl).trans (if_neg h59)] at g2
            exact l_rl30F hW g2 (tF_ne (c := 1) (by omega) (by omega) hn _) (tF_ok (c := 1) (by omega) hn _) (hF.tr (f1.tr u2.fl))
    · exact absurd hfa h34
end M89
