/-! ===== the law, read in two ways: how far the class's reader goes ===== -/
def cr (s : Nat → Int32) (n N i : Nat) (c : fc_Lc) (j : Nat) (c' : fc_Lc) : Prop := i ≤ j ∧ ∀ k, N ≤ i + k → ∃ k', N ≤ j + k' ∧ ps_lr s n k i c = ps_lr s n k' j c'
def ce (s : Nat → Int32) (n N i : Nat) (c : fc_Lc) (e : Int32) : Prop := ∀ k, N ≤ i + k → ps_lr s n k i c = .error e
section M80
variable {s : Nat → Int32} {n N i j l : Nat} {c c' c2 : fc_Lc} {e : Int32} {w o : List Int32} {dp : Int32}
theorem cr.tr (h : cr s n N i c j c') (g : cr s n N j c' l c2) : cr s n N i c l c2 := ⟨Nat.le_trans h.1 g.1, fun k hk => by
  obtain ⟨k1, h1, e1⟩ := h.2 k hk
  obtain ⟨k2, h2, e2⟩ := g.2 k1 h1
  exact ⟨k2, h2, e1.trans e2⟩⟩
theorem cr.er (h : cr s n N i c j c') (g : ce s n N j c' e) : ce s n N i c e := fun k hk => by
  obtain ⟨k1, h1, e1⟩ := h.2 k hk
  exact e1.trans (g k1 h1)
theorem cr_p (hi : i < N) (h : ps_part s n (i + 1) w dp o = .ok c') : cr s n N i (w, dp, true, o) (i + 1) c' := ⟨Nat.le_succ i, fun k hk => by
  obtain ⟨k, rfl⟩ : ∃ k', k = k' + 1 := ⟨k - 1, by omega⟩
  exact ⟨k, by omega, by rw [ps_lr_p, h]⟩⟩
theorem ce_p (hi : i < N) (h : ps_part s n (i + 1) w dp o = .error e) : ce s n N i (w, dp, true, o) e := fun k hk => by
  obtain ⟨k, rfl⟩ : ∃ k', k = k' + 1 := ⟨k - 1, by omega⟩
  rw [ps_lr_p, h]
theorem cr_b (hi : i < N) (hd : ¬ dp = 0 ∨ ¬ tK s n (i + 1) = 59) (h : ps_beh s n (i + 1) w dp o = .ok c') : cr s n N i (w, dp, false, o) (i + 1) c' := ⟨Nat.le_succ i, fun k hk => by
  obtain ⟨k, rfl⟩ : ∃ k', k = k' + 1 := ⟨k - 1, by omega⟩
  exact ⟨k, by omega, by rw [ps_lr_b hd, h]⟩⟩
theorem ce_b (hi : i < N) (hd : ¬ dp = 0 ∨ ¬ tK s n (i + 1) = 59) (h : ps_beh s n (i + 1) w dp o = .error e) : ce s n N i (w, dp, false, o) e := fun k hk => by
  obtain ⟨k, rfl⟩ : ∃ k', k = k' + 1 := ⟨k - 1, by omega⟩
  rw [ps_lr_b hd, h]
theorem cr_f (hi : i < N) (h0 : dp = 0) (h : tK s n (i + 1) = 59) : ∀ k, N ≤ i + k → ps_lr s n k i (w, dp, false, o) = .ok ((ps_wd 1 w o).2, i + 1) := fun k hk => by
  obtain ⟨k, rfl⟩ : ∃ k', k = k' + 1 := ⟨k - 1, by omega⟩
  exact ps_lr_e h0 h
end M80
/-- ranks as numbers -/
def rkn (x : Int32) : Nat := if x = 42 then 4 else if x = 43 then 3 else if x = 45 then 3 else if x = 60 then 2 else if x = 61 then 2 else if x = 147 then 1 else if x = 148 then 1 else 0
theorem rk_n (x : Int32) : ps_rk x = nI (rkn x) := by
  unfold ps_rk rkn
  repeat (split; rfl)
  rfl
theorem rkn_4 (x : Int32) : rkn x ≤ 4 := by
  unfold rkn
  repeat (split; omega)
  omega
def tpn : List Int32 → Nat
  | [] => 0
  | x :: _ => rkn x
theorem tp_n (w : List Int32) : ps_tp w = nI (tpn w) := by
  cases w with
  | nil => rfl
  | cons x w => exact rk_n x
/-- what waits is written down -/
def fl : List Int32 → List Int32 → List Int32
  | [], o => o
  | x :: u, o => fl u ((-x) :: o)
theorem fl_len : ∀ (u o : List Int32), (fl u o).length = u.length + o.length
  | [], o => by simp [fl]
  | x :: u, o => by rw [fl, fl_len u]; simp only [List.length_cons]; omega
theorem fl_app (x : Int32) : ∀ (u o : List Int32), fl (u ++ [x]) o = (-x) :: fl u o
  | [], o => rfl
  | y :: u, o => by rw [List.cons_append, fl, fl, fl_app x u]
theorem wd_fl {R : Nat} (hR : R ≤ 5) : ∀ (u w o : List Int32), (∀ x ∈ u, R ≤ rkn x) → (fl u o).length ≤ 1000 → ps_wd (nI R) (u ++ w) o = ps_wd (nI R) w (fl u o)
  | [], w, o, _, _ => rfl
  | x :: u, w, o, h, hl => by
    have h1 : ¬ ps_rk x < nI R := by
      rw [rk_n]
      exact nI_nlt (h x List.mem_cons_self) (by have := rkn_4 x; omega)
    have h2 : o.length < 1000 := by rw [fl_len] at hl; simp only [List.length_cons] at hl; omega
    rw [List.cons_append, ps_wd, if_neg h1, ps_wr, if_pos h2, wd_fl hR u w _ (fun y hy => h y (List.mem_cons_of_mem _ hy)) hl, fl]
theorem wd_tp {R : Nat} (hR : R ≤ 5) {w : List Int32} (o : List Int32) (h : tpn w < R) : ps_wd (nI R) w o = (w, o) := by
  cases w with
  | nil => rfl
  | cons x w =>
    rw [ps_wd, if_pos]
    rw [rk_n]
    exact nI_lt h (by omega)
theorem wd_all {R : Nat} (hR : R ≤ 5) {u w o : List Int32} (h : ∀ x ∈ u, R ≤ rkn x) (hl : (fl u o).length ≤ 1000) (ht : tpn w < R) : ps_wd (nI R) (u ++ w) o = (w, fl u o) := by
  rw [wd_fl hR u w o h hl, wd_tp hR _ ht]
/-- heights of what is written, the latest first -/
def hl : List Int32 → Nat
  | [] => 0
  | x :: o => if hl o = 99 then 99 else if x = -146 then (if hl o = 0 then 99 else hl o) else if x < 0 ∧ -256 < x then (if hl o < 2 then 99 else hl o - 1) else (if hl o < 64 then hl o + 1 else 99)
theorem hl_hg : ∀ (o : List Int32), sp_hg (fun j => o.reverse.getD j 0) o.length = hl o := by
  have cg : ∀ (f g : Nat → Int32) (k : Nat), (∀ j, j < k → f j = g j) → sp_hg f k = sp_hg g k := by
    intro f g k
    induction k with
    | zero => intro _; rfl
    | succ k ih =>
      intro h
      rw [sp_hg, sp_hg, ih (fun j hj => h j (by omega)), h k (by omega)]
  intro o
  induction o with
  | nil => rfl
  | cons x o ih =>
    have hk : (x :: o).reverse.getD o.length 0 = x := by
      simp [List.getD_eq_getElem?_getD, List.reverse_cons]
    have hc : sp_hg (fun j => (x :: o).reverse.getD j 0) o.length = hl o := by
      rw [← ih]
      refine cg _ _ _ (fun j hj => ?_)
      simp only [List.getD_eq_getElem?_getD, List.reverse_cons]
      rw [List.getElem?_append_left (by simpa using hj)]
    rw [List.length_cons, sp_hg, hc, hk, hl]
theorem hl_num {x : Int32} {o : List Int32} (h : hl o < 64) (hx : ¬ x < 0 ∨ ¬ -256 < x) : hl (x :: o) = hl o + 1 := by
  have h1 : ¬ x = -146 := by
    rintro rfl
    rcases hx with hx | hx <;> exact absurd (by decide) hx
  rw [hl, if_neg (by omega), if_neg h1, if_neg (fun q => hx.elim (fun p => p q.1) (fun p => p q.2)), if_pos h]
theorem hl_not {o : List Int32} (h : hl o < 65) (h0 : 1 ≤ hl o) : hl ((-146) :: o) = hl o := by
  rw [hl, if_neg (by omega), if_pos rfl, if_neg (by omega)]
theorem hl_op {x : Int32} {o : List Int32} (h : hl o < 65) (h2 : 2 ≤ hl o) (hx : 1 ≤ rkn x) : hl ((-x) :: o) = hl o - 1 := by
  have hz : x = 42 ∨ x = 43 ∨ x = 45 ∨ x = 60 ∨ x = 61 ∨ x = 147 ∨ x = 148 := by
    unfold rkn at hx
    by_cases e1 : x = 42
    · exact .inl e1
    · by_cases e2 : x = 43
      · exact .inr (.inl e2)
      · by_cases e3 : x = 45
        · exact .inr (.inr (.inl e3))
        · by_cases e4 : x = 60
          · exact .inr (.inr (.inr (.inl e4)))
          · by_cases e5 : x = 61
            · exact .inr (.inr (.inr (.inr (.inl e5))))
            · by_cases e6 : x = 147
              · exact .inr (.inr (.inr (.inr (.inr (.inl e6)))))
              · by_cases e7 : x = 148
                · exact .inr (.inr (.inr (.inr (.inr (.inr e7)))))
                · rw [if_neg e1, if_neg e2, if_neg e3, if_neg e4, if_neg e5, if_neg e6, if_neg e7] at hx; omega
  have h1 : ¬ -x = -146 ∧ (-x < 0 ∧ -256 < -x) := by
    rcases hz with rfl | rfl | rfl | rfl | rfl | rfl | rfl <;> decide
  rw [hl, if_neg (by omega), if_neg h1.1, if_pos h1.2, if_neg (by omega)]
