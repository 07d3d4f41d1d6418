/-! ===== the constant texts: length, charAt, indexOf ===== -/
section M30
variable {E : fc_E} {d : Nat} {mi : fc_Mi} {ml : fc_Ml} {mr : fc_Mr}
/-- the k-th byte of the q-th text -/
def fc_by (q k : Nat) : Int32 := (fc_tb.getD q []).getD k 0
/-- the k-th sign of the q-th text -/
def fc_ch (q k : Nat) : Int32 := ((fc_by q k &&& 255).toUInt32 % 65536).toInt32
theorem c_isLatin1 {u : UInt32} (hu : u.toNat < 5) : fc_R E mJ0_isLatin1_aae02 d fc_sh [.float u] mi ml mr (fc_is (some (.int (fc_b true))) mi ml mr) := by
  refine fc_met rfl (Nat.le_of_ble_eq_true rfl) (fc_run oJ0_isLatin1_aae02 (fun _ => false) 400 ?_)
  refine And.intro (fun h3 => ?_) (fun h3 => ?_)
  · exact absurd h3 (by decide)
  · refine And.intro hu ?_
    refine And.intro (fun h10 => ?_) (fun h10 => ?_)
    · refine And.intro (by first | exact Or.inl rfl | exact Or.inr rfl | exact fc_bb _ | assumption) ?_
      first | exact ⟨rfl, rfl, rfl, rfl⟩ | skip
    · exact absurd rfl h10

theorem c_coder {u : UInt32} (hu : u.toNat < 5) : fc_R E mJ0_coder_7d493 d fc_sh [.float u] mi ml mr (fc_is (some (.int 0)) mi ml mr) := by
  refine fc_met rfl (Nat.le_of_ble_eq_true rfl) (fc_run oJ0_coder_7d493 (fun _ => false) 400 ?_)
  refine And.intro (fun h3 => ?_) (fun h3 => ?_)
  · exact absurd h3 (by decide)
  · refine And.intro hu ?_
    refine And.intro (by first | rfl | exact pk_nc _) ?_
    first | exact ⟨rfl, rfl, rfl, rfl⟩ | skip

theorem c_length {u : UInt32} (hu : u.toNat < 5) : fc_R E mJ0_length_8abf5 (d + 1) fc_sh [.float u] mi ml mr (fc_is (some (.int (nI (fc_tl.getD u.toNat 0)))) mi ml mr) := by
  refine fc_met rfl (Nat.le_of_ble_eq_true rfl) (fc_run oJ0_length_8abf5 (fun _ => false) 400 ?_)
  refine And.intro hu ?_
  refine And.intro hu ?_
  refine And.intro hu (Exists.intro _ (And.intro (c_coder hu) ?_))
  rintro _ _ _ _ ⟨rfl, rfl, rfl, rfl⟩
  exact ⟨by rw [show (0 : Int32) &&& 31 = 0 from rfl]; rw [show Int32.ofNat (fc_tl.getD u.toNat 0) >>> (0 : Int32) = nI (fc_tl.getD u.toNat 0) from sb_shr0 _], rfl, rfl, rfl⟩

theorem c_pcheck {i n : Nat} (h : i < n) (hn : n ≤ 1000) (v : Value) (hv : v.category = 1) : fc_R E mJ3_checkIndex_8e157 d fc_sh [.int (nI i), .int (nI n), v] mi ml mr (fc_is (some (.int (nI i))) mi ml mr) := by
  refine fc_met rfl (by cases v <;> first | exact Nat.le_of_ble_eq_true rfl | cases hv) (fc_run oJ3_checkIndex_8e157 (fun _ => false) 400 ?_)
  refine And.intro (fun h1 => ?_) (fun h1 => ?_)
  · exact absurd h1 (nI_pos (by omega))
  · refine And.intro (fun h6 => ?_) (fun h6 => ?_)
    · first | exact ⟨rfl, rfl, rfl, rfl⟩ | skip
    · exact absurd (nI_lt h (by omega)) h6

theorem c_scheck {i n : Nat} (h : i < n) (hn : n ≤ 1000) : fc_R E mJ0_checkIndex_df160 (d + 1) fc_sh [.int (nI i), .int (nI n)] mi ml mr (fc_is none mi ml mr) := by
  refine fc_met rfl (Nat.le_of_ble_eq_true rfl) (fc_run oJ0_checkIndex_df160 (fun _ => false) 400 ?_)
  refine And.intro ?_ ?_
  · refine Exists.intro _ (And.intro (c_pcheck h hn _ rfl) ?_)
    rintro _ _ _ _ ⟨rfl, rfl, rfl, rfl⟩
    first | exact ⟨rfl, rfl, rfl, rfl⟩ | skip
  · refine Exists.intro _ (And.intro (c_pcheck h hn _ rfl) ?_)
    rintro _ _ _ _ ⟨rfl, rfl, rfl, rfl⟩
    first | exact ⟨rfl, rfl, rfl, rfl⟩ | skip

theorem c_lcharAt {q k : Nat} (hq : q < 5) (hk : k < fc_tl.getD q 0) : fc_R E mJ1_charAt_3b067 (d + 2) fc_sh [.retAddr q, .int (nI k)] mi ml mr (fc_is (some (.int (fc_ch q k))) mi ml mr) := by
  have hq2 : fc_tl.getD q 0 ≤ 1000 := by
    match q, hq with
    | 0, _ => decide
    | 1, _ => decide
    | 2, _ => decide
    | 3, _ => decide
    | 4, _ => decide
  refine fc_met rfl (Nat.le_of_ble_eq_true rfl) (fc_run oJ1_charAt_3b067 (fun _ => false) 400 ?_)
  refine And.intro hq ?_
  refine Exists.intro _ (And.intro (c_scheck hk hq2) ?_)
  rintro _ _ _ _ ⟨rfl, rfl, rfl, rfl⟩
  refine And.intro hq (Exists.intro _ (And.intro (fc_ix_nI hk (by omega)) ?_))
  refine And.intro (by first | rfl | exact pk_nc _) ?_
  first | exact ⟨rfl, rfl, rfl, rfl⟩ | skip

theorem c_charAt {u : UInt32} (hu : u.toNat < 5) {k : Nat} (hk : k < fc_tl.getD u.toNat 0) : fc_R E mJ0_charAt_5068e (d + 3) fc_sh [.float u, .int (nI k)] mi ml mr (fc_is (some (.int (fc_ch u.toNat k))) mi ml mr) := by
  refine fc_met rfl (Nat.le_of_ble_eq_true rfl) (fc_run oJ0_charAt_5068e (fun _ => false) 400 ?_)
  refine And.intro hu (Exists.intro _ (And.intro (c_isLatin1 hu) ?_))
  rintro _ _ _ _ ⟨rfl, rfl, rfl, rfl⟩
  refine And.intro (fun h4 => ?_) (fun h4 => ?_)
  · exact absurd h4 (by decide)
  · replace h4 := fc_b1.mp h4
    refine And.intro hu ?_
    refine Exists.intro _ (And.intro (c_lcharAt hu hk) ?_)
    rintro _ _ _ _ ⟨rfl, rfl, rfl, rfl⟩
    refine And.intro (by first | rfl | exact pk_nc _) ?_
    first | exact ⟨rfl, rfl, rfl, rfl⟩ | skip

def sp_enc (x : Int32) : Bool := !decide (x < 0) && !decide (255 < x)
theorem c_canEncode (x : Int32) : fc_R E mJ1_canEncode_9a6ad d fc_sh [.int x] mi ml mr (fc_is (some (.int (fc_b (sp_enc x)))) mi ml mr) := by
  refine fc_met rfl (Nat.le_of_ble_eq_true rfl) (fc_run oJ1_canEncode_9a6ad (fun _ => false) 400 ?_)
  refine And.intro (fun h1 => ?_) (fun h1 => ?_)
  · refine And.intro (by first | exact Or.inl rfl | exact Or.inr rfl | exact fc_bb _ | assumption) ?_
    exact ⟨by simp [sp_enc, fc_b, h1], rfl, rfl, rfl⟩
  · refine And.intro (fun h8 => ?_) (fun h8 => ?_)
    · refine And.intro (by first | exact Or.inl rfl | exact Or.inr rfl | exact fc_bb _ | assumption) ?_
      exact ⟨by simp [sp_enc, fc_b, h1, h8], rfl, rfl, rfl⟩
    · refine And.intro (by first | exact Or.inl rfl | exact Or.inr rfl | exact fc_bb _ | assumption) ?_
      exact ⟨by simp [sp_enc, fc_b, h1, h8], rfl, rfl, rfl⟩

/-- the first place from i on, j of them, that holds the byte x -/
def sp_io (f : Nat → Int32) (x : Int32) : Nat → Nat → Int32
  | 0, _ => -1
  | j + 1, i => if f i = x then nI i else sp_io f x j (i + 1)
theorem l_ioc {q : Nat} (hq : q < 5) (x : Int32) : ∀ (j i : Nat) (c : Int32), i + j = fc_tl.getD q 0 → c = nI i → fc_T E mJ1_indexOfChar_4cfef d (0, 0) fc_sh 7 [some (.retAddr q), some (.int x), some (.int 0), some (.int (nI (fc_tl.getD q 0))), some (.int x.toInt8.toInt32), some (.int c)] [] mi ml mr (fc_is (some (.int (sp_io (fc_by q) x.toInt8.toInt32 j i))) mi ml mr) := by
  have hq2 : fc_tl.getD q 0 ≤ 1000 := by
    match q, hq with
    | 0, _ => decide
    | 1, _ => decide
    | 2, _ => decide
    | 3, _ => decide
    | 4, _ => decide
  intro j
  induction j with
  | zero =>
    intro i c hi hc
    subst hc
    refine fc_run oJ1_indexOfChar_4cfef (fun pc => pc == 7) 400 ?_
    refine And.intro (fun h10 => ?_) (fun h10 => ?_)
    · exact ⟨rfl, rfl, rfl, rfl⟩
    · exact absurd (nI_le (by omega) (by omega)) h10
  | succ j ih =>
    intro i c hi hc
    subst hc
    refine fc_run oJ1_indexOfChar_4cfef (fun pc => pc == 7) 400 ?_
    refine And.intro (fun h10 => ?_) (fun h10 => ?_)
    · exact absurd h10 (nI_ge (by omega) (by omega))
    · refine And.intro hq (Exists.intro _ (And.intro (fc_ix_nI (p := i) (by omega) (by omega)) ?_))
      refine And.intro (fun h19 => ?_) (fun h19 => ?_)
      · exact ⟨by rw [sp_io, if_pos (show fc_by q i = x.toInt8.toInt32 from h19)], rfl, rfl, rfl⟩
      · rw [sp_io, if_neg (show ¬ fc_by q i = x.toInt8.toInt32 from h19)]
        exact ih (i + 1) _ (by omega) (fc_inc i)

theorem c_ioc {q : Nat} (hq : q < 5) (x : Int32) : fc_R E mJ1_indexOfChar_4cfef d fc_sh [.retAddr q, .int x, .int 0, .int (nI (fc_tl.getD q 0))] mi ml mr (fc_is (some (.int (sp_io (fc_by q) x.toInt8.toInt32 (fc_tl.getD q 0) 0))) mi ml mr) := by
  refine fc_met rfl (Nat.le_of_ble_eq_true rfl) (fc_run oJ1_indexOfChar_4cfef (fun pc => pc == 7) 400 ?_)
  exact l_ioc hq x _ 0 _ (by omega) rfl

def sp_ix (q : Nat) (x : Int32) : Int32 := if sp_enc x then sp_io (fc_by q) x.toInt8.toInt32 (fc_tl.getD q 0) 0 else -1
theorem c_lix {q : Nat} (hq : q < 5) (x : Int32) : fc_R E mJ1_indexOf_4cfef (d + 1) fc_sh [.retAddr q, .int x, .int 0, .int (nI (fc_tl.getD q 0))] mi ml mr (fc_is (some (.int (sp_ix q x))) mi ml mr) := by
  obtain ⟨hq2, hq3⟩ : fc_tl.getD q 0 ≤ 1000 ∧ 0 < fc_tl.getD q 0 := by
    match q, hq with
    | 0, _ => decide
    | 1, _ => decide
    | 2, _ => decide
    | 3, _ => decide
    | 4, _ => decide
  refine fc_met rfl (Nat.le_of_ble_eq_true rfl) (fc_run oJ1_indexOf_4cfef (fun _ => false) 400 ?_)
  refine Exists.intro _ (And.intro (c_canEncode _) ?_)
  rintro _ _ _ _ ⟨rfl, rfl, rfl, rfl⟩
  refine And.intro (fun h4 => ?_) (fun h4 => ?_)
  · replace h4 := fc_b0.mp h4
    exact ⟨by rw [sp_ix, h4]; rfl, rfl, rfl, rfl⟩
  · replace h4 := fc_b1.mp h4
    refine And.intro hq ?_
    refine And.intro (fun h24 => ?_) (fun h24 => ?_)
    · refine Exists.intro _ (And.intro (show fc_R E mJ1_indexOfChar_4cfef d fc_sh [.retAddr q, .int x, .int 0, .int (if Int32.ofNat (fc_tl.getD q 0) < nI (fc_tl.getD q 0) then Int32.ofNat (fc_tl.getD q 0) else nI (fc_tl.getD q 0))] mi ml mr (fc_is (some (.int (sp_io (fc_by q) x.toInt8.toInt32 (fc_tl.getD q 0) 0))) mi ml mr) from by rw [show (if Int32.ofNat (fc_tl.getD q 0) < nI (fc_tl.getD q 0) then Int32.ofNat (fc_tl.getD q 0) else nI (fc_tl.getD q 0)) = nI (fc_tl.getD q 0) from by split <;> rfl]; exact c_ioc hq x) ?_)
      rintro _ _ _ _ ⟨rfl, rfl, rfl, rfl⟩
      exact ⟨by rw [sp_ix, h4]; rfl, rfl, rfl, rfl⟩
    · exact absurd (show (0 : Int32) < (if Int32.ofNat (fc_tl.getD q 0) < nI (fc_tl.getD q 0) then Int32.ofNat (fc_tl.getD q 0) else nI (fc_tl.getD q 0)) from by rw [show (if Int32.ofNat (fc_tl.getD q 0) < nI (fc_tl.getD q 0) then Int32.ofNat (fc_tl.getD q 0) else nI (fc_tl.getD q 0)) = nI (fc_tl.getD q 0) from by split <;> rfl]; exact nI_lt (a := 0) hq3 (by omega)) h24

theorem c_ix2 {u : UInt32} (hu : u.toNat < 5) (x : Int32) : fc_R E mJ0_indexOf_7cf53 (d + 2) fc_sh [.float u, .int x, .int 0] mi ml mr (fc_is (some (.int (sp_ix u.toNat x))) mi ml mr) := by
  refine fc_met rfl (Nat.le_of_ble_eq_true rfl) (fc_run oJ0_indexOf_7cf53 (fun _ => false) 400 ?_)
  refine And.intro hu (Exists.intro _ (And.intro (c_isLatin1 hu) ?_))
  rintro _ _ _ _ ⟨rfl, rfl, rfl, rfl⟩
  refine And.intro (fun h4 => ?_) (fun h4 => ?_)
  · exact absurd h4 (by decide)
  · replace h4 := fc_b1.mp h4
    refine And.intro hu ?_
    refine And.intro hu (Exists.intro _ (And.intro (c_length hu) ?_))
    rintro _ _ _ _ ⟨rfl, rfl, rfl, rfl⟩
    refine Exists.intro _ (And.intro (c_lix hu _) ?_)
    rintro _ _ _ _ ⟨rfl, rfl, rfl, rfl⟩
    first | exact ⟨rfl, rfl, rfl, rfl⟩ | skip

theorem c_ix {u : UInt32} (hu : u.toNat < 5) (x : Int32) : fc_R E mJ0_indexOf_0f7a4 (d + 3) fc_sh [.float u, .int x] mi ml mr (fc_is (some (.int (sp_ix u.toNat x))) mi ml mr) := by
  refine fc_met rfl (Nat.le_of_ble_eq_true rfl) (fc_run oJ0_indexOf_0f7a4 (fun _ => false) 400 ?_)
  refine And.intro hu (Exists.intro _ (And.intro (c_ix2 hu _) ?_))
  rintro _ _ _ _ ⟨rfl, rfl, rfl, rfl⟩
  first | exact ⟨rfl, rfl, rfl, rfl⟩ | skip

end M30
