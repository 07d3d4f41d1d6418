/-! ===== the reference: the tape ===== -/
section M61
variable {E : fc_E} {d : Nat} {mi : fc_Mi} {ml : fc_Ml} {mr : fc_Mr} {n : Nat}
theorem shf_u : ∀ i, i < 8 → (((sp_shf i).toInt64.toUInt64 &&& Int64.toUInt64 63).toBitVec % 64).toNat = 56 - 8 * i := by decide +kernel
theorem shf_s : ∀ i, i < 8 → (((sp_shf i).toInt64 &&& 63).toBitVec.smod 64).toNat = 56 - 8 * i := by decide +kernel
/-- a byte of a long: it is one whether the sign is drawn in or not -/
theorem byt_eq (x : Int64) {i : Nat} (hi : i < 8) : (x >>> ((sp_shf i).toInt64 &&& 63)).toInt32 &&& 255 = sp_byt x i := by
  unfold sp_byt
  apply b_ext
  intro k hk
  rw [b_and, b_and, b_255]
  by_cases h8 : k < 8
  · rw [decide_eq_true h8, Bool.and_true, Bool.and_true]
    have e1 : bt (x >>> ((sp_shf i).toInt64 &&& 63)).toInt32 k = (x >>> ((sp_shf i).toInt64 &&& 63)).toBitVec.getLsbD k := by
      unfold bt
      rw [Int64.toBitVec_toInt32, BitVec.getLsbD_signExtend]
      simp [hk, show k < 64 by omega]
    have e2 : bt ((x.toUInt64 >>> ((sp_shf i).toInt64.toUInt64 &&& Int64.toUInt64 63)).toInt64.toInt32) k = (x.toUInt64 >>> ((sp_shf i).toInt64.toUInt64 &&& Int64.toUInt64 63)).toBitVec.getLsbD k := by
      unfold bt
      rw [Int64.toBitVec_toInt32, BitVec.getLsbD_signExtend]
      simp [hk, show k < 64 by omega]
    rw [e1, e2, Int64.toBitVec_shiftRight, UInt64.toBitVec_shiftRight]
    show (x.toBitVec.sshiftRight (((sp_shf i).toInt64 &&& 63).toBitVec.smod 64).toNat).getLsbD k = (x.toBitVec >>> (((sp_shf i).toInt64.toUInt64 &&& Int64.toUInt64 63).toBitVec % 64).toNat).getLsbD k
    rw [shf_s i hi, shf_u i hi, BitVec.getLsbD_sshiftRight, BitVec.getLsbD_ushiftRight]
    simp [show k < 64 by omega, show 56 - 8 * i + k < 64 by omega]
  · rw [decide_eq_false h8]; simp
def rtp (mi : fc_Mi) (n : Nat) : Prop := mi 252 2 = nI n ∧ n ≤ 1000
theorem lay_mem (T : Nat) (V : Nat → Int32) (v : Int32) : fc_u (fc_u (fc_u (fc_ur mi 253 V) 252 2 (nI T)) 253 T v) 252 2 (nI (T + 1)) = fc_u (fc_ur mi 253 (fun k => if k = T then v else V k)) 252 2 (nI (T + 1)) := by
  funext a k
  simp only [fc_u, fc_ur]
  by_cases h : a = 252
  · simp only [h, if_true]
    by_cases e : k = 2
    · simp [e]
    · simp [e]
  · by_cases h2 : a = 253
    · simp [h2]
    · simp [h, h2]
theorem l_rlay (hW : fc_Wd mr) (hT : rtp mi n) (x : Int64) : ∀ (j i : Nat) (c : Int32) (x4 : Option Value) (mm : fc_Mi), i + j = 8 → c = sp_shf i → mm = fc_u (fc_ur mi 253 (sp_put x (n, mi 253) i).2) 252 2 (nI (sp_put x (n, mi 253) i).1) → fc_T E mX11_lay (d + 1) (0, 0) fc_sh 3 [some (.ref 252), some (.long x), none, some (.int c), x4] [] mm ml mr (fc_is none (fc_u (fc_ur mi 253 (sp_put x (n, mi 253) 8).2) 252 2 (nI (sp_put x (n, mi 253) 8).1)) ml mr) := by
  intro j
  induction j with
  | zero =>
    intro i c x4 mm hi hc hm
    subst hc
    have hle : (sp_put x (n, mi 253) i).1 ≤ 1000 := sp_put_le x (n, mi 253) hT.2 i
    rcases hs : sp_put x (n, mi 253) i with ⟨T, V⟩
    rw [hs] at hm hle
    replace hm : mm = fc_u (fc_ur mi 253 V) 252 2 (nI T) := hm
    replace hle : T ≤ 1000 := hle
    have h11 : mm 252 2 = nI T := by rw [hm, fc_u_at]
    refine fc_run oX11_lay (fun pc => pc == 3) 400 ?_
    refine And.intro (fun h4 => ?_) (fun h4 => ?_)
    · exact ⟨rfl, by rw [hm, show (8 : Nat) = i by omega, hs], rfl, rfl⟩
    · exact absurd (by rw [show i = 8 by omega]; decide) h4
  | succ j ih =>
    intro i c x4 mm hi hc hm
    subst hc
    have hle : (sp_put x (n, mi 253) i).1 ≤ 1000 := sp_put_le x (n, mi 253) hT.2 i
    rcases hs : sp_put x (n, mi 253) i with ⟨T, V⟩
    rw [hs] at hm hle
    replace hm : mm = fc_u (fc_ur mi 253 V) 252 2 (nI T) := hm
    replace hle : T ≤ 1000 := hle
    have h11 : mm 252 2 = nI T := by rw [hm, fc_u_at]
    refine fc_run oX11_lay (fun pc => pc == 3) 400 ?_
    refine And.intro (fun h4 => ?_) (fun h4 => ?_)
    · exact absurd h4 (sp_shf_n i (by omega))
    · refine And.intro (fun h21 => ?_) (fun h21 => ?_)
      · rw [byt_eq x (show i < 8 by omega)] at h21
        refine And.intro rfl ?_
        rw [h11]
        refine And.intro (fun h45 => ?_) (fun h45 => ?_)
        · have ok : sp_oks (sp_byt x i) = true := by
            unfold sp_oks
            rw [decide_eq_true h21]; rfl
          have hT9 : ¬ T < 1000 := fun q => absurd h45 (nI_ge (b := 1000) q (by omega))
          have e : sp_put x (n, mi 253) (i + 1) = (T, V) := by
            rw [sp_put, hs]
            simp [ok, hT9]
          exact ih (i + 1) _ _ _ (by omega) (sp_shf_s i (by omega)) (by rw [e, hm])
        · have hT9 : T < 1000 := by
            rcases Nat.lt_or_ge T 1000 with q | q
            · exact q
            · exact absurd (nI_le (a := 1000) q (by omega)) h45
          refine And.intro rfl (Exists.intro _ (And.intro (hW 252 1 253 rfl) ?_))
          refine And.intro rfl ?_
          rw [h11]
          refine Exists.intro _ (Exists.intro _ (And.intro rfl (And.intro (fc_ixn rfl (by omega) (by decide)) ?_)))
          refine And.intro rfl ?_
          rw [fc_u_off (b := 252) _ _ _ (by decide), h11]
          refine And.intro rfl ?_
          have ok : sp_oks (sp_byt x i) = true := by
            unfold sp_oks
            rw [decide_eq_true h21]; rfl
          have e : sp_put x (n, mi 253) (i + 1) = (T + 1, fun k => if k = T then sp_byt x i else V k) := by
            rw [sp_put, hs]
            simp [ok, hT9]
          exact ih (i + 1) _ _ _ (by omega) (sp_shf_s i (by omega)) (by
            rw [e, hm, show nI T + 1 = nI (T + 1) from nI_1 T]
            rw [byt_eq x (show i < 8 by omega)]
            exact lay_mem T V _)
      · rw [byt_eq x (show i < 8 by omega)] at h21
        refine And.intro (fun h28 => ?_) (fun h28 => ?_)
        · rw [byt_eq x (show i < 8 by omega)] at h28
          have ok : sp_oks (sp_byt x i) = false := by
            unfold sp_oks sp_from
            rw [decide_eq_false h21, decide_eq_true h28]; rfl
          have e : sp_put x (n, mi 253) (i + 1) = (T, V) := by
            rw [sp_put, hs]
            simp [ok]
          exact ih (i + 1) _ _ _ (by omega) (sp_shf_s i (by omega)) (by rw [e, hm])
        · rw [byt_eq x (show i < 8 by omega)] at h28
          refine And.intro (fun h35 => ?_) (fun h35 => ?_)
          · rw [byt_eq x (show i < 8 by omega)] at h35
            have ok : sp_oks (sp_byt x i) = false := by
              unfold sp_oks sp_from
              rw [decide_eq_false h21, decide_eq_false h28, decide_eq_true h35]; rfl
            have e : sp_put x (n, mi 253) (i + 1) = (T, V) := by
              rw [sp_put, hs]
              simp [ok]
            exact ih (i + 1) _ _ _ (by omega) (sp_shf_s i (by omega)) (by rw [e, hm])
          · rw [byt_eq x (show i < 8 by omega)] at h35
            refine And.intro rfl ?_
            rw [h11]
            refine And.intro (fun h45 => ?_) (fun h45 => ?_)
            · have ok : sp_oks (sp_byt x i) = true := by
                unfold sp_oks sp_from
                rw [decide_eq_false h21, decide_eq_false h28, decide_eq_false h35]; rfl
              have hT9 : ¬ T < 1000 := fun q => absurd h45 (nI_ge (b := 1000) q (by omega))
              have e : sp_put x (n, mi 253) (i + 1) = (T, V) := by
                rw [sp_put, hs]
                simp [ok, hT9]
              exact ih (i + 1) _ _ _ (by omega) (sp_shf_s i (by omega)) (by rw [e, hm])
            · have hT9 : T < 1000 := by
                rcases Nat.lt_or_ge T 1000 with q | q
                · exact q
                · exact absurd (nI_le (a := 1000) q (by omega)) h45
              refine And.intro rfl (Exists.intro _ (And.intro (hW 252 1 253 rfl) ?_))
              refine And.intro rfl ?_
              rw [h11]
              refine Exists.intro _ (Exists.intro _ (And.intro rfl (And.intro (fc_ixn rfl (by omega) (by decide)) ?_)))
              refine And.intro rfl ?_
              rw [fc_u_off (b := 252) _ _ _ (by decide), h11]
              refine And.intro rfl ?_
              have ok : sp_oks (sp_byt x i) = true := by
                unfold sp_oks sp_from
                rw [decide_eq_false h21, decide_eq_false h28, decide_eq_false h35]; rfl
              have e : sp_put x (n, mi 253) (i + 1) = (T + 1, fun k => if k = T then sp_byt x i else V k) := by
                rw [sp_put, hs]
                simp [ok, hT9]
              exact ih (i + 1) _ _ _ (by omega) (sp_shf_s i (by omega)) (by
                rw [e, hm, show nI T + 1 = nI (T + 1) from nI_1 T]
                rw [byt_eq x (show i < 8 by omega)]
                exact lay_mem T V _)

theorem c_rlay (hW : fc_Wd mr) (hT : rtp mi n) (x : Int64) : fc_R E mX11_lay (d + 1) fc_sh [.ref 252, .long x] mi ml mr (fc_is none (fc_u (fc_ur mi 253 (sp_put x (n, mi 253) 8).2) 252 2 (nI (sp_put x (n, mi 253) 8).1)) ml mr) := by
  refine fc_met rfl (Nat.le_of_ble_eq_true rfl) (fc_run oX11_lay (fun pc => pc == 3) 400 ?_)
  exact l_rlay hW hT x 8 0 _ _ _ (by omega) rfl (by rw [sp_put]; simp only; rw [fc_ur_self, ← hT.1, fc_u_self])

theorem rtp_put (h : rtp mi n) (x : Int64) : rtp (fc_u (fc_ur mi 253 (sp_put x (n, mi 253) 8).2) 252 2 (nI (sp_put x (n, mi 253) 8).1)) (sp_put x (n, mi 253) 8).1 := ⟨fc_u_at _ _ _ _, sp_put_le x (n, mi 253) h.2 8⟩
theorem rtp_s (s : Nat × (Nat → Int32)) (h : s.1 ≤ 1000) : rtp (fc_u (fc_ur mi 253 s.2) 252 2 (nI s.1)) s.1 := ⟨fc_u_at _ _ _ _, h⟩
theorem put_put (s : Nat × (Nat → Int32)) (y : Int64) (k : Nat) : fc_u (fc_ur (fc_u (fc_ur mi 253 s.2) 252 2 (nI s.1)) 253 (sp_put y (s.1, (fc_u (fc_ur mi 253 s.2) 252 2 (nI s.1)) 253) k).2) 252 2 (nI (sp_put y (s.1, (fc_u (fc_ur mi 253 s.2) 252 2 (nI s.1)) 253) k).1) = fc_u (fc_ur mi 253 (sp_put y s k).2) 252 2 (nI (sp_put y s k).1) := by
  rw [show (s.1, (fc_u (fc_ur mi 253 s.2) 252 2 (nI s.1)) 253) = s from rfl]
  funext a j
  simp only [fc_u, fc_ur]
  by_cases h : a = 252
  · simp only [h, if_true]
    by_cases e : j = 2
    · simp [e]
    · simp [e]
  · by_cases h2 : a = 253
    · simp [h2]
    · simp [h, h2]
def rp_feed (mi : fc_Mi) (n : Nat) (x y z : Int64) : Nat × (Nat → Int32) := sp_put z (sp_put y (sp_put x (n, mi 253) 8) 8) 8
theorem c_rfeed (hW : fc_Wd mr) (hT : rtp mi n) (x y z : Int64) : fc_R E mX11_feed (d + 2) fc_sh [.ref 252, .long x, .long y, .long z] mi ml mr (fc_is (some (.int (nI (rp_feed mi n x y z).1))) (fc_u (fc_ur (fc_u mi 252 0 0) 253 (rp_feed mi n x y z).2) 252 2 (nI (rp_feed mi n x y z).1)) ml mr) := by
  have hT0 : rtp (fc_u mi 252 0 0) n := hT
  have hT1 := sp_put_le x (n, (fc_u mi 252 0 0) 253) hT.2 8
  have hT2 := sp_put_le y (sp_put x (n, (fc_u mi 252 0 0) 253) 8) hT1 8
  refine fc_met rfl (Nat.le_of_ble_eq_true rfl) (fc_run oX11_feed (fun _ => false) 400 ?_)
  refine And.intro rfl ?_
  refine And.intro rfl (Exists.intro _ (And.intro (c_rlay hW hT0 x) ?_))
  rintro _ _ _ _ ⟨rfl, rfl, rfl, rfl⟩
  refine And.intro rfl (Exists.intro _ (And.intro (c_rlay hW (rtp_s (sp_put x (n, (fc_u mi 252 0 0) 253) 8) hT1) y) ?_))
  rintro _ _ _ _ ⟨rfl, rfl, rfl, rfl⟩
  rw [put_put]
  refine And.intro rfl (Exists.intro _ (And.intro (c_rlay hW (rtp_s (sp_put y (sp_put x (n, (fc_u mi 252 0 0) 253) 8) 8) hT2) z) ?_))
  rintro _ _ _ _ ⟨rfl, rfl, rfl, rfl⟩
  rw [put_put]
  refine And.intro rfl ?_
  exact ⟨rfl, rfl, rfl, rfl⟩

/-- two tapes alike stay alike -/
theorem sp_put_ag {x : Int64} {V W : Nat → Int32} (h : ∀ j, j < n → V j = W j) : ∀ i, (sp_put x (n, V) i).1 = (sp_put x (n, W) i).1 ∧ ∀ j, j < (sp_put x (n, V) i).1 → (sp_put x (n, V) i).2 j = (sp_put x (n, W) i).2 j
  | 0 => ⟨rfl, h⟩
  | i + 1 => by
    obtain ⟨h1, h2⟩ := sp_put_ag h i
    rw [sp_put, sp_put, ← h1]
    by_cases q : (sp_oks (sp_byt x i) && decide ((sp_put x (n, V) i).1 < 1000)) = true
    · rw [if_pos q, if_pos q]
      refine ⟨rfl, fun j hj => ?_⟩
      show (if j = (sp_put x (n, V) i).1 then _ else _) = (if j = (sp_put x (n, V) i).1 then _ else _)
      by_cases e : j = (sp_put x (n, V) i).1
      · rw [if_pos e, if_pos e]
      · rw [if_neg e, if_neg e]; exact h2 j (by have : j < (sp_put x (n, V) i).1 + 1 := hj; omega)
    · rw [if_neg q, if_neg q]; exact ⟨h1, h2⟩
end M61
