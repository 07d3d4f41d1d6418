/-! ===== the reference's land, from its first step ===== -/
section M90
variable {E : fc_E} {d : Nat} {mi : fc_Mi} {ml : fc_Ml} {mr : fc_Mr} {n : Nat} {s : Nat → Int32}
theorem rldq.mono {m1 : fc_Mi} {l1 : fc_Ml} {r : Except Int32 fc_Ab} {v : Option Value} {a : fc_Mi} {b : fc_Ml} {c : fc_Mr} (h1 : rfA mi m1 ml l1) (h2 : rfE mi m1 ml l1) (h3 : m1 252 0 = mi 252 0 ∧ m1 252 2 = mi 252 2) (h : rldq m1 l1 mr r v a b c) : rldq mi ml mr r v a b c := by
  obtain ⟨g1, g2, g3, g4⟩ := h
  refine ⟨g1, ⟨fun x q => (g2.1 x q).trans (h1.1 x q), fun x q => (g2.2 x q).trans (h1.2 x q)⟩, ⟨g3.1.trans h3.1, g3.2.trans h3.2⟩, ?_⟩
  cases r with
  | ok A => exact g4
  | error e =>
    obtain ⟨k1, k2, k3, k4, k5, k6, k7, k8⟩ := g4
    exact ⟨k1, k2, fun k q => (k3 k q).trans (h2.1 k q), fun k q => ⟨(k4 k q).1.trans (h2.2.1 k q).1, (k4 k q).2.trans (h2.2.1 k q).2⟩, fun x q => (k5 x q).trans (h2.2.2.1 x q), k6.trans h2.2.2.2.1, k7.trans h2.2.2.2.2.1, k8.trans h2.2.2.2.2.2⟩
theorem nmr_0 (nm : Nat → Int64) (of : Nat → Int32) : nmr ps_0 nm of 0 := ⟨fun a b _ => rfl, fun k q => absurd q (Nat.not_lt_zero k)⟩
theorem AI_0 : fc_AI ps_0 := ⟨ps_0B, fun _ => rfl⟩
theorem c_rland (hW : fc_Wd mr) (hT : mi 252 2 = nI n) (hn : n ≤ 1000) (hs : ∀ j, j < n → mi 253 j = s j) (hok : okc s n) (hkw : ∀ w, w < 25 → ml 257 w = kwv w) : fc_R E mX11_land (d + 35) fc_sh [.ref 252] mi ml mr (rldq (fc_u (fc_u mi 252 0 0) 252 2 0) ml mr (ps_ld s n 1000 0 ps_0)) := by
  refine fc_met rfl (Nat.le_of_ble_eq_true rfl) (fc_run oX11_land (fun pc => pc == 30) 400 ?_)
  refine And.intro rfl ?_
  refine And.intro rfl (Exists.intro _ (And.intro (c_rcutAll (d := d + 32) (s := s) hW hT hn hs) ?_))
  rintro _ m1 l1 _ ⟨rfl, ⟨N, hN⟩, ⟨z1, z2, z3⟩, ⟨y1, y2, y3⟩, rfl⟩
  refine And.intro rfl ?_
  refine And.intro rfl ?_
  refine And.intro rfl ?_
  refine And.intro rfl (Exists.intro _ (And.intro (c_rsaa hW (a := 50) rfl (by omega)) ?_))
  rintro _ m2 _ _ ⟨rfl, rfl, rfl, w1, w2, w3, w4, w5⟩
  have e252 : ∀ k, k ≠ 2 → k ≠ 3 → k ≠ 7 → k ≠ 8 → k ≠ 13 → k ≠ 19 → k ≠ 20 → m2 252 k = (fc_u mi 252 0 0) 252 k := fun k q1 q2 q3 q4 q5 q6 q7 => by
    rw [w1 252 (by decide), fc_u_nj _ _ _ _ q7, fc_u_nj _ _ _ _ q6, fc_u_nj _ _ _ _ q5, y2 k q1 q2 q3 q4]
  have ex : ∀ x, x ≠ 252 → x ≠ 254 → x ≠ 255 → x ≠ 258 → m2 x = mi x := fun x q1 q2 q3 q4 => by
    rw [w1 x q4, fc_u_off _ _ _ q1, fc_u_off _ _ _ q1, fc_u_off _ _ _ q1, y1 x q1 q2 q3, fc_u_off _ _ _ q1]
  have e13 : m2 252 13 = 0 := by rw [w1 252 (by decide)]; rfl
  have e19 : m2 252 19 = 0 := by rw [w1 252 (by decide)]; rfl
  have e20 : m2 252 20 = 0 := by rw [w1 252 (by decide)]; rfl
  have e2 : m2 252 2 = 0 := by rw [w1 252 (by decide)]; exact z3
  have e7 : m2 252 7 = 0 := by rw [w1 252 (by decide)]; exact z1
  have e8 : m2 252 8 = 0 := by rw [w1 252 (by decide)]; exact z2
  have hS : rst s n N 0 0 m2 l1 := by
    refine ⟨?_, Nat.zero_le _, e7, e8, fun w q => ?_, hok⟩
    · unfold rtk rtj at hN ⊢
      rw [w1 254 (by decide), w1 255 (by decide)]
      exact hN
    · rw [y3 257 (by decide)]; exact hkw w q
  have hNn : N ≤ 1000 := Nat.le_trans hS.1.2.1 hS.1.2.2.1
  have hR : rRA ps_0 (ps_0.1 2) (ps_0.1 3) m2 l1 := by
    refine ⟨⟨w5 0 (by omega) (by omega) (by omega), w5 1 (by omega) (by omega) (by omega), w5 2 (by omega) (by omega) (by omega), w5 3 (by omega) (by omega) (by omega), w3⟩, e20, ⟨fun k hk => ?_, fun p hp => absurd hp (Nat.not_lt_zero p), fun q hq => absurd hq (Nat.not_lt_zero q)⟩, ⟨e19, nmr_0 _ _⟩, fun _ => ⟨e13, w4⟩, fun q => absurd (show (0 : Nat) = 1 from q) (by decide)⟩
    rw [show 56 + k = 50 + (6 + k) by omega, w5 (6 + k) (by omega) (by omega) (by omega)]
    show (0 : Int32) = if (4 : Nat) = 0 ∧ k = 14 then (30 : Int32) else 0
    rw [if_neg (fun q => absurd q.1 (by decide))]
  refine fc_conT (l_rl30 (m0 := m2) (l0 := l1) hW 1000 0 ps_0 m2 l1 (by omega) hS AI_0 Aok_0 nd_0 lwh_0 hR ⟨fun _ _ _ _ _ _ => rfl, fun _ _ => rfl, fun _ _ => ⟨rfl, rfl⟩, fun _ _ _ _ _ _ => rfl, fun _ _ => rfl⟩) (fun v a b c h => ?_)
  refine h.mono ⟨fun x q => ?_, fun x q => y3 x (by omega)⟩ ⟨fun k q => ?_, fun k q => ?_, fun x q => ?_, ?_, ?_, y3 261 (by decide)⟩ ⟨?_, e2⟩
  · rw [ex x (by omega) (by omega) (by omega) (by omega), fc_u_off _ _ _ (by omega), fc_u_off _ _ _ (by omega)]
  · rw [w2 k (by omega), fc_u_off _ _ _ (by decide), fc_u_off _ _ _ (by decide), fc_u_off _ _ _ (by decide), y1 258 (by decide) (by decide) (by decide)]; rfl
  · rw [ex 259 (by decide) (by decide) (by decide) (by decide), ex 260 (by decide) (by decide) (by decide) (by decide)]; exact ⟨rfl, rfl⟩
  · rw [ex x (by omega) (by omega) (by omega) (by omega), fc_u_off _ _ _ (by omega), fc_u_off _ _ _ (by omega)]
  · rw [e252 18 (by decide) (by decide) (by decide) (by decide) (by decide) (by decide) (by decide)]; rfl
  · rw [e252 25 (by decide) (by decide) (by decide) (by decide) (by decide) (by decide) (by decide)]; rfl
  · rw [e252 0 (by decide) (by decide) (by decide) (by decide) (by decide) (by decide) (by decide)]; rfl

end M90
