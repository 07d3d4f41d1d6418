section M77
variable {E : fc_E} {d : Nat} {mi : fc_Mi} {ml : fc_Ml} {mr : fc_Mr}
theorem c_remit (hW : fc_Wd mr) {c : Nat} (hc : mi 252 13 = nI c) (hcL : c < 1100) (x z : Int32) : fc_R E mX11_emit d fc_sh [.ref 252, .int x, .int z] mi ml mr (fc_is none (fc_u (fc_u (fc_u mi 259 (1100 + c) x) 260 (1100 + c) z) 252 13 (nI (c + 1))) ml mr) := by
  refine fc_met rfl (Nat.le_of_ble_eq_true rfl) (fc_run oX11_emit (fun _ => false) 400 ?_)
  refine And.intro rfl (Exists.intro _ (And.intro (hW 252 11 259 rfl) ?_))
  refine And.intro rfl ?_
  rw [hc]
  refine Exists.intro _ (Exists.intro _ (And.intro rfl (And.intro (fc_ixn (fc_na (fc_nl 1100) rfl) (by omega) (by decide)) ?_)))
  refine And.intro rfl (Exists.intro _ (And.intro (hW 252 12 260 rfl) ?_))
  refine And.intro rfl ?_
  rw [show (fc_u mi 259 (1100 + c) x) 252 13 = nI c from hc]
  refine Exists.intro _ (Exists.intro _ (And.intro rfl (And.intro (fc_ixn (fc_na (fc_nl 1100) rfl) (by omega) (by decide)) ?_)))
  refine And.intro rfl ?_
  rw [show (fc_u (fc_u mi 259 (1100 + c) x) 260 (1100 + c) z) 252 13 = nI c from hc]
  refine And.intro rfl ?_
  rw [nI_1]
  exact ⟨rfl, rfl, rfl, rfl⟩

end M77
