theorem i_vc (xs : Nat → Int32) (L : Nat) (hL : L ≤ 260) : wpL_law (fun r => r = 1) L xs := by
  unfold wpL_law
  refine fl_cell (i := 0) rfl (by omega) hL (fun r x1 _ => ?_)
  refine br_c (fun a => br_c (fun b => ?_) (fun b => ?_)) (fun a => ?_)
  · have n0 : ¬ x1 < 0 := Int32.not_lt.mpr (Int32.le_trans (by decide) a)
    obtain ⟨j, hj, rfl⟩ := nI_of2 (n := 32) (by decide) n0 b
    exact fl_30 hL hj (Or.inl ⟨a, b, rfl⟩) rfl
  · exact fl_30 (c := 32) hL (by omega) (Or.inr (Or.inl ⟨a, b, rfl⟩)) rfl
  · exact fl_30 (c := 4) hL (by omega) (Or.inr (Or.inr ⟨a, rfl⟩)) rfl
