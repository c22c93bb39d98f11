theorem i_vc : Claimed_1_1 ∧ Claimed_1_2 := by
  obtain ⟨MB, hB, hI⟩ := begins
  exact i_vc_of Inv hInv_ (fun kq M h => h.1.1) hB hI
