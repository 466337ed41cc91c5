theorem ret_X9_cardOf {v1 v2 : Int32} {G G1 : GM} {r : Nat} (h : f_X9_cardOf v1 v2 G = some (r, G1)) : r = 71 := by
  unfold f_X9_cardOf at h
  obtain ⟨_, -, h⟩ := ov_some h
  obtain ⟨_, -, h⟩ := ov_some h
  cases h
  rfl
theorem ret_X9_soldCard {v1 v2 : Int32} {v3 : Nat} {G G1 : GM} {r : Nat} (h : f_X9_soldCard v1 v2 v3 G = some (r, G1)) : r = 71 := by
  unfold f_X9_soldCard k_X9_soldCard_33 at h
  obtain ⟨_, _, -, h⟩ := ob_some h
  split at h
  · cases h; rfl
  · obtain ⟨-, h⟩ := gd_some h
    obtain ⟨_, -, h⟩ := ov_some h
    cases h
    rfl
