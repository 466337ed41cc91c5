/-! SLOTS -/
theorem in_iff (x : Int32) {lo hi : Int64} {l h : Int} (hl : lo.toInt = l) (hh : hi.toInt = h) (G : GM) : f_X10_in x.toInt64 lo hi G = some ((if l ≤ x.toInt ∧ x.toInt ≤ h then 1 else 0), G) := by
  rw [f_in_eq]
  simp only [i64_le x lo hl, i64_ge x hi hh]
theorem in_n {j l h : Nat} {lo hi : Int64} (hj : j < 2 ^ 31) (hl : lo.toInt = l) (hh : hi.toInt = h) (h1 : l ≤ j) (h2 : j ≤ h) (G : GM) : f_X10_in (nI j).toInt64 lo hi G = some (1, G) := by
  rw [in_iff (nI j) hl hh, nI_toInt hj, if_pos]
  exact ⟨by exact_mod_cast h1, by exact_mod_cast h2⟩
theorem in_nf {j l h : Nat} {lo hi : Int64} (hj : j < 2 ^ 31) (hl : lo.toInt = l) (hh : hi.toInt = h) (h1 : ¬ (l ≤ j ∧ j ≤ h)) (G : GM) : f_X10_in (nI j).toInt64 lo hi G = some (0, G) := by
  rw [in_iff (nI j) hl hh, nI_toInt hj, if_neg]
  intro h3
  exact h1 ⟨by exact_mod_cast h3.1, by exact_mod_cast h3.2⟩
theorem lN_T {n : Nat} (h : n < 2 ^ 63) : (lN n).toInt = (n : Int) := Int64.toInt_ofNat_of_lt h
/-- an argument: below nothing, or a count -/
theorem arg (x : Int32) : x < 0 ∨ ∃ j, j < 2 ^ 31 ∧ x = nI j := by
  by_cases h : x < 0
  · exact Or.inl h
  · exact Or.inr (nI_of h)
theorem neg_i {x : Int32} (h : x < 0) : x.toInt < 0 := by
  have := Int32.lt_iff_toInt_lt.mp h
  simpa using this
theorem hasRow_1 {s : Nat} {G : GM} (h : s < 4) (hu : gI G 70 s = 1) : f_X8_hasRow (nI s) G = some (1, G) := by
  unfold f_X8_hasRow
  rw [isSlot_n h, ob_s, if_neg (by decide), inb_n h (by omega), gd_t, nI_clamp (by omega), hu, if_neg (by decide)]
theorem hasRow_0 {s : Nat} {G : GM} (h : s < 4) (hu : gI G 70 s = 0) : f_X8_hasRow (nI s) G = some (0, G) := by
  unfold f_X8_hasRow
  rw [isSlot_n h, ob_s, if_neg (by decide), inb_n h (by omega), gd_t, nI_clamp (by omega), hu, if_pos rfl]
theorem lengthOf_1 {s n : Nat} {G : GM} (h : s < 4) (hu : gI G 70 s = 1) (hn : gI G 68 s = nI n) : f_X8_lengthOf (nI s) G = some (nI n, G) := by
  unfold f_X8_lengthOf
  rw [hasRow_1 h hu, ob_s, if_neg (by decide), inb_n h (by omega), gd_t, nI_clamp (by omega), hn]
theorem holds_1 {s n i m : Nat} {G : GM} (h : s < 4) (hu : gI G 70 s = 1) (hn : gI G 68 s = nI n) (hn6 : n ≤ 60) (hi : i < 2 ^ 31) (hm : m < 2 ^ 31) : f_X8_holds (nI s) (nI i) (nI m) G = some ((if i + m ≤ n then 1 else 0), G) := by
  unfold f_X8_holds
  rw [if_neg (nI_pos hi), if_neg (nI_pos hm), lengthOf_1 h hu hn, ob_s, nI_l hi, nI_l hm, nI_l (by omega), lN_add]
  have e : (0 < lg_cmp (lN (i + m)) (lN n)) ↔ ¬ i + m ≤ n := by
    rw [lg_gt0, Int64.lt_iff_toInt_lt, lN_toInt (n := n) (by omega), lN_T (by omega)]
    omega
  by_cases h2 : i + m ≤ n
  · rw [if_neg (fun h3 => e.mp h3 h2), if_pos h2]
  · rw [if_pos (e.mpr h2), if_neg h2]
theorem valueAt_1 {s n i : Nat} {G : GM} (h : s < 4) (hu : gI G 70 s = 1) (hn : gI G 68 s = nI n) (hn6 : n ≤ 60) (hi : i < n) : f_X8_valueAt (nI s) (nI i) G = some (gJ G (64 + s) i, G) := by
  unfold f_X8_valueAt
  rw [show (1 : Int32) = nI 1 from rfl, holds_1 h hu hn hn6 (by omega) (by omega), if_pos (by omega), ob_s, if_neg (by decide), inb_n h (by omega), gd_t, inb_n (by omega) (by omega), gd_t, nI_clamp (by omega), nI_clamp (by omega)]
theorem fill_J {b : Nat} {G : GM} (v : Int64) (hb : LN b < 100000) : ∃ G', f_J7_fill_d0a16 b v G = some G' ∧ fr (wA b) G G' ∧ ∀ i, i < LN b → gJ G' b i = v := by
  unfold f_J7_fill_d0a16
  rw [lt_r]
  refine wl1_up (P := fun o => ∃ G', o = some G' ∧ fr (wA b) G G' ∧ ∀ i, i < LN b → gJ G' b i = v) (I := fun i G1 => fr (wA b) G G1 ∧ ∀ j, j < i → gJ G1 b j = v) (N := LN b) (by omega) ?_ (n := FU) (i := 0) (Nat.zero_le _) ⟨fr_refl _ _, fun j hj => absurd hj (Nat.not_lt_zero _)⟩ (by unfold FU; omega)
  rintro kc i G1 hi ⟨h1, h2⟩ hk
  unfold lp_J7_fill_d0a16_6
  rw [oN]
  by_cases h : i < LN b
  · rw [if_neg (nI_ge h (by omega)), inb_n h (by omega), gd_t, lt_r, nI_clamp (by omega), nI_1]
    refine hk h _ ⟨fr_tJ h1 (wA_t _ _), fun j hj => ?_⟩
    rw [gJ_sJ]
    by_cases hji : j = i
    · rw [if_pos ⟨rfl, hji⟩]
    · rw [if_neg (fun h3 => hji h3.2)]
      exact h2 j (by omega)
  · rw [if_pos (nI_le (by omega) (by omega))]
    exact ⟨G1, rfl, h1, fun j hj => h2 j (by omega)⟩
