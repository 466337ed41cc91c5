/-! SLOTS: the three calls -/
/-- two answers alike, and what stays of the memory -/
def PQ (W : Nat → Nat → Bool) (R : GM → Prop) (f g : GM → Option (Int32 × GM)) (G : GM) : Prop := ∃ v G1 G2, f G = some (v, G1) ∧ g G1 = some (v, G2) ∧ R G2 ∧ fr W G G2
theorem slot_c (x : Int32) : (∃ s, s < 4 ∧ x = nI s) ∨ ¬ ∃ s, s < 4 ∧ x = nI s := Classical.em _
theorem row_ok (x1 x2 x3 : Int32) (G : GM) (hS : RS G) : PQ WS RS (f_X9_row x1 x2 x3) (f_X10_row x1 x2 x3) G := by
  have ref : ∀ v, f_X9_row x1 x2 x3 G = some (v, G) → f_X10_row x1 x2 x3 G = some (v, sI G 186 0 0) → PQ WS RS (f_X9_row x1 x2 x3) (f_X10_row x1 x2 x3) G :=
    fun v h1 h2 => ⟨v, G, _, h1, h2, RS_thr hS, fr_thr G⟩
  rcases slot_c x1 with ⟨s, hs, rfl⟩ | hx
  rotate_left
  · refine ref (-2) ?_ ?_
    · unfold f_X9_row
      rw [isSlot_x hx, ob_s, if_pos rfl]
    · unfold f_X10_row
      rw [lt_r, misSlot_x hx, ob_s, if_pos rfl]
  rcases slot_c x2 with ⟨w, hw, rfl⟩ | hx2
  rotate_left
  · refine ref (-2) ?_ ?_
    · unfold f_X9_row
      rw [isSlot_n hs, ob_s, if_neg (by decide)]
      by_cases h0 : x2 < 0
      · rw [if_pos h0]
      · rw [if_neg h0]
        obtain ⟨j, hj, rfl⟩ := nI_of h0
        rw [if_pos]
        rw [show (3 : Int32) = nI 3 from rfl, nI_ltI (by omega) hj]
        exact Nat.lt_of_not_le fun h => hx2 ⟨j, by omega, rfl⟩
    · unfold f_X10_row
      rw [lt_r, misSlot_n hs, ob_s, if_neg (by decide), in_iff (l := 0) (h := 3) x2 (by decide) (by decide), if_neg, ob_s, if_pos rfl]
      rintro ⟨h1, h2⟩
      refine hx2 ⟨x2.toInt.toNat, by omega, ?_⟩
      apply Int32.toInt_inj.mp
      rw [nI_toInt (by omega)]
      omega
  by_cases h6 : x3 ≤ (60 : Int32)
  rotate_left
  · refine ref (-2) ?_ ?_
    · unfold f_X9_row
      rw [isSlot_n hs, ob_s, if_neg (by decide), if_neg (nI_pos (by omega)), if_neg, if_neg h6]
      rw [show (3 : Int32) = nI 3 from rfl, nI_ltI (by omega) (by omega)]
      omega
    · unfold f_X10_row
      rw [lt_r, misSlot_n hs, ob_s, if_neg (by decide), in_n (l := 0) (h := 3) (by omega) (by decide) (by decide) (by omega) (by omega), ob_s, if_neg (by decide), if_neg h6]
  by_cases h0 : (0 : Int32) ≤ x3
  rotate_left
  · refine ref (-3) ?_ ?_
    · unfold f_X9_row
      rw [isSlot_n hs, ob_s, if_neg (by decide), if_neg (nI_pos (by omega)), if_neg, if_pos h6, if_neg h0]
      rw [show (3 : Int32) = nI 3 from rfl, nI_ltI (by omega) (by omega)]
      omega
    · unfold f_X10_row
      rw [lt_r, misSlot_n hs, ob_s, if_neg (by decide), in_n (l := 0) (h := 3) (by omega) (by decide) (by decide) (by omega) (by omega), ob_s, if_neg (by decide), if_pos h6, if_neg h0]
  obtain ⟨n, hn, rfl⟩ := nI_of2 (n := 60) (by decide) (fun h => absurd h0 (Int32.not_le.mpr h)) h6
  have hL : LN (64 + s) = 60 := by
    rcases (by omega : s = 0 ∨ s = 1 ∨ s = 2 ∨ s = 3) with rfl | rfl | rfl | rfl <;> decide
  obtain ⟨Gf, e1, q1, q2⟩ := fill_J (b := 64 + s) (G := G) 0 (by rw [hL]; omega)
  obtain ⟨G3, e3, r1, r2, r3⟩ := m_row_loop s n (nI w) hs hn (sI (sI (sI (sI (sI (sI Gf 68 s (nI n)) 69 s (nI w)) 70 s 1) 186 0 0) 187 s (nI w)) 188 s (nI n))
  refine ⟨0, sI (sI (sI Gf 68 s (nI n)) 69 s (nI w)) 70 s 1, G3, ?_, ?_, ?_, ?_⟩
  · unfold f_X9_row
    rw [isSlot_n hs, ob_s, if_neg (by decide), if_neg (nI_pos (by omega)), if_neg, if_pos h6, if_pos h0]
    · unfold f_X8_begin
      rw [isSlot_n hs, ob_s, if_neg (by decide), if_neg (nI_pos (by omega)), if_neg, inb_n hs (by omega), gd_t, nI_clamp (by omega), e1, ov_s, gd_t, lt_r, gd_t, lt_r, gd_t, lt_r, ov_s]
      · rfl
      · rw [show (60 : Int32) = nI 60 from rfl, nI_ltI (by omega) (by omega)]
        omega
    · rw [show (3 : Int32) = nI 3 from rfl, nI_ltI (by omega) (by omega)]
      omega
  · unfold f_X10_row
    rw [lt_r, misSlot_n hs, ob_s, if_neg (by decide), in_n (l := 0) (h := 3) (by omega) (by decide) (by decide) (by omega) (by omega), ob_s, if_neg (by decide), if_pos h6, if_pos h0, inb_n hs (by omega), gd_t, lt_r, gd_t, lt_r, nI_clamp (by omega)]
    exact e3
  · have hb : ∀ a k, a ≠ 64 + s → a ≠ 189 → ¬ (k = s ∧ (a = 68 ∨ a = 69 ∨ a = 70 ∨ a = 187 ∨ a = 188)) → ¬ (a = 186 ∧ k = 0) → gI G3 a k = gI G a k ∧ gJ G3 a k = gJ G a k := by
      intro a k h1 h2 h3 h4
      refine ⟨?_, ?_⟩
      · rw [fr_I r1 (wA_f h2 k), gI_sI, if_neg (by omega), gI_sI, if_neg (by omega), gI_sI, if_neg (by omega), gI_sI, if_neg (by omega), gI_sI, if_neg (by omega), gI_sI, if_neg (by omega), fr_I q1 (wA_f h1 k)]
      · rw [fr_J r1 (wA_f h2 k)]
        exact fr_J q1 (wA_f h1 k)
    have hI : gI G3 70 s = 1 ∧ gI G3 187 s = nI w ∧ gI G3 69 s = nI w ∧ gI G3 68 s = nI n ∧ gI G3 188 s = nI n := by
      refine ⟨?_, ?_, ?_, ?_, ?_⟩ <;> rw [fr_I r1 (wA_f (by decide) s)] <;> simp [gI_sI]
    intro t ht
    by_cases hts : t = s
    · subst hts
      refine Or.inr ⟨hI.1, w, n, hw, hn, hI.2.1, hI.2.2.1, hI.2.2.2.1, hI.2.2.2.2, fun i hi => ?_⟩
      rw [r2 i hi, fr_J r1 (wA_f (by omega) i)]
      exact q2 i (by rw [hL]; omega)
    · have hT := hS t ht
      unfold RS1
      rw [(hb 70 t (by omega) (by decide) (by omega) (by omega)).1, (hb 187 t (by omega) (by decide) (by omega) (by omega)).1, (hb 69 t (by omega) (by decide) (by omega) (by omega)).1, (hb 68 t (by omega) (by decide) (by omega) (by omega)).1, (hb 188 t (by omega) (by decide) (by omega) (by omega)).1]
      rcases hT with h1 | ⟨h1, w', n', h2, h3, h4, h5, h7, h8, h9⟩
      · exact Or.inl h1
      · refine Or.inr ⟨h1, w', n', h2, h3, h4, h5, h7, h8, fun i hi => ?_⟩
        rw [(hb (64 + t) i (by omega) (by omega) (by omega) (by omega)).2, r3 _ (by omega)]
        show _ = gJ Gf 189 _ 
        rw [show gJ _ 189 (60 * t + i) = gJ Gf 189 (60 * t + i) from rfl, fr_J q1 (wA_f (by omega) _)]
        exact h9 i hi
  · have hw64 : WS (64 + s) = fun _ => true := by
      rcases (by omega : s = 0 ∨ s = 1 ∨ s = 2 ∨ s = 3) with rfl | rfl | rfl | rfl <;> rfl
    refine fr_trans (fr_tI (fr_tI (fr_tI (fr_tI (fr_tI (fr_tI (fr_mono q1 ?_) rfl) rfl) rfl) rfl) rfl) rfl) (fr_mono r1 ?_)
    · intro a k h
      refine wA_f (fun ha => ?_) k
      subst ha
      rw [hw64] at h
      cases h
    · intro a k h
      refine wA_f (fun ha => ?_) k
      subst ha
      cases h
