/-! SLOTS: write -/
theorem cut_eq (v : Int64) (x : Int32) (G : GM) : ∃ r, f_X8_cut v x G = some (r, G) ∧ ∀ G', f_X10_cut v x G' = some (r, G') := by
  unfold f_X8_cut f_X10_cut
  by_cases h0 : x = 0
  · exact ⟨_, by rw [if_pos h0], fun _ => by rw [if_pos h0]⟩
  · by_cases h1 : x = 1
    · exact ⟨_, by rw [if_neg h0, if_pos h1], fun _ => by rw [if_neg h0, if_pos h1]⟩
    · by_cases h2 : x = 2
      · exact ⟨_, by rw [if_neg h0, if_neg h1, if_pos h2], fun _ => by rw [if_neg h0, if_neg h1, if_pos h2]⟩
      · exact ⟨_, by rw [if_neg h0, if_neg h1, if_neg h2], fun _ => by rw [if_neg h0, if_neg h1, if_neg h2]⟩
theorem nIm1 {n : Nat} (h : n < 2 ^ 31) : nI n ≠ (-1 : Int32) := by
  intro h2
  have := congrArg Int32.toInt h2
  rw [nI_toInt h] at this
  have h3 : (-1 : Int32).toInt = -1 := by decide
  omega
theorem m1_toInt {n : Nat} (h : n < 2 ^ 31) : (nI n - 1).toInt64.toInt = (n : Int) - 1 := by
  rw [Int32.toInt_toInt64]
  by_cases h0 : n = 0
  · subst h0; decide
  · obtain ⟨k, rfl⟩ : ∃ k, n = k + 1 := ⟨n - 1, by omega⟩
    rw [nI_pred, nI_toInt (by omega)]
    omega
theorem write_ok (x1 x2 : Int32) (v : Int64) (G : GM) (hS : RS G) : PQ WS RS (f_X9_write x1 x2 v) (f_X10_write x1 x2 v) G := by
  have ref : ∀ r, f_X9_write x1 x2 v G = some (r, G) → f_X10_write x1 x2 v G = some (r, sI G 186 0 0) → PQ WS RS (f_X9_write x1 x2 v) (f_X10_write x1 x2 v) G :=
    fun v h1 h2 => ⟨v, G, _, h1, h2, RS_thr hS, fr_thr G⟩
  rcases slot_c x1 with ⟨s, hs, rfl⟩ | hx
  rotate_left
  · refine ref (-2) ?_ ?_
    · unfold f_X9_write
      rw [isSlot_x hx, ob_s, if_pos rfl]
    · unfold f_X10_write
      rw [lt_r, misSlot_x hx, ob_s, if_pos rfl]
  rcases hS s hs with ⟨h1, h2⟩ | ⟨h1, w, n, h2, h3, h4, h5, h6, h7, h8⟩
  · refine ref (-6) ?_ ?_
    · unfold f_X9_write
      rw [isSlot_n hs, ob_s, if_neg (by decide), hasRow_0 hs h1, ob_s, if_pos rfl]
    · unfold f_X10_write
      rw [lt_r, misSlot_n hs, ob_s, if_neg (by decide), inb_n hs (by omega), gd_t, nI_clamp (by omega), gI_sIa (by decide), h2, if_pos rfl]
  have hm : ∀ b, (∀ i, i < n → x2 = nI i → b = (1 : Int32)) → ((¬ ∃ i, i < n ∧ x2 = nI i) → b = 0) → f_X10_in x2.toInt64 0 (nI n - 1).toInt64 (sI G 186 0 0) = some (b, sI G 186 0 0) := by
    intro b hb1 hb0
    rw [in_iff (l := 0) (h := (n : Int) - 1) x2 (by decide) (m1_toInt (by omega))]
    by_cases hi : ∃ i, i < n ∧ x2 = nI i
    · obtain ⟨i, hi, rfl⟩ := hi
      rw [hb1 i hi rfl, nI_toInt (by omega), if_pos (by omega)]
    · rw [hb0 hi, if_neg]
      rintro ⟨ha, hc⟩
      refine hi ⟨x2.toInt.toNat, by omega, ?_⟩
      apply Int32.toInt_inj.mp
      rw [nI_toInt (by omega)]
      omega
  by_cases hi : ∃ i, i < n ∧ x2 = nI i
  rotate_left
  · refine ref (-7) ?_ ?_
    · unfold f_X9_write
      rw [isSlot_n hs, ob_s, if_neg (by decide), hasRow_1 hs h1, ob_s, if_neg (by decide)]
      by_cases h0 : x2 < 0
      · rw [if_pos h0]
      · rw [if_neg h0, lengthOf_1 hs h1 h6, ob_s]
        obtain ⟨j, hj, rfl⟩ := nI_of h0
        rw [if_neg]
        rw [nI_ltI hj (by omega)]
        exact fun h => hi ⟨j, h, rfl⟩
    · unfold f_X10_write
      rw [lt_r, misSlot_n hs, ob_s, if_neg (by decide), inb_n hs (by omega), gd_t, nI_clamp (by omega), gI_sIa (by decide), h4, if_neg (nIm1 (by omega)), gd_t, gI_sIa (by decide), h7, hm 0 (fun i h h' => absurd ⟨i, h, h'⟩ hi) (fun _ => rfl), ob_s, if_pos rfl]
  obtain ⟨i, hi, rfl⟩ := hi
  obtain ⟨r, c1, c2⟩ := cut_eq v (nI w) G
  refine ⟨0, sJ G (64 + s) i r, sJ (sI (sJ G (64 + s) i r) 186 0 0) 189 (60 * s + i) r, ?_, ?_, ?_, ?_⟩
  · unfold f_X9_write
    rw [isSlot_n hs, ob_s, if_neg (by decide), hasRow_1 hs h1, ob_s, if_neg (by decide), if_neg (nI_pos (by omega)), lengthOf_1 hs h1 h6, ob_s, if_pos (nI_lt hi (by omega))]
    unfold f_X8_put
    rw [show (1 : Int32) = nI 1 from rfl, holds_1 hs h1 h6 h3 (by omega) (by omega), if_pos (by omega), ob_s, if_neg (by decide), inb_n hs (by omega), gd_t, gd_t, nI_clamp (by omega), h5, c1, ob_s, inb_n (by omega) (by omega), gd_t, lt_r, nI_clamp (by omega), ov_s]
  · unfold f_X10_write
    rw [lt_r, misSlot_n hs, ob_s, if_neg (by decide), inb_n hs (by omega), gd_t, nI_clamp (by omega), gI_sIa (by decide), gI_sJ, h4, if_neg (nIm1 (by omega)), gd_t, gI_sIa (by decide), gI_sJ, h7, in_iff (l := 0) (h := (n : Int) - 1) (nI i) (by decide) (m1_toInt (by omega)), nI_toInt (by omega), if_pos (by omega), ob_s, if_neg (by decide), gd_t, gI_sIa (by decide), gI_sJ, h4, c2, ob_s, show (60 : Int32) = nI 60 from rfl, pk_mul, nI_add, inb_n (by omega) (by omega), gd_t, lt_r, nI_clamp (by omega)]
  · intro t ht
    have hb : ∀ a, a ≠ 186 → gI (sJ (sI (sJ G (64 + s) i r) 186 0 0) 189 (60 * s + i) r) a t = gI G a t := fun a ha => by
      rw [gI_sJ, gI_sIa ha, gI_sJ]
    unfold RS1
    rw [hb 70 (by decide), hb 187 (by decide), hb 69 (by decide), hb 68 (by decide), hb 188 (by decide)]
    rcases hS t ht with h | ⟨k1, w', n', k2, k3, k4, k5, k6, k7, k8⟩
    · exact Or.inl h
    · refine Or.inr ⟨k1, w', n', k2, k3, k4, k5, k6, k7, fun j hj => ?_⟩
      rw [gJ_sJ, if_neg (by omega), gJ_sI, gJ_sJ, gJ_sJ, gJ_sI, gJ_sJ]
      by_cases hc : t = s ∧ j = i
      · rw [if_pos (by omega), if_pos (by omega)]
      · rw [if_neg (by omega), if_neg (by omega), if_neg (by omega)]
        exact k8 j hj
  · have hw64 : WS (64 + s) = fun _ => true := by
      rcases (by omega : s = 0 ∨ s = 1 ∨ s = 2 ∨ s = 3) with rfl | rfl | rfl | rfl <;> rfl
    exact fr_tJ (fr_tI (fr_sJ (by rw [hw64])) rfl) rfl
