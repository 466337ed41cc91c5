/-! SLOTS: paste -/
theorem gJ_cpJ (G : GM) (a i b j n a' k : Nat) : gJ (cpJ G a i b j n) a' k = if a' = b ∧ j ≤ k ∧ k < j + n then gJ G a (i + (k - j)) else gJ G a' k := by
  unfold gJ cpJ cp2
  by_cases h : a' = b
  · subst h
    by_cases h2 : j ≤ k ∧ k < j + n
    · simp only [if_true]
      rw [pk_cpy_in h2.1 h2.2, if_pos ⟨trivial, h2⟩]
    · simp only [if_true]
      rw [pk_cpy_out (by omega), if_neg (fun h3 => h2 h3.2)]
  · simp [h]
theorem gI_cpJ (G : GM) (a i b j n a' k : Nat) : gI (cpJ G a i b j n) a' k = gI G a' k := rfl
theorem fr_cpJ {W : Nat → Nat → Bool} (G : GM) (a i b j n : Nat) (h : ∀ k, W b k = true) : fr W G (cpJ G a i b j n) := by
  refine ⟨fun a' k' hk => ⟨rfl, ?_⟩, rfl, rfl⟩
  rw [gJ_cpJ]
  refine if_neg fun he => ?_
  rw [he.1, h] at hk
  cases hk
theorem m_paste2 (s i t k n : Nat) (ht : t < 4) (hk6 : k + n ≤ 60) (G : GM) : ∃ G', wl1 FU (lp_X10_paste_155 (nI s) (nI i) (nI t) (nI k) (nI n)) (0 : Int32) G = some (0, G') ∧ fr (wA 189) G G' ∧ ∀ q, gJ G' 189 q = if 60 * t + k ≤ q ∧ q < 60 * t + k + n then gJ G 190 (q - (60 * t + k)) else gJ G 189 q := by
  refine wl1_up (P := fun o => ∃ G', o = some (0, G') ∧ fr (wA 189) G G' ∧ ∀ q, gJ G' 189 q = if 60 * t + k ≤ q ∧ q < 60 * t + k + n then gJ G 190 (q - (60 * t + k)) else gJ G 189 q) (I := fun x G1 => fr (wA 189) G G1 ∧ ∀ q, gJ G1 189 q = if 60 * t + k ≤ q ∧ q < 60 * t + k + x then gJ G 190 (q - (60 * t + k)) else gJ G 189 q) (N := n) (by omega) ?_ (n := FU) (i := 0) (Nat.zero_le _) ⟨fr_refl _ _, fun q => by rw [if_neg (by omega)]⟩ (by unfold FU; omega)
  rintro kc x G1 hx ⟨h1, h2⟩ hk
  unfold lp_X10_paste_155
  by_cases h : x < n
  · rw [if_neg (nI_ge h (by omega)), inb_n (by omega) (by omega), gd_t, show (60 : Int32) = nI 60 from rfl, pk_mul, nI_add, nI_add, inb_n (by omega) (by omega), gd_t, lt_r, nI_clamp (by omega), nI_clamp (by omega), nI_1]
    refine hk h _ ⟨fr_tJ h1 (wA_t _ _), fun q => ?_⟩
    rw [gJ_sJ, fr_J h1 (wA_f (by decide) x)]
    by_cases hq : q = 60 * t + k + x
    · rw [if_pos ⟨rfl, hq⟩, if_pos (by omega), hq, Nat.add_sub_cancel_left]
    · rw [if_neg (fun h3 => hq h3.2), h2 q]
      by_cases hc : 60 * t + k ≤ q ∧ q < 60 * t + k + x
      · rw [if_pos hc, if_pos (by omega)]
      · rw [if_neg hc, if_neg (by omega)]
  · rw [if_pos (nI_le (by omega) (by omega))]
    have : x = n := by omega
    subst this
    exact ⟨G1, rfl, h1, h2⟩
theorem m_paste1 (s i t k n : Nat) (hs : s < 4) (hi6 : i + n ≤ 60) (ht : t < 4) (hk6 : k + n ≤ 60) (G : GM) : ∃ G', wl1 FU (lp_X10_paste_118 (nI s) (nI i) (nI t) (nI k) (nI n)) (0 : Int32) G = some (0, G') ∧ fr (fun a _ => Nat.beq a 189 || Nat.beq a 190) G G' ∧ ∀ q, gJ G' 189 q = if 60 * t + k ≤ q ∧ q < 60 * t + k + n then gJ G 189 (60 * s + i + (q - (60 * t + k))) else gJ G 189 q := by
  refine wl1_up (P := fun o => ∃ G', o = some (0, G') ∧ fr (fun a _ => Nat.beq a 189 || Nat.beq a 190) G G' ∧ ∀ q, gJ G' 189 q = if 60 * t + k ≤ q ∧ q < 60 * t + k + n then gJ G 189 (60 * s + i + (q - (60 * t + k))) else gJ G 189 q) (I := fun x G1 => fr (wA 190) G G1 ∧ ∀ q, q < x → gJ G1 190 q = gJ G 189 (60 * s + i + q)) (N := n) (by omega) ?_ (n := FU) (i := 0) (Nat.zero_le _) ⟨fr_refl _ _, fun q h => by omega⟩ (by unfold FU; omega)
  rintro kc x G1 hx ⟨h1, h2⟩ hk
  unfold lp_X10_paste_118
  by_cases h : x < n
  · rw [if_neg (nI_ge h (by omega)), show (60 : Int32) = nI 60 from rfl, pk_mul, nI_add, nI_add, inb_n (by omega) (by omega), gd_t, inb_n (by omega) (by omega), gd_t, lt_r, nI_clamp (by omega), nI_clamp (by omega), nI_1]
    refine hk h _ ⟨fr_tJ h1 (wA_t _ _), fun q hq => ?_⟩
    rw [gJ_sJ, fr_J h1 (wA_f (by decide) _)]
    by_cases hqx : q = x
    · rw [if_pos ⟨rfl, hqx⟩, hqx]
    · rw [if_neg (fun h3 => hqx h3.2)]
      exact h2 q (by omega)
  · rw [if_pos (nI_le (by omega) (by omega))]
    have : x = n := by omega
    subst this
    obtain ⟨G', e, q1, q2⟩ := m_paste2 s i t k x ht hk6 G1
    refine ⟨G', e, fr_trans (fr_mono h1 ?_) (fr_mono q1 ?_), fun q => ?_⟩
    · intro a k h
      refine wA_f (fun ha => ?_) k
      subst ha; cases h
    · intro a k h
      refine wA_f (fun ha => ?_) k
      subst ha; cases h
    · rw [q2 q]
      by_cases hc : 60 * t + k ≤ q ∧ q < 60 * t + k + x
      · rw [if_pos hc, if_pos hc]
        exact h2 (q - (60 * t + k)) (by omega)
      · rw [if_neg hc, if_neg hc]
        exact fr_J h1 (wA_f (by decide) _)
theorem i64_of {n : Nat} (h : n < 2 ^ 63) (m : Nat) (hm : m < 2 ^ 31) : (0 < lg_cmp (lN n) (lN m)) ↔ ¬ n ≤ m := by
  rw [lg_gt0, Int64.lt_iff_toInt_lt, lN_toInt (n := m) hm, lN_T h]
  omega
theorem paste_ok (x1 x2 x3 x4 x5 : Int32) (G : GM) (hS : RS G) : PQ WS RS (f_X9_paste x1 x2 x3 x4 x5) (f_X10_paste x1 x2 x3 x4 x5) G := by
  have ref : ∀ r, f_X9_paste x1 x2 x3 x4 x5 G = some (r, G) → f_X10_paste x1 x2 x3 x4 x5 G = some (r, sI G 186 0 0) → PQ WS RS (f_X9_paste x1 x2 x3 x4 x5) (f_X10_paste x1 x2 x3 x4 x5) G :=
    fun v h1 h2 => ⟨v, G, _, h1, h2, RS_thr hS, fr_thr G⟩
  rcases slot_c x1 with ⟨s, hs, rfl⟩ | hx
  rotate_left
  · refine ref (-2) ?_ ?_
    · unfold f_X9_paste
      rw [isSlot_x hx, ob_s, if_pos rfl]
    · unfold f_X10_paste
      rw [lt_r, misSlot_x hx, ob_s, if_pos rfl]
  rcases slot_c x3 with ⟨t, ht, rfl⟩ | hx
  rotate_left
  · refine ref (-2) ?_ ?_
    · unfold f_X9_paste
      rw [isSlot_n hs, ob_s, if_neg (by decide), isSlot_x hx, ob_s, if_pos rfl]
    · unfold f_X10_paste
      rw [lt_r, misSlot_n hs, ob_s, if_neg (by decide), misSlot_x hx, ob_s, if_pos rfl]
  rcases hS s hs with ⟨h1, h2⟩ | ⟨h1, w, n, h2, h3, h4, h5, h6, h7, h8⟩
  · refine ref (-6) ?_ ?_
    · unfold f_X9_paste
      rw [isSlot_n hs, ob_s, if_neg (by decide), isSlot_n ht, ob_s, if_neg (by decide), hasRow_0 hs h1, ob_s, if_pos rfl]
    · unfold f_X10_paste
      rw [lt_r, misSlot_n hs, ob_s, if_neg (by decide), misSlot_n ht, ob_s, if_neg (by decide), inb_n hs (by omega), gd_t, nI_clamp (by omega), gI_sIa (by decide), h2, if_pos rfl]
  rcases hS t ht with ⟨k1, k2⟩ | ⟨k1, w', n', k2, k3, k4, k5, k6, k7, k8⟩
  · refine ref (-6) ?_ ?_
    · unfold f_X9_paste
      rw [isSlot_n hs, ob_s, if_neg (by decide), isSlot_n ht, ob_s, if_neg (by decide), hasRow_1 hs h1, ob_s, if_neg (by decide), hasRow_0 ht k1, ob_s, if_pos rfl]
    · unfold f_X10_paste
      rw [lt_r, misSlot_n hs, ob_s, if_neg (by decide), misSlot_n ht, ob_s, if_neg (by decide), inb_n hs (by omega), gd_t, nI_clamp (by omega), gI_sIa (by decide), h4, if_neg (nIm1 (by omega)), inb_n ht (by omega), gd_t, nI_clamp (by omega), gI_sIa (by decide), k2, if_pos rfl]
  have hA : f_X8_areOfOneWidth (nI s) (nI t) G = some ((if w = w' then 1 else 0), G) := by
    unfold f_X8_areOfOneWidth
    rw [isSlot_n hs, ob_s, if_neg (by decide), isSlot_n ht, ob_s, if_neg (by decide), inb_n hs (by omega), gd_t, inb_n ht (by omega), gd_t, nI_clamp (by omega), nI_clamp (by omega), h5, k5]
    by_cases hw : w = w'
    · rw [if_pos (by rw [hw]), if_pos hw]
    · rw [if_neg (fun h => hw ((nI_eq (by omega) (by omega)).mp h)), if_neg hw]
  have start9 : f_X9_paste (nI s) x2 (nI t) x4 x5 G = (ob (some ((if w = w' then (1 : Int32) else 0), G)) fun r56 G56 => if r56 = 0 then (some ((-8 : Int32), G56)) else (ob (f_X8_holds (nI s) x2 x5 G56) fun r73 G73 => if r73 = 0 then (some ((-7 : Int32), G73)) else (ob (f_X8_holds (nI t) x4 x5 G73) fun r88 G88 => if r88 = 0 then (some ((-7 : Int32), G88)) else (ov (f_X8_move (nI s) x2 (nI t) x4 x5 G88) fun G108 => some ((0 : Int32), G108))))) := by
    unfold f_X9_paste
    rw [isSlot_n hs, ob_s, if_neg (by decide), isSlot_n ht, ob_s, if_neg (by decide), hasRow_1 hs h1, ob_s, if_neg (by decide), hasRow_1 ht k1, ob_s, if_neg (by decide), hA]
  have start10 : f_X10_paste (nI s) x2 (nI t) x4 x5 G = (if w = w' then (if x2 < 0 then (some ((-7 : Int32), sI G 186 0 0)) else (if x4 < 0 then (some ((-7 : Int32), sI G 186 0 0)) else (if x5 < 0 then (some ((-7 : Int32), sI G 186 0 0)) else (if 0 < (lg_cmp ((x2.toInt64) + (x5.toInt64)) ((nI n).toInt64)) then (some ((-7 : Int32), sI G 186 0 0)) else (if (lg_cmp ((x4.toInt64) + (x5.toInt64)) ((nI n').toInt64)) ≤ 0 then ((wl1 FU (lp_X10_paste_118 (nI s) x2 (nI t) x4 x5) (0 : Int32) (sI G 186 0 0))) else (some ((-7 : Int32), sI G 186 0 0))))))) else some ((-8 : Int32), sI G 186 0 0)) := by
    unfold f_X10_paste
    rw [lt_r, misSlot_n hs, ob_s, if_neg (by decide), misSlot_n ht, ob_s, if_neg (by decide), inb_n hs (by omega), gd_t, nI_clamp (by omega), gI_sIa (by decide), h4, if_neg (nIm1 (by omega)), inb_n ht (by omega), gd_t, nI_clamp (by omega), gI_sIa (by decide), k4, if_neg (nIm1 (by omega)), gd_t, gd_t, gd_t, gd_t, gI_sIa (by decide), gI_sIa (by decide), h7, k7]
    by_cases hw : w = w'
    · rw [if_pos (by rw [hw]), if_pos hw]
    · rw [if_neg (fun h => hw ((nI_eq (by omega) (by omega)).mp h)), if_neg hw]
  by_cases hw : w = w'
  rotate_left
  · refine ref (-8) ?_ ?_
    · rw [start9, if_neg hw, ob_s, if_pos rfl]
    · rw [start10, if_neg hw]
  rw [if_pos hw, ob_s, if_neg (by decide)] at start9
  rw [if_pos hw] at start10
  have hneg : ∀ {y : Int32} (a b : Int32), (a < 0 ∨ b < 0) → f_X8_holds y a b G = some (0, G) := by
    intro y a b h
    unfold f_X8_holds
    by_cases ha : a < 0
    · rw [if_pos ha]
    · rw [if_neg ha, if_pos (h.resolve_left ha)]
  by_cases c2 : x2 < 0
  · refine ref (-7) ?_ ?_
    · rw [start9, hneg _ _ (Or.inl c2), ob_s, if_pos rfl]
    · rw [start10, if_pos c2]
  by_cases c5 : x5 < 0
  · refine ref (-7) ?_ ?_
    · rw [start9, hneg _ _ (Or.inr c5), ob_s, if_pos rfl]
    · rw [start10, if_neg c2]
      by_cases c4 : x4 < 0
      · rw [if_pos c4]
      · rw [if_neg c4, if_pos c5]
  obtain ⟨i, hi, rfl⟩ := nI_of c2
  obtain ⟨m, hm, rfl⟩ := nI_of c5
  rw [holds_1 hs h1 h6 h3 hi hm, ob_s] at start9
  have e1 := i64_of (n := i + m) (by omega) n (by omega)
  by_cases c4 : x4 < 0
  · refine ref (-7) ?_ ?_
    · rw [start9]
      by_cases hc : i + m ≤ n
      · rw [if_pos hc, if_neg (by decide), hneg _ _ (Or.inl c4), ob_s, if_pos rfl]
      · rw [if_neg hc, if_pos rfl]
    · rw [start10, if_neg c2, if_pos c4]
  obtain ⟨k, hk, rfl⟩ := nI_of c4
  have e2 := i64_of (n := k + m) (by omega) n' (by omega)
  rw [if_neg c2, if_neg c4, if_neg c5, nI_l hi, nI_l hm, nI_l hk, nI_l (by omega), nI_l (by omega), lN_add, lN_add] at start10
  by_cases hc : i + m ≤ n
  rotate_left
  · refine ref (-7) ?_ ?_
    · rw [start9, if_neg hc, if_pos rfl]
    · rw [start10, if_pos (e1.mpr hc)]
  rw [if_pos hc, if_neg (by decide), holds_1 ht k1 k6 k3 hk hm, ob_s] at start9
  rw [if_neg (fun h => e1.mp h hc)] at start10
  by_cases hd : k + m ≤ n'
  rotate_left
  · refine ref (-7) ?_ ?_
    · rw [start9, if_neg hd, if_pos rfl]
    · rw [start10, if_neg (Int32.not_le.mpr (e2.mpr hd))]
  rw [if_pos hd, if_neg (by decide)] at start9
  rw [if_pos (Int32.not_lt.mp (fun h => e2.mp h hd))] at start10
  have hacp : acp (nI i) (nI k) (nI m) 60 60 = true := by
    unfold acp
    rw [nI_clamp hi, nI_clamp hk, nI_clamp hm]
    simp [c2, c4, c5]
    omega
  have hmv : f_X8_move (nI s) (nI i) (nI t) (nI k) (nI m) G = some (cpJ G (64 + s) i (64 + t) k m) := by
    unfold f_X8_move
    rw [holds_1 hs h1 h6 h3 hi hm, if_pos hc, ob_s, if_neg (by decide), holds_1 ht k1 k6 k3 hk hm, if_pos hd, ob_s, if_neg (by decide), inb_n hs (by omega), gd_t, inb_n ht (by omega), gd_t, hacp, gd_t, lt_r, nI_clamp (n := s) (by omega), nI_clamp (n := t) (by omega), nI_clamp hi, nI_clamp hk, nI_clamp hm]
  obtain ⟨G', f1, f2, f3⟩ := m_paste1 s i t k m hs (by omega) ht (by omega) (sI (cpJ G (64 + s) i (64 + t) k m) 186 0 0)
  have st10 : f_X10_paste (nI s) (nI i) (nI t) (nI k) (nI m) (cpJ G (64 + s) i (64 + t) k m) = some (0, G') := by
    unfold f_X10_paste
    rw [lt_r, misSlot_n hs, ob_s, if_neg (by decide), misSlot_n ht, ob_s, if_neg (by decide), inb_n hs (by omega), gd_t, nI_clamp (n := s) (by omega), gI_sIa (by decide), gI_cpJ, h4, if_neg (nIm1 (by omega)), inb_n ht (by omega), gd_t, nI_clamp (n := t) (by omega), gI_sIa (by decide), gI_cpJ, k4, if_neg (nIm1 (by omega)), gd_t, gd_t, gd_t, gd_t, gI_sIa (by decide), gI_sIa (by decide), gI_cpJ, gI_cpJ, h7, k7, if_pos (by rw [hw]), if_neg c2, if_neg c4, if_neg c5, nI_l hi, nI_l hm, nI_l hk, nI_l (by omega), nI_l (by omega), lN_add, lN_add, if_neg (fun h => e1.mp h hc), if_pos (Int32.not_lt.mp (fun h => e2.mp h hd))]
    exact f1
  have hw64 : WS (64 + t) = fun _ => true := by
    rcases (by omega : t = 0 ∨ t = 1 ∨ t = 2 ∨ t = 3) with rfl | rfl | rfl | rfl <;> rfl
  refine ⟨0, _, G', by rw [start9, hmv, ov_s], st10, ?_, ?_⟩
  · intro q hq
    have hb : ∀ a, a ≠ 186 → a ≠ 189 → a ≠ 190 → gI G' a q = gI G a q := fun a ha hb hc => by
      rw [fr_I f2, gI_sIa ha, gI_cpJ]
      cases h : (Nat.beq a 189 || Nat.beq a 190) with
      | false => rfl
      | true =>
        rcases Bool.or_eq_true_iff.mp h with h | h
        · exact absurd (Nat.eq_of_beq_eq_true h) hb
        · exact absurd (Nat.eq_of_beq_eq_true h) hc
    have hl : ∀ j, gJ G' (64 + q) j = gJ (cpJ G (64 + s) i (64 + t) k m) (64 + q) j := fun j => by
      rw [fr_J f2]
      · rfl
      · rcases (by omega : q = 0 ∨ q = 1 ∨ q = 2 ∨ q = 3) with rfl | rfl | rfl | rfl <;> rfl
    unfold RS1
    rw [hb 70 (by decide) (by decide) (by decide), hb 187 (by decide) (by decide) (by decide), hb 69 (by decide) (by decide) (by decide), hb 68 (by decide) (by decide) (by decide), hb 188 (by decide) (by decide) (by decide)]
    rcases hS q hq with h | ⟨r1, v, l, r2, r3, r4, r5, r6, r7, r8⟩
    · exact Or.inl h
    · refine Or.inr ⟨r1, v, l, r2, r3, r4, r5, r6, r7, fun j hj => ?_⟩
      rw [hl, f3, gJ_sI, gJ_sI, gJ_cpJ, gJ_cpJ, gJ_cpJ, if_neg (c := 189 = 64 + t ∧ _) (by omega), if_neg (c := 189 = 64 + t ∧ _) (by omega)]
      by_cases hx : q = t ∧ k ≤ j ∧ j < k + m
      · rw [if_pos (by omega), if_pos (by omega), h8 _ (by omega)]
        congr 1
        omega
      · rw [if_neg (by omega), if_neg (by omega)]
        exact r8 j hj
  · refine fr_trans (fr_trans (fr_cpJ G (64 + s) i (64 + t) k m (fun k => by rw [hw64])) (fr_sI (a := 186) (k := 0) (v := 0) rfl)) (fr_mono f2 ?_)
    intro a k' h
    cases h2 : (Nat.beq a 189 || Nat.beq a 190) with
    | false => rfl
    | true =>
      rcases Bool.or_eq_true_iff.mp h2 with h3 | h3
      · rw [Nat.eq_of_beq_eq_true h3] at h; cases h
      · rw [Nat.eq_of_beq_eq_true h3] at h; cases h
