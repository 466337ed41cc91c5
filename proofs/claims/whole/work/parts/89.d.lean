/-! READING: one token, on both sides -/
theorem rd_bv {n a : Nat} {G H : GM} (hT : rd_T n G H) (ha : a < n) (hy : rd_Y H a < 128) : gI H 191 a = nI (rd_Y H a) := by
  obtain ⟨e, hb⟩ := hT.2.2.2 a ha
  have h := (rd_yb hb).2.2.1
  rw [e] at h
  exact h hy
theorem rd_word : ∀ (k : Nat) {n a p : Nat} {G H : GM} {fc fm : Nat}, n = a + k → rd_T n G H → p ≤ a → gI G 53 4 = nI a → gI H 186 7 = nI a → (∀ j, j < a - p → 97 ≤ rd_Y H (p + j) ∧ rd_Y H (p + j) ≤ 122) → gJ H 186 11 = rd_W H p (a - p) → k < fc → k < fm → ∃ G' H' a', wl0 fc lp_X7_takeToken_85 G = some G' ∧ wl1 fm lp_X10_next_102 (nI (a - p)) H = some H' ∧ a ≤ a' ∧ a' ≤ n ∧ (a < n → 97 ≤ rd_Y H a ∧ rd_Y H a ≤ 122 → a < a') ∧ gI G' 53 4 = nI a' ∧ gI H' 186 7 = nI a' ∧ (∀ j, j < a' - p → 97 ≤ rd_Y H (p + j) ∧ rd_Y H (p + j) ≤ 122) ∧ gJ H' 186 11 = rd_W H p (a' - p) ∧ bh_F (fun x q => x = 53 ∧ q = 4) G G' ∧ bh_F (fun x q => x = 186 ∧ (q = 7 ∨ q = 11)) H H'
  | 0, n, a, p, G, H, fc, fm, hk, hT, hp, c4, m7, hl, hJ, hfc, hfm => by
    obtain ⟨fc', rfl⟩ : ∃ f, fc = f + 1 := ⟨fc - 1, by omega⟩
    obtain ⟨fm', rfl⟩ : ∃ f, fm = f + 1 := ⟨fm - 1, by omega⟩
    have hna : n = a := by omega
    subst hna
    refine ⟨G, H, n, ?_, ?_, by omega, by omega, fun h => absurd h (by omega), c4, m7, hl, hJ, bh_Fr _ _, bh_Fr _ _⟩
    · show lp_X7_takeToken_85 G _ = _
      unfold lp_X7_takeToken_85
      rw [hT.2.1, c4, if_pos (nI_le (by omega) (by have := hT.1; omega))]
    · show lp_X10_next_102 _ H _ = _
      unfold lp_X10_next_102
      rw [m7, rd_isBE hT, ob_s, if_pos rfl]
  | k + 1, n, a, p, G, H, fc, fm, hk, hT, hp, c4, m7, hl, hJ, hfc, hfm => by
    obtain ⟨fc', rfl⟩ : ∃ f, fc = f + 1 := ⟨fc - 1, by omega⟩
    obtain ⟨fm', rfl⟩ : ∃ f, fm = f + 1 := ⟨fm - 1, by omega⟩
    have h8 := hT.1
    have han : a < n := by omega
    obtain ⟨eb, hy⟩ := rd_byte hT han
    have em := rd_isB (lo := 97) (hi := 122) hT han (by omega) (by omega)
    by_cases hc : 97 ≤ rd_Y H a ∧ rd_Y H a ≤ 122
    · have ev := rd_bv hT han (by omega)
      rw [if_pos hc] at em
      have hl' : ∀ j, j < a + 1 - p → 97 ≤ rd_Y H (p + j) ∧ rd_Y H (p + j) ≤ 122 := fun j hj => by
        by_cases hja : p + j = a
        · rw [hja]; exact hc
        · exact hl j (by omega)
      -- the word's number
      obtain ⟨H1, e1, j1, F1⟩ : ∃ H1, (∀ kc, lp_X10_next_102 (nI (a - p)) H kc = kc (nI (a + 1 - p)) H1) ∧ (gJ H1 186 11 = rd_W H p (a + 1 - p) ∧ gI H1 186 7 = nI (a + 1)) ∧ bh_F (fun x q => x = 186 ∧ (q = 7 ∨ q = 11)) H H1 := by
        unfold lp_X10_next_102 k_X10_next_153 k_X10_next_169
        rw [m7]
        rw [show (97 : Int32) = nI 97 from rfl, show (122 : Int32) = nI 122 from rfl, em]
        by_cases h11 : a - p ≤ 11
        · refine ⟨sI (sJ H 186 11 (lN (rd_w (fun k => rd_Y H (p + k) - 96) (a + 1 - p)))) 186 7 (nI (a + 1)), fun kc => ?_, ⟨?_, gI_sIs _ _ _ _⟩, bh_FI (bh_FJ (bh_Fr _ _) (by omega)) (by omega)⟩
          · rw [ob_s, if_neg (by decide), if_pos (show nI (a - p) ≤ (11 : Int32) from nI_le (b := 11) h11 (by omega)), m7, inb_n (by omega) (by omega), gd_t, nI_clamp (by omega), ev, nI_l (by omega), lt_r]
            have hw : (27 : Int64) * gJ H 186 11 + lN (rd_Y H a) - 96 = lN (rd_w (fun k => rd_Y H (p + k) - 96) (a + 1 - p)) := by
              rw [hJ]
              unfold rd_W
              rw [if_pos (by omega), show (27 : Int64) = lN 27 from rfl, show (96 : Int64) = lN 96 from rfl, lN_mul, lN_add, lN_sub (by omega), show a + 1 - p = (a - p) + 1 from by omega]
              show _ = lN (27 * rd_w (fun k => rd_Y H (p + k) - 96) (a - p) + (rd_Y H (p + (a - p)) - 96))
              rw [show p + (a - p) = a from by omega]
              congr 1
              omega
            rw [hw, gI_sJ, m7, nI_1, lt_r, nI_1, show a - p + 1 = a + 1 - p from by omega]
            rw [if_pos (show nI (a - p) ≤ (11 : Int32) from nI_le (b := 11) h11 (by omega))]
          · rw [gJ_sI, gJ_sJ, if_pos ⟨rfl, rfl⟩]
            unfold rd_W
            rw [if_pos (by omega)]
        · refine ⟨sI (sJ (sJ H 186 11 (-1)) 186 11 (-1)) 186 7 (nI (a + 1)), fun kc => ?_, ⟨?_, gI_sIs _ _ _ _⟩, bh_FI (bh_FJ (bh_FJ (bh_Fr _ _) (by omega)) (by omega)) (by omega)⟩
          · have hn : ¬ nI (a - p) ≤ (11 : Int32) := nI_ge (a := 11) (by omega) (by omega)
            rw [ob_s, if_neg (by decide), if_neg hn, lt_r, if_neg hn, lt_r, gI_sJ, gI_sJ, m7, nI_1, lt_r, nI_1, show a - p + 1 = a + 1 - p from by omega]
          · rw [gJ_sI, gJ_sJ, if_pos ⟨rfl, rfl⟩]
            unfold rd_W
            rw [if_neg (by omega)]
      have FG : bh_F (fun x q => x = 53 ∧ q = 4) G (sI G 53 4 (nI (a + 1))) := bh_FI (bh_Fr _ _) ⟨rfl, rfl⟩
      have hT1 : rd_T n (sI G 53 4 (nI (a + 1))) H1 := rd_T_F hT FG (fun x q h => by omega) F1 (fun x q h => by omega)
      have hY : ∀ i, rd_Y H1 i = rd_Y H i := rd_Y_F F1 (fun q => by omega)
      have hWW : ∀ l, rd_W H1 p l = rd_W H p l := fun l => by
        unfold rd_W
        simp only [hY]
      obtain ⟨G', H', a', g1, g2, g3, g4, -, g5, g6, g7, g8, g9, g10⟩ := rd_word k (n := n) (a := a + 1) (p := p) (G := sI G 53 4 (nI (a + 1))) (H := H1) (fc := fc') (fm := fm') (by omega) hT1 (by omega) (gI_sIs _ _ _ _) j1.2 (fun j hj => by rw [hY]; exact hl' j hj) (by rw [hWW]; exact j1.1) (by omega) (by omega)
      refine ⟨G', H', a', ?_, ?_, by omega, g4, fun _ _ => by omega, g5, g6, fun j hj => by rw [← hY]; exact g7 j hj, by rw [← hWW]; exact g8, bh_Ft FG g9, bh_Ft F1 g10⟩
      · show lp_X7_takeToken_85 G _ = _
        unfold lp_X7_takeToken_85
        rw [hT.2.1, c4, if_neg (nI_ge han (by omega)), eb, ob_s, rd_letter hy, ob_s, if_pos hc, if_neg (by decide), c4, nI_1, lt_r]
        exact g1
      · show lp_X10_next_102 _ H _ = _
        rw [e1]
        exact g2
    · rw [if_neg hc] at em
      refine ⟨G, H, a, ?_, ?_, by omega, by omega, fun _ h => absurd h hc, c4, m7, hl, hJ, bh_Fr _ _, bh_Fr _ _⟩
      · show lp_X7_takeToken_85 G _ = _
        unfold lp_X7_takeToken_85
        rw [hT.2.1, c4, if_neg (nI_ge han (by omega)), eb, ob_s, rd_letter hy, ob_s, if_neg hc, if_pos rfl]
      · show lp_X10_next_102 _ H _ = _
        unfold lp_X10_next_102
        rw [m7]
        rw [show (97 : Int32) = nI 97 from rfl, show (122 : Int32) = nI 122 from rfl, em, ob_s, if_pos rfl]
theorem rd_num : ∀ (k : Nat) {n a v : Nat} {G H : GM} {fc fm : Nat}, n = a + k → rd_T n G H → gI G 53 4 = nI a → gI H 186 7 = nI a → v ≤ 1000009 → gI H 186 10 = nI v → gI G 53 7 = nI (min v 1000000) → k < fc → k < fm → ∃ G' H' a' v', wl0 fc lp_X7_takeToken_135 G = some G' ∧ wl0 fm lp_X10_next_208 H = some H' ∧ a ≤ a' ∧ a' ≤ n ∧ (a < n → 48 ≤ rd_Y H a ∧ rd_Y H a ≤ 57 → a < a') ∧ gI G' 53 4 = nI a' ∧ gI H' 186 7 = nI a' ∧ v' ≤ 1000009 ∧ gI H' 186 10 = nI v' ∧ gI G' 53 7 = nI (min v' 1000000) ∧ bh_F (fun x q => x = 53 ∧ (q = 4 ∨ q = 7)) G G' ∧ bh_F (fun x q => x = 186 ∧ (q = 7 ∨ q = 10)) H H'
  | 0, n, a, v, G, H, fc, fm, hk, hT, c4, m7, hv, m10, c7, hfc, hfm => by
    obtain ⟨fc', rfl⟩ : ∃ f, fc = f + 1 := ⟨fc - 1, by omega⟩
    obtain ⟨fm', rfl⟩ : ∃ f, fm = f + 1 := ⟨fm - 1, by omega⟩
    have hna : n = a := by omega
    subst hna
    refine ⟨G, H, n, v, ?_, ?_, by omega, by omega, fun h => absurd h (by omega), c4, m7, hv, m10, c7, bh_Fr _ _, bh_Fr _ _⟩
    · show lp_X7_takeToken_135 G _ = _
      unfold lp_X7_takeToken_135
      rw [hT.2.1, c4, if_pos (nI_le (by omega) (by have := hT.1; omega))]
    · show lp_X10_next_208 H _ = _
      unfold lp_X10_next_208
      rw [m7, rd_isBE hT, ob_s, if_pos rfl]
  | k + 1, n, a, v, G, H, fc, fm, hk, hT, c4, m7, hv, m10, c7, hfc, hfm => by
    obtain ⟨fc', rfl⟩ : ∃ f, fc = f + 1 := ⟨fc - 1, by omega⟩
    obtain ⟨fm', rfl⟩ : ∃ f, fm = f + 1 := ⟨fm - 1, by omega⟩
    have h8 := hT.1
    have han : a < n := by omega
    obtain ⟨eb, hy⟩ := rd_byte hT han
    have em := rd_isB (lo := 48) (hi := 57) hT han (by omega) (by omega)
    by_cases hc : 48 ≤ rd_Y H a ∧ rd_Y H a ≤ 57
    · have ev := rd_bv hT han (by omega)
      rw [if_pos hc] at em
      obtain ⟨v1, H1, e1, hv1, hmin, j1, F1⟩ : ∃ v1 H1, (∀ kc, lp_X10_next_208 H kc = kc H1) ∧ v1 ≤ 1000009 ∧ min (10 * min v 1000000 + rd_Y H a - 48) 1000000 = min v1 1000000 ∧ (gI H1 186 10 = nI v1 ∧ gI H1 186 7 = nI (a + 1)) ∧ bh_F (fun x q => x = 186 ∧ (q = 7 ∨ q = 10)) H H1 := by
        unfold lp_X10_next_208 k_X10_next_258
        rw [m7]
        rw [show (48 : Int32) = nI 48 from rfl, show (57 : Int32) = nI 57 from rfl, em]
        by_cases h5 : v ≤ 100000
        · refine ⟨10 * v + rd_Y H a - 48, sI (sI H 186 10 (nI (10 * v + rd_Y H a - 48))) 186 7 (nI (a + 1)), fun kc => ?_, by omega, by rw [show min v 1000000 = v from by omega], ⟨?_, gI_sIs _ _ _ _⟩, bh_FI (bh_FI (bh_Fr _ _) (by omega)) (by omega)⟩
          · rw [ob_s, if_neg (by decide), m10, if_pos (show nI v ≤ (100000 : Int32) from nI_le (b := 100000) h5 (by omega)), m7, inb_n (by omega) (by omega), gd_t, nI_clamp (by omega), ev, show (10 : Int32) = nI 10 from rfl, pk_mul, nI_add, pk_sub (by omega), lt_r, gI_sIk (by decide), m7, nI_1, lt_r]
          · rw [gI_sIk (by decide), gI_sIs]
        · refine ⟨1000000, sI (sI H 186 10 (nI 1000000)) 186 7 (nI (a + 1)), fun kc => ?_, by omega, by omega, ⟨?_, gI_sIs _ _ _ _⟩, bh_FI (bh_FI (bh_Fr _ _) (by omega)) (by omega)⟩
          · rw [ob_s, if_neg (by decide), m10, if_neg (show ¬ nI v ≤ (100000 : Int32) from nI_ge (a := 100000) (by omega) (by omega)), lt_r, gI_sIk (by decide), m7, nI_1, lt_r]
            rfl
          · rw [gI_sIk (by decide), gI_sIs]
      have hx : 10 * min v 1000000 + rd_Y H a - 48 < 2 ^ 31 := by omega
      have FG : bh_F (fun x q => x = 53 ∧ (q = 4 ∨ q = 7)) G (sI (sI G 53 7 (nI (min v1 1000000))) 53 4 (nI (a + 1))) := bh_FI (bh_FI (bh_Fr _ _) (by omega)) (by omega)
      have hT1 : rd_T n (sI (sI G 53 7 (nI (min v1 1000000))) 53 4 (nI (a + 1))) H1 := rd_T_F hT FG (fun x q h => by omega) F1 (fun x q h => by omega)
      obtain ⟨G', H', a', v', g1, g2, g3, g4, -, g5, g6, g7, g8, g9, g10, g11⟩ := rd_num k (n := n) (a := a + 1) (v := v1) (G := sI (sI G 53 7 (nI (min v1 1000000))) 53 4 (nI (a + 1))) (H := H1) (fc := fc') (fm := fm') (by omega) hT1 (gI_sIs _ _ _ _) j1.2 hv1 j1.1 (by rw [gI_sIk (by decide), gI_sIs]) (by omega) (by omega)
      refine ⟨G', H', a', v', ?_, ?_, by omega, g4, fun _ _ => by omega, g5, g6, g7, g8, g9, bh_Ft FG g10, bh_Ft F1 g11⟩
      · show lp_X7_takeToken_135 G _ = _
        unfold lp_X7_takeToken_135
        have hj : jmin (nI (10 * min v 1000000 + rd_Y H a - 48)) 1000000 = nI (min v1 1000000) := by
          unfold jmin
          rw [← hmin]
          generalize 10 * min v 1000000 + rd_Y H a - 48 = u at hx
          by_cases hu : 1000000 < u
          · rw [if_pos (show (1000000 : Int32) < nI u from nI_lt (a := 1000000) hu hx), show min u 1000000 = 1000000 from by omega]
            rfl
          · rw [if_neg (show ¬ (1000000 : Int32) < nI u from nI_nlt (a := 1000000) (by omega) (by omega)), show min u 1000000 = u from by omega]
        rw [hT.2.1, c4, if_neg (nI_ge han (by omega)), eb, ob_s, rd_digit hy, ob_s, if_pos hc, if_neg (by decide), c4, eb, ob_s, c7, show (10 : Int32) = nI 10 from rfl, show (48 : Int32) = nI 48 from rfl, pk_mul, nI_add, pk_sub (by omega), hj, lt_r, gI_sIk (by decide), c4, nI_1, lt_r]
        exact g1
      · show lp_X10_next_208 H _ = _
        rw [e1]
        exact g2
    · rw [if_neg hc] at em
      refine ⟨G, H, a, v, ?_, ?_, by omega, by omega, fun _ h => absurd h hc, c4, m7, hv, m10, c7, bh_Fr _ _, bh_Fr _ _⟩
      · show lp_X7_takeToken_135 G _ = _
        unfold lp_X7_takeToken_135
        rw [hT.2.1, c4, if_neg (nI_ge han (by omega)), eb, ob_s, rd_digit hy, ob_s, if_neg hc, if_pos rfl]
      · show lp_X10_next_208 H _ = _
        unfold lp_X10_next_208
        rw [m7]
        rw [show (48 : Int32) = nI 48 from rfl, show (57 : Int32) = nI 57 from rfl, em, ob_s, if_pos rfl]
