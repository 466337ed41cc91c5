/-! READING: the next token, on both sides -/
theorem rd_m1 {y : Nat} (hy : y < 2 ^ 31) : ¬ nI y = (-1 : Int32) := fun h => by
  have h1 := congrArg Int32.toInt h
  rw [nI_toInt hy, show (-1 : Int32).toInt = -1 from by decide] at h1
  omega
def rd_FC (a q : Nat) : Prop := a = 53 ∧ 4 ≤ q ∧ q ≤ 7
def rd_FM (a q : Nat) : Prop := a = 186 ∧ 7 ≤ q ∧ q ≤ 11
theorem rd_here {n a : Nat} {G H : GM} (hT : rd_T n G H) (c4 : gI G 53 4 = nI a) (m7 : gI H 186 7 = nI a) (hn : a = n ∨ (a < n ∧ rd_Y H a ≠ 32 ∧ rd_Y H a ≠ 10)) : ∃ G' H' a' t, k_X7_takeToken_38 G = some G' ∧ (∀ kc, lp_X10_next_0 H kc = some H') ∧ rd_C n G' H' a' a t ∧ bh_F rd_FC G G' ∧ bh_F rd_FM H H' := by
  have h8 := hT.1
  have FG : bh_F rd_FC G (sI (sI G 53 6 (nI a)) 53 7 0) := bh_FI (bh_FI (bh_Fr _ _) (by unfold rd_FC; omega)) (by unfold rd_FC; omega)
  have FH : bh_F rd_FM H (sJ (sI (sI H 186 9 (nI a)) 186 10 0) 186 11 0) := bh_FJ (bh_FI (bh_FI (bh_Fr _ _) (by unfold rd_FM; omega)) (by unfold rd_FM; omega)) (by unfold rd_FM; omega)
  have hT2 : rd_T n (sI (sI G 53 6 (nI a)) 53 7 0) (sJ (sI (sI H 186 9 (nI a)) 186 10 0) 186 11 0) := rd_T_F hT FG (fun x q h => by unfold rd_FC; omega) FH (fun x q h => by unfold rd_FM; omega)
  have hY : ∀ i, rd_Y (sJ (sI (sI H 186 9 (nI a)) 186 10 0) 186 11 0) i = rd_Y H i := rd_Y_F FH (fun q => by unfold rd_FM; omega)
  have g4 : gI (sI (sI G 53 6 (nI a)) 53 7 0) 53 4 = nI a := by rw [gI_sIk (by decide), gI_sIk (by decide)]; exact c4
  have g6 : gI (sI (sI G 53 6 (nI a)) 53 7 0) 53 6 = nI a := by rw [gI_sIk (by decide), gI_sIs]
  have g7 : gI (sI (sI G 53 6 (nI a)) 53 7 0) 53 7 = nI 0 := gI_sIs _ _ _ _
  have n7 : gI (sJ (sI (sI H 186 9 (nI a)) 186 10 0) 186 11 0) 186 7 = nI a := by rw [gI_sJ, gI_sIk (by decide), gI_sIk (by decide)]; exact m7
  have n9 : gI (sJ (sI (sI H 186 9 (nI a)) 186 10 0) 186 11 0) 186 9 = nI a := by rw [gI_sJ, gI_sIk (by decide), gI_sIs]
  have n10 : gI (sJ (sI (sI H 186 9 (nI a)) 186 10 0) 186 11 0) 186 10 = nI 0 := by rw [gI_sJ, gI_sIs]; rfl
  have nJ : gJ (sJ (sI (sI H 186 9 (nI a)) 186 10 0) 186 11 0) 186 11 = lN 0 := by rw [gJ_sJ, if_pos ⟨rfl, rfl⟩]; rfl
  have hblank : f_X10_isByte (gI H 186 7) (32 : Int32) (32 : Int32) H = some (0, H) ∧ f_X10_isByte (gI H 186 7) (10 : Int32) (10 : Int32) H = some (0, H) := by
    rw [m7]
    rcases hn with rfl | ⟨han, hy1, hy2⟩
    · exact ⟨rd_isBE hT _ _, rd_isBE hT _ _⟩
    · refine ⟨?_, ?_⟩
      · have := rd_isB (lo := 32) (hi := 32) hT han (by omega) (by omega)
        rw [if_neg (by omega)] at this
        exact this
      · have := rd_isB (lo := 10) (hi := 10) hT han (by omega) (by omega)
        rw [if_neg (by omega)] at this
        exact this
  unfold k_X7_takeToken_38
  have um : ∀ (kc : GM → Option GM), lp_X10_next_0 H kc = _ := fun kc => by
    unfold lp_X10_next_0
    rw [hblank.1, ob_s, if_pos rfl, hblank.2, ob_s, if_pos rfl, m7, lt_r, lt_r, lt_r]
  rw [c4, lt_r, lt_r, g4]
  generalize sI (sI G 53 6 (nI a)) 53 7 0 = G2 at *
  generalize sJ (sI (sI H 186 9 (nI a)) 186 10 0) 186 11 0 = H2 at *
  by_cases han : a = n
  · subst han
    refine ⟨sI G2 53 5 0, sI H2 186 8 0, a, 0, ?_, fun kc => ?_, ⟨⟨?_, ?_, ?_, ?_, gI_sIs _ _ _ _, gI_sIs _ _ _ _⟩, ⟨by omega, by omega, by omega, by omega⟩, fun h => absurd h (by decide), fun h => absurd h (by decide)⟩, bh_FI FG (by unfold rd_FC; omega), bh_FI FH (by unfold rd_FM; omega)⟩
    · rw [rd_byteE hT2, ob_s, if_pos rfl, lt_r]
    · rw [um, n7, hT2.2.2.1, if_pos rfl, lt_r]
    · rw [gI_sIk (by decide)]; exact g4
    · rw [gI_sIk (by decide)]; exact n7
    · rw [gI_sIk (by decide)]; exact g6
    · rw [gI_sIk (by decide)]; exact n9
  have han2 : a < n := by omega
  obtain ⟨eb, hy⟩ := rd_byte hT2 han2
  have el := rd_isB (lo := 97) (hi := 122) hT2 han2 (by omega) (by omega)
  have ed := rd_isB (lo := 48) (hi := 57) hT2 han2 (by omega) (by omega)
  have hne : ¬ gI H2 186 7 = gI H2 186 6 := by rw [n7, hT2.2.2.1, nI_eq (by omega) (by omega)]; exact han
  rw [eb, ob_s, if_neg (rd_m1 (by omega)), rd_letter hy, ob_s]
  by_cases hc : 97 ≤ rd_Y H2 a ∧ rd_Y H2 a ≤ 122
  · rw [if_pos hc] at el ⊢
    rw [if_neg (by decide), lt_r]
    have FG3 : bh_F rd_FC G (sI G2 53 5 1) := bh_FI FG (by unfold rd_FC; omega)
    have FH3 : bh_F rd_FM H (sI H2 186 8 1) := bh_FI FH (by unfold rd_FM; omega)
    have hT3 : rd_T n (sI G2 53 5 1) (sI H2 186 8 1) := rd_T_F hT FG3 (fun x q h => by unfold rd_FC; omega) FH3 (fun x q h => by unfold rd_FM; omega)
    have hY3 : ∀ i, rd_Y (sI H2 186 8 1) i = rd_Y H2 i := fun i => rd_Y_F (W := rd_FM) (bh_FI (bh_Fr _ _) (by unfold rd_FM; omega)) (fun q => by unfold rd_FM; omega) i
    obtain ⟨G', H', a', w1, w2, w3, w4, w5, w6, w7, w8, w9, w10, w11⟩ := rd_word (n - a) (n := n) (a := a) (p := a) (fc := FU) (fm := FU) (by omega) hT3 (by omega) (by rw [gI_sIk (by decide)]; exact g4) (by rw [gI_sIk (by decide)]; exact n7) (fun j hj => absurd hj (by omega)) (by rw [Nat.sub_self, gJ_sI]; exact nJ) (by unfold FU; omega) (by unfold FU; omega)
    have hpa := w5 han2 (by rw [hY3]; exact hc)
    have hY4 : ∀ i, rd_Y H' i = rd_Y (sI H2 186 8 1) i := fun i => rd_Y_F w11 (fun q => by omega) i
    refine ⟨G', H', a', 1, w1, fun kc => ?_, ⟨⟨w6, w7, ?_, ?_, ?_, ?_⟩, ⟨w3, w4, by omega, fun _ => hpa⟩, fun h => absurd h (by decide), fun _ => ⟨fun j hj => by rw [hY4]; exact w8 j hj, ?_⟩⟩, bh_Ft FG3 (bh_Fm w10 (fun x q h => by unfold rd_FC; omega)), bh_Ft FH3 (bh_Fm w11 (fun x q h => by unfold rd_FM; omega))⟩
    · rw [um, if_neg hne, n7]
      rw [show f_X10_isByte (nI a) (97 : Int32) (122 : Int32) H2 = some (1, H2) from el, ob_s, if_neg (by decide), lt_r]
      rw [Nat.sub_self] at w2
      exact w2
    · rw [w10.1 _ _ (by omega), gI_sIk (by decide)]; exact g6
    · rw [w11.1 _ _ (by omega), gI_sIk (by decide)]; exact n9
    · rw [w10.1 _ _ (by omega)]; exact gI_sIs _ _ _ _
    · rw [w11.1 _ _ (by omega)]; exact gI_sIs _ _ _ _
    · rw [w9]
      unfold rd_W
      simp only [hY4]
  · rw [if_neg hc] at el ⊢
    rw [if_pos rfl, rd_digit hy, ob_s]
    by_cases hd : 48 ≤ rd_Y H2 a ∧ rd_Y H2 a ≤ 57
    · rw [if_pos hd] at ed ⊢
      rw [if_neg (by decide), lt_r]
      have FG3 : bh_F rd_FC G (sI G2 53 5 2) := bh_FI FG (by unfold rd_FC; omega)
      have FH3 : bh_F rd_FM H (sI H2 186 8 2) := bh_FI FH (by unfold rd_FM; omega)
      have hT3 : rd_T n (sI G2 53 5 2) (sI H2 186 8 2) := rd_T_F hT FG3 (fun x q h => by unfold rd_FC; omega) FH3 (fun x q h => by unfold rd_FM; omega)
      have hY3 : ∀ i, rd_Y (sI H2 186 8 2) i = rd_Y H2 i := fun i => rd_Y_F (W := rd_FM) (bh_FI (bh_Fr _ _) (by unfold rd_FM; omega)) (fun q => by unfold rd_FM; omega) i
      obtain ⟨G', H', a', v', w1, w2, w3, w4, w5, w6, w7, w8, w9, w10, w11, w12⟩ := rd_num (n - a) (n := n) (a := a) (v := 0) (fc := FU) (fm := FU) (by omega) hT3 (by rw [gI_sIk (by decide)]; exact g4) (by rw [gI_sIk (by decide)]; exact n7) (by omega) (by rw [gI_sIk (by decide)]; exact n10) (by rw [gI_sIk (by decide)]; exact g7) (by unfold FU; omega) (by unfold FU; omega)
      have hpa := w5 han2 (by rw [hY3]; exact hd)
      refine ⟨G', H', a', 2, w1, fun kc => ?_, ⟨⟨w6, w7, ?_, ?_, ?_, ?_⟩, ⟨w3, w4, by omega, fun _ => hpa⟩, fun _ => ⟨v', w8, w9, w10⟩, fun h => absurd h (by decide)⟩, bh_Ft FG3 (bh_Fm w11 (fun x q h => by unfold rd_FC; omega)), bh_Ft FH3 (bh_Fm w12 (fun x q h => by unfold rd_FM; omega))⟩
      · rw [um, if_neg hne, n7]
        rw [show f_X10_isByte (nI a) (97 : Int32) (122 : Int32) H2 = some (0, H2) from el, ob_s, if_pos rfl, n7]
        rw [show f_X10_isByte (nI a) (48 : Int32) (57 : Int32) H2 = some (1, H2) from ed, ob_s, if_neg (by decide), lt_r]
        exact w2
      · rw [w11.1 _ _ (by omega), gI_sIk (by decide)]; exact g6
      · rw [w12.1 _ _ (by omega), gI_sIk (by decide)]; exact n9
      · rw [w11.1 _ _ (by omega)]; exact gI_sIs _ _ _ _
      · rw [w12.1 _ _ (by omega)]; exact gI_sIs _ _ _ _
    · rw [if_neg hd] at ed ⊢
      rw [if_pos rfl]
      obtain ⟨t, ht, hct, hmt⟩ : ∃ t, (t = 3 ∨ t = 4) ∧ (if nI (rd_Y H2 a) = (59 : Int32) then k_X7_takeToken_213 (3 : Int32) G2 else k_X7_takeToken_213 (4 : Int32) G2) = k_X7_takeToken_213 (nI t) G2 ∧ (if gI H2 191 a = (59 : Int32) then k_X10_next_294 (3 : Int32) H2 else k_X10_next_294 (4 : Int32) H2) = k_X10_next_294 (nI t) H2 := by
        by_cases h59 : rd_Y H2 a = 59
        · have := rd_bv hT2 han2 (by omega)
          refine ⟨3, Or.inl rfl, ?_, ?_⟩
          · rw [h59, if_pos (show nI 59 = (59 : Int32) from rfl)]; rfl
          · rw [this, h59, if_pos (show nI 59 = (59 : Int32) from rfl)]; rfl
        · refine ⟨4, Or.inr rfl, ?_, ?_⟩
          · rw [if_neg (show ¬ nI (rd_Y H2 a) = (59 : Int32) from fun h => h59 ((nI_eq (b := 59) (by omega) (by omega)).mp h))]; rfl
          · rw [if_neg]
            · rfl
            · intro h
              apply h59
              unfold rd_Y
              rw [h]
              decide
      rw [hct]
      unfold k_X7_takeToken_213
      unfold k_X10_next_294 at hmt
      refine ⟨sI (sI G2 53 5 (nI t)) 53 4 (nI (a + 1)), sI (sI H2 186 8 (nI t)) 186 7 (nI (a + 1)), a + 1, t, ?_, fun kc => ?_, ⟨⟨gI_sIs _ _ _ _, gI_sIs _ _ _ _, ?_, ?_, ?_, ?_⟩, ⟨by omega, by omega, by omega, fun _ => by omega⟩, fun h => absurd h (by omega), fun h => absurd h (by omega)⟩, bh_FI (bh_FI FG (by unfold rd_FC; omega)) (by unfold rd_FC; omega), bh_FI (bh_FI FH (by unfold rd_FM; omega)) (by unfold rd_FM; omega)⟩
      · rw [lt_r, gI_sIk (by decide), g4, nI_1, lt_r]
      · rw [um, if_neg hne, n7]
        rw [show f_X10_isByte (nI a) (97 : Int32) (122 : Int32) H2 = some (0, H2) from el, ob_s, if_pos rfl, n7]
        rw [show f_X10_isByte (nI a) (48 : Int32) (57 : Int32) H2 = some (0, H2) from ed, ob_s, if_pos rfl, n7, inb_n (by omega) (by omega), gd_t, nI_clamp (by omega)]
        unfold k_X10_next_294
        rw [hmt, lt_r, gI_sIk (by decide), n7, nI_1, lt_r]
      · rw [gI_sIk (by decide), gI_sIk (by decide)]; exact g6
      · rw [gI_sIk (by decide), gI_sIk (by decide)]; exact n9
      · rw [gI_sIk (by decide), gI_sIs]
      · rw [gI_sIk (by decide), gI_sIs]
theorem rd_tokL : ∀ (k : Nat) {n a : Nat} {G H : GM} {fc fm : Nat}, n = a + k → rd_T n G H → gI G 53 4 = nI a → gI H 186 7 = nI a → k < fc → k < fm → ∃ G' H' a' p t, wl0 fc lp_X7_takeToken_0 G = some G' ∧ wl0 fm lp_X10_next_0 H = some H' ∧ rd_C n G' H' a' p t ∧ a ≤ p ∧ bh_F rd_FC G G' ∧ bh_F rd_FM H H'
  | 0, n, a, G, H, fc, fm, hk, hT, c4, m7, hfc, hfm => by
    obtain ⟨fc', rfl⟩ : ∃ f, fc = f + 1 := ⟨fc - 1, by omega⟩
    obtain ⟨fm', rfl⟩ : ∃ f, fm = f + 1 := ⟨fm - 1, by omega⟩
    obtain ⟨G', H', a', t, e1, e2, hC, F1, F2⟩ := rd_here hT c4 m7 (Or.inl (by omega))
    refine ⟨G', H', a', a, t, ?_, e2 _, hC, by omega, F1, F2⟩
    show lp_X7_takeToken_0 G _ = _
    unfold lp_X7_takeToken_0
    rw [hT.2.1, c4, if_pos (nI_le (by omega) (by have := hT.1; omega))]
    exact e1
  | k + 1, n, a, G, H, fc, fm, hk, hT, c4, m7, hfc, hfm => by
    obtain ⟨fc', rfl⟩ : ∃ f, fc = f + 1 := ⟨fc - 1, by omega⟩
    obtain ⟨fm', rfl⟩ : ∃ f, fm = f + 1 := ⟨fm - 1, by omega⟩
    have h8 := hT.1
    have han : a < n := by omega
    obtain ⟨eb, hy⟩ := rd_byte hT han
    have step : ∀ kc, lp_X7_takeToken_0 G kc = if (if rd_Y H a = 32 ∨ rd_Y H a = 10 then (1 : Int32) else 0) = 0 then k_X7_takeToken_38 G else kc (sI G 53 4 (nI (a + 1))) := fun kc => by
      unfold lp_X7_takeToken_0
      rw [hT.2.1, c4, if_neg (nI_ge han (by omega)), eb, ob_s, rd_blank hy, ob_s, c4, nI_1, lt_r]
    by_cases hb : rd_Y H a = 32 ∨ rd_Y H a = 10
    · have FG : bh_F rd_FC G (sI G 53 4 (nI (a + 1))) := bh_FI (bh_Fr _ _) (by unfold rd_FC; omega)
      have FH : bh_F rd_FM H (sI H 186 7 (nI (a + 1))) := bh_FI (bh_Fr _ _) (by unfold rd_FM; omega)
      obtain ⟨G', H', a', p, t, e1, e2, hC, hap, F1, F2⟩ := rd_tokL k (n := n) (a := a + 1) (G := sI G 53 4 (nI (a + 1))) (H := sI H 186 7 (nI (a + 1))) (fc := fc') (fm := fm') (by omega) (rd_T_F hT FG (fun x q h => by unfold rd_FC; omega) FH (fun x q h => by unfold rd_FM; omega)) (gI_sIs _ _ _ _) (gI_sIs _ _ _ _) (by omega) (by omega)
      refine ⟨G', H', a', p, t, ?_, ?_, hC, by omega, bh_Ft FG F1, bh_Ft FH F2⟩
      · show lp_X7_takeToken_0 G _ = _
        rw [step, if_pos hb, if_neg (by decide)]
        exact e1
      · show lp_X10_next_0 H _ = _
        unfold lp_X10_next_0 k_X10_next_30
        rw [m7]
        have b32 := rd_isB (lo := 32) (hi := 32) hT han (by omega) (by omega)
        have b10 := rd_isB (lo := 10) (hi := 10) hT han (by omega) (by omega)
        by_cases h32 : rd_Y H a = 32
        · rw [if_pos (by omega)] at b32
          rw [show f_X10_isByte (nI a) (32 : Int32) (32 : Int32) H = some (1, H) from b32, ob_s, if_neg (by decide), m7, nI_1, lt_r]
          exact e2
        · rw [if_neg (by omega)] at b32
          rw [if_pos (by omega)] at b10
          rw [show f_X10_isByte (nI a) (32 : Int32) (32 : Int32) H = some (0, H) from b32, ob_s, if_pos rfl, m7]
          rw [show f_X10_isByte (nI a) (10 : Int32) (10 : Int32) H = some (1, H) from b10, ob_s, if_neg (by decide), m7, nI_1, lt_r]
          exact e2
    · obtain ⟨G', H', a', t, e1, e2, hC, F1, F2⟩ := rd_here hT c4 m7 (Or.inr ⟨han, fun h => hb (Or.inl h), fun h => hb (Or.inr h)⟩)
      refine ⟨G', H', a', a, t, ?_, e2 _, hC, by omega, F1, F2⟩
      show lp_X7_takeToken_0 G _ = _
      rw [step, if_neg hb, if_pos rfl]
      exact e1
theorem rd_tok {n a : Nat} {G H : GM} (hT : rd_T n G H) (ha : a ≤ n) (c4 : gI G 53 4 = nI a) (m7 : gI H 186 7 = nI a) : ∃ G' H' a' p t, f_X7_takeToken G = some G' ∧ f_X10_next H = some H' ∧ rd_C n G' H' a' p t ∧ a ≤ p ∧ bh_F rd_FC G G' ∧ bh_F rd_FM H H' :=
  rd_tokL (n - a) (fc := FU) (fm := FU) (by omega) hT c4 m7 (by have := hT.1; unfold FU; omega) (by have := hT.1; unfold FU; omega)
