/-! READING: words, numbers, faults -/
def rd_FB (a q : Nat) : Prop := a = 53 ∧ 4 ≤ q ∧ q ≠ 8
def rd_FN (a q : Nat) : Prop := a = 186 ∧ 7 ≤ q ∧ q ≤ 13
theorem rd_FC_B (a q : Nat) (h : rd_FC a q) : rd_FB a q := ⟨h.1, h.2.1, by have := h.2.2; omega⟩
theorem rd_FM_N (a q : Nat) (h : rd_FM a q) : rd_FN a q := ⟨h.1, h.2.1, by have := h.2.2; omega⟩
/-- both sides read, no fault yet -/
def rd_G (n a p t : Nat) (G H : GM) : Prop := rd_T n G H ∧ rd_C n G H a p t ∧ gI G 53 9 = 0 ∧ gI H 186 12 = 0 ∧ gI G 53 10 = -1 ∧ gI H 186 13 = -1
/-- the class after a fault -/
def rd_B (f s : Int32) (n : Nat) (G : GM) : Prop := (gI G 53 9 = f ∧ f ≠ 0) ∧ gI G 53 10 = s ∧ gI G 53 1 = nI n ∧ n ≤ 800 ∧ (∀ i, i < n → isB (gI G 54 i)) ∧ ∃ a, a ≤ n ∧ gI G 53 4 = nI a
def rd_X (n : Nat) (G H : GM) : Prop := ∃ f s, rd_B f s n G ∧ gI H 186 12 = f ∧ gI H 186 13 = s
theorem rd_B_F {W : Nat → Nat → Prop} {f s : Int32} {n : Nat} {G G' : GM} (h : rd_B f s n G) (hF : bh_F W G G') (hw : ∀ a q, (a = 53 ∧ (q = 1 ∨ q = 4 ∨ q = 9 ∨ q = 10)) ∨ a = 54 → ¬ W a q) : rd_B f s n G' := by
  obtain ⟨⟨h1, h1'⟩, h2, h3, h4, h5, a, h6, h7⟩ := h
  have k : ∀ a q, (a = 53 ∧ (q = 1 ∨ q = 4 ∨ q = 9 ∨ q = 10)) ∨ a = 54 → gI G' a q = gI G a q := fun a q h => hF.1 _ _ (hw a q h)
  refine ⟨⟨?_, h1'⟩, ?_, ?_, h4, fun i hi => ?_, a, h6, ?_⟩
  · rw [k _ _ (by omega)]; exact h1
  · rw [k _ _ (by omega)]; exact h2
  · rw [k _ _ (by omega)]; exact h3
  · rw [k _ _ (by omega)]; exact h5 i hi
  · rw [k _ _ (by omega)]; exact h7
theorem rdB_tok {f s : Int32} {n : Nat} {G : GM} (h : rd_B f s n G) : ∃ G', f_X7_takeToken G = some G' ∧ rd_B f s n G' ∧ bh_F rd_FB G G' := by
  obtain ⟨⟨h1, h1'⟩, h2, h3, h4, h5, a, h6, h7⟩ := id h
  have hT : rd_T n G (sI (sI (cpI G 54 0 191 0 800) 186 6 (nI n)) 186 7 (nI a)) := by
    refine ⟨h4, h3, by rw [gI_sIk (by decide), gI_sIs], fun i hi => ⟨?_, h5 i hi⟩⟩
    rw [gI_sIa (by decide), gI_sIa (by decide), gI_cpI, if_pos ⟨rfl, by omega⟩]
  obtain ⟨G', H', a', p, t, e1, e2, hC, -, F1, F2⟩ := rd_tok hT h6 h7 (gI_sIs _ _ _ _)
  refine ⟨G', e1, ⟨⟨?_, h1'⟩, ?_, ?_, h4, fun i hi => ?_, a', hC.2.1.2.1, hC.1.1⟩, bh_Fm F1 rd_FC_B⟩
  · rw [F1.1 _ _ (by unfold rd_FC; omega)]; exact h1
  · rw [F1.1 _ _ (by unfold rd_FC; omega)]; exact h2
  · rw [F1.1 _ _ (by unfold rd_FC; omega)]; exact h3
  · rw [F1.1 _ _ (by unfold rd_FC; omega)]; exact h5 i hi
theorem rdB_fail {f s : Int32} {n : Nat} {G : GM} (h : rd_B f s n G) (k : Int32) : f_X7_fail k G = some G := by
  unfold f_X7_fail
  rw [h.1.1, if_neg h.1.2]
theorem rd_fail {n a p t : Nat} {G H : GM} (h : rd_G n a p t G H) {k : Int32} (hk : k ≠ 0) : ∃ G' H', f_X7_fail k G = some G' ∧ f_X10_fails k H = some H' ∧ rd_X n G' H' ∧ bh_F rd_FB G G' ∧ bh_F rd_FN H H' := by
  obtain ⟨hT, hC, c9, m12, c10, m13⟩ := h
  refine ⟨sI (sI G 53 9 k) 53 10 (nI p), sI (sI H 186 12 k) 186 13 (nI p), ?_, ?_, ⟨k, nI p, ⟨⟨?_, hk⟩, gI_sIs _ _ _ _, ?_, hT.1, fun i hi => ?_, a, hC.2.1.2.1, ?_⟩, ?_, gI_sIs _ _ _ _⟩, bh_FI (bh_FI (bh_Fr _ _) (by unfold rd_FB; omega)) (by unfold rd_FB; omega), bh_FI (bh_FI (bh_Fr _ _) (by unfold rd_FN; omega)) (by unfold rd_FN; omega)⟩
  · unfold f_X7_fail
    rw [c9, if_pos rfl, lt_r, gI_sIk (by decide), hC.1.2.2.1, lt_r]
  · unfold f_X10_fails
    rw [m12, if_pos rfl, lt_r, gI_sIk (by decide), hC.1.2.2.2.1, lt_r]
  · rw [gI_sIk (by decide), gI_sIs]
  · rw [gI_sIk (by decide), gI_sIk (by decide)]; exact hT.2.1
  · rw [gI_sIa (by decide), gI_sIa (by decide)]; exact (hT.2.2.2 i hi).2
  · rw [gI_sIk (by decide), gI_sIk (by decide)]; exact hC.1.1
  · rw [gI_sIk (by decide), gI_sIs]
theorem rdX_fails {n : Nat} {G H : GM} (h : rd_X n G H) (k : Int32) : f_X10_fails k H = some H := by
  obtain ⟨f, s, hB, h1, h2⟩ := h
  unfold f_X10_fails
  rw [h1, if_neg hB.1.2]
/-- the next token of both, no fault yet -/
theorem rdG_tok {n a p t : Nat} {G H : GM} (h : rd_G n a p t G H) : ∃ G' H' a' p' t', f_X7_takeToken G = some G' ∧ f_X10_next H = some H' ∧ rd_G n a' p' t' G' H' ∧ a ≤ p' ∧ bh_F rd_FB G G' ∧ bh_F rd_FN H H' := by
  obtain ⟨hT, hC, c9, m12, c10, m13⟩ := h
  obtain ⟨G', H', a', p', t', e1, e2, hC', hap, F1, F2⟩ := rd_tok hT hC.2.1.2.1 hC.1.1 hC.1.2.1
  refine ⟨G', H', a', p', t', e1, e2, ⟨rd_T_F hT F1 (fun x q h => by unfold rd_FC; omega) F2 (fun x q h => by unfold rd_FM; omega), hC', ?_, ?_, ?_, ?_⟩, hap, bh_Fm F1 rd_FC_B, bh_Fm F2 rd_FM_N⟩
  · rw [F1.1 _ _ (by unfold rd_FC; omega)]; exact c9
  · rw [F2.1 _ _ (by unfold rd_FM; omega)]; exact m12
  · rw [F1.1 _ _ (by unfold rd_FC; omega)]; exact c10
  · rw [F2.1 _ _ (by unfold rd_FM; omega)]; exact m13
/-- either both read, at least to a, or both failed alike -/
def rd_S (n a : Nat) (G H : GM) : Prop := (∃ a' p t, a ≤ a' ∧ rd_G n a' p t G H) ∨ rd_X n G H
theorem rd_byteT {n : Nat} {G : GM} (h : gI G 53 1 = nI n) (hn : n ≤ 800) (x : Int32) : ∃ r, f_X7_byteAt x G = some (r, G) := by
  unfold f_X7_byteAt
  by_cases h0 : x < 0
  · exact ⟨_, by rw [if_pos h0]⟩
  · rw [if_neg h0, h]
    obtain ⟨j, hj, rfl⟩ := nI_of h0
    by_cases hjn : j < n
    · exact ⟨_, by rw [if_pos (nI_lt hjn (by omega)), inb_n (by omega) (by omega), gd_t]⟩
    · exact ⟨_, by rw [if_neg (nI_nlt (by omega) (by omega))]⟩
/-- a word of the class and its number -/
def rd_wd (v : Nat) (c : Int64) : Prop := SLEN v ≤ 12 ∧ (∀ k, k < SLEN v → SCH v k = nI (96 + ((SCH v k).toInt.toNat - 96)) ∧ 1 ≤ (SCH v k).toInt.toNat - 96 ∧ (SCH v k).toInt.toNat - 96 ≤ 26) ∧ c = lN (rd_w (fun k => (SCH v k).toInt.toNat - 96) (SLEN v))
theorem rd_wds : rd_wd 0 158529 ∧ rd_wd 1 1627255 ∧ rd_wd 2 365869 ∧ rd_wd 3 99233 ∧ rd_wd 4 1384295581 ∧ rd_wd 5 8864618 ∧ rd_wd 6 15216 ∧ rd_wd 7 4562600 ∧ rd_wd 8 13550 ∧ rd_wd 9 3890376722 ∧ rd_wd 10 79 ∧ rd_wd 11 385240 ∧ rd_wd 12 43823259 := by
  refine ⟨?_, ?_, ?_, ?_, ?_, ?_, ?_, ?_, ?_, ?_, ?_, ?_, ?_⟩ <;> unfold rd_wd <;> decide +kernel
/-- is it the word: the class, at any time -/
theorem rd_isWT {n v : Nat} {G : GM} (h : gI G 53 1 = nI n) (hn : n ≤ 800) (hv : SLEN v ≤ 12) : ∃ b, f_X7_isWord v G = some (b, G) ∧ (b = 0 ∨ b = 1) := by
  unfold f_X7_isWord
  by_cases h1 : gI G 53 5 = 1
  · rw [if_pos h1]
    by_cases h2 : gI G 53 4 - gI G 53 6 = Int32.ofNat (SLEN v)
    · rw [if_pos h2]
      refine wl1_up (P := fun o => ∃ b, o = some (b, G) ∧ (b = 0 ∨ b = 1)) (I := fun i G' => G' = G) (N := SLEN v) (by omega) ?_ (n := FU) (i := 0) (Nat.zero_le _) rfl (by unfold FU; omega)
      rintro kc i G' hi rfl hkc
      unfold lp_X7_isWord_28
      rw [show Int32.ofNat (SLEN v) = nI (SLEN v) from rfl]
      by_cases hi2 : i < SLEN v
      · obtain ⟨r, er⟩ := rd_byteT h hn (gI G' 53 6 + nI i)
        rw [if_neg (nI_ge hi2 (by omega)), er, ob_s, inb_n hi2 (by omega), gd_t]
        by_cases hr : r = SCH v (nI i).toNatClampNeg
        · rw [if_pos hr, nI_1]
          exact hkc hi2 _ rfl
        · rw [if_neg hr]
          exact ⟨0, rfl, Or.inl rfl⟩
      · rw [if_pos (nI_le (by omega) (by omega))]
        exact ⟨1, rfl, Or.inr rfl⟩
    · rw [if_neg h2]
      exact ⟨0, rfl, Or.inl rfl⟩
  · rw [if_neg h1]
    exact ⟨0, rfl, Or.inl rfl⟩
/-- .. and both, before a fault -/
theorem rd_isW {n a p t v : Nat} {c : Int64} {G H : GM} (h : rd_G n a p t G H) (hw : rd_wd v c) : ∃ b : Int32, f_X7_isWord v G = some (b, G) ∧ f_X10_is c H = some (b, H) ∧ (b = 0 ∨ (b = 1 ∧ t = 1 ∧ gJ H 186 11 = c)) := by
  obtain ⟨hT, hC, c9, m12, c10, m13⟩ := h
  obtain ⟨⟨c4, m7, c6, m9, c5, m8⟩, ⟨b1, b2, b3, b4⟩, -, hW⟩ := hC
  obtain ⟨w1, w2, w3⟩ := hw
  have h8 := hT.1
  unfold f_X7_isWord f_X10_is
  rw [m12, if_pos rfl, c5, m8]
  by_cases ht : t = 1
  · subst ht
    obtain ⟨hl, hJ⟩ := hW rfl
    rw [if_pos (show nI 1 = (1 : Int32) from rfl), if_pos (show nI 1 = (1 : Int32) from rfl), c4, c6, pk_sub b1, show Int32.ofNat (SLEN v) = nI (SLEN v) from rfl]
    have hd : ∀ j, j < a - p → 1 ≤ rd_Y H (p + j) - 96 ∧ rd_Y H (p + j) - 96 ≤ 26 := fun j hj => by have := hl j hj; omega
    have hlt := rd_w_lt (k := SLEN v) (fun j hj => (w2 j hj).2.2)
    have h27 : (27 : Nat) ^ SLEN v ≤ 27 ^ 12 := Nat.pow_le_pow_right (by omega) w1
    have h12 : (27 : Nat) ^ 12 < 2 ^ 62 := by decide
    -- the model's answer is whether the words are one
    have key : gJ H 186 11 = c ↔ (a - p = SLEN v ∧ ∀ j, j < a - p → rd_Y H (p + j) - 96 = (SCH v j).toInt.toNat - 96) := by
      rw [hJ, w3]
      unfold rd_W
      by_cases hle : a - p ≤ 12
      · have hlt2 := rd_w_lt (d := fun k => rd_Y H (p + k) - 96) (k := a - p) (fun j hj => (hd j hj).2)
        have h27' : (27 : Nat) ^ (a - p) ≤ 27 ^ 12 := Nat.pow_le_pow_right (by omega) hle
        rw [if_pos hle, pk_lEQ (by omega) (by omega)]
        refine ⟨fun he => rd_w_inj hd (fun j hj => (w2 j hj).2) he, fun he => ?_⟩
        rw [he.1]
        exact rd_w_congr (fun j hj => he.2 j (by omega))
      · rw [if_neg hle]
        refine ⟨fun he => ?_, fun he => by omega⟩
        have h1 := congrArg Int64.toInt he
        rw [pk_lT (by omega), show (-1 : Int64).toInt = -1 from by decide] at h1
        omega
    have hm : (if lg_cmp (gJ H 186 11) c = 0 then some ((1 : Int32), H) else some (0, H)) = if gJ H 186 11 = c then some ((1 : Int32), H) else some (0, H) := by
      by_cases hx : gJ H 186 11 = c
      · rw [if_pos hx, if_pos ((lg_eq0 _ _).mpr hx)]
      · rw [if_neg hx, if_neg (fun h => hx ((lg_eq0 _ _).mp h))]
    rw [hm]
    by_cases hlen : a - p = SLEN v
    · rw [if_pos (by rw [hlen])]
      refine wl1_up (P := fun o => ∃ b : Int32, o = some (b, G) ∧ (if gJ H 186 11 = c then some ((1 : Int32), H) else some (0, H)) = some (b, H) ∧ (b = 0 ∨ (b = 1 ∧ 1 = 1 ∧ gJ H 186 11 = c))) (I := fun i G' => G' = G ∧ ∀ j, j < i → rd_Y H (p + j) - 96 = (SCH v j).toInt.toNat - 96) (N := SLEN v) (by omega) ?_ (n := FU) (i := 0) (Nat.zero_le _) ⟨rfl, fun j hj => absurd hj (Nat.not_lt_zero _)⟩ (by unfold FU; omega)
      rintro kc i G' hi ⟨rfl, q⟩ hkc
      unfold lp_X7_isWord_28
      rw [show Int32.ofNat (SLEN v) = nI (SLEN v) from rfl]
      by_cases hi2 : i < SLEN v
      · obtain ⟨eb, hy⟩ := rd_byte hT (a := p + i) (by omega)
        have hli := hl i (by omega)
        have hwi := w2 i hi2
        rw [if_neg (nI_ge hi2 (by omega)), c6, nI_add, eb, ob_s, inb_n hi2 (by omega), gd_t, nI_clamp (by omega)]
        by_cases hr : rd_Y H (p + i) - 96 = (SCH v i).toInt.toNat - 96
        · rw [if_pos, nI_1]
          · refine hkc hi2 _ ⟨rfl, fun j hj => ?_⟩
            by_cases hji : j = i
            · rw [hji]; exact hr
            · exact q j (by omega)
          · rw [hwi.1]
            congr 1
            omega
        · rw [if_neg]
          · refine ⟨0, rfl, ?_, Or.inl rfl⟩
            rw [if_neg]
            rw [key]
            exact fun h => hr (h.2 i (by omega))
          · rw [hwi.1, nI_eq (by omega) (by omega)]
            omega
      · rw [if_pos (nI_le (by omega) (by omega))]
        have hk : gJ H 186 11 = c := key.mpr ⟨hlen, fun j hj => q j (by omega)⟩
        refine ⟨1, rfl, ?_, Or.inr ⟨rfl, rfl, hk⟩⟩
        rw [if_pos hk]
    · rw [if_neg (by rw [nI_eq (by omega) (by omega)]; exact hlen)]
      refine ⟨0, rfl, ?_, Or.inl rfl⟩
      rw [if_neg]
      rw [key]
      exact fun h => hlen h.1
  · rw [if_neg (show ¬ nI t = (1 : Int32) from fun h => ht ((nI_eq (b := 1) (by omega) (by omega)).mp h)), if_neg (show ¬ nI t = (1 : Int32) from fun h => ht ((nI_eq (b := 1) (by omega) (by omega)).mp h))]
    exact ⟨0, rfl, rfl, Or.inl rfl⟩
