/-! READING: the prize's line, the jackpot's line -/
theorem rd_prize {h n a p t ln : Nat} {G H : GM} (hh : h = 1 ∨ h = 23) (hG : rd_G n a p t G H) (hD : rd_D h ln G H) (eb : f_X7_isWord 5 G = some (1, G)) (em : f_X10_is (8864618 : Int64) H = some (1, H)) : ∃ G' H', f_X7_readPrize h G = some G' ∧ k_X10_line_28 (0 : Int32) H = some H' ∧ bh_F (rd_LC h) G G' ∧ bh_F rd_LN H H' ∧ rd_R h n a ln G' H' := by
  obtain ⟨-, -, -, -, -, -, w6, w7, w8, -⟩ := rd_wds
  obtain ⟨C, R, E, K, m, pu, bb, sd, z, sv, pr, hN, hDC, hDM⟩ := hD
  obtain ⟨G1, H1, a1, p1, t1, e1, -, m1, -, hG1, ha1, F1, K1⟩ := rd_tok1 hG eb em
  obtain ⟨b6, c6, d6, q6⟩ := rd_isW hG1 w6
  obtain ⟨b7, c7, d7, q7⟩ := rd_isW hG1 w7
  obtain ⟨b8, c8, d8, q8⟩ := rd_isW hG1 w8
  have m12 : gI H 186 12 = 0 := hG.2.2.2.1
  have key : (∃ kk, kk < 3 ∧ f_X7_readPrize h G = k_X7_readPrize_50 h (nI kk) G1 ∧ k_X10_line_28 (0 : Int32) H = k_X10_line_178 (nI kk) H1) ∨ (f_X7_readPrize h G = (ov (f_X7_fail (1 : Int32) G1) fun G47 => k_X7_readPrize_50 h (0 : Int32) G47) ∧ k_X10_line_28 (0 : Int32) H = k_X10_line_178 (-1 : Int32) H1) := by
    unfold f_X7_readPrize k_X10_line_28
    rw [e1, ov_s, m12, if_pos rfl, if_pos rfl, m1, ob_s, c6, ob_s, d8]
    rw [if_neg (show ¬ (1 : Int32) = 0 from by decide)]
    rcases q6 with rfl | ⟨rfl, -, j6⟩
    · rcases q7 with rfl | ⟨rfl, -, j7⟩
      · rcases q8 with rfl | ⟨rfl, -, j8⟩
        · refine Or.inr ⟨?_, ?_⟩
          · rw [if_pos rfl, c7, ob_s, if_pos rfl, c8, ob_s, if_pos rfl]
          · rw [ob_s, if_pos rfl, d6, ob_s, if_pos rfl, d7, ob_s, if_pos rfl]
        · refine Or.inl ⟨0, by omega, ?_, ?_⟩
          · rw [if_pos rfl, c7, ob_s, if_pos rfl, c8, ob_s, if_neg (by decide)]; rfl
          · rw [ob_s, if_neg (by decide)]; rfl
      · rcases q8 with rfl | ⟨rfl, -, j8⟩
        · refine Or.inl ⟨2, by omega, ?_, ?_⟩
          · rw [if_pos rfl, c7, ob_s, if_neg (by decide)]; rfl
          · rw [ob_s, if_pos rfl, d6, ob_s, if_pos rfl, d7, ob_s, if_neg (by decide)]; rfl
        · exact absurd (j7.symm.trans j8) (by decide)
    · rcases q8 with rfl | ⟨rfl, -, j8⟩
      · refine Or.inl ⟨1, by omega, ?_, ?_⟩
        · rw [if_neg (by decide)]; rfl
        · rw [ob_s, if_pos rfl, d6, ob_s, if_neg (by decide)]; rfl
      · exact absurd (j6.symm.trans j8) (by decide)
  rcases key with ⟨kk, hkk, k1, k2⟩ | ⟨k1, k2⟩
  · obtain ⟨G2, H2, a2, p2, t2, e2, m2, hG2, hap2, F2, K2⟩ := rdG_tok hG1
    obtain ⟨x, G3, H3, hx1, hx2, e3, m3, S3, F3, K3⟩ := rd_takeN (lo := 0) (hi := 9999) (a := a) (Or.inl ⟨a2, p2, t2, by have := hG2.2.1.2.1.1; omega, hG2⟩) (by omega) (by omega)
    have FA : bh_F (fun a q => a = h + 9 ∧ q = kk) G3 (sI G3 (h + 9) kk (nI x)) := bh_FI (bh_Fr _ _) ⟨rfl, rfl⟩
    have KA : bh_F (fun a q => a = 195 ∧ q = 12 + kk) H3 (sI H3 195 (12 + kk) (nI x)) := bh_FI (bh_Fr _ _) ⟨rfl, rfl⟩
    have SA : rd_S n a (sI G3 (h + 9) kk (nI x)) (sI H3 195 (12 + kk) (nI x)) := rd_S_F S3 FA (fun x q h => by unfold rd_KC at h; omega) KA (fun x q h => by unfold rd_KM at h; omega)
    have hC2 := rd_DC_B hh hN.2.1 hDC (bh_Ft (bh_Ft F1 F2) F3)
    have hM2 := rd_DM_N hN.2.1 hN.1.2.2.2.1.2 hDM (bh_Ft (bh_Ft K1 K2) K3)
    refine ⟨sI G3 (h + 9) kk (nI x), sI H3 195 (12 + kk) (nI x), ?_, ?_, bh_FI (bh_Fm (bh_Ft (bh_Ft F1 F2) F3) rd_FB_L) (Or.inr (Or.inr (by omega))), bh_FI (bh_Fm (bh_Ft (bh_Ft K1 K2) K3) rd_FN_L) (Or.inr (Or.inr (by unfold bh_PM; omega))), ?_⟩
    · rw [k1]
      unfold k_X7_readPrize_50
      rw [e2, ov_s]
      rw [show f_X7_takeNumber (0 : Int32) (9999 : Int32) G2 = some (nI x, G3) from e3, ob_s, inb_n hkk (by omega), gd_t, nI_clamp (by omega), lt_r]
    · rw [k2]
      unfold k_X10_line_178 k_X10_line_189
      rw [if_neg (rd_m1 (by omega)), hG1.2.2.2.1, if_pos rfl, m2, ov_s]
      rw [show f_X10_number (0 : Int32) (9999 : Int32) H2 = some (nI x, H3) from m3, ob_s, show (12 : Int32) = nI 12 from rfl, nI_add, inb_n (by omega) (by omega), gd_t, nI_clamp (by omega), lt_r]
    · rcases SA with ⟨a', p', t', ha', hG'⟩ | hX
      · refine Or.inr ⟨a', p', t', ha', hG', C, R, E, K, m, pu, bb, sd, z, sv, fun j => if j = kk then x else pr j, ⟨hN.1, hN.2.1, hN.2.2.1, hN.2.2.2.1, fun k hk => ?_, hN.2.2.2.2.2.1, hN.2.2.2.2.2.2⟩, ?_, ?_⟩
        · by_cases hkj : k = kk
          · simp only [if_pos hkj]; exact hx2
          · simp only [if_neg hkj]; exact hN.2.2.2.2.1 k hk
        · obtain ⟨⟨a1, a2, a3, a4, a5⟩, b, c, d⟩ := hC2
          refine ⟨⟨?_, ?_, ?_, ?_, ?_⟩, bh_FO_F b FA (fun a q h1 h2 => by omega), fun i hi => ?_, fun i hi => ⟨?_, bh_SC_F (d i hi).2 FA (fun q => by have := hN.2.1; omega)⟩⟩
          · rw [FA.1 _ _ (by omega)]; exact a1
          · rw [FA.1 _ _ (by omega)]; exact a2
          · rw [FA.1 _ _ (by omega)]; exact a3
          · rw [FA.1 _ _ (by omega)]; exact a4
          · rw [FA.1 _ _ (by omega)]; exact a5
          · show gI _ (h + 9) i = nI (if i = kk then x else pr i)
            by_cases hij : i = kk
            · rw [hij, gI_sIs, if_pos rfl]
            · rw [FA.1 _ _ (by omega), if_neg hij]; exact c i hi
          · rw [FA.1 _ _ (by omega)]; exact (d i hi).1
        · obtain ⟨⟨a1, a2, a3, a4, a5⟩, b, c, d⟩ := hM2
          refine ⟨⟨?_, ?_, ?_, ?_, ?_⟩, bh_MO_F b KA (fun q h1 h2 => by omega) (fun q h1 h2 => by omega) hN.1.2.2.2.1.2, fun i hi => ?_, fun i hi => ?_⟩
          · rw [KA.1 _ _ (by omega)]; exact a1
          · rw [KA.1 _ _ (by omega)]; exact a2
          · rw [KA.1 _ _ (by omega)]; exact a3
          · rw [KA.1 _ _ (by omega)]; exact a4
          · rw [KA.1 _ _ (by omega)]; exact a5
          · show gI _ 195 (12 + i) = nI (if i = kk then x else pr i)
            by_cases hij : i = kk
            · rw [hij, gI_sIs, if_pos rfl]
            · rw [KA.1 _ _ (by omega), if_neg hij]; exact c i hi
          · rw [KA.1 _ _ (by omega)]; exact d i hi
      · exact Or.inl hX
  · obtain ⟨G2, H2, e2, m2, hX, F2, K2⟩ := rd_fail hG1 (k := 1) (by decide)
    obtain ⟨f1, s1, hB, x1, x2⟩ := id hX
    obtain ⟨G3, e3, hB3, F3⟩ := rdB_tok hB
    obtain ⟨G4, e4, hB4, F4⟩ := rdB_num hB3 (0 : Int32) (9999 : Int32)
    have FA : bh_F (fun a q => a = h + 9 ∧ q = 0) G4 (sI G4 (h + 9) 0 0) := bh_FI (bh_Fr _ _) ⟨rfl, rfl⟩
    refine ⟨sI G4 (h + 9) 0 0, H2, ?_, ?_, bh_FI (bh_Fm (bh_Ft (bh_Ft (bh_Ft F1 F2) F3) F4) rd_FB_L) (Or.inr (Or.inr (by omega))), bh_Fm (bh_Ft K1 K2) rd_FN_L, Or.inl ⟨f1, s1, rd_B_F hB4 FA (fun a q h => by omega), x1, x2⟩⟩
    · rw [k1, e2, ov_s]
      unfold k_X7_readPrize_50
      rw [e3, ov_s, e4, ob_s, show inb (0 : Int32) 3 = true from by decide, gd_t, lt_r]
      rfl
    · rw [k2]
      unfold k_X10_line_178 k_X10_line_189
      rw [if_pos rfl, m2, ov_s, x1, if_neg hB.1.2]
theorem rd_jack {h n a p t ln : Nat} {G H : GM} (hh : h = 1 ∨ h = 23) (hG : rd_G n a p t G H) (hD : rd_D h ln G H) (eb : f_X7_isWord 9 G = some (1, G)) (em : f_X10_is (3890376722 : Int64) H = some (1, H)) (em0 : f_X10_is (8864618 : Int64) H = some (0, H)) : ∃ G' H', f_X7_readJackpot h G = some G' ∧ k_X10_line_28 (0 : Int32) H = some H' ∧ bh_F (rd_LC h) G G' ∧ bh_F rd_LN H H' ∧ rd_R h n a ln G' H' := by
  obtain ⟨-, -, -, -, -, -, -, -, -, -, w10, -⟩ := rd_wds
  obtain ⟨C, R, E, K, m, pu, bb, sd, z, sv, pr, hN, hDC, hDM⟩ := hD
  have hV := hN.1
  have h45 := bh_N45 hV
  have hpos : 1 ≤ C * R * E := Nat.mul_pos (Nat.mul_pos hV.1.1 hV.2.1.1) hV.2.2.1.1
  obtain ⟨G1, H1, a1, p1, t1, e1, -, m1, -, hG1, ha1, F1, K1⟩ := rd_tok1 hG eb em
  have m12 : gI H 186 12 = 0 := hG.2.2.2.1
  obtain ⟨x, G2, H2, hx1, hx2, e2, m2, S2, F2, K2⟩ := rd_takeN (lo := 0) (hi := 9999) (a := a) (Or.inl ⟨a1, p1, t1, ha1, hG1⟩) (by omega) (by omega)
  have FA : bh_F (fun a q => a = h ∧ q = 3) G2 (sI G2 h 3 (nI x)) := bh_FI (bh_Fr _ _) ⟨rfl, rfl⟩
  have SA : rd_S n a (sI G2 h 3 (nI x)) H2 := rd_S_F S2 FA (fun x q h => by unfold rd_KC at h; omega) (bh_Fr (fun _ _ => False) _) (fun x q _ h => h)
  obtain ⟨G3, H3, e3, m3, S3, F3, K3⟩ := rd_takeW SA w10
  have hC2 := rd_DC_B hh hN.2.1 hDC (bh_Ft F1 F2)
  have hM2 := rd_DM_N hN.2.1 hV.2.2.2.1.2 hDM (bh_Ft K1 K2)
  have hM3 := rd_DM_N hN.2.1 hV.2.2.2.1.2 hM2 K3
  have h6 : gI G3 (h + 1) 6 = nI (C * R * E) := by
    rw [F3.1 _ _ (by unfold rd_FB; omega), FA.1 _ _ (by omega), hC2.2.1.2.1.1, hV.2.2.2.2.2.2.1]
  obtain ⟨y, G4, H4, hy1, hy2, e4, m4, S4, F4, K4⟩ := rd_takeN (lo := 1) (hi := C * R * E) S3 (by omega) hpos
  have hM4 := rd_DM_N hN.2.1 hV.2.2.2.1.2 hM3 K4
  have FB : bh_F (fun a q => a = h ∧ q = 4) G4 (sI G4 h 4 (nI y)) := bh_FI (bh_Fr _ _) ⟨rfl, rfl⟩
  have KB : bh_F (fun a q => a = 193 ∧ 37 ≤ q ∧ q ≤ 38) H4 (sI (sI H4 193 37 (nI x)) 193 38 (nI y)) := bh_FI (bh_FI (bh_Fr _ _) (by omega)) (by omega)
  have SB : rd_S n a (sI G4 h 4 (nI y)) (sI (sI H4 193 37 (nI x)) 193 38 (nI y)) := rd_S_F S4 FB (fun x q h => by unfold rd_KC at h; omega) KB (fun x q h => by unfold rd_KM at h; omega)
  have FT : bh_F (fun a q => rd_FB a q ∨ (a = h ∧ 3 ≤ q ∧ q ≤ 4)) G (sI G4 h 4 (nI y)) := bh_FI (bh_Ft (bh_Ft (bh_FI (bh_Fm (bh_Ft F1 F2) (fun a q h => Or.inl h)) (Or.inr (by omega))) (bh_Fm F3 (fun a q h => Or.inl h))) (bh_Fm F4 (fun a q h => Or.inl h))) (Or.inr (by omega))
  refine ⟨sI G4 h 4 (nI y), sI (sI H4 193 37 (nI x)) 193 38 (nI y), ?_, ?_, bh_Fm FT (fun a q hq => hq.elim (rd_FB_L a q) (fun hq => Or.inr (Or.inr (by omega)))), bh_Ft (bh_Fm (bh_Ft (bh_Ft (bh_Ft K1 K2) K3) K4) rd_FN_L) (bh_Fm KB (fun a q hq => Or.inr (Or.inr (by unfold bh_PM; omega)))), ?_⟩
  · unfold f_X7_readJackpot
    rw [e1, ov_s]
    rw [show f_X7_takeNumber (0 : Int32) (9999 : Int32) G1 = some (nI x, G2) from e2, ob_s, lt_r, e3, ov_s, h6]
    rw [show f_X7_takeNumber (1 : Int32) (nI (C * R * E)) G3 = some (nI y, G4) from e4, ob_s, lt_r]
  · unfold k_X10_line_28 f_X10_number_
    rw [m12, if_pos rfl, if_pos rfl, rd_takes0 em0, ob_s, if_pos rfl, m1, ob_s, if_neg (by decide)]
    rw [show f_X10_number (0 : Int32) (9999 : Int32) H1 = some (nI x, H2) from m2, ob_s]
    rw [show f_X10_numbersOf (4 : Int32) H2 = some (nI (C * R * E), H2) from bh_numOf (w := 4) hM2.2.1 (by omega), ob_s, m3, ov_s]
    rw [show f_X10_number (1 : Int32) (nI (C * R * E)) H3 = some (nI y, H4) from m4, ob_s, ob_s, show inb (37 : Int32) 48 = true from by decide, show inb (38 : Int32) 48 = true from by decide, gd_t, lt_r, gd_t, lt_r]
    rfl
  · rcases SB with ⟨a', p', t', ha', hG'⟩ | hX
    · refine Or.inr ⟨a', p', t', ha', hG', C, R, E, K, m, x, y, sd, z, sv, pr, ⟨hV, hN.2.1, hx2, by omega, hN.2.2.2.2.1, hN.2.2.2.2.2.1, hN.2.2.2.2.2.2⟩, ?_, ?_⟩
      · obtain ⟨⟨a1, a2, a3, a4, a5⟩, b, c, d⟩ := hDC
        refine ⟨⟨?_, ?_, gI_sIs _ _ _ _, ?_, ?_⟩, bh_FO_F b FT (fun a q h1 h2 => by unfold rd_FB; omega), fun i hi => ?_, fun i hi => ⟨?_, bh_SC_F (d i hi).2 FT (fun q => by have := hN.2.1; unfold rd_FB; omega)⟩⟩
        · rw [FT.1 _ _ (by unfold rd_FB; omega)]; exact a1
        · rw [FB.1 _ _ (by omega), F4.1 _ _ (by unfold rd_FB; omega), F3.1 _ _ (by unfold rd_FB; omega), gI_sIs]
        · rw [FT.1 _ _ (by unfold rd_FB; omega)]; exact a4
        · rw [FT.1 _ _ (by unfold rd_FB; omega)]; exact a5
        · rw [FT.1 _ _ (by unfold rd_FB; omega)]; exact c i hi
        · rw [FT.1 _ _ (by unfold rd_FB; omega)]; exact (d i hi).1
      · obtain ⟨⟨a1, a2, a3, a4, a5⟩, b, c, d⟩ := hM4
        refine ⟨⟨?_, ?_, ?_, gI_sIs _ _ _ _, ?_⟩, bh_MO_F b KB (fun q h1 h2 => by omega) (fun q h1 h2 => by omega) hV.2.2.2.1.2, fun i hi => ?_, fun i hi => ?_⟩
        · rw [KB.1 _ _ (by omega)]; exact a1
        · rw [KB.1 _ _ (by omega)]; exact a2
        · rw [gI_sIk (by decide), gI_sIs]
        · rw [KB.1 _ _ (by omega)]; exact a5
        · rw [KB.1 _ _ (by omega)]; exact c i hi
        · rw [KB.1 _ _ (by omega)]; exact d i hi
    · exact Or.inl hX
