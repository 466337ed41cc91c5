/-! READING: the sold line -/
theorem rd_isNT (v1 v2 : Int32) (G : GM) : ∃ b, f_X7_isNumberOf v1 v2 G = some (b, G) := by
  unfold f_X7_isNumberOf
  by_cases c1 : gI G 53 5 = 2
  · rw [if_pos c1]
    by_cases c2 : gI G 53 7 < v1
    · exact ⟨_, by rw [if_pos c2]⟩
    · rw [if_neg c2]
      by_cases c3 : v2 < gI G 53 7
      · exact ⟨_, by rw [if_pos c3]⟩
      · exact ⟨_, by rw [if_neg c3]⟩
  · exact ⟨_, by rw [if_neg c1]⟩
theorem rdB_73 {f s : Int32} {n : Nat} {G : GM} (h : rd_B f s n G) (v : Nat) : ∃ G', k_X7_readSold_73 v G = some G' ∧ rd_B f s n G' ∧ bh_F rd_FB G G' := by
  obtain ⟨G', e, hB, F⟩ := rdB_num h (0 : Int32) (9999 : Int32)
  refine ⟨G', ?_, hB, F⟩
  unfold k_X7_readSold_73
  rw [e, ob_s, hB.1.1, if_neg hB.1.2]
theorem rdB_14 {f s : Int32} {n : Nat} {G : GM} (h : rd_B f s n G) (v : Nat) : ∃ G', k_X7_readSold_14 v G = some G' ∧ rd_B f s n G' ∧ bh_F rd_FB G G' := by
  obtain ⟨-, -, -, -, -, -, -, -, -, -, -, w11, -⟩ := rd_wds
  obtain ⟨G1, e1, hB1, F1⟩ := rdB_word (v := 11) h w11.1
  obtain ⟨b, eb⟩ := rd_isNT (0 : Int32) (9999 : Int32) G1
  obtain ⟨G2, e2, hB2, F2⟩ := rdB_73 hB1 v
  refine ⟨G2, ?_, hB2, bh_Ft F1 F2⟩
  unfold k_X7_readSold_14
  rw [e1, ov_s, eb, ob_s]
  by_cases hb : b = 0
  · rw [if_pos hb, e2]
  · rw [if_neg hb, hB1.1.1, if_neg hB1.1.2, e2]
theorem rd_of4 (H : GM) : f_X10_of (4 : Int32) (4 : Int32) H = some (gI H 193 36, H) := bh_of (w := 4) (j := 4) (by omega) (by omega) H
theorem rdX_79 {n : Nat} {G H : GM} (h : rd_X n G H) : k_X10_line_79 H = some H := by
  unfold k_X10_line_79
  rw [rdX_num h, ob_s]
  obtain ⟨f, s, hB, h1, -⟩ := h
  rw [h1, if_neg hB.1.2]
theorem rd_sold {h n a p t ln : Nat} {G H : GM} (hh : h = 1 ∨ h = 23) (hG : rd_G n a p t G H) (hD : rd_D h ln G H) (eb : f_X7_isWord 11 G = some (1, G)) (em : f_X10_is (385240 : Int64) H = some (1, H)) : ∃ G' H', f_X7_readSold h G = some G' ∧ f_X10_line H = some H' ∧ bh_F (rd_LC h) G G' ∧ bh_F rd_LN H H' ∧ rd_R h n a ln G' H' := by
  obtain ⟨C, R, E, K, m, pu, bb, sd, z, sv, pr, hN, hDC, hDM⟩ := hD
  have hV := hN.1
  have hm := hN.2.1
  have hK := hV.2.2.2.1.2
  have m12 : gI H 186 12 = 0 := hG.2.2.2.1
  by_cases hm8 : m = 8
  · subst hm8
    obtain ⟨G1, H1, e1, m1, hX, F1, K1⟩ := rd_fail hG (k := 3) (by decide)
    obtain ⟨f1, s1, hB, x1, x2⟩ := id hX
    obtain ⟨G2, e2, hB2, F2⟩ := rdB_14 hB h
    refine ⟨G2, H1, ?_, ?_, bh_Fm (bh_Ft F1 F2) rd_FB_L, bh_Fm K1 rd_FN_L, Or.inl ⟨f1, s1, hB2, x1, x2⟩⟩
    · unfold f_X7_readSold
      rw [hDC.1.2.2.2.1, if_neg (by decide), e1, ov_s, e2]
    · unfold f_X10_line
      rw [em, ob_s, if_neg (by decide), rd_of4, ob_s, hDM.1.2.1, if_pos (show nI 8 = (8 : Int32) from rfl), m1, ov_s]
      unfold k_X10_line_28
      rw [x1, if_neg hB.1.2]
  have hm' : m < 8 := by omega
  obtain ⟨G1, H1, a1, p1, t1, e1, m1, -, -, hG1, ha1, F1, K1⟩ := rd_tok1 hG eb em
  have hC1 := rd_DC_B hh hm hDC F1
  have hM1 := rd_DM_N hm hK hDM K1
  have b3 := hG1.2.1.2.1.2.2.1
  have n8 : gI H1 186 8 = nI t1 := hG1.2.1.1.2.2.2.2.2
  have uc : f_X7_readSold h G = ob (f_X7_isNumberOf (0 : Int32) (9999 : Int32) G1) fun r25 G25 => if r25 = 0 then (k_X7_readSold_73 h G25) else (if (gI G25 53 9) = 0 then (ov (f_X2_deal 55 (h + 1) (gI G25 53 7) 61 G25) fun G54 => ob (f_X5_hasSold h 61 G54) fun r62 G62 => if r62 = 0 then (k_X7_readSold_73 h G62) else (ov (f_X7_fail (2 : Int32) G62) fun G70 => k_X7_readSold_73 h G70)) else (k_X7_readSold_73 h G25)) := by
    unfold f_X7_readSold k_X7_readSold_14
    rw [hDC.1.2.2.2.1, if_pos (show nI m < (8 : Int32) from nI_lt (b := 8) hm' (by omega)), e1, ov_s]
  have um : f_X10_line H = if nI t1 = (2 : Int32) then (if (9999 : Int32) < (gI H1 186 10) then (k_X10_line_79 H1) else (ob (f_X10_isSoldIn (4 : Int32) (gI H1 186 10) H1) fun r68 G68 => if r68 = 0 then (k_X10_line_79 G68) else (ov (f_X10_fails (2 : Int32) G68) fun G76 => k_X10_line_79 G76))) else (k_X10_line_79 H1) := by
    unfold f_X10_line
    rw [em, ob_s, if_neg (by decide), rd_of4, ob_s, hDM.1.2.1, if_neg (show ¬ nI m = (8 : Int32) from fun h => by have := (nI_eq (b := 8) (by omega) (by omega)).mp h; omega)]
    unfold k_X10_line_28
    rw [m12, if_pos rfl, if_neg (by decide), m1, ov_s, n8]
  rw [uc, um]
  rcases rd_takeNG (lo := 0) (hi := 9999) hG1 (by omega) (by omega) with ⟨v, -, -, -, -, -, rfl, -, hv2, h7, h10, hi1, -⟩ | ⟨hi0, hout, G2, H2, e2, m2, hX, F2, K2⟩
  rotate_left
  · obtain ⟨f1, s1, hB, x1, x2⟩ := id hX
    have h79 : k_X10_line_79 H1 = some H2 := by
      unfold k_X10_line_79
      rw [show f_X10_number (0 : Int32) (9999 : Int32) H1 = some (0, H2) from m2, ob_s, x1, if_neg hB.1.2]
    refine ⟨G2, H2, ?_, ?_, bh_Fm (bh_Ft F1 F2) rd_FB_L, bh_Fm (bh_Ft K1 K2) rd_FN_L, Or.inl hX⟩
    · rw [show f_X7_isNumberOf (0 : Int32) (9999 : Int32) G1 = some (0, G1) from hi0, ob_s, if_pos rfl]
      unfold k_X7_readSold_73
      rw [show f_X7_takeNumber (0 : Int32) (9999 : Int32) G1 = some (nI 0, G2) from e2, ob_s, hB.1.1, if_neg hB.1.2]
    · by_cases ht : t1 = 2
      · obtain ⟨v, v1, v2, v3⟩ := hG1.2.1.2.2.1 ht
        have := hout ht v v2 (by omega)
        rw [ht, if_pos (show nI 2 = (2 : Int32) from rfl), v2, if_pos (show (9999 : Int32) < nI v from nI_lt (a := 9999) (by omega) (by omega)), h79]
      · rw [if_neg (show ¬ nI t1 = (2 : Int32) from fun h => ht ((nI_eq (b := 2) (by omega) (by omega)).mp h)), h79]
  · rw [show f_X7_isNumberOf (0 : Int32) (9999 : Int32) G1 = some (1, G1) from hi1, ob_s, if_neg (by decide), hG1.2.2.1, if_pos rfl, h7, if_pos (show nI 2 = (2 : Int32) from rfl), h10, if_neg (show ¬ (9999 : Int32) < nI v from nI_nlt (a := 9999) hv2 (by omega))]
    obtain ⟨G2, e2, p2, F2⟩ := bh_deal (G := G1) (d := 55) (f := h + 1) (t := 61) (s := v) hV hC1.2.1 (by omega) (by decide +kernel) (by decide +kernel) (by decide +kernel) (by decide +kernel) (by decide +kernel) (by omega) (by omega) (by omega)
    have F2' : bh_F (fun a _ => 55 ≤ a ∧ a ≤ 61) G1 G2 := bh_Fm F2 (fun a q h => by omega)
    have hC2 := rd_DC_F hm hC1 F2' (fun a q h1 h2 => by omega)
    obtain ⟨b, ehs, b1, b0⟩ := c_hasSold hV hm hC2.1.2.2.2.1 (fun i hi => (hC2.2.2.2 i hi).2) p2 (c_LN hh).2.2 (by decide +kernel)
    obtain ⟨H2, b', m2, b1', b0', K2⟩ := m_isSold (G := H1) (w := 4) (s := v) hV hM1.2.1 (by omega) hm hM1.1.2.1 (fun i hi => ⟨hM1.2.2.2 i hi, by have := hN.2.2.2.2.2.1 i hi; omega⟩) (by omega)
    have K2' : bh_F rd_LN H1 H2 := bh_Fm K2 (fun a q h => by unfold bh_WMk at h; unfold rd_LN; omega)
    have hM2 := rd_DM_F hm hK hM1 K2 (fun a q h1 h2 => by unfold bh_WMk at h2; unfold bh_PM at h1; omega)
    have hG2 : rd_G n a1 p1 2 G2 H2 := rd_G_F hG1 F2' (fun x q h1 h2 => by unfold rd_KC at h1; omega) K2 (fun x q h1 h2 => by unfold rd_KM at h1; unfold bh_WMk at h2; omega)
    rw [e2, ov_s, ehs, ob_s, show f_X10_isSoldIn (4 : Int32) (nI v) H1 = some (b', H2) from m2, ob_s]
    by_cases hso : ∃ i, i < m ∧ bh_sam C R E K z (sv i) v
    · rw [b1 hso, b1' hso, if_neg (by decide), if_neg (by decide)]
      obtain ⟨G3, H3, e3, m3, hX, F3, K3⟩ := rd_fail hG2 (k := 2) (by decide)
      obtain ⟨f1, s1, hB, x1, x2⟩ := id hX
      obtain ⟨G4, e4, hB4, F4⟩ := rdB_73 hB h
      refine ⟨G4, H3, ?_, ?_, bh_Ft (bh_Ft (bh_Fm F1 rd_FB_L) (bh_Fm F2' (fun a q h => Or.inr (Or.inl h)))) (bh_Fm (bh_Ft F3 F4) rd_FB_L), bh_Ft (bh_Ft (bh_Fm K1 rd_FN_L) K2') (bh_Fm K3 rd_FN_L), Or.inl ⟨f1, s1, hB4, x1, x2⟩⟩
      · rw [e3, ov_s, e4]
      · rw [m3, ov_s, rdX_79 hX]
    · rw [b0 hso, b0' hso, if_pos rfl, if_pos rfl]
      clear b1 b0 b1' b0' hso ehs m2
      have h10' : gI H2 186 10 = nI v := by rw [K2.1 _ _ (by unfold bh_WMk; omega)]; exact h10
      rcases rd_takeNG (lo := 0) (hi := 9999) hG2 (by omega) (by omega) with ⟨v', G3, H3, a3, p3, t3, -, -, hv2', h7', h10'', -, e3, m3, hG3, ha3, F3, K3⟩ | ⟨-, hout, -⟩
      · have hvv : v' = v := by
          have := h10''.symm.trans h10'
          rw [nI_eq (by omega) (by omega)] at this
          exact this
        subst hvv
        have hC3 := rd_DC_B hh hm hC2 F3
        have hM3 := rd_DM_N hm hK hM2 K3
        have p3' := bh_SC_F p2 F3 (fun q => by unfold rd_FB; omega)
        obtain ⟨G4, e4, q1, q2, q3, F4⟩ := c_addSold (G := G3) (h := h) (s := v') (t := 61) hC3.1.2.2.2.1 hm' (by decide +kernel) (by omega) (by omega)
        have KA : bh_F (fun a q => (a = 193 ∧ q = 36) ∨ (a = 196 ∧ q = 32 + m)) H3 (sI (sI H3 196 (32 + m) (nI v')) 193 36 (nI (m + 1))) := bh_FI (bh_FI (bh_Fr _ _) (by omega)) (by omega)
        refine ⟨G4, sI (sI H3 196 (32 + m) (nI v')) 193 36 (nI (m + 1)), ?_, ?_, ?_, ?_, Or.inr ⟨a3, p3, t3, by omega, ?_, C, R, E, K, m + 1, pu, bb, sd, z, bh_svU sv m v', pr, ⟨hV, by omega, hN.2.2.1, hN.2.2.2.1, hN.2.2.2.2.1, fun i hi => ?_, hN.2.2.2.2.2.2⟩, ?_, ?_⟩⟩
        · unfold k_X7_readSold_73
          rw [show f_X7_takeNumber (0 : Int32) (9999 : Int32) G2 = some (nI v', G3) from e3, ob_s, hG3.2.2.1, if_pos rfl, e4, ov_s]
        · unfold k_X10_line_79
          rw [show f_X10_number (0 : Int32) (9999 : Int32) H2 = some (nI v', H3) from m3, ob_s, hG3.2.2.2.1, if_pos rfl, rd_of4, ob_s, hM3.1.2.1, show (32 : Int32) = nI 32 from rfl, nI_add, inb_n (by omega) (by omega), gd_t, nI_clamp (by omega), lt_r, show inb (36 : Int32) 48 = true from by decide, gd_t, gd_t, show (36 : Int32).toNatClampNeg = 36 from by decide, gI_sIa (by decide), hM3.1.2.1, nI_1, lt_r]
        · exact bh_Ft (bh_Ft (bh_Ft (bh_Fm F1 rd_FB_L) (bh_Fm F2' (fun a q h => Or.inr (Or.inl h)))) (bh_Fm F3 rd_FB_L)) (bh_Fm F4 (fun a q h => Or.inr (Or.inr (by omega))))
        · exact bh_Ft (bh_Ft (bh_Ft (bh_Fm K1 rd_FN_L) K2') (bh_Fm K3 rd_FN_L)) (bh_Fm KA (fun a q h => Or.inr (Or.inr (by unfold bh_PM; omega))))
        · exact rd_G_F hG3 F4 (fun x q h1 h2 => by unfold rd_KC at h1; omega) KA (fun x q h1 h2 => by unfold rd_KM at h1; omega)
        · unfold bh_svU
          by_cases him : i = m
          · rw [if_pos him]; omega
          · rw [if_neg him]; exact hN.2.2.2.2.2.1 i (by omega)
        · obtain ⟨⟨c1, c2, c3, c4, c5⟩, b, c, d⟩ := hC3
          refine ⟨⟨?_, ?_, ?_, q1, ?_⟩, bh_FO_F b F4 (fun a q h1 h2 => by omega), fun i hi => ?_, fun i hi => ?_⟩
          · rw [F4.1 _ _ (by omega)]; exact c1
          · rw [F4.1 _ _ (by omega)]; exact c2
          · rw [F4.1 _ _ (by omega)]; exact c3
          · rw [F4.1 _ _ (by omega)]; exact c5
          · rw [F4.1 _ _ (by omega)]; exact c i hi
          · unfold bh_svU
            by_cases him : i = m
            · subst him
              rw [if_pos rfl]
              exact ⟨q2, bh_SC_of hV p3' q3⟩
            · rw [if_neg him, F4.1 _ _ (by omega)]
              exact ⟨(d i (by omega)).1, bh_SC_F (d i (by omega)).2 F4 (fun q h => by omega)⟩
        · obtain ⟨⟨c1, c2, c3, c4, c5⟩, b, c, d⟩ := hM3
          refine ⟨⟨?_, gI_sIs _ _ _ _, ?_, ?_, ?_⟩, bh_MO_F b KA (fun q h1 h2 => by omega) (fun q h1 h2 => by omega) hK, fun i hi => ?_, fun i hi => ?_⟩
          · rw [KA.1 _ _ (by omega)]; exact c1
          · rw [KA.1 _ _ (by omega)]; exact c3
          · rw [KA.1 _ _ (by omega)]; exact c4
          · rw [KA.1 _ _ (by omega)]; exact c5
          · rw [KA.1 _ _ (by omega)]; exact c i hi
          · unfold bh_svU
            by_cases him : i = m
            · subst him
              rw [if_pos rfl, gI_sIa (by decide), gI_sIs]
            · rw [if_neg him, KA.1 _ _ (by omega)]; exact d i (by omega)
      · exact absurd ⟨Nat.zero_le _, hv2⟩ (hout rfl v h10' (by omega))
