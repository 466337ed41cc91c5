/-! READING: whole lines -/
/-- a line's content read; what the data say, if the line may end here -/
def rd_Q (h n a ln : Nat) (G H : GM) : Prop := rd_X n G H ∨ ∃ a' p' t', a ≤ a' ∧ rd_G n a' p' t' G H ∧ (t' = 3 → rd_D h ln G H)
theorem rd_RQ {h n a ln : Nat} {G H : GM} (hR : rd_R h n a ln G H) : rd_Q h n a ln G H := by
  rcases hR with hX | ⟨a', p', t', h1, h2, h3⟩
  · exact Or.inl hX
  · exact Or.inr ⟨a', p', t', h1, h2, fun _ => h3⟩
theorem rd_PM4 : bh_PM 4 192 4 := Or.inl ⟨rfl, rfl⟩
theorem rd_endL {h n a ln : Nat} {G H : GM} (hh : h = 1 ∨ h = 23) (hR : rd_Q h n a ln G H) : ∃ G' H', k_X7_readLine_117 h G = some G' ∧ (∀ kc, k_X10_hall_47 kc H = kc H') ∧ bh_F (rd_LC h) G G' ∧ bh_F rd_LN H H' ∧ (rd_X n G' H' ∨ ∃ a' p' t', a ≤ p' ∧ rd_G n a' p' t' G' H' ∧ rd_D h (ln + 1) G' H') := by
  have i46 : inb (4 : Int32) 6 = true := by decide
  have c4 : (4 : Int32).toNatClampNeg = 4 := by decide
  have u58 : ∀ (kc : GM → Option (Int32 × GM)) (H1 : GM), k_X10_hall_58 kc H1 = kc (sI H1 192 4 (gI H1 192 4 + 1)) := fun kc H1 => by
    unfold k_X10_hall_58
    rw [i46, gd_t, gd_t, c4, lt_r]
  have Fc : ∀ G1 : GM, bh_F (fun a q => a = h ∧ q = 1) G1 (sI G1 h 1 (gI G1 h 1 + 1)) := fun G1 => bh_FI (bh_Fr _ _) ⟨rfl, rfl⟩
  have Fm : ∀ H1 : GM, bh_F (fun a q => a = 192 ∧ q = 4) H1 (sI H1 192 4 (gI H1 192 4 + 1)) := fun H1 => bh_FI (bh_Fr _ _) ⟨rfl, rfl⟩
  have up1 : ∀ {G G1 : GM}, bh_F rd_FB G G1 → bh_F (rd_LC h) G (sI G1 h 1 (gI G1 h 1 + 1)) := fun F => bh_FI (bh_Fm F rd_FB_L) (Or.inr (Or.inr (by omega)))
  have up2 : ∀ {H H1 : GM}, bh_F rd_FN H H1 → bh_F rd_LN H (sI H1 192 4 (gI H1 192 4 + 1)) := fun F => bh_FI (bh_Fm F rd_FN_L) (Or.inr (Or.inr rd_PM4))
  have upX : ∀ {G1 H1 : GM}, rd_X n G1 H1 → rd_X n (sI G1 h 1 (gI G1 h 1 + 1)) (sI H1 192 4 (gI H1 192 4 + 1)) := fun {G1 H1} hX => rd_X_F hX (Fc G1) (fun x q h => by unfold rd_KC at h; omega) (Fm H1) (fun x q h => by unfold rd_KM at h; omega)
  unfold k_X7_readLine_117 f_X7_takeSign k_X7_takeSign_13 k_X10_hall_47
  rcases hR with hX | ⟨a1, p1, t1, ha1, hG, hD⟩
  · obtain ⟨f1, s1, hB, x1, x2⟩ := id hX
    obtain ⟨G1, e1, hB1, F1⟩ := rdB_tok hB
    refine ⟨_, _, ?_, fun kc => ?_, up1 F1, up2 (bh_Fr _ H), Or.inl (upX ⟨f1, s1, hB1, x1, x2⟩)⟩
    · rw [rdB_fail hB, ov_s, e1, ov_s]
      by_cases h3 : gI G 53 5 = 3
      · rw [if_pos h3, ov_s, lt_r]
      · rw [if_neg h3, ov_s, lt_r]
    · rw [rd_nogood hX, ob_s, if_pos rfl, u58]
  · have c5 := hG.2.1.1.2.2.2.2.1
    have m8 := hG.2.1.1.2.2.2.2.2
    have b3 := hG.2.1.2.1.2.2.1
    have m12 := hG.2.2.2.1
    rw [c5]
    by_cases ht : t1 = 3
    · subst ht
      obtain ⟨C, R, E, K, m, pu, bb, sd, z, sv, pr, hN, hDC, hDM⟩ := hD rfl
      obtain ⟨G1, H1, a2, p2, t2, e1, m1, hG1, hap, F1, K1⟩ := rdG_tok hG
      have hC1 := rd_DC_B hh hN.2.1 hDC F1
      have hM1 := rd_DM_N hN.2.1 hN.1.2.2.2.1.2 hDM K1
      refine ⟨_, _, ?_, fun kc => ?_, up1 F1, up2 K1, Or.inr ⟨a2, p2, t2, by omega, rd_G_F hG1 (Fc G1) (fun x q h => by unfold rd_KC at h; omega) (Fm H1) (fun x q h => by unfold rd_KM at h; omega), C, R, E, K, m, pu, bb, sd, z, sv, pr, hN, ?_, ?_⟩⟩
      · rw [if_pos (show nI 3 = (3 : Int32) from rfl), e1, ov_s, ov_s, lt_r]
      · rw [rd_good m12, ob_s, if_neg (by decide)]
        unfold f_X10_ends k_X10_ends_13
        rw [m8, if_pos (show nI 3 = (3 : Int32) from rfl), m12, if_pos rfl, m1, ov_s, ov_s, u58]
      · obtain ⟨⟨a1, a2, a3, a4, a5⟩, b, c, d⟩ := hC1
        refine ⟨⟨?_, ?_, ?_, ?_, ?_⟩, bh_FO_F b (Fc G1) (fun a q h1 h2 => by omega), fun i hi => ?_, fun i hi => ⟨?_, bh_SC_F (d i hi).2 (Fc G1) (fun q => by have := hN.2.1; omega)⟩⟩
        · rw [gI_sIs, a1, nI_1]
        · rw [(Fc G1).1 _ _ (by omega)]; exact a2
        · rw [(Fc G1).1 _ _ (by omega)]; exact a3
        · rw [(Fc G1).1 _ _ (by omega)]; exact a4
        · rw [(Fc G1).1 _ _ (by omega)]; exact a5
        · rw [(Fc G1).1 _ _ (by omega)]; exact c i hi
        · rw [(Fc G1).1 _ _ (by omega)]; exact (d i hi).1
      · obtain ⟨⟨a1, a2, a3, a4, a5⟩, b, c, d⟩ := hM1
        refine ⟨⟨?_, ?_, ?_, ?_, ?_⟩, bh_MO_F b (Fm H1) (fun q h1 h2 => by omega) (fun q h1 h2 => by omega) hN.1.2.2.2.1.2, fun i hi => ?_, fun i hi => ?_⟩
        · rw [gI_sIs, a1, nI_1]
        · rw [(Fm H1).1 _ _ (by omega)]; exact a2
        · rw [(Fm H1).1 _ _ (by omega)]; exact a3
        · rw [(Fm H1).1 _ _ (by omega)]; exact a4
        · rw [(Fm H1).1 _ _ (by omega)]; exact a5
        · rw [(Fm H1).1 _ _ (by omega)]; exact c i hi
        · rw [(Fm H1).1 _ _ (by omega)]; exact d i hi
    · have ht' : ¬ nI t1 = (3 : Int32) := fun h => ht ((nI_eq (b := 3) (by omega) (by omega)).mp h)
      obtain ⟨G1, H1, e1, m1, hX, F1, K1⟩ := rd_fail hG (k := 1) (by decide)
      obtain ⟨f1, s1, hB, x1, x2⟩ := id hX
      obtain ⟨G2, e2, hB2, F2⟩ := rdB_tok hB
      refine ⟨_, _, ?_, fun kc => ?_, up1 (bh_Ft F1 F2), up2 K1, Or.inl (upX ⟨f1, s1, hB2, x1, x2⟩)⟩
      · rw [if_neg ht', e1, ov_s, e2, ov_s, ov_s, lt_r]
      · rw [rd_good m12, ob_s, if_neg (by decide)]
        unfold f_X10_ends k_X10_ends_13
        rw [m8, if_neg ht', m1, ov_s, x1, if_neg hB.1.2, ov_s, u58]
/-- the reference's first line once a fault has come -/
theorem rdX_first {n : Nat} {G H : GM} (hX : rd_X n G H) : ∃ H', f_X10_first H = some H' ∧ rd_X n G H' ∧ bh_F rd_LM H H' := by
  have st : ∀ (H1 : GM) (q : Nat) (v : Int32), rd_X n G H1 → rd_X n G (sI H1 193 q v) := fun H1 q v h => rd_X_F h (W := fun _ _ => False) (bh_Fr _ _) (fun x q _ h => h) (bh_FI (W := fun a _ => a = 193) (bh_Fr _ _) rfl) (fun x q h => by unfold rd_KM at h; omega)
  have X1 := st H 32 1 hX
  have X2 := st _ 33 1 X1
  have X3 := st _ 34 1 X2
  refine ⟨sI (sI (sI H 193 32 1) 193 33 1) 193 34 1, ?_, X3, bh_FI (bh_FI (bh_FI (bh_Fr _ _) (by unfold rd_LM; omega)) (by unfold rd_LM; omega)) (by unfold rd_LM; omega)⟩
  unfold f_X10_first f_X10_number_
  rw [rdX_asks hX, ov_s, rdX_asks hX, ov_s, rdX_num hX, ob_s, ob_s, show inb (32 : Int32) 48 = true from by decide, gd_t, show (32 : Int32).toNatClampNeg = 32 from by decide, lt_r, rdX_asks X1, ov_s, rdX_num X1, ob_s, ob_s, show inb (33 : Int32) 48 = true from by decide, gd_t, show (33 : Int32).toNatClampNeg = 33 from by decide, lt_r, rdX_asks X2, ov_s, rdX_num X2, ob_s, ob_s, show inb (34 : Int32) 48 = true from by decide, gd_t, show (34 : Int32).toNatClampNeg = 34 from by decide, lt_r, rdX_asks X3, ov_s]
  show lp_X10_first_64 (1 : Int32) _ (wl1 99999 lp_X10_first_64) = _
  unfold lp_X10_first_64
  rw [rd_nogood X3, ob_s, if_pos rfl, rdX_164 X3]
/-- no line read yet -/
def rd_D0 (h : Nat) (G H : GM) : Prop := (gI G h 1 = 0 ∧ gI G h 3 = 0 ∧ gI G h 4 = 0 ∧ gI G h 5 = 0 ∧ gI G 53 8 = 1) ∧ (∀ k, k < 4 → gI G (h + 1) k = 0) ∧ gI G (h + 1) 6 = 0 ∧ (∀ k, k < 3 → gI G (h + 9) k = 0) ∧ gI H 192 4 = 0 ∧ (∀ k, k < 7 → gI H 193 (32 + k) = 0) ∧ gI H 193 39 = 1 ∧ ∀ k, k < 3 → gI H 195 (12 + k) = 0
theorem rd_line0 {h n a p t : Nat} {G H : GM} (hh : h = 1 ∨ h = 23) (hG : rd_G n a p t G H) (h0 : rd_D0 h G H) : ∃ G' H', f_X7_readLine h G = some G' ∧ (∀ kc, (ov (f_X10_first H) fun G37 => k_X10_hall_47 kc G37) = kc H') ∧ bh_F (rd_LC h) G G' ∧ bh_F rd_LN H H' ∧ (rd_X n G' H' ∨ ∃ a' p' t', a ≤ p' ∧ rd_G n a' p' t' G' H' ∧ rd_D h 1 G' H') := by
  obtain ⟨w0, -⟩ := rd_wds
  obtain ⟨⟨z1, z3, z4, z5, z8⟩, zf, z6, z9, y4, yk, y39, y12⟩ := h0
  obtain ⟨b, eb, em, hb⟩ := rd_isW hG w0
  have hmid : ∃ G1 H1, f_X7_readLine h G = k_X7_readLine_117 h G1 ∧ f_X10_first H = some H1 ∧ bh_F (rd_LC h) G G1 ∧ bh_F rd_LN H H1 ∧ rd_Q h n a 0 G1 H1 := by
    have LFC : ∀ a q, rd_LF (h + 1) a q → rd_LC h a q := fun a q hq => hq.elim (rd_FB_L a q) (fun hq => Or.inr (Or.inr (by omega)))
    have LMN : ∀ a q, rd_LM a q → rd_LN a q := fun a q hq => by
      rcases hq with hq | hq | hq | hq | hq
      · exact rd_FN_L a q hq
      · exact Or.inr (Or.inr (by unfold bh_PM; omega))
      · exact Or.inr (Or.inr (by unfold bh_PM; omega))
      · exact Or.inl (by omega)
      · exact Or.inr (Or.inl (by omega))
    rcases hb with rfl | ⟨rfl, -, -⟩
    · obtain ⟨G1, H1, e1, m1, hX, F1, K1⟩ := rd_fail hG (k := 1) (by decide)
      obtain ⟨H2, m2, hX2, K2⟩ := rdX_first hX
      refine ⟨G1, H2, ?_, ?_, bh_Fm F1 rd_FB_L, bh_Ft (bh_Fm K1 rd_FN_L) (bh_Fm K2 LMN), Or.inl hX2⟩
      · unfold f_X7_readLine k_X7_readLine_18
        rw [eb, ob_s, z1, if_pos rfl, if_neg (by decide), e1, ov_s]
      · rw [← m2]
        have ha : f_X10_asks (158529 : Int64) H = some H1 := by
          unfold f_X10_asks
          rw [rd_takes0 em, ob_s, if_pos rfl, m1, ov_s]
        unfold f_X10_first
        rw [ha, rdX_asks hX]
    · obtain ⟨G1, H1, e1, m1, F1, K1, hQ⟩ := rd_form (n := n) (a := a) (f := h + 1) (by omega) (Or.inl ⟨a, p, t, Nat.le_refl _, hG⟩) (yk 3 (by omega))
      refine ⟨G1, H1, ?_, m1, bh_Fm F1 LFC, bh_Fm K1 LMN, ?_⟩
      · unfold f_X7_readLine k_X7_readLine_18
        rw [eb, ob_s, z1, if_pos rfl, if_pos rfl, eb, ob_s, if_neg (by decide), e1, ov_s]
      · rcases hQ with hX | ⟨a', p', t', C, R, E, K, z, ha', hG', hd⟩
        · exact Or.inl hX
        · refine Or.inr ⟨a', p', t', ha', hG', fun h3 => ?_⟩
          obtain ⟨hV, hFO, hMO⟩ := hd h3
          refine ⟨C, R, E, K, 0, 0, 0, 1, z, fun _ => 0, fun _ => 0, ⟨hV, by omega, by omega, by omega, fun _ _ => Nat.zero_le _, fun _ _ => Nat.zero_le _, by omega⟩, ⟨⟨?_, ?_, ?_, ?_, ?_⟩, hFO, fun k hk => ?_, fun i hi => absurd hi (Nat.not_lt_zero _)⟩, ⟨?_, ?_, ?_, ?_, ?_⟩, hMO, fun k hk => ?_, fun i hi => absurd hi (Nat.not_lt_zero _)⟩
          · rw [F1.1 _ _ (by unfold rd_LF rd_FB; omega)]; exact z1
          · rw [F1.1 _ _ (by unfold rd_LF rd_FB; omega)]; exact z3
          · rw [F1.1 _ _ (by unfold rd_LF rd_FB; omega)]; exact z4
          · rw [F1.1 _ _ (by unfold rd_LF rd_FB; omega)]; exact z5
          · rw [F1.1 _ _ (by unfold rd_LF rd_FB; omega)]; exact z8
          · rw [F1.1 _ _ (by unfold rd_LF rd_FB; omega)]; exact z9 k hk
          · rw [K1.1 _ _ (by unfold rd_LM rd_FN; omega)]; exact y4
          · rw [K1.1 _ _ (by unfold rd_LM rd_FN; omega)]; exact yk 4 (by omega)
          · rw [K1.1 _ _ (by unfold rd_LM rd_FN; omega)]; exact yk 5 (by omega)
          · rw [K1.1 _ _ (by unfold rd_LM rd_FN; omega)]; exact yk 6 (by omega)
          · rw [K1.1 _ _ (by unfold rd_LM rd_FN; omega)]; exact y39
          · rw [K1.1 _ _ (by unfold rd_LM rd_FN; omega)]; exact y12 k hk
  obtain ⟨G1, H1, e1, m1, F1, K1, hQ⟩ := hmid
  obtain ⟨G2, H2, e2, m2, F2, K2, hE⟩ := rd_endL hh hQ
  exact ⟨G2, H2, by rw [e1, e2], fun kc => by rw [m1, ov_s, m2], bh_Ft F1 F2, bh_Ft K1 K2, hE⟩
theorem rd_line {h n a p t ln : Nat} {G H : GM} (hh : h = 1 ∨ h = 23) (hG : rd_G n a p t G H) (hl : 1 ≤ ln ∧ ln ≤ 800) (hD : rd_D h ln G H) : ∃ G' H', f_X7_readLine h G = some G' ∧ (∀ kc, (ov (f_X10_line H) fun G44 => k_X10_hall_47 kc G44) = kc H') ∧ bh_F (rd_LC h) G G' ∧ bh_F rd_LN H H' ∧ (rd_X n G' H' ∨ ∃ a' p' t', a ≤ p' ∧ rd_G n a' p' t' G' H' ∧ rd_D h (ln + 1) G' H') := by
  obtain ⟨w0, -, -, -, -, w5, -, -, -, w9, -, w11, w12⟩ := rd_wds
  obtain ⟨b0, e0, m0, h0⟩ := rd_isW hG w0
  obtain ⟨b5, e5, m5, h5⟩ := rd_isW hG w5
  obtain ⟨b9, e9, m9, h9⟩ := rd_isW hG w9
  obtain ⟨b11, e11, m11, h11⟩ := rd_isW hG w11
  have hln : gI G h 1 = nI ln := by
    obtain ⟨C, R, E, K, m, pu, bb, sd, z, sv, pr, hN, hDC, hDM⟩ := hD
    exact hDC.1.1
  have hln0 : ¬ nI ln = (0 : Int32) := fun h => by have := (nI_eq (b := 0) (by omega) (by omega)).mp h; omega
  have m12 : gI H 186 12 = 0 := hG.2.2.2.1
  have hmid : ∃ G1 H1, f_X7_readLine h G = k_X7_readLine_117 h G1 ∧ f_X10_line H = some H1 ∧ bh_F (rd_LC h) G G1 ∧ bh_F rd_LN H H1 ∧ rd_Q h n a ln G1 H1 := by
    have ul : b11 = 0 → f_X10_line H = k_X10_line_28 (0 : Int32) H := fun hb => by
      unfold f_X10_line
      rw [m11, ob_s, hb, if_pos rfl]
    have ucal : f_X10_is (8864618 : Int64) H = some (0, H) → f_X10_is (3890376722 : Int64) H = some (0, H) → k_X10_line_28 (0 : Int32) H = (ov (f_X10_asks (43823259 : Int64) H) fun G277 => ob (f_X10_number (0 : Int32) (99999 : Int32) G277) fun r290 G290 => some (sI G290 193 39 r290)) := fun q1 q2 => by
      unfold k_X10_line_28
      rw [m12, if_pos rfl, if_pos rfl, rd_takes0 q1, ob_s, if_pos rfl, rd_takes0 q2, ob_s, if_pos rfl]
      rw [show inb (39 : Int32) 48 = true from by decide, show (39 : Int32).toNatClampNeg = 39 from by decide]
      rfl
    rcases h0 with rfl | ⟨rfl, -, j0⟩
    · rcases h5 with rfl | ⟨rfl, -, j5⟩
      · rcases h9 with rfl | ⟨rfl, -, j9⟩
        · rcases h11 with rfl | ⟨rfl, -, j11⟩
          · obtain ⟨G1, H1, r1, r2, F1, K1, hR⟩ := rd_caller hh hG hD
            refine ⟨G1, H1, ?_, ?_, F1, K1, rd_RQ hR⟩
            · unfold f_X7_readLine k_X7_readLine_18
              rw [e0, ob_s, hln, if_neg hln0, if_pos rfl, e0, ob_s, if_pos rfl, e5, ob_s, if_pos rfl, e9, ob_s, if_pos rfl, e11, ob_s, if_pos rfl]
              rcases hw : f_X7_takeWord 12 G with _ | Ga
              · rw [hw] at r1; exact absurd r1 (fun h => by cases h)
              · rw [hw, ov_s] at r1
                rw [ov_s]
                rcases hn : f_X7_takeNumber (0 : Int32) (99999 : Int32) Ga with _ | ⟨r, Gb⟩
                · rw [hn] at r1; exact absurd r1 (fun h => by cases h)
                · rw [hn, ob_s] at r1
                  rw [ob_s, lt_r, Option.some.inj r1]
            · rw [ul rfl, ucal m5 m9]; exact r2
          · obtain ⟨G1, H1, r1, r2, F1, K1, hR⟩ := rd_sold hh hG hD e11 m11
            refine ⟨G1, H1, ?_, r2, F1, K1, rd_RQ hR⟩
            unfold f_X7_readLine k_X7_readLine_18
            rw [e0, ob_s, hln, if_neg hln0, if_pos rfl, e0, ob_s, if_pos rfl, e5, ob_s, if_pos rfl, e9, ob_s, if_pos rfl, e11, ob_s, if_neg (by decide), r1, ov_s]
        · have hb : b11 = 0 := h11.elim id (fun q => absurd (j9.symm.trans q.2.2) (by decide))
          obtain ⟨G1, H1, r1, r2, F1, K1, hR⟩ := rd_jack hh hG hD e9 m9 m5
          refine ⟨G1, H1, ?_, ?_, F1, K1, rd_RQ hR⟩
          · unfold f_X7_readLine k_X7_readLine_18
            rw [e0, ob_s, hln, if_neg hln0, if_pos rfl, e0, ob_s, if_pos rfl, e5, ob_s, if_pos rfl, e9, ob_s, if_neg (by decide), r1, ov_s]
          · rw [ul hb, r2]
      · have hb : b11 = 0 := h11.elim id (fun q => absurd (j5.symm.trans q.2.2) (by decide))
        obtain ⟨G1, H1, r1, r2, F1, K1, hR⟩ := rd_prize hh hG hD e5 m5
        refine ⟨G1, H1, ?_, ?_, F1, K1, rd_RQ hR⟩
        · unfold f_X7_readLine k_X7_readLine_18
          rw [e0, ob_s, hln, if_neg hln0, if_pos rfl, e0, ob_s, if_pos rfl, e5, ob_s, if_neg (by decide), r1, ov_s]
        · rw [ul hb, r2]
    · have hb11 : b11 = 0 := h11.elim id (fun q => absurd (j0.symm.trans q.2.2) (by decide))
      have hb5 : b5 = 0 := h5.elim id (fun q => absurd (j0.symm.trans q.2.2) (by decide))
      have hb9 : b9 = 0 := h9.elim id (fun q => absurd (j0.symm.trans q.2.2) (by decide))
      subst hb5
      subst hb9
      obtain ⟨b12, e12, m12', h12⟩ := rd_isW hG w12
      have hb12 : b12 = 0 := h12.elim id (fun q => absurd (j0.symm.trans q.2.2) (by decide))
      subst hb12
      obtain ⟨G1, H1, r1, r2, hX, F1, K1⟩ := rd_fail hG (k := 1) (by decide)
      have KA : bh_F (fun a q => a = 193 ∧ q = 39) H1 (sI H1 193 39 0) := bh_FI (bh_Fr _ _) ⟨rfl, rfl⟩
      refine ⟨G1, sI H1 193 39 0, ?_, ?_, bh_Fm F1 rd_FB_L, bh_FI (bh_Fm K1 rd_FN_L) (Or.inr (Or.inr (by unfold bh_PM; omega))), Or.inl (rd_X_F hX (W := fun _ _ => False) (bh_Fr _ _) (fun x q _ h => h) KA (fun x q h => by unfold rd_KM at h; omega))⟩
      · unfold f_X7_readLine k_X7_readLine_18
        rw [e0, ob_s, hln, if_neg hln0, if_neg (by decide), r1, ov_s]
      · rw [ul hb11, ucal m5 m9]
        unfold f_X10_asks
        rw [rd_takes0 m12', ob_s, if_pos rfl, r2, ov_s, ov_s, rdX_num hX, ob_s]
  obtain ⟨G1, H1, e1, m1, F1, K1, hQ⟩ := hmid
  obtain ⟨G2, H2, e2, m2, F2, K2, hE⟩ := rd_endL hh hQ
  exact ⟨G2, H2, by rw [e1, e2], fun kc => by rw [m1, ov_s, m2], bh_Ft F1 F2, bh_Ft K1 K2, hE⟩
