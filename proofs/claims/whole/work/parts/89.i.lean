/-! READING: the hall's line -/
def rd_LF (f a q : Nat) : Prop := rd_FB a q ∨ (f ≤ a ∧ a ≤ f + 7)
def rd_LM (a q : Nat) : Prop := rd_FN a q ∨ (a = 193 ∧ 32 ≤ q ∧ q ≤ 35) ∨ (a = 194 ∧ 20 ≤ q ∧ q < 25) ∨ (a = 186 ∧ 26 ≤ q ∧ q ≤ 27) ∨ (199 ≤ a ∧ a ≤ 201)
theorem rd_form {n a f : Nat} {G H : GM} (hf : f = 2 ∨ f = 24) (h : rd_S n a G H) (m35 : gI H 193 35 = nI 0) : ∃ G' H', f_X7_readForm f G = some G' ∧ f_X10_first H = some H' ∧ bh_F (rd_LF f) G G' ∧ bh_F rd_LM H H' ∧ (rd_X n G' H' ∨ ∃ (a' p t C R E K : Nat) (z : Nat → Nat), a ≤ a' ∧ rd_G n a' p t G' H' ∧ (t = 3 → bh_VH C R E K z ∧ bh_FO G' f C R E K z ∧ bh_MO H' 4 C R E K z)) := by
  obtain ⟨w0, w1, w2, w3, w4, -⟩ := rd_wds
  have bC : ∀ a q, rd_FB a q → rd_LF f a q := fun a q h => Or.inl h
  have bM : ∀ a q, rd_FN a q → rd_LM a q := fun a q h => Or.inl h
  obtain ⟨G1, H1, e1, m1, S1, F1, K1⟩ := rd_takeW h w0
  obtain ⟨G2, H2, e2, m2, S2, F2, K2⟩ := rd_takeW S1 w1
  obtain ⟨C, G3, H3, hC1, hC2, e3, m3, S3, F3, K3⟩ := rd_takeN (lo := 1) (hi := 3) S2 (by omega) (by omega)
  have FA : bh_F (fun a q => a = f ∧ q = 0) G3 (sI G3 f 0 (nI C)) := bh_FI (bh_Fr _ _) ⟨rfl, rfl⟩
  have KA : bh_F (fun a q => a = 193 ∧ q = 32) H3 (sI H3 193 32 (nI C)) := bh_FI (bh_Fr _ _) ⟨rfl, rfl⟩
  have SA : rd_S n a (sI G3 f 0 (nI C)) (sI H3 193 32 (nI C)) := rd_S_F S3 FA (fun x q h => by unfold rd_KC at h; omega) KA (fun x q h => by unfold rd_KM at h; omega)
  obtain ⟨G4, H4, e4, m4, S4, F4, K4⟩ := rd_takeW SA w2
  obtain ⟨R, G5, H5, hR1, hR2, e5, m5, S5, F5, K5⟩ := rd_takeN (lo := 1) (hi := 3) S4 (by omega) (by omega)
  have FB : bh_F (fun a q => a = f ∧ q = 1) G5 (sI G5 f 1 (nI R)) := bh_FI (bh_Fr _ _) ⟨rfl, rfl⟩
  have KB : bh_F (fun a q => a = 193 ∧ q = 33) H5 (sI H5 193 33 (nI R)) := bh_FI (bh_Fr _ _) ⟨rfl, rfl⟩
  have SB : rd_S n a (sI G5 f 1 (nI R)) (sI H5 193 33 (nI R)) := rd_S_F S5 FB (fun x q h => by unfold rd_KC at h; omega) KB (fun x q h => by unfold rd_KM at h; omega)
  obtain ⟨G6, H6, e6, m6, S6, F6, K6⟩ := rd_takeW SB w3
  obtain ⟨E, G7, H7, hE1, hE2, e7, m7, S7, F7, K7⟩ := rd_takeN (lo := 1) (hi := 5) S6 (by omega) (by omega)
  have FD : bh_F (fun a q => a = f ∧ q = 2) G7 (sI G7 f 2 (nI E)) := bh_FI (bh_Fr _ _) ⟨rfl, rfl⟩
  have KD : bh_F (fun a q => a = 193 ∧ q = 34) H7 (sI H7 193 34 (nI E)) := bh_FI (bh_Fr _ _) ⟨rfl, rfl⟩
  have SD : rd_S n a (sI G7 f 2 (nI E)) (sI H7 193 34 (nI E)) := rd_S_F S7 FD (fun x q h => by unfold rd_KC at h; omega) KD (fun x q h => by unfold rd_KM at h; omega)
  obtain ⟨G8, H8, e8, m8, S8, F8, K8⟩ := rd_takeW SD w4
  -- the values as they lie now
  have v0 : gI G8 f 0 = nI C ∧ gI G8 f 1 = nI R ∧ gI G8 f 2 = nI E := by
    refine ⟨?_, ?_, ?_⟩
    · rw [F8.1 _ _ (by unfold rd_FB; omega), gI_sIk (by decide), F7.1 _ _ (by unfold rd_FB; omega), F6.1 _ _ (by unfold rd_FB; omega), gI_sIk (by decide), F5.1 _ _ (by unfold rd_FB; omega), F4.1 _ _ (by unfold rd_FB; omega), gI_sIs]
    · rw [F8.1 _ _ (by unfold rd_FB; omega), gI_sIk (by decide), F7.1 _ _ (by unfold rd_FB; omega), F6.1 _ _ (by unfold rd_FB; omega), gI_sIs]
    · rw [F8.1 _ _ (by unfold rd_FB; omega), gI_sIs]
  have u0 : gI H8 193 32 = nI C ∧ gI H8 193 33 = nI R ∧ gI H8 193 34 = nI E ∧ gI H8 193 35 = nI 0 := by
    refine ⟨?_, ?_, ?_, ?_⟩
    · rw [K8.1 _ _ (by unfold rd_FN; omega), gI_sIk (by decide), K7.1 _ _ (by unfold rd_FN; omega), K6.1 _ _ (by unfold rd_FN; omega), gI_sIk (by decide), K5.1 _ _ (by unfold rd_FN; omega), K4.1 _ _ (by unfold rd_FN; omega), gI_sIs]
    · rw [K8.1 _ _ (by unfold rd_FN; omega), gI_sIk (by decide), K7.1 _ _ (by unfold rd_FN; omega), K6.1 _ _ (by unfold rd_FN; omega), gI_sIs]
    · rw [K8.1 _ _ (by unfold rd_FN; omega), gI_sIs]
    · rw [K8.1 _ _ (by unfold rd_FN; omega), gI_sIk (by decide), K7.1 _ _ (by unfold rd_FN; omega), K6.1 _ _ (by unfold rd_FN; omega), gI_sIk (by decide), K5.1 _ _ (by unfold rd_FN; omega), K4.1 _ _ (by unfold rd_FN; omega), gI_sIk (by decide), K3.1 _ _ (by unfold rd_FN; omega), K2.1 _ _ (by unfold rd_FN; omega), K1.1 _ _ (by unfold rd_FN; omega)]
      exact m35
  have gA : bh_F (rd_LF f) G (sI G8 f 3 0) := bh_FI (bh_Ft (bh_Ft (bh_Ft (bh_Ft (bh_Ft (bh_Ft (bh_Ft (bh_Ft (bh_Ft (bh_Ft (bh_Fm F1 bC) (bh_Fm F2 bC)) (bh_Fm F3 bC)) (bh_Fm FA (fun a q h => Or.inr (by omega)))) (bh_Fm F4 bC)) (bh_Fm F5 bC)) (bh_Fm FB (fun a q h => Or.inr (by omega)))) (bh_Fm F6 bC)) (bh_Fm F7 bC)) (bh_Fm FD (fun a q h => Or.inr (by omega)))) (bh_Fm F8 bC)) (Or.inr (by omega))
  have hA : bh_F rd_LM H H8 := bh_Ft (bh_Ft (bh_Ft (bh_Ft (bh_Ft (bh_Ft (bh_Ft (bh_Ft (bh_Ft (bh_Ft (bh_Fm K1 bM) (bh_Fm K2 bM)) (bh_Fm K3 bM)) (bh_Fm KA (fun a q h => by unfold rd_LM; omega))) (bh_Fm K4 bM)) (bh_Fm K5 bM)) (bh_Fm KB (fun a q h => by unfold rd_LM; omega))) (bh_Fm K6 bM)) (bh_Fm K7 bM)) (bh_Fm KD (fun a q h => by unfold rd_LM; omega))) (bh_Fm K8 bM)
  have S9 : rd_S n a (sI G8 f 3 0) H8 := rd_S_F S8 (W := fun a q => a = f ∧ q = 3) (W' := fun _ _ => False) (bh_FI (bh_Fr _ _) ⟨rfl, rfl⟩) (fun x q h => by unfold rd_KC at h; omega) (bh_Fr _ _) (fun x q h => fun h => h)
  have uc : f_X7_readForm f G = ov (wl1 FU (lp_X7_readColumns_7 f) (0 : Int32) (sI G8 f 3 0)) fun G62 => if (gI G62 53 9) = 0 then (if (gI G62 53 5) = (3 : Int32) then (ov (f_X4_settle f G62) fun G81 => ob (f_X4_isAsSaid f G81) fun r85 G85 => if r85 = 0 then (ov (f_X7_fail (2 : Int32) G85) fun G93 => some G93) else (some G85)) else (some G62)) else (some G62) := by
    unfold f_X7_readForm f_X7_readColumns
    rw [e1, ov_s, e2, ov_s]
    rw [show f_X7_takeNumber (1 : Int32) (3 : Int32) G2 = some (nI C, G3) from e3, ob_s, lt_r, e4, ov_s]
    rw [show f_X7_takeNumber (1 : Int32) (3 : Int32) G4 = some (nI R, G5) from e5, ob_s, lt_r, e6, ov_s]
    rw [show f_X7_takeNumber (1 : Int32) (5 : Int32) G6 = some (nI E, G7) from e7, ob_s, lt_r, e8, ov_s, lt_r]
  have um : f_X10_first H = wl1 FU lp_X10_first_64 (1 : Int32) H8 := by
    unfold f_X10_first f_X10_number_
    rw [m1, ov_s, m2, ov_s]
    rw [show f_X10_number (1 : Int32) (3 : Int32) H2 = some (nI C, H3) from m3, ob_s, ob_s, show inb (32 : Int32) 48 = true from by decide, gd_t, show (32 : Int32).toNatClampNeg = 32 from by decide, lt_r, m4, ov_s]
    rw [show f_X10_number (1 : Int32) (3 : Int32) H4 = some (nI R, H5) from m5, ob_s, ob_s, show inb (33 : Int32) 48 = true from by decide, gd_t, show (33 : Int32).toNatClampNeg = 33 from by decide, lt_r, m6, ov_s]
    rw [show f_X10_number (1 : Int32) (5 : Int32) H6 = some (nI E, H7) from m7, ob_s, ob_s, show inb (34 : Int32) 48 = true from by decide, gd_t, show (34 : Int32).toNatClampNeg = 34 from by decide, lt_r, m8, ov_s]
  rw [uc, um]
  rcases S9 with ⟨a0, p0, t0, ha0, hG0⟩ | hX0
  · obtain ⟨G9, H9, r1, r2, r3, r4, r5⟩ := rd_cols (n := n) (a := a) (f := f) (by omega) 5 (i := 0) (z := fun _ => 0) (fc := FU) (fm := FU) (by omega) ha0 hG0 (Or.inl rfl) (gI_sIs _ _ _ _) u0.2.2.2 (fun k hk => absurd hk (Nat.not_lt_zero _)) (by unfold FU; omega) (by unfold FU; omega)
    have gB : bh_F (rd_LF f) G G9 := bh_Ft gA (bh_Fm r3 (fun a q h => by unfold rd_QC rd_FB at h; unfold rd_LF rd_FB; omega))
    have hB : bh_F rd_LM H H9 := bh_Ft hA (bh_Fm r4 (fun a q h => by unfold rd_QM rd_FN at h; unfold rd_LM rd_FN; omega))
    rw [show wl1 FU (lp_X7_readColumns_7 f) (0 : Int32) (sI G8 f 3 0) = some G9 from r1, ov_s, r2]
    rcases r5 with hX | ⟨a', p', t', K, z, ha', hG, ht2, hK, q1, q2, q3⟩
    · obtain ⟨f1, s1, hBB, x1, x2⟩ := id hX
      refine ⟨G9, H9, ?_, rdX_164 hX, gB, hB, Or.inl hX⟩
      rw [hBB.1.1, if_neg hBB.1.2]
    · have g9 := hG.2.2.1
      have n12 := hG.2.2.2.1
      have g5 := hG.2.1.1.2.2.2.2.1
      have n8 := hG.2.1.1.2.2.2.2.2
      have b3 := hG.2.1.2.1.2.2.1
      unfold k_X10_first_164
      rw [g9, if_pos rfl, rd_good n12, ob_s, g5, n8, if_neg (show ¬ (1 : Int32) = 0 from by decide)]
      by_cases ht3 : t' = 3
      · subst ht3
        rw [if_pos (show nI 3 = (3 : Int32) from rfl), if_pos (show nI 3 = (3 : Int32) from rfl)]
        have k0 : ∀ q, q < 3 → gI G9 f q = gI G8 f q := fun q hq => by rw [r3.1 _ _ (by unfold rd_QC rd_FB; omega), gI_sIk (by omega)]
        have k1 : ∀ q, 32 ≤ q → q < 35 → gI H9 193 q = gI H8 193 q := fun q h1 h2 => by rw [r4.1 _ _ (by unfold rd_QM rd_FN; omega)]
        obtain ⟨GA, s1, s2, s3⟩ := bh_settle (G := G9) (f := f) (z := z) hC2 hR2 (Or.inl hR1) hE2 hK.2 (fun k hk => (q3 k hk).2.2.2) ((k0 0 (by omega)).trans v0.1) ((k0 1 (by omega)).trans v0.2.1) ((k0 2 (by omega)).trans v0.2.2) q1 (fun k hk => (q3 k hk).1)
        have hMO : bh_MO H9 4 C R E K z := ⟨(k1 32 (by omega) (by omega)).trans u0.1, (k1 33 (by omega) (by omega)).trans u0.2.1, (k1 34 (by omega) (by omega)).trans u0.2.2.1, q2, fun k hk => (q3 k hk).2.1⟩
        obtain ⟨b, HA, d1, d2, d3, d4⟩ := rd_said (G := GA) ⟨hC1, hC2⟩ ⟨hR1, hR2⟩ ⟨hE1, hE2⟩ hK (fun k hk => (q3 k hk).2.2) s2 hMO
        have gC : bh_F (rd_LF f) G GA := bh_Ft gB (bh_Fm s3 (fun a q h => by unfold bh_WF at h; unfold rd_LF; omega))
        have hCm : bh_F rd_LM H HA := bh_Ft hB (bh_Fm d4 (fun a q h => by unfold rd_LM; omega))
        have hGA : rd_G n a' p' 3 GA HA := rd_G_F hG s3 (fun x q h => by unfold rd_KC at h; unfold bh_WF; omega) d4 (fun x q h => by unfold rd_KM at h; omega)
        have hMOA : bh_MO HA 4 C R E K z := bh_MO_F hMO d4 (fun q _ _ h => by omega) (fun q _ _ h => by omega) hK.2
        rw [s1, ov_s, d1, ob_s, d2, ob_s]
        rcases d3 with rfl | ⟨rfl, hV⟩
        · obtain ⟨GB, HB, f1, f2, hX, fF1, fF2⟩ := rd_fail hGA (k := 2) (by decide)
          refine ⟨GB, HB, ?_, ?_, bh_Ft gC (bh_Fm fF1 bC), bh_Ft hCm (bh_Fm fF2 bM), Or.inl hX⟩
          · rw [if_pos rfl, f1, ov_s]
          · rw [if_pos rfl, f2, ov_s]
        · refine ⟨GA, HA, ?_, ?_, gC, hCm, Or.inr ⟨a', p', 3, C, R, E, K, z, ha', hGA, fun _ => ⟨hV, s2, hMOA⟩⟩⟩
          · rw [if_neg (by decide)]
          · rw [if_neg (by decide)]
      · have ht3' : ¬ nI t' = (3 : Int32) := fun h => ht3 ((nI_eq (b := 3) (by omega) (by omega)).mp h)
        refine ⟨G9, H9, ?_, ?_, gB, hB, Or.inr ⟨a', p', t', C, R, E, K, z, ha', hG, fun h => absurd h ht3⟩⟩
        · rw [if_neg ht3']
        · rw [if_neg ht3']
  · obtain ⟨f1, s1, hBB, x1, x2⟩ := id hX0
    refine ⟨sI G8 f 3 0, H8, ?_, ?_, gA, hA, Or.inl hX0⟩
    · rw [show wl1 FU (lp_X7_readColumns_7 f) (0 : Int32) (sI G8 f 3 0) = lp_X7_readColumns_7 f (0 : Int32) (sI G8 f 3 0) (wl1 99999 (lp_X7_readColumns_7 f)) from rfl, rdB_7 hBB, ov_s, hBB.1.1, if_neg hBB.1.2]
    · rw [show wl1 FU lp_X10_first_64 (1 : Int32) H8 = lp_X10_first_64 (1 : Int32) H8 (wl1 99999 lp_X10_first_64) from rfl]
      unfold lp_X10_first_64
      rw [rd_nogood hX0, ob_s, if_pos rfl, rdX_164 hX0]
