/-! READING: the hall -/
/-- the data after some lines -/
def rd_DD (h ln : Nat) (G H : GM) : Prop := (ln = 0 ∧ rd_D0 h G H) ∨ (1 ≤ ln ∧ rd_D h ln G H)
theorem rdX_loop {n : Nat} {G H : GM} (hX : rd_X n G H) (i : Int32) (kc : Int32 → GM → Option (Int32 × GM)) (km : GM → Option (Int32 × GM)) : lp_X9_hall_13 i G kc = k_X9_hall_47 G ∧ lp_X10_hall_13 H km = k_X10_hall_71 H := by
  obtain ⟨f1, s1, hB, x1, x2⟩ := id hX
  have hl : f_X7_hasLine G = some (0, G) := by
    unfold f_X7_hasLine
    by_cases h5 : gI G 53 5 = 0
    · rw [if_pos h5]
    · rw [if_neg h5, hB.1.1, if_neg hB.1.2]
  refine ⟨?_, ?_⟩
  · unfold lp_X9_hall_13
    by_cases h8 : (800 : Int32) ≤ i
    · rw [if_pos h8]
    · rw [if_neg h8, hl, ob_s, if_pos rfl]
  · unfold lp_X10_hall_13
    rw [rd_nogood hX, ob_s, if_pos rfl]
theorem rd_D_ln {h ln : Nat} {G H : GM} (hD : rd_D h ln G H) : gI H 192 4 = nI ln := by
  obtain ⟨C, R, E, K, m, pu, bb, sd, z, sv, pr, hN, hDC, hDM⟩ := hD
  exact hDM.1.1
theorem rd_loop {h n : Nat} (hh : h = 1 ∨ h = 23) : ∀ (j : Nat) {i a p t : Nat} {G H : GM} {fc fm : Nat}, i + j = 800 → nx G = h → rd_G n a p t G H → (t ≠ 0 → i + 1 ≤ a) → rd_DD h i G H → j + 1 < fc → j + 1 < fm → ∃ G' H', wl1 fc lp_X9_hall_13 (nI i) G = k_X9_hall_47 G' ∧ wl0 fm lp_X10_hall_13 H = k_X10_hall_71 H' ∧ bh_F (rd_LC h) G G' ∧ bh_F rd_LN H H' ∧ (rd_X n G' H' ∨ ∃ ln a' p' t', ln ≤ 800 ∧ rd_G n a' p' t' G' H' ∧ rd_DD h ln G' H')
  | j, i, a, p, t, G, H, fc, fm, hij, hnx, hG, hti, hDD, hfc, hfm => by
    obtain ⟨fc', rfl⟩ : ∃ f, fc = f + 1 + 1 := ⟨fc - 2, by omega⟩
    obtain ⟨fm', rfl⟩ : ∃ f, fm = f + 1 + 1 := ⟨fm - 2, by omega⟩
    obtain ⟨hT, hC, c9, m12, c10, m13⟩ := id hG
    have c5 := hC.1.2.2.2.2.1
    have m8 := hC.1.2.2.2.2.2
    have h8 := hT.1
    have han := hC.2.1.2.1
    have b3 := hC.2.1.2.2.1
    by_cases ht : t = 0
    · refine ⟨G, H, ?_, ?_, bh_Fr _ _, bh_Fr _ _, Or.inr ⟨i, a, p, t, by omega, hG, hDD⟩⟩
      · show lp_X9_hall_13 (nI i) G _ = _
        unfold lp_X9_hall_13
        by_cases h8' : (800 : Int32) ≤ nI i
        · rw [if_pos h8']
        · rw [if_neg h8']
          unfold f_X7_hasLine
          rw [c5, ht, if_pos (show nI 0 = (0 : Int32) from rfl), ob_s, if_pos rfl]
      · show lp_X10_hall_13 H _ = _
        unfold lp_X10_hall_13
        rw [rd_good m12, ob_s, if_neg (by decide), m8, ht, if_pos (show nI 0 = (0 : Int32) from rfl)]
    · have hia := hti ht
      have ht' : ¬ nI t = (0 : Int32) := fun h => ht ((nI_eq (b := 0) (by omega) (by omega)).mp h)
      obtain ⟨j', rfl⟩ : ∃ j', j = j' + 1 := ⟨j - 1, by omega⟩
      have uc : ∀ kc, lp_X9_hall_13 (nI i) G kc = ov (f_X7_readLine h G) fun G38 => kc (nI (i + 1)) G38 := fun kc => by
        unfold lp_X9_hall_13 f_X7_hasLine
        rw [if_neg (show ¬ (800 : Int32) ≤ nI i from nI_ge (b := 800) (by omega) (by omega)), c5, if_neg ht', c9, if_pos rfl, ob_s, if_neg (by decide), hnx, nI_1]
      have um0 : ∀ kc, lp_X10_hall_13 H kc = if gI H 192 4 = 0 then (ov (f_X10_first H) fun G37 => k_X10_hall_47 kc G37) else (ov (f_X10_line H) fun G44 => k_X10_hall_47 kc G44) := fun kc => by
        unfold lp_X10_hall_13
        rw [rd_good m12, ob_s, if_neg (by decide), m8, if_neg ht', show inb (4 : Int32) 6 = true from by decide, gd_t, show (4 : Int32).toNatClampNeg = 4 from by decide]
      have step : ∃ G1 H1, f_X7_readLine h G = some G1 ∧ (∀ kc, lp_X10_hall_13 H kc = kc H1) ∧ bh_F (rd_LC h) G G1 ∧ bh_F rd_LN H H1 ∧ (rd_X n G1 H1 ∨ ∃ a' p' t', a ≤ p' ∧ rd_G n a' p' t' G1 H1 ∧ rd_D h (i + 1) G1 H1) := by
        rcases hDD with ⟨rfl, h0⟩ | ⟨hi1, hD⟩
        · obtain ⟨G1, H1, e1, m1, F1, K1, hE⟩ := rd_line0 hh hG h0
          exact ⟨G1, H1, e1, fun kc => by rw [um0, h0.2.2.2.2.1, if_pos rfl, m1], F1, K1, hE⟩
        · obtain ⟨G1, H1, e1, m1, F1, K1, hE⟩ := rd_line hh hG ⟨hi1, by omega⟩ hD
          exact ⟨G1, H1, e1, fun kc => by rw [um0, rd_D_ln hD, if_neg (show ¬ nI i = (0 : Int32) from fun h => by have := (nI_eq (b := 0) (by omega) (by omega)).mp h; omega), m1], F1, K1, hE⟩
      obtain ⟨G1, H1, e1, m1, F1, K1, hE⟩ := step
      rcases hE with hX | ⟨a1, p1, t1, hap, hG1, hD1⟩
      · refine ⟨G1, H1, ?_, ?_, F1, K1, Or.inl hX⟩
        · show lp_X9_hall_13 (nI i) G _ = _
          rw [uc, e1, ov_s]
          exact (rdX_loop hX (nI (i + 1)) (wl1 fc' lp_X9_hall_13) (wl0 fm' lp_X10_hall_13)).1
        · show lp_X10_hall_13 H _ = _
          rw [m1]
          exact (rdX_loop hX (nI (i + 1)) (wl1 fc' lp_X9_hall_13) (wl0 fm' lp_X10_hall_13)).2
      · obtain ⟨G', H', r1, r2, r3, r4, r5⟩ := rd_loop hh j' (i := i + 1) (fc := fc' + 1) (fm := fm' + 1) (by omega) (F1.2.2.2.trans hnx) hG1 (fun h => by have := hG1.2.1.2.1.2.2.2 h; omega) (Or.inr ⟨by omega, hD1⟩) (by omega) (by omega)
        refine ⟨G', H', ?_, ?_, bh_Ft F1 r3, bh_Ft K1 r4, r5⟩
        · show lp_X9_hall_13 (nI i) G _ = _
          rw [uc, e1, ov_s]
          exact r1
        · show lp_X10_hall_13 H _ = _
          rw [m1]
          exact r2
