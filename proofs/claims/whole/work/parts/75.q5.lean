/-! questions: judge, count; what is SOLD: unsell -/
theorem m_why0 {x : Int32} (hx : ¬ ∃ s, s < 4 ∧ x = nI s) (G : GM) : f_X10_whyNot x G = some (-2, G) := by
  unfold f_X10_whyNot
  rw [misSlot_x hx, ob_s, bh_i0]
theorem m_whyN {G : GM} {s h : Nat} (hs : s < 4) (h0 : bh_H0 G h 0) : f_X10_whyNot (nI s) G = some (-2, G) := by
  unfold f_X10_whyNot
  rw [misSlot_n hs, ob_s, bh_i1, m_noHall h0, ob_s, bh_i0]
theorem m_whyN' {G : GM} {h : Nat} (x : Int32) (h0 : bh_H0 G h 0) : f_X10_whyNot x G = some (-2, G) := by
  rcases slot_c x with ⟨s, hs, rfl⟩ | hx
  · exact m_whyN hs h0
  · exact m_why0 hx G
theorem m_why6 {G : GM} {ln C R E K m pu bb s : Nat} {z sv cl pr : Nat → Nat} (hN : bh_HN ln C R E K m pu bb z sv cl pr) (hM : bh_HM G 0 ln C R E K m pu bb z sv cl pr) (hs : s < 4) (e : gI G 187 s = -1) : f_X10_whyNot (nI s) G = some (-6, G) := by
  unfold f_X10_whyNot
  rw [misSlot_n hs, ob_s, bh_i1, m_isHall hN hM, ob_s, bh_i1, inb_n hs (by omega), gd_t, nI_clamp (by omega), e, if_pos rfl]
theorem m_why1 {G : GM} {ln C R E K m pu bb s w : Nat} {z sv cl pr : Nat → Nat} (hN : bh_HN ln C R E K m pu bb z sv cl pr) (hM : bh_HM G 0 ln C R E K m pu bb z sv cl pr) (hs : s < 4) (hw : w < 4) (e : gI G 187 s = nI w) : f_X10_whyNot (nI s) G = some (0, G) := by
  unfold f_X10_whyNot
  rw [misSlot_n hs, ob_s, bh_i1, m_isHall hN hM, ob_s, bh_i1, inb_n hs (by omega), gd_t, nI_clamp (by omega), e, if_neg (nIm1 (by omega))]
theorem bh_fd (p : Nat → Prop) : ∀ N, ∃ t, t ≤ N ∧ (∀ i, i < t → p i) ∧ (t < N → ¬ p t)
  | 0 => ⟨0, Nat.le_refl _, fun i hi => absurd hi (Nat.not_lt_zero _), fun h => absurd h (Nat.not_lt_zero _)⟩
  | N + 1 => by
    obtain ⟨t, h1, h2, h3⟩ := bh_fd p N
    by_cases ht : t < N
    · exact ⟨t, by omega, h2, fun _ => h3 ht⟩
    · have : t = N := by omega
      subst this
      by_cases hp : p t
      · refine ⟨t + 1, Nat.le_refl _, fun i hi => ?_, fun h => absurd h (Nat.lt_irrefl _)⟩
        by_cases hit : i = t
        · subst hit; exact hp
        · exact h2 i (by omega)
      · exact ⟨t, by omega, h2, fun _ => hp⟩
theorem q_judge (x1 : Int32) : bh_Qy (f_X9_judge x1) (f_X10_judge x1) := by
  intro G hR
  have hh := bh_nwc hR
  have fT := bh_thr G
  rcases hR.2.2.2.2.1 with h0 | ⟨ln, C, R, E, K, m, pu, bb, z, sv, cl, pr, hN, hC, hM⟩
  · have h02 := bh_sc0 hh h0 fT
    exact bh_qy hR (v := (-2 : Int32)) (by unfold f_X9_judge; rw [c_noHall rfl h0, ob_s, bh_i0]) (by unfold f_X10_judge; rw [lt_r, m_whyN' _ h02, ob_s, if_neg (by decide)]) (bh_Fr _ _) (bh_thr G)
  have hM2 := bh_scM hN hM fT
  have hV := hN.2.1
  have h45 := bh_N45 hV
  have hbC := hV.1
  have hbR := hV.2.1
  have hbE := hV.2.2.1
  have hbK := hV.2.2.2.1
  have hbm := hN.2.2.1
  have hp := hN.2.2.2.2.2.2.2
  rcases bh_cls (x := x1) (p := fun j => j < 4) with ⟨s, hs, rfl⟩ | ns
  rotate_left
  · exact bh_qy hR (v := (-2 : Int32)) (by unfold f_X9_judge; rw [c_isHall rfl hN hC, ob_s, bh_i1, isSlot_x (by exact ns), ob_s, bh_i0]) (by unfold f_X10_judge; rw [lt_r, m_why0 ns, ob_s, if_neg (by decide)]) (bh_Fr _ _) (bh_thr G)
  rcases hR.1 s hs with ⟨u0, u1⟩ | ⟨u1, w, n, hw, hn, e187, e69, e68, e188, ev⟩
  · exact bh_qy hR (v := (-6 : Int32)) (by unfold f_X9_judge; rw [c_isHall rfl hN hC, ob_s, bh_i1, isSlot_n hs, ob_s, bh_i1, hasRow_0 hs u0, ob_s, bh_i0]) (by unfold f_X10_judge; rw [lt_r, m_why6 hN hM2 hs u1, ob_s, if_neg (by decide)]) (bh_Fr _ _) (bh_thr G)
  obtain ⟨t, t1, t2, t3⟩ := bh_fd (fun i => gJ G (64 + s) i = (nI (cl i)).toInt64) (min n (C * R * E))
  refine bh_qy hR (v := nI t) (G1 := G) (G2 := sI G 186 0 0) ?_ ?_ (bh_Fr _ _) fT
  · unfold f_X9_judge
    rw [c_isHall rfl hN hC, ob_s, bh_i1, isSlot_n hs, ob_s, bh_i1, hasRow_1 hs u1, ob_s, bh_i1, lengthOf_1 hs u1 e68, ob_s, hC.2.1.2.1.1, hV.2.2.2.2.2.2.1, jmin_n (by omega) (by omega), lt_r]
    refine wl1_up (P := fun o => o = some (nI t, G)) (I := fun i G' => G' = G ∧ i ≤ t) (N := min n (C * R * E)) (by omega) ?_ (n := FU) (i := 0) (Nat.zero_le _) ⟨rfl, Nat.zero_le _⟩ (by unfold FU; omega)
    rintro kc i G' hi' ⟨rfl, hit⟩ hk
    unfold lp_X9_judge_59
    by_cases hi : i < min n (C * R * E)
    · rw [if_neg (nI_ge hi (by omega)), valueAt_1 hs u1 e68 hn (by omega), ob_s, inb_n (by omega) (by omega), gd_t, nI_clamp (by omega), (hC.2.2.2.2 i (by omega)).1]
      by_cases he : gJ G' (64 + s) i = (nI (cl i)).toInt64
      · rw [if_pos ((lg_eq0 _ _).mpr he), nI_1]
        refine hk hi _ ⟨rfl, Nat.lt_of_le_of_ne hit fun h => ?_⟩
        subst h; exact t3 hi he
      · rw [if_neg (fun h => he ((lg_eq0 _ _).mp h))]
        have : i = t := Nat.le_antisymm hit (Nat.le_of_not_lt fun h => he (t2 i h))
        rw [this]
    · have : i = t := by omega
      rw [if_pos (nI_le (by omega) (by omega))]
      have : min n (C * R * E) = t := by omega
      rw [this]
  · unfold f_X10_judge
    rw [lt_r, m_why1 hN hM2 hs hw (by rw [gI_sIa (by omega)]; exact e187), ob_s, if_pos rfl]
    refine wl1_up (P := fun o => o = some (nI t, sI G 186 0 0)) (I := fun i G' => G' = sI G 186 0 0 ∧ i ≤ t) (N := min n (C * R * E)) (by omega) ?_ (n := FU) (i := 0) (Nat.zero_le _) ⟨rfl, Nat.zero_le _⟩ (by unfold FU; omega)
    rintro kc i G' hi' ⟨rfl, hit⟩ hk
    unfold lp_X10_judge_19
    rw [inb_n hs (by omega), gd_t, nI_clamp (by omega), gI_sIa (by omega), e188]
    by_cases hi : i < n
    · rw [if_neg (nI_ge hi (by omega)), m_all hN hM2, ob_s]
      by_cases hiN : i < C * R * E
      · have e197 : gI (sI G 186 0 0) 197 i = nI (cl i) := by
          have := hM2.2.2.2.2 i hiN
          rwa [Nat.mul_zero, Nat.zero_add] at this
        rw [if_neg (nI_ge hiN (by omega)), show (60 : Int32) = nI 60 from rfl, pk_mul, nI_add, inb_n (by omega) (by omega), gd_t, inb_n (by omega) (by omega), gd_t, nI_clamp (by omega), nI_clamp (by omega), gJ_sI, ← ev i hi, e197]
        by_cases he : gJ G (64 + s) i = (nI (cl i)).toInt64
        · rw [if_pos ((lg_eq0 _ _).mpr he), nI_1]
          refine hk (by omega) _ ⟨rfl, Nat.lt_of_le_of_ne hit fun h => ?_⟩
          subst h; exact t3 (by omega) he
        · rw [if_neg (fun h => he ((lg_eq0 _ _).mp h))]
          have : i = t := Nat.le_antisymm hit (Nat.le_of_not_lt fun h => he (t2 i h))
          rw [this]
      · rw [if_pos (nI_le (by omega) (by omega))]
        have : i = t := by omega
        rw [this]
    · rw [if_pos (nI_le (by omega) (by omega))]
      have : i = t := by omega
      rw [this]
/-- what is counted, alike on both sides -/
theorem bh_cnt {G : GM} {h : Nat} (hH : bh_HR G h 0) : (gI G (h + 1) 0 = gI G 193 0 ∧ gI G (h + 1) 1 = gI G 193 1 ∧ gI G (h + 1) 2 = gI G 193 2 ∧ gI G (h + 1) 3 = gI G 193 3) ∧ gI G h 5 = gI G 193 4 ∧ gI G h 1 = gI G 192 0 ∧ gI G h 3 = gI G 193 5 ∧ gI G h 4 = gI G 193 6 := by
  rcases hH with h0 | ⟨ln, C, R, E, K, m, pu, bb, z, sv, cl, pr, hN, hC, hM⟩
  · have e : ∀ k, k < 7 → gI G 193 k = 0 := fun k hk => by
      have := h0.2.2.2 k hk
      rwa [Nat.mul_zero, Nat.zero_add] at this
    obtain ⟨⟨a1, a2, a3, a4⟩, b, c, -⟩ := h0
    exact ⟨⟨by rw [b 0 (by omega), e 0 (by omega)], by rw [b 1 (by omega), e 1 (by omega)], by rw [b 2 (by omega), e 2 (by omega)], by rw [b 3 (by omega), e 3 (by omega)]⟩, by rw [a4, e 4 (by omega)], by rw [a1, c], by rw [a2, e 5 (by omega)], by rw [a3, e 6 (by omega)]⟩
  · obtain ⟨⟨a1, a2, a3, a4⟩, ⟨⟨b0, b1, b2, b3⟩, -⟩, -⟩ := hC
    obtain ⟨⟨c1, c2, c3, c4⟩, ⟨d0, d1, d2, d3, -⟩, -⟩ := hM
    exact ⟨⟨b0.trans d0.symm, b1.trans d1.symm, b2.trans d2.symm, b3.trans d3.symm⟩, a4.trans c2.symm, a1.trans c1.symm, a2.trans c3.symm, a3.trans c4.symm⟩
theorem q_count (x1 : Int32) : bh_Qy (f_X9_count x1) (f_X10_count x1) := by
  intro G hR
  have fT := bh_thr G
  obtain ⟨⟨b0, b1, b2, b3⟩, a4, a1, a2, a3⟩ := bh_cnt hR.2.2.2.2.1
  obtain ⟨nt, -, t1, t2, -⟩ := hR.2.1
  have st : ∀ a k, a ≠ 186 → gI (sI G 186 0 0) a k = gI G a k := fun a k h => gI_sIa h _ _ _ _
  have st6 : gI (sI G 186 0 0) 186 6 = gI G 186 6 := gI_sIk (by omega) _ _ _ _
  have i0 : inb (0 : Int32) 48 = true := by decide
  have i1 : inb (1 : Int32) 48 = true := by decide
  have i2 : inb (2 : Int32) 48 = true := by decide
  have i3 : inb (3 : Int32) 48 = true := by decide
  have i4 : inb (4 : Int32) 48 = true := by decide
  have i5 : inb (5 : Int32) 48 = true := by decide
  have i6 : inb (6 : Int32) 48 = true := by decide
  have j0 : inb (0 : Int32) 6 = true := by decide
  have c0 : (0 : Int32).toNatClampNeg = 0 := by decide
  have c1 : (1 : Int32).toNatClampNeg = 1 := by decide
  have c2 : (2 : Int32).toNatClampNeg = 2 := by decide
  have c3 : (3 : Int32).toNatClampNeg = 3 := by decide
  have c4 : (4 : Int32).toNatClampNeg = 4 := by decide
  have c5 : (5 : Int32).toNatClampNeg = 5 := by decide
  have c6 : (6 : Int32).toNatClampNeg = 6 := by decide
  by_cases d0 : x1 = (0 : Int32)
  · exact bh_qy hR (v := gI G (nw G + 1) 0) (by unfold f_X9_count; rw [if_pos d0]) (by unfold f_X10_count; rw [lt_r, if_pos d0, i0, gd_t, c0, st 193 _ (by omega), b0]) (bh_Fr _ _) fT
  by_cases d1 : x1 = (1 : Int32)
  · exact bh_qy hR (v := gI G (nw G + 1) 1) (by unfold f_X9_count; rw [if_neg d0, if_pos d1]) (by unfold f_X10_count; rw [lt_r, if_neg d0, if_pos d1, i1, gd_t, c1, st 193 _ (by omega), b1]) (bh_Fr _ _) fT
  by_cases d2 : x1 = (2 : Int32)
  · exact bh_qy hR (v := gI G (nw G + 1) 2) (by unfold f_X9_count; rw [if_neg d0, if_neg d1, if_pos d2]) (by unfold f_X10_count; rw [lt_r, if_neg d0, if_neg d1, if_pos d2, i2, gd_t, c2, st 193 _ (by omega), b2]) (bh_Fr _ _) fT
  by_cases d3 : x1 = (3 : Int32)
  · exact bh_qy hR (v := gI G (nw G + 1) 3) (by unfold f_X9_count; rw [if_neg d0, if_neg d1, if_neg d2, if_pos d3]) (by unfold f_X10_count; rw [lt_r, if_neg d0, if_neg d1, if_neg d2, if_pos d3, i3, gd_t, c3, st 193 _ (by omega), b3]) (bh_Fr _ _) fT
  by_cases d4 : x1 = (4 : Int32)
  · exact bh_qy hR (v := gI G (nw G) 5) (by unfold f_X9_count; rw [if_neg d0, if_neg d1, if_neg d2, if_neg d3, if_pos d4]) (by unfold f_X10_count; rw [lt_r, if_neg d0, if_neg d1, if_neg d2, if_neg d3, if_pos d4, i4, gd_t, c4, st 193 _ (by omega), a4]) (bh_Fr _ _) fT
  by_cases d5 : x1 = (5 : Int32)
  · exact bh_qy hR (v := gI G (nw G) 1) (by unfold f_X9_count; rw [if_neg d0, if_neg d1, if_neg d2, if_neg d3, if_neg d4, if_pos d5]) (by unfold f_X10_count; rw [lt_r, if_neg d0, if_neg d1, if_neg d2, if_neg d3, if_neg d4, if_pos d5, j0, gd_t, c0, st 192 _ (by omega), a1]) (bh_Fr _ _) fT
  by_cases d6 : x1 = (6 : Int32)
  · exact bh_qy hR (v := gI G 53 1) (by unfold f_X9_count; rw [if_neg d0, if_neg d1, if_neg d2, if_neg d3, if_neg d4, if_neg d5, if_pos d6]) (by unfold f_X10_count; rw [lt_r, if_neg d0, if_neg d1, if_neg d2, if_neg d3, if_neg d4, if_neg d5, if_pos d6, st6, t2, t1]) (bh_Fr _ _) fT
  by_cases d7 : x1 = (7 : Int32)
  · exact bh_qy hR (v := gI G (nw G) 3) (by unfold f_X9_count; rw [if_neg d0, if_neg d1, if_neg d2, if_neg d3, if_neg d4, if_neg d5, if_neg d6, if_pos d7]) (by unfold f_X10_count; rw [lt_r, if_neg d0, if_neg d1, if_neg d2, if_neg d3, if_neg d4, if_neg d5, if_neg d6, if_pos d7, i5, gd_t, c5, st 193 _ (by omega), a2]) (bh_Fr _ _) fT
  by_cases d8 : x1 = (8 : Int32)
  · exact bh_qy hR (v := gI G (nw G) 4) (by unfold f_X9_count; rw [if_neg d0, if_neg d1, if_neg d2, if_neg d3, if_neg d4, if_neg d5, if_neg d6, if_neg d7, if_pos d8]) (by unfold f_X10_count; rw [lt_r, if_neg d0, if_neg d1, if_neg d2, if_neg d3, if_neg d4, if_neg d5, if_neg d6, if_neg d7, if_pos d8, i6, gd_t, c6, st 193 _ (by omega), a3]) (bh_Fr _ _) fT
  by_cases d9 : x1 = (9 : Int32)
  · refine bh_qy hR (v := nI (bh_sm (fun s => if gI G 70 s = 0 then 0 else 1) 4)) (G1 := G) (G2 := sI G 186 0 0) ?_ ?_ (bh_Fr _ _) fT
    · unfold f_X9_count f_X8_inUse
      rw [if_neg d0, if_neg d1, if_neg d2, if_neg d3, if_neg d4, if_neg d5, if_neg d6, if_neg d7, if_neg d8, if_pos d9]
      rw [show wl2 FU lp_X8_inUse_4 (0 : Int32) (0 : Int32) G = some (nI (bh_sm (fun s => if gI G 70 s = 0 then 0 else 1) 4), G) from ?_, ob_s]
      refine wl2_up (P := fun o => o = some (nI (bh_sm (fun s => if gI G 70 s = 0 then 0 else 1) 4), G)) (I := fun i y G' => G' = G ∧ y = nI (bh_sm (fun s => if gI G 70 s = 0 then 0 else 1) i)) (N := 4) (by omega) ?_ (n := FU) (i := 0) (Nat.zero_le _) ⟨rfl, rfl⟩ (by unfold FU; omega)
      rintro kc i _ G' hi' ⟨rfl, rfl⟩ hk
      unfold lp_X8_inUse_4
      rw [show (4 : Int32) = nI 4 from rfl]
      by_cases hi : i < 4
      · rw [if_neg (nI_ge hi (by omega)), inb_n hi (by omega), gd_t, nI_clamp (by omega)]
        by_cases hu : gI G' 70 i = 0
        · rw [if_pos hu, nI_1]
          exact hk hi _ _ ⟨rfl, by show _ = nI (_ + if gI G' 70 i = 0 then 0 else 1); rw [if_pos hu]; rfl⟩
        · rw [if_neg hu, nI_1, nI_1]
          exact hk hi _ _ ⟨rfl, by show _ = nI (_ + if gI G' 70 i = 0 then 0 else 1); rw [if_neg hu]⟩
      · have hi2 : i = 4 := by omega
        subst hi2
        rw [if_pos (nI_le (by omega) (by omega))]
    · unfold f_X10_count
      rw [lt_r, if_neg d0, if_neg d1, if_neg d2, if_neg d3, if_neg d4, if_neg d5, if_neg d6, if_neg d7, if_neg d8, if_pos d9]
      refine wl2_up (P := fun o => o = some (nI (bh_sm (fun s => if gI G 70 s = 0 then 0 else 1) 4), sI G 186 0 0)) (I := fun i y G' => G' = sI G 186 0 0 ∧ y = nI (bh_sm (fun s => if gI G 70 s = 0 then 0 else 1) i)) (N := 4) (by omega) ?_ (n := FU) (i := 0) (Nat.zero_le _) ⟨rfl, rfl⟩ (by unfold FU; omega)
      rintro kc i _ G' hi' ⟨rfl, rfl⟩ hk
      unfold lp_X10_count_128
      rw [show (4 : Int32) = nI 4 from rfl]
      by_cases hi : i < 4
      · rw [if_neg (nI_ge hi (by omega)), inb_n hi (by omega), gd_t, nI_clamp (by omega), st 187 _ (by omega)]
        rcases hR.1 i hi with ⟨u0, u1⟩ | ⟨u1, w, n, hw, hn, e187, -⟩
        · rw [if_pos u1]
          unfold k_X10_count_149
          rw [Int32.add_zero, lt_r, nI_1]
          exact hk hi _ _ ⟨rfl, by show _ = nI (_ + if gI G 70 i = 0 then 0 else 1); rw [if_pos u0, Nat.add_zero]⟩
        · rw [e187, if_neg (nIm1 (by omega))]
          unfold k_X10_count_149
          rw [show (1 : Int32) = nI 1 from rfl, nI_add, lt_r, nI_add]
          exact hk hi _ _ ⟨rfl, by show _ = nI (_ + if gI G 70 i = 0 then 0 else 1); rw [if_neg (by rw [u1]; decide)]⟩
      · have hi2 : i = 4 := by omega
        subst hi2
        rw [if_pos (nI_le (by omega) (by omega))]
  · exact bh_qy hR (v := (-1 : Int32)) (by unfold f_X9_count; rw [if_neg d0, if_neg d1, if_neg d2, if_neg d3, if_neg d4, if_neg d5, if_neg d6, if_neg d7, if_neg d8, if_neg d9]) (by unfold f_X10_count; rw [lt_r, if_neg d0, if_neg d1, if_neg d2, if_neg d3, if_neg d4, if_neg d5, if_neg d6, if_neg d7, if_neg d8, if_neg d9]) (bh_Fr _ _) fT
/-- what a call may write that changes the hall that is there -/
def bh_WN (h a q : Nat) : Prop := bh_SCR a q ∨ bh_PH h a ∨ bh_PM 0 a q
theorem bh_R_N {G G' : GM} (h : bh_R G) (hF : bh_F (bh_WN (nw G)) G G') (hH : bh_HR G' (nw G) 0) : bh_R G' := by
  have hh := bh_nwc h
  obtain ⟨h1, h2, h3, h4, h5, h6⟩ := h
  refine ⟨bh_RS_F h1 hF (fun a q h => by unfold bh_WN bh_SCR bh_PH bh_PM; omega), bh_RT_F h2 hF (fun a q h => by unfold bh_WN bh_SCR bh_PH bh_PM; omega), bh_RF_F h3 hF (fun a q h => by unfold bh_WN bh_SCR bh_PH bh_PM; omega), ?_, ?_, fun k hk => ?_⟩
  · rw [hF.2.2.1, hF.2.2.2]; exact h4
  · rw [hF.2.2.1]; exact hH
  · rw [hF.1 46 k (by unfold bh_WN bh_SCR bh_PH bh_PM; omega), hF.1 198 k (by unfold bh_WN bh_SCR bh_PH bh_PM; omega)]
    rcases h6 k hk with h | ⟨g1, g2, g3⟩
    · exact Or.inl h
    · exact Or.inr ⟨g1, g2, bh_HR_F g3 hF (fun a q h => by unfold bh_PH at h; unfold bh_WN bh_SCR bh_PH bh_PM; omega) (fun a q h => by unfold bh_PM at h; unfold bh_WN bh_SCR bh_PH bh_PM; omega)⟩
theorem bh_SCR_N {h : Nat} {G G' : GM} (hF : bh_F bh_SCR G G') : bh_F (bh_WN h) G G' := bh_Fm hF (fun _ _ h => Or.inl h)
/-- fewer strips are sold -/
theorem bh_HC_5 {G : GM} {h ln C R E K m m' pu bb : Nat} {z sv cl pr : Nat → Nat} (hm : m' ≤ m) (hm8 : m ≤ 8) (hC : bh_HC G h ln C R E K m pu bb z sv cl pr) : bh_HC (sI G h 5 (nI m')) h ln C R E K m' pu bb z sv cl pr := by
  have F : bh_F (fun a q => a = h ∧ q = 5) G (sI G h 5 (nI m')) := bh_FI (bh_Fr _ _) ⟨rfl, rfl⟩
  obtain ⟨⟨a1, a2, a3, a4⟩, b, c, d, e⟩ := hC
  refine ⟨⟨?_, ?_, ?_, gI_sIs _ _ _ _⟩, bh_FO_F b F (fun a q h1 h2 => by omega), fun i hi => ?_, fun i hi => ⟨?_, bh_SC_F (d i (by omega)).2 F (fun q h => by omega)⟩, fun i hi => ⟨?_, ?_⟩⟩
  · rw [gI_sIk (by omega)]; exact a1
  · rw [gI_sIk (by omega)]; exact a2
  · rw [gI_sIk (by omega)]; exact a3
  · rw [gI_sIa (by omega)]; exact c i hi
  · rw [gI_sIa (by omega)]; exact (d i (by omega)).1
  · rw [gI_sIa (by omega)]; exact (e i hi).1
  · rw [gI_sIa (by omega)]; exact (e i hi).2
theorem bh_HM_4 {G : GM} {ln C R E K m m' pu bb : Nat} {z sv cl pr : Nat → Nat} (hm : m' ≤ m) (hK : K ≤ 5) (hM : bh_HM G 0 ln C R E K m pu bb z sv cl pr) : bh_HM (sI G 193 4 (nI m')) 0 ln C R E K m' pu bb z sv cl pr := by
  have F : bh_F (fun a q => a = 193 ∧ q = 4) G (sI G 193 4 (nI m')) := bh_FI (bh_Fr _ _) ⟨rfl, rfl⟩
  obtain ⟨⟨a1, a2, a3, a4⟩, b, c, d, e⟩ := hM
  refine ⟨⟨?_, gI_sIs _ _ _ _, ?_, ?_⟩, bh_MO_F b F (fun q h1 h2 => by omega) (fun q h1 h2 => by omega) hK, fun i hi => ?_, fun i hi => ?_, fun i hi => ?_⟩
  · rw [gI_sIa (by omega)]; exact a1
  · rw [gI_sIk (by omega)]; exact a3
  · rw [gI_sIk (by omega)]; exact a4
  · rw [gI_sIa (by omega)]; exact c i hi
  · rw [gI_sIa (by omega)]; exact d i (by omega)
  · rw [gI_sIa (by omega)]; exact e i hi
theorem bh_HN_m {ln C R E K m m' pu bb : Nat} {z sv cl pr : Nat → Nat} (hm : m' ≤ m) (h : bh_HN ln C R E K m pu bb z sv cl pr) : bh_HN ln C R E K m' pu bb z sv cl pr :=
  ⟨h.1, h.2.1, by have := h.2.2.1; omega, h.2.2.2.1, h.2.2.2.2.1, h.2.2.2.2.2.1, fun i hi => h.2.2.2.2.2.2.1 i (by omega), h.2.2.2.2.2.2.2⟩
theorem q_unsell : bh_Qy (f_X9_unsell ) (f_X10_unsell ) := by
  intro G hR
  have hh := bh_nwc hR
  have fT := bh_thr G
  rcases hR.2.2.2.2.1 with h0 | ⟨ln, C, R, E, K, m, pu, bb, z, sv, cl, pr, hN, hC, hM⟩
  · have h02 := bh_sc0 hh h0 fT
    exact bh_qy hR (v := (-2 : Int32)) (by unfold f_X9_unsell; rw [c_noHall rfl h0, ob_s, bh_i0]) (by unfold f_X10_unsell; rw [lt_r, m_noHall h02, ob_s, bh_i0]) (bh_Fr _ _) (bh_thr G)
  have hM2 := bh_scM hN hM fT
  have hV := hN.2.1
  have h45 := bh_N45 hV
  have hbC := hV.1
  have hbR := hV.2.1
  have hbE := hV.2.2.1
  have hbK := hV.2.2.2.1
  have hbm := hN.2.2.1
  have hp := hN.2.2.2.2.2.2.2
  have e4 : gI (sI G 186 0 0) 193 4 = nI m := hM2.1.2.1
  have i4 : inb (4 : Int32) 48 = true := by decide
  have c4 : (4 : Int32).toNatClampNeg = 4 := by decide
  by_cases hm0 : m = 0
  · subst hm0
    exact bh_qy hR (v := (0 : Int32)) (by unfold f_X9_unsell; rw [c_isHall rfl hN hC, ob_s, bh_i1, hC.1.2.2.2, if_neg (by decide)]) (by unfold f_X10_unsell; rw [lt_r, m_isHall hN hM2, ob_s, bh_i1, i4, gd_t, c4, e4, if_pos (by decide)]) (bh_Fr _ _) fT
  obtain ⟨m', rfl⟩ : ∃ m', m = m' + 1 := ⟨m - 1, by omega⟩
  have hC1 := bh_HC_5 (m' := m') (by omega) hbm hC
  have F1 : bh_F (bh_WN (nw G)) G (sI G (nw G) 5 (nI m')) := bh_FI (bh_Fr _ _) (Or.inr (Or.inl ⟨Nat.le_refl _, by omega⟩))
  have hM3 : bh_HM (sI (sI G (nw G) 5 (nI m')) 186 0 0) 0 ln C R E K (m' + 1) pu bb z sv cl pr := bh_HM_F hbm h45 hbK.2 hM (bh_FI (bh_FI (W := fun a q => a = nw G ∨ a = 186) (bh_Fr _ _) (Or.inl rfl)) (Or.inr rfl)) (fun a q h => by unfold bh_PM at h; omega)
  have e4' : gI (sI (sI G (nw G) 5 (nI m')) 186 0 0) 193 4 = nI (m' + 1) := hM3.1.2.1
  have hM4 := bh_HM_4 (m' := m') (by omega) hbK.2 hM3
  have F2 : bh_F (fun a q => a = 186 ∨ (a = 193 ∧ q = 4)) (sI G (nw G) 5 (nI m')) (sI (sI (sI G (nw G) 5 (nI m')) 186 0 0) 193 4 (nI m')) := bh_FI (bh_FI (bh_Fr _ _) (Or.inl rfl)) (Or.inr ⟨rfl, rfl⟩)
  have hC4 := bh_HC_F (by omega) hC1 F2 (fun a q h => by unfold bh_PH at h; omega)
  have F3 : bh_F (bh_WN (nw G)) G (sI (sI (sI G (nw G) 5 (nI m')) 186 0 0) 193 4 (nI m')) := bh_FI (bh_FI F1 (Or.inl (scr_d (by omega)))) (Or.inr (Or.inr (by unfold bh_PM; omega)))
  refine ⟨(1 : Int32), sI G (nw G) 5 (nI m'), sI (sI (sI G (nw G) 5 (nI m')) 186 0 0) 193 4 (nI m'), ?_, ?_, bh_R_N hR F3 (Or.inr ⟨ln, C, R, E, K, m', pu, bb, z, sv, cl, pr, bh_HN_m (by omega) hN, hC4, hM4⟩)⟩
  · unfold f_X9_unsell
    rw [c_isHall rfl hN hC, ob_s, bh_i1, hC.1.2.2.2, if_pos (show (1 : Int32) ≤ nI (m' + 1) from nI_le (a := 1) (by omega) (by omega)), bh_m1, lt_r]
  · unfold f_X10_unsell
    rw [lt_r, m_isHall hN hM3, ob_s, bh_i1, i4, gd_t, c4, e4', if_neg (nI_ne0 (by omega) (by omega)), gd_t, gd_t, bh_m1, lt_r]
